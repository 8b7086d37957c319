section
-- ===== PART A: goes FIRST, ahead of the names: the tables' words, and 'selects' of the private methods out of them =====
/-- a private method of a class that the tables say can be made, by its rows of tables_1 -/
def lw_okq (q : MethodName × Nat) : Prop := (q.1.cls ≠ "java/lang/invoke/MethodHandle" ∧ q.1.cls ≠ "java/lang/invoke/VarHandle") ∧ Cond.instantiable q.1.cls q.2 ∈ tables_1 ∧ Cond.privateMethod q.1 ∈ tables_1 ∧ Cond.instanceMethod q.1 ∈ tables_1
theorem lw_p0 : lw_okq (⟨"SetterBench", "newStone", "(I)J"⟩, 11) := ⟨⟨by decide +kernel, by decide +kernel⟩, List.mem_of_getElem? (i := 8) (by decide +kernel), List.mem_of_getElem? (i := 122) (by decide +kernel), List.mem_of_getElem? (i := 123) (by decide +kernel)⟩
theorem lw_p1 : lw_okq (⟨"SetterBench", "sweepThings", "(LSetterBench$Thing;ILSetterBench$Thing;IIZ)I"⟩, 11) := ⟨⟨by decide +kernel, by decide +kernel⟩, List.mem_of_getElem? (i := 8) (by decide +kernel), List.mem_of_getElem? (i := 127) (by decide +kernel), List.mem_of_getElem? (i := 128) (by decide +kernel)⟩
theorem lw_p2 : lw_okq (⟨"SetterBench", "sweepOrRefuse", "(LSetterBench$Thing;ILSetterBench$Thing;IIZ)I"⟩, 11) := ⟨⟨by decide +kernel, by decide +kernel⟩, List.mem_of_getElem? (i := 8) (by decide +kernel), List.mem_of_getElem? (i := 131) (by decide +kernel), List.mem_of_getElem? (i := 132) (by decide +kernel)⟩
theorem lw_p3 : lw_okq (⟨"SetterBench", "keep", "(LSetterBench$Tray;)V"⟩, 11) := ⟨⟨by decide +kernel, by decide +kernel⟩, List.mem_of_getElem? (i := 8) (by decide +kernel), List.mem_of_getElem? (i := 141) (by decide +kernel), List.mem_of_getElem? (i := 142) (by decide +kernel)⟩
theorem lw_p4 : lw_okq (⟨"SetterBench$Tray", "takesStone", "(I)Z"⟩, 2) := ⟨⟨by decide +kernel, by decide +kernel⟩, List.mem_of_getElem? (i := 18) (by decide +kernel), List.mem_of_getElem? (i := 161) (by decide +kernel), List.mem_of_getElem? (i := 162) (by decide +kernel)⟩
theorem lw_p5 : lw_okq (⟨"SetterBench", "tally", "(I)V"⟩, 11) := ⟨⟨by decide +kernel, by decide +kernel⟩, List.mem_of_getElem? (i := 8) (by decide +kernel), List.mem_of_getElem? (i := 172) (by decide +kernel), List.mem_of_getElem? (i := 173) (by decide +kernel)⟩
theorem lw_p6 : lw_okq (⟨"SetterBench", "trayOn", "(I)LSetterBench$Tray;"⟩, 11) := ⟨⟨by decide +kernel, by decide +kernel⟩, List.mem_of_getElem? (i := 8) (by decide +kernel), List.mem_of_getElem? (i := 200) (by decide +kernel), List.mem_of_getElem? (i := 201) (by decide +kernel)⟩
theorem lw_p7 : lw_okq (⟨"SetterBench", "leastPlaceOf", "(LSetterBench$Thing;)I"⟩, 11) := ⟨⟨by decide +kernel, by decide +kernel⟩, List.mem_of_getElem? (i := 8) (by decide +kernel), List.mem_of_getElem? (i := 217) (by decide +kernel), List.mem_of_getElem? (i := 218) (by decide +kernel)⟩
theorem lw_p8 : lw_okq (⟨"SetterBenchModel", "isUsed", "(I)Z"⟩, 9) := ⟨⟨by decide +kernel, by decide +kernel⟩, List.mem_of_getElem? (i := 238) (by decide +kernel), List.mem_of_getElem? (i := 283) (by decide +kernel), List.mem_of_getElem? (i := 284) (by decide +kernel)⟩
theorem lw_p9 : lw_okq (⟨"SetterBenchModel", "sortOn", "(I)I"⟩, 9) := ⟨⟨by decide +kernel, by decide +kernel⟩, List.mem_of_getElem? (i := 238) (by decide +kernel), List.mem_of_getElem? (i := 295) (by decide +kernel), List.mem_of_getElem? (i := 296) (by decide +kernel)⟩
theorem lw_p10 : lw_okq (⟨"SetterBenchModel", "manyOn", "(I)I"⟩, 9) := ⟨⟨by decide +kernel, by decide +kernel⟩, List.mem_of_getElem? (i := 238) (by decide +kernel), List.mem_of_getElem? (i := 302) (by decide +kernel), List.mem_of_getElem? (i := 303) (by decide +kernel)⟩
theorem lw_p11 : lw_okq (⟨"SetterBenchModel", "carry", "(III)I"⟩, 9) := ⟨⟨by decide +kernel, by decide +kernel⟩, List.mem_of_getElem? (i := 238) (by decide +kernel), List.mem_of_getElem? (i := 318) (by decide +kernel), List.mem_of_getElem? (i := 319) (by decide +kernel)⟩
theorem lw_p12 : lw_okq (⟨"SetterBenchModel", "kindAt", "(II)I"⟩, 9) := ⟨⟨by decide +kernel, by decide +kernel⟩, List.mem_of_getElem? (i := 238) (by decide +kernel), List.mem_of_getElem? (i := 350) (by decide +kernel), List.mem_of_getElem? (i := 351) (by decide +kernel)⟩
def lw_privs_1 : List (MethodName × Nat) := [(⟨"SetterBench", "newStone", "(I)J"⟩, 11), (⟨"SetterBench", "sweepThings", "(LSetterBench$Thing;ILSetterBench$Thing;IIZ)I"⟩, 11), (⟨"SetterBench", "sweepOrRefuse", "(LSetterBench$Thing;ILSetterBench$Thing;IIZ)I"⟩, 11), (⟨"SetterBench", "keep", "(LSetterBench$Tray;)V"⟩, 11), (⟨"SetterBench$Tray", "takesStone", "(I)Z"⟩, 2), (⟨"SetterBench", "tally", "(I)V"⟩, 11), (⟨"SetterBench", "trayOn", "(I)LSetterBench$Tray;"⟩, 11), (⟨"SetterBench", "leastPlaceOf", "(LSetterBench$Thing;)I"⟩, 11), (⟨"SetterBenchModel", "isUsed", "(I)Z"⟩, 9), (⟨"SetterBenchModel", "sortOn", "(I)I"⟩, 9), (⟨"SetterBenchModel", "manyOn", "(I)I"⟩, 9), (⟨"SetterBenchModel", "carry", "(III)I"⟩, 9), (⟨"SetterBenchModel", "kindAt", "(II)I"⟩, 9)]
theorem lw_r1 : ∀ q ∈ lw_privs_1, lw_okq q := List.forall_mem_cons.mpr ⟨lw_p0, List.forall_mem_cons.mpr ⟨lw_p1, List.forall_mem_cons.mpr ⟨lw_p2, List.forall_mem_cons.mpr ⟨lw_p3, List.forall_mem_cons.mpr ⟨lw_p4, List.forall_mem_cons.mpr ⟨lw_p5, List.forall_mem_cons.mpr ⟨lw_p6, List.forall_mem_cons.mpr ⟨lw_p7, List.forall_mem_cons.mpr ⟨lw_p8, List.forall_mem_cons.mpr ⟨lw_p9, List.forall_mem_cons.mpr ⟨lw_p10, List.forall_mem_cons.mpr ⟨lw_p11, List.forall_mem_cons.mpr ⟨lw_p12, fun _ h => absurd h List.not_mem_nil⟩⟩⟩⟩⟩⟩⟩⟩⟩⟩⟩⟩⟩
def lw_privs : List (MethodName × Nat) := lw_privs_1
def lw_tbl : List Cond := k2_sels lw_privs ++ tables_1
theorem lw_privs_ok : ∀ q ∈ lw_privs, lw_okq q := lw_r1
-- ===== end of PART A; then your names; then what follows =====
/-! ===== BEGIN words of one list among another's, by their places ===== -/
theorem goodIn_r {big : List Cond} (ws : List Cond) (ps : List Nat) (hp : ws = ps.filterMap (fun i => big[i]?)) (h : ws.all goodWord = true) : GoodIn big ws := by
  intro w hw
  have h1 := List.all_eq_true.mp h w hw
  rw [hp] at hw
  obtain ⟨i, -, hi⟩ := List.mem_filterMap.mp hw
  have hm : w ∈ big := by first | exact List.mem_of_getElem? hi | exact List.getElem?_mem hi
  exact ⟨hm, good_of_word h1⟩
theorem goodIn_app {big a b : List Cond} (ha : GoodIn big a) (hb : GoodIn big b) : GoodIn big (a ++ b) := fun w h => (List.mem_append.mp h).elim (ha w) (hb w)
theorem goodIn_ca {big a b : List Cond} {c : Cond} (ha : GoodIn big (c :: a)) (hb : GoodIn big b) : GoodIn big (c :: (a ++ b)) := fun w h => (List.mem_cons.mp h).elim (fun e => ha w (List.mem_cons.mpr (Or.inl e))) (fun h => (List.mem_append.mp h).elim (fun h => ha w (List.mem_cons.mpr (Or.inr h))) (hb w))
theorem goodIn_sub {big ws : List Cond} (hm : ∀ w ∈ ws, w ∈ big) (h : ws.all goodWord = true) : GoodIn big ws := fun w hw => ⟨hm w hw, good_of_word (List.all_eq_true.mp h w hw)⟩
/-! ===== END ===== -/

/-! ===== BEGIN printed: names, fields, word lists, decode rows ===== -/
def RX0 : String := "SetterBench$Lamp"
def TX0 : u_T := fun k => match k with
  | 0 => ("SetterBench$Thing", "sort", "I", true)
  | _ => ("SetterBench$Lamp", "timesLit", "I", false)
def tyX0 : Nat → FieldType := fun k => match k with
  | 0 => .int
  | _ => .int
abbrev wsX00 : List Cond := u_ws RX0 TX0 2
theorem nmX0 : ∀ a, a < 2 → ∀ b, b < 2 → a ≠ b → (TX0 a).2.1 ≠ (TX0 b).2.1 := by decide +kernel
theorem tyX0_ok : ∀ k, k < 2 → parseFieldDescriptor (TX0 k).2.2.1 = some (tyX0 k) := by decide +kernel
abbrev cX0_init : ByteArray := prog_2_method_1_code
def yX0_init : MethodName := ⟨RX0, "<init>", "()V"⟩
def RX1 : String := "SetterBench$Thing"
def TX1 : u_T := fun k => match k with
  | _ => ("", "", "", false)
def tyX1 : Nat → FieldType := fun k => match k with
  | _ => .int
abbrev wsX10 : List Cond := u_ws RX1 TX1 0
theorem nmX1 : ∀ a, a < 0 → ∀ b, b < 0 → a ≠ b → (TX1 a).2.1 ≠ (TX1 b).2.1 := by decide +kernel
theorem tyX1_ok : ∀ k, k < 0 → parseFieldDescriptor (TX1 k).2.2.1 = some (tyX1 k) := by decide +kernel
abbrev cX1_init : ByteArray := prog_3_method_1_code
def yX1_init : MethodName := ⟨RX1, "<init>", "(I)V"⟩
def RX2 : String := "SetterBench$Tray"
def TX2 : u_T := fun k => match k with
  | 0 => ("SetterBench$Thing", "sort", "I", true)
  | _ => ("SetterBench$Tray", "cells", "[J", true)
def tyX2 : Nat → FieldType := fun k => match k with
  | 0 => .int
  | _ => .array .long
abbrev wsX20 : List Cond := u_ws RX2 TX2 2
theorem nmX2 : ∀ a, a < 2 → ∀ b, b < 2 → a ≠ b → (TX2 a).2.1 ≠ (TX2 b).2.1 := by decide +kernel
theorem tyX2_ok : ∀ k, k < 2 → parseFieldDescriptor (TX2 k).2.2.1 = some (tyX2 k) := by decide +kernel
abbrev cX2_init : ByteArray := prog_4_method_1_code
def yX2_init : MethodName := ⟨RX2, "<init>", "(II)V"⟩
abbrev cX2_size : ByteArray := prog_4_method_2_code
def yX2_size : MethodName := ⟨RX2, "size", "()I"⟩
abbrev cX2_isOfStones : ByteArray := prog_4_method_3_code
def yX2_isOfStones : MethodName := ⟨RX2, "isOfStones", "()Z"⟩
abbrev cX2_isLike : ByteArray := prog_4_method_4_code
def yX2_isLike : MethodName := ⟨RX2, "isLike", "(LSetterBench$Tray;)Z"⟩
abbrev cX2_hasRun : ByteArray := prog_4_method_5_code
def yX2_hasRun : MethodName := ⟨RX2, "hasRun", "(II)Z"⟩
abbrev cX2_read : ByteArray := prog_4_method_6_code
def yX2_read : MethodName := ⟨RX2, "read", "(I)J"⟩
abbrev cX2_write : ByteArray := prog_4_method_7_code
def yX2_write : MethodName := ⟨RX2, "write", "(IJ)Z"⟩
abbrev cX2_stoneSortAt : ByteArray := prog_4_method_8_code
def yX2_stoneSortAt : MethodName := ⟨RX2, "stoneSortAt", "(I)I"⟩
abbrev cX2_howManyTaken : ByteArray := prog_4_method_9_code
def yX2_howManyTaken : MethodName := ⟨RX2, "howManyTaken", "(LSetterBench$Tray;II)I"⟩
abbrev cX2_takesStone : ByteArray := prog_4_method_10_code
def yX2_takesStone : MethodName := ⟨RX2, "takesStone", "(I)Z"⟩
abbrev cX2_copyRun : ByteArray := prog_4_method_11_code
def yX2_copyRun : MethodName := ⟨RX2, "copyRun", "(LSetterBench$Tray;III)V"⟩
abbrev cX2_copyTo : ByteArray := prog_4_method_12_code
def yX2_copyTo : MethodName := ⟨RX2, "copyTo", "([J)V"⟩
abbrev cX2_copyFrom : ByteArray := prog_4_method_13_code
def yX2_copyFrom : MethodName := ⟨RX2, "copyFrom", "([J)V"⟩
def RX3 : String := "SetterBench"
def TX3 : u_T := fun k => match k with
  | 0 => ("SetterBench", "places", "[LSetterBench$Thing;", true)
  | 1 => ("SetterBench", "hand", "LSetterBench$Tray;", true)
  | 2 => ("SetterBench", "kept", "[J", true)
  | 3 => ("SetterBench", "keptTray", "LSetterBench$Tray;", false)
  | 4 => ("SetterBench", "stonesMade", "I", false)
  | 5 => ("SetterBench", "doneSweeps", "I", false)
  | 6 => ("SetterBench", "emptySweeps", "I", false)
  | 7 => ("SetterBench", "unlikeSweeps", "I", false)
  | 8 => ("SetterBench", "beyondSweeps", "I", false)
  | 9 => ("SetterBench", "stoppedSweeps", "I", false)
  | _ => ("SetterBench", "carriedMembers", "I", false)
def tyX3 : Nat → FieldType := fun k => match k with
  | 0 => .array (.object "SetterBench$Thing")
  | 1 => .object "SetterBench$Tray"
  | 2 => .array .long
  | 3 => .object "SetterBench$Tray"
  | 4 => .int
  | 5 => .int
  | 6 => .int
  | 7 => .int
  | 8 => .int
  | 9 => .int
  | _ => .int
abbrev wsX30 : List Cond := u_ws RX3 TX3 11
theorem nmX3 : ∀ a, a < 11 → ∀ b, b < 11 → a ≠ b → (TX3 a).2.1 ≠ (TX3 b).2.1 := by decide +kernel
theorem tyX3_ok : ∀ k, k < 11 → parseFieldDescriptor (TX3 k).2.2.1 = some (tyX3 k) := by decide +kernel
abbrev cX3_init : ByteArray := prog_1_method_1_code
def yX3_init : MethodName := ⟨RX3, "<init>", "()V"⟩
abbrev cX3_lay : ByteArray := prog_1_method_2_code
def yX3_lay : MethodName := ⟨RX3, "lay", "(III)Z"⟩
abbrev cX3_share : ByteArray := prog_1_method_3_code
def yX3_share : MethodName := ⟨RX3, "share", "(II)Z"⟩
abbrev cX3_set : ByteArray := prog_1_method_4_code
def yX3_set : MethodName := ⟨RX3, "set", "(III)I"⟩
abbrev cX3_put : ByteArray := prog_1_method_5_code
def yX3_put : MethodName := ⟨RX3, "put", "(III)I"⟩
abbrev cX3_sweep : ByteArray := prog_1_method_6_code
def yX3_sweep : MethodName := ⟨RX3, "sweep", "(IIIII)I"⟩
abbrev cX3_back : ByteArray := prog_1_method_7_code
def yX3_back : MethodName := ⟨RX3, "back", "()I"⟩
abbrev cX3_light : ByteArray := prog_1_method_8_code
def yX3_light : MethodName := ⟨RX3, "light", "(I)I"⟩
abbrev cX3_member : ByteArray := prog_1_method_9_code
def yX3_member : MethodName := ⟨RX3, "member", "(II)J"⟩
abbrev cX3_thing : ByteArray := prog_1_method_10_code
def yX3_thing : MethodName := ⟨RX3, "thing", "(II)I"⟩
abbrev cX3_worth : ByteArray := prog_1_method_11_code
def yX3_worth : MethodName := ⟨RX3, "worth", "(I)I"⟩
abbrev cX3_mirror : ByteArray := prog_1_method_12_code
def yX3_mirror : MethodName := ⟨RX3, "mirror", "(II)Z"⟩
abbrev cX3_count : ByteArray := prog_1_method_13_code
def yX3_count : MethodName := ⟨RX3, "count", "(I)I"⟩
abbrev cX3_isPlace : ByteArray := prog_1_method_14_code
def yX3_isPlace : MethodName := ⟨RX3, "isPlace", "(I)Z"⟩
abbrev cX3_asTray : ByteArray := prog_1_method_15_code
def yX3_asTray : MethodName := ⟨RX3, "asTray", "(LSetterBench$Thing;)LSetterBench$Tray;"⟩
abbrev cX3_sizeOf : ByteArray := prog_1_method_16_code
def yX3_sizeOf : MethodName := ⟨RX3, "sizeOf", "(LSetterBench$Thing;)I"⟩
abbrev cX3_trayOn : ByteArray := prog_1_method_17_code
def yX3_trayOn : MethodName := ⟨RX3, "trayOn", "(I)LSetterBench$Tray;"⟩
abbrev cX3_leastPlaceOf : ByteArray := prog_1_method_18_code
def yX3_leastPlaceOf : MethodName := ⟨RX3, "leastPlaceOf", "(LSetterBench$Thing;)I"⟩
abbrev cX3_numberFor : ByteArray := prog_1_method_19_code
def yX3_numberFor : MethodName := ⟨RX3, "numberFor", "(II)J"⟩
abbrev cX3_newStone : ByteArray := prog_1_method_20_code
def yX3_newStone : MethodName := ⟨RX3, "newStone", "(I)J"⟩
abbrev cX3_sweepThings : ByteArray := prog_1_method_21_code
def yX3_sweepThings : MethodName := ⟨RX3, "sweepThings", "(LSetterBench$Thing;ILSetterBench$Thing;IIZ)I"⟩
abbrev cX3_sweepOrRefuse : ByteArray := prog_1_method_22_code
def yX3_sweepOrRefuse : MethodName := ⟨RX3, "sweepOrRefuse", "(LSetterBench$Thing;ILSetterBench$Thing;IIZ)I"⟩
abbrev cX3_keep : ByteArray := prog_1_method_23_code
def yX3_keep : MethodName := ⟨RX3, "keep", "(LSetterBench$Tray;)V"⟩
abbrev cX3_tally : ByteArray := prog_1_method_24_code
def yX3_tally : MethodName := ⟨RX3, "tally", "(I)V"⟩
abbrev cX3_isRound : ByteArray := prog_1_method_25_code
def yX3_isRound : MethodName := ⟨RX3, "isRound", "(I)Z"⟩
abbrev cX3_worthOfStone : ByteArray := prog_1_method_26_code
def yX3_worthOfStone : MethodName := ⟨RX3, "worthOfStone", "(I)I"⟩
def RX4 : String := "SetterBenchModel"
def TX4 : u_T := fun k => match k with
  | 0 => ("SetterBenchModel", "lies", "[I", true)
  | 1 => ("SetterBenchModel", "sort", "[I", true)
  | 2 => ("SetterBenchModel", "many", "[I", true)
  | 3 => ("SetterBenchModel", "lit", "[I", true)
  | 4 => ("SetterBenchModel", "members", "[J", true)
  | 5 => ("SetterBenchModel", "carried", "[J", true)
  | 6 => ("SetterBenchModel", "kept", "[J", true)
  | 7 => ("SetterBenchModel", "keeper", "I", false)
  | _ => ("SetterBenchModel", "counts", "[I", true)
def tyX4 : Nat → FieldType := fun k => match k with
  | 0 => .array .int
  | 1 => .array .int
  | 2 => .array .int
  | 3 => .array .int
  | 4 => .array .long
  | 5 => .array .long
  | 6 => .array .long
  | 7 => .int
  | _ => .array .int
abbrev wsX40 : List Cond := u_ws RX4 TX4 9
theorem nmX4 : ∀ a, a < 9 → ∀ b, b < 9 → a ≠ b → (TX4 a).2.1 ≠ (TX4 b).2.1 := by decide +kernel
theorem tyX4_ok : ∀ k, k < 9 → parseFieldDescriptor (TX4 k).2.2.1 = some (tyX4 k) := by decide +kernel
abbrev cX4_init : ByteArray := prog_6_method_1_code
def yX4_init : MethodName := ⟨RX4, "<init>", "()V"⟩
abbrev cX4_isPlace : ByteArray := prog_6_method_2_code
def yX4_isPlace : MethodName := ⟨RX4, "isPlace", "(I)Z"⟩
abbrev cX4_isTray : ByteArray := prog_6_method_3_code
def yX4_isTray : MethodName := ⟨RX4, "isTray", "(I)Z"⟩
abbrev cX4_isOfNumbers : ByteArray := prog_6_method_4_code
def yX4_isOfNumbers : MethodName := ⟨RX4, "isOfNumbers", "(I)Z"⟩
abbrev cX4_isOfStones : ByteArray := prog_6_method_5_code
def yX4_isOfStones : MethodName := ⟨RX4, "isOfStones", "(I)Z"⟩
abbrev cX4_sortOn : ByteArray := prog_6_method_6_code
def yX4_sortOn : MethodName := ⟨RX4, "sortOn", "(I)I"⟩
abbrev cX4_manyOn : ByteArray := prog_6_method_7_code
def yX4_manyOn : MethodName := ⟨RX4, "manyOn", "(I)I"⟩
abbrev cX4_isUsed : ByteArray := prog_6_method_8_code
def yX4_isUsed : MethodName := ⟨RX4, "isUsed", "(I)Z"⟩
abbrev cX4_lay : ByteArray := prog_6_method_9_code
def yX4_lay : MethodName := ⟨RX4, "lay", "(III)Z"⟩
abbrev cX4_share : ByteArray := prog_6_method_10_code
def yX4_share : MethodName := ⟨RX4, "share", "(II)Z"⟩
abbrev cX4_set : ByteArray := prog_6_method_11_code
def yX4_set : MethodName := ⟨RX4, "set", "(III)I"⟩
abbrev cX4_takes : ByteArray := prog_6_method_12_code
def yX4_takes : MethodName := ⟨RX4, "takes", "(IJ)Z"⟩
abbrev cX4_refusal : ByteArray := prog_6_method_13_code
def yX4_refusal : MethodName := ⟨RX4, "refusal", "(IIIIIII)I"⟩
abbrev cX4_carry : ByteArray := prog_6_method_14_code
def yX4_carry : MethodName := ⟨RX4, "carry", "(III)I"⟩
abbrev cX4_put : ByteArray := prog_6_method_15_code
def yX4_put : MethodName := ⟨RX4, "put", "(III)I"⟩
abbrev cX4_sweep : ByteArray := prog_6_method_16_code
def yX4_sweep : MethodName := ⟨RX4, "sweep", "(IIIII)I"⟩
abbrev cX4_back : ByteArray := prog_6_method_17_code
def yX4_back : MethodName := ⟨RX4, "back", "()I"⟩
abbrev cX4_light : ByteArray := prog_6_method_18_code
def yX4_light : MethodName := ⟨RX4, "light", "(I)I"⟩
abbrev cX4_member : ByteArray := prog_6_method_19_code
def yX4_member : MethodName := ⟨RX4, "member", "(II)J"⟩
abbrev cX4_thing : ByteArray := prog_6_method_20_code
def yX4_thing : MethodName := ⟨RX4, "thing", "(II)I"⟩
abbrev cX4_kindAt : ByteArray := prog_6_method_21_code
def yX4_kindAt : MethodName := ⟨RX4, "kindAt", "(II)I"⟩
abbrev cX4_worth : ByteArray := prog_6_method_22_code
def yX4_worth : MethodName := ⟨RX4, "worth", "(I)I"⟩
abbrev cX4_mirror : ByteArray := prog_6_method_23_code
def yX4_mirror : MethodName := ⟨RX4, "mirror", "(II)Z"⟩
abbrev cX4_count : ByteArray := prog_6_method_24_code
def yX4_count : MethodName := ⟨RX4, "count", "(I)I"⟩
def RJ10 : String := "java/lang/System"
def TJ10 : u_T := fun k => match k with
  | _ => ("", "", "", false)
def tyJ10 : Nat → FieldType := fun k => match k with
  | _ => .int
abbrev wsJ100 : List Cond := u_ws RJ10 TJ10 0
theorem nmJ10 : ∀ a, a < 0 → ∀ b, b < 0 → a ≠ b → (TJ10 a).2.1 ≠ (TJ10 b).2.1 := by decide +kernel
theorem tyJ10_ok : ∀ k, k < 0 → parseFieldDescriptor (TJ10 k).2.2.1 = some (tyJ10 k) := by decide +kernel
def RL : String := "SetterBenchLaw"
abbrev cL_law : ByteArray := code
def yL_law : MethodName := ⟨RL, "law", "([I)Z"⟩
def wsX1_init : List Cond := .code yX1_init cX1_init 2 none :: ([.methodLink RX1 1 objectInit, .instanceMethod objectInit, .code objectInit ⟨#[0xb1]⟩ 1 none, .fieldLink RX1 7 "SetterBench$Thing" "sort" "I"] ++ wsX00 ++ wsX20)
def wsX0_init : List Cond := .code yX0_init cX0_init 1 none :: ([.methodLink RX0 3 yX1_init, .instanceMethod yX1_init, .initialized RX1, .code yX1_init cX1_init 2 none, .methodLink RX1 1 objectInit, .instanceMethod objectInit, .code objectInit ⟨#[0xb1]⟩ 1 none, .fieldLink RX1 7 "SetterBench$Thing" "sort" "I"] ++ wsX00 ++ wsX20)
def wsX2_init : List Cond := .code yX2_init cX2_init 3 none :: ([.arrayClass .long, .fieldLink RX2 9 "SetterBench$Tray" "cells" "[J", .methodLink RX2 3 yX1_init, .instanceMethod yX1_init, .initialized RX1, .code yX1_init cX1_init 2 none, .methodLink RX1 1 objectInit, .instanceMethod objectInit, .code objectInit ⟨#[0xb1]⟩ 1 none, .fieldLink RX1 7 "SetterBench$Thing" "sort" "I"] ++ wsX20 ++ wsX00)
def wsX2_size : List Cond := .code yX2_size cX2_size 1 (some .int) :: ([.fieldLink RX2 9 "SetterBench$Tray" "cells" "[J"] ++ wsX20)
def wsX2_isOfStones : List Cond := .code yX2_isOfStones cX2_isOfStones 1 (some .boolean) :: ([.fieldLink RX2 15 "SetterBench$Tray" "sort" "I", .sameField "SetterBench$Tray" "SetterBench$Thing" "sort" "I"] ++ wsX00 ++ wsX20)
def wsX2_isLike : List Cond := .code yX2_isLike cX2_isLike 2 (some .boolean) :: ([.fieldLink RX2 15 "SetterBench$Tray" "sort" "I", .sameField "SetterBench$Tray" "SetterBench$Thing" "sort" "I", .methodLink RX2 19 yX2_isOfStones, .instanceMethod yX2_isOfStones, .selects RX2 yX2_isOfStones yX2_isOfStones, .initialized RX2, .code yX2_isOfStones cX2_isOfStones 1 (some .boolean)] ++ wsX00 ++ wsX20)
def wsX2_hasRun : List Cond := .code yX2_hasRun cX2_hasRun 3 (some .boolean) :: ([.fieldLink RX2 9 "SetterBench$Tray" "cells" "[J"] ++ wsX20)
def wsX2_read : List Cond := .code yX2_read cX2_read 2 (some .long) :: ([.fieldLink RX2 9 "SetterBench$Tray" "cells" "[J", .constantLong RX2 27 (-1), .methodLink RX2 23 yX2_hasRun, .instanceMethod yX2_hasRun, .selects RX2 yX2_hasRun yX2_hasRun, .initialized RX2, .code yX2_hasRun cX2_hasRun 3 (some .boolean)] ++ wsX20)
def wsX2_write : List Cond := .code yX2_write cX2_write 4 (some .boolean) :: ([.fieldLink RX2 9 "SetterBench$Tray" "cells" "[J", .methodLink RX2 23 yX2_hasRun, .instanceMethod yX2_hasRun, .selects RX2 yX2_hasRun yX2_hasRun, .initialized RX2, .code yX2_hasRun cX2_hasRun 3 (some .boolean)] ++ wsX20)
def wsX2_stoneSortAt : List Cond := .code yX2_stoneSortAt cX2_stoneSortAt 2 (some .int) :: ([.fieldLink RX2 9 "SetterBench$Tray" "cells" "[J", .constantLong RX2 29 (10), .methodLink RX2 23 yX2_hasRun, .instanceMethod yX2_hasRun, .selects RX2 yX2_hasRun yX2_hasRun, .initialized RX2, .code yX2_hasRun cX2_hasRun 3 (some .boolean)] ++ wsX20)
def wsX3_isRound : List Cond := .code yX3_isRound cX3_isRound 1 (some .boolean) :: ([])
def wsX2_takesStone : List Cond := .code yX2_takesStone cX2_takesStone 2 (some .boolean) :: ([.fieldLink RX2 15 "SetterBench$Tray" "sort" "I", .sameField "SetterBench$Tray" "SetterBench$Thing" "sort" "I", .static yX3_isRound, .initialized RX3, .code yX3_isRound cX3_isRound 1 (some .boolean)] ++ wsX00 ++ wsX20)
def wsX2_howManyTaken : List Cond := .code yX2_howManyTaken cX2_howManyTaken 5 (some .int) :: ([.methodLink RX2 19 yX2_isOfStones, .instanceMethod yX2_isOfStones, .selects RX2 yX2_isOfStones yX2_isOfStones, .initialized RX2, .code yX2_isOfStones cX2_isOfStones 1 (some .boolean), .fieldLink RX2 15 "SetterBench$Tray" "sort" "I", .sameField "SetterBench$Tray" "SetterBench$Thing" "sort" "I", .methodLink RX2 31 yX2_stoneSortAt, .instanceMethod yX2_stoneSortAt, .selects RX2 yX2_stoneSortAt yX2_stoneSortAt, .code yX2_stoneSortAt cX2_stoneSortAt 2 (some .int), .fieldLink RX2 9 "SetterBench$Tray" "cells" "[J", .constantLong RX2 29 (10), .methodLink RX2 23 yX2_hasRun, .instanceMethod yX2_hasRun, .selects RX2 yX2_hasRun yX2_hasRun, .code yX2_hasRun cX2_hasRun 3 (some .boolean), .methodLink RX2 35 yX2_takesStone, .instanceMethod yX2_takesStone, .selects RX2 yX2_takesStone yX2_takesStone, .code yX2_takesStone cX2_takesStone 2 (some .boolean), .static yX3_isRound, .initialized RX3, .code yX3_isRound cX3_isRound 1 (some .boolean)] ++ wsX00 ++ wsX20)
def wsX2_copyRun : List Cond := .code yX2_copyRun cX2_copyRun 5 none :: ([.fieldLink RX2 9 "SetterBench$Tray" "cells" "[J", .methodLink RX2 42 arraycopyName, .native arraycopyName, .static arraycopyName, .initialized "java/lang/System", .methodLink RX2 23 yX2_hasRun, .instanceMethod yX2_hasRun, .selects RX2 yX2_hasRun yX2_hasRun, .initialized RX2, .code yX2_hasRun cX2_hasRun 3 (some .boolean)] ++ wsX20)
def wsX2_copyTo : List Cond := .code yX2_copyTo cX2_copyTo 2 none :: ([.fieldLink RX2 9 "SetterBench$Tray" "cells" "[J", .methodLink RX2 42 arraycopyName, .native arraycopyName, .static arraycopyName, .initialized "java/lang/System"] ++ wsX20)
def wsX2_copyFrom : List Cond := .code yX2_copyFrom cX2_copyFrom 2 none :: ([.fieldLink RX2 9 "SetterBench$Tray" "cells" "[J", .methodLink RX2 42 arraycopyName, .native arraycopyName, .static arraycopyName, .initialized "java/lang/System"] ++ wsX20)
def wsX3_init : List Cond := .code yX3_init cX3_init 1 none :: ([.methodLink RX3 1 objectInit, .instanceMethod objectInit, .code objectInit ⟨#[0xb1]⟩ 1 none, .classLink RX3 9 RX1, .fieldLink RX3 11 "SetterBench" "places" "[LSetterBench$Thing;", .classLink RX3 15 RX2, .instantiable RX2 2, .initialized RX2, .fieldLink RX3 20 "SetterBench" "hand" "LSetterBench$Tray;", .arrayClass .long, .fieldLink RX3 24 "SetterBench" "kept" "[J", .methodLink RX3 17 yX2_init, .instanceMethod yX2_init, .code yX2_init cX2_init 3 none, .fieldLink RX2 9 "SetterBench$Tray" "cells" "[J", .methodLink RX2 3 yX1_init, .instanceMethod yX1_init, .initialized RX1, .code yX1_init cX1_init 2 none, .methodLink RX1 1 objectInit, .fieldLink RX1 7 "SetterBench$Thing" "sort" "I"] ++ wsX30 ++ wsX20 ++ wsX00)
def wsX3_isPlace : List Cond := .code yX3_isPlace cX3_isPlace 1 (some .boolean) :: ([])
def wsX3_lay_r1 : List Cond := [Cond.fieldLink RX3 11 "SetterBench" "places" "[LSetterBench$Thing;", Cond.classLink RX3 32 RX0, Cond.instantiable RX0 2, Cond.initialized RX0, Cond.classLink RX3 15 RX2, Cond.instantiable RX2 2, Cond.initialized RX2, Cond.methodLink RX3 28 yX3_isPlace, Cond.static yX3_isPlace, Cond.initialized RX3, Cond.code yX3_isPlace cX3_isPlace 1 (some .boolean), Cond.methodLink RX3 34 yX0_init, Cond.instanceMethod yX0_init, Cond.code yX0_init cX0_init 1 none, Cond.methodLink RX0 3 yX1_init, Cond.instanceMethod yX1_init, Cond.initialized RX1, Cond.code yX1_init cX1_init 2 none, Cond.methodLink RX1 1 objectInit, Cond.instanceMethod objectInit, Cond.code objectInit ⟨#[0xb1]⟩ 1 none, Cond.fieldLink RX1 7 "SetterBench$Thing" "sort" "I", Cond.methodLink RX3 17 yX2_init, Cond.instanceMethod yX2_init]
def wsX3_lay_r2 : List Cond := [Cond.code yX2_init cX2_init 3 none, Cond.arrayClass .long, Cond.fieldLink RX2 9 "SetterBench$Tray" "cells" "[J", Cond.methodLink RX2 3 yX1_init]
def wsX3_lay : List Cond := .code yX3_lay cX3_lay 4 (some .boolean) :: ((wsX3_lay_r1 ++ wsX3_lay_r2) ++ wsX30 ++ wsX00 ++ wsX20)
def wsX3_share : List Cond := .code yX3_share cX3_share 3 (some .boolean) :: ([.fieldLink RX3 11 "SetterBench" "places" "[LSetterBench$Thing;", .methodLink RX3 28 yX3_isPlace, .static yX3_isPlace, .initialized RX3, .code yX3_isPlace cX3_isPlace 1 (some .boolean)] ++ wsX30)
def wsX3_asTray : List Cond := .code yX3_asTray cX3_asTray 2 (some (.object "SetterBench$Tray")) :: ([.classLink RX3 15 "SetterBench$Tray"])
def wsX3_numberFor : List Cond := .code yX3_numberFor cX3_numberFor 2 (some .long) :: ([.constantLong RX3 125 (1000003)])
def wsX3_set_r1 : List Cond := [Cond.fieldLink RX3 11 "SetterBench" "places" "[LSetterBench$Thing;", Cond.fieldLink RX3 43 "SetterBench$Tray" "sort" "I", Cond.sameField "SetterBench$Tray" "SetterBench$Thing" "sort" "I", Cond.methodLink RX3 28 yX3_isPlace, Cond.static yX3_isPlace, Cond.initialized RX3, Cond.code yX3_isPlace cX3_isPlace 1 (some .boolean), Cond.methodLink RX3 35 yX3_asTray, Cond.static yX3_asTray, Cond.code yX3_asTray cX3_asTray 2 (some (.object "SetterBench$Tray")), Cond.classLink RX3 15 "SetterBench$Tray", Cond.methodLink RX3 39 yX2_isOfStones, Cond.instanceMethod yX2_isOfStones, Cond.selects RX2 yX2_isOfStones yX2_isOfStones, Cond.initialized RX2, Cond.code yX2_isOfStones cX2_isOfStones 1 (some .boolean), Cond.fieldLink RX2 15 "SetterBench$Tray" "sort" "I", Cond.methodLink RX3 47 yX3_numberFor, Cond.static yX3_numberFor, Cond.code yX3_numberFor cX3_numberFor 2 (some .long), Cond.constantLong RX3 125 (1000003), Cond.methodLink RX3 51 yX2_write, Cond.instanceMethod yX2_write, Cond.selects RX2 yX2_write yX2_write]
def wsX3_set_r2 : List Cond := [Cond.code yX2_write cX2_write 4 (some .boolean), Cond.fieldLink RX2 9 "SetterBench$Tray" "cells" "[J", Cond.methodLink RX2 23 yX2_hasRun, Cond.instanceMethod yX2_hasRun, Cond.selects RX2 yX2_hasRun yX2_hasRun, Cond.code yX2_hasRun cX2_hasRun 3 (some .boolean)]
def wsX3_set : List Cond := .code yX3_set cX3_set 5 (some .int) :: ((wsX3_set_r1 ++ wsX3_set_r2) ++ wsX30 ++ wsX00 ++ wsX20)
def wsX3_newStone : List Cond := .code yX3_newStone cX3_newStone 2 (some .long) :: ([.fieldLink RX3 104 "SetterBench" "stonesMade" "I", .constantLong RX3 127 (10)] ++ wsX30)
def wsX3_keep : List Cond := .code yX3_keep cX3_keep 2 none :: ([.fieldLink RX3 24 "SetterBench" "kept" "[J", .fieldLink RX3 63 "SetterBench" "keptTray" "LSetterBench$Tray;", .methodLink RX3 156 yX2_copyTo, .instanceMethod yX2_copyTo, .selects RX2 yX2_copyTo yX2_copyTo, .initialized RX2, .code yX2_copyTo cX2_copyTo 2 none, .fieldLink RX2 9 "SetterBench$Tray" "cells" "[J", .methodLink RX2 42 arraycopyName, .native arraycopyName, .static arraycopyName, .initialized "java/lang/System"] ++ wsX30 ++ wsX20)
def wsX3_sweepOrRefuse_r1 : List Cond := [Cond.fieldLink RX3 122 "SetterBench" "carriedMembers" "I", Cond.methodLink RX3 35 yX3_asTray, Cond.static yX3_asTray, Cond.initialized RX3, Cond.code yX3_asTray cX3_asTray 2 (some (.object "SetterBench$Tray")), Cond.classLink RX3 15 "SetterBench$Tray", Cond.methodLink RX3 136 yX2_isLike, Cond.instanceMethod yX2_isLike, Cond.selects RX2 yX2_isLike yX2_isLike, Cond.initialized RX2, Cond.code yX2_isLike cX2_isLike 2 (some .boolean), Cond.fieldLink RX2 15 "SetterBench$Tray" "sort" "I", Cond.sameField "SetterBench$Tray" "SetterBench$Thing" "sort" "I", Cond.methodLink RX2 19 yX2_isOfStones, Cond.instanceMethod yX2_isOfStones, Cond.selects RX2 yX2_isOfStones yX2_isOfStones, Cond.code yX2_isOfStones cX2_isOfStones 1 (some .boolean), Cond.methodLink RX3 140 yX2_hasRun, Cond.instanceMethod yX2_hasRun, Cond.selects RX2 yX2_hasRun yX2_hasRun, Cond.code yX2_hasRun cX2_hasRun 3 (some .boolean), Cond.fieldLink RX2 9 "SetterBench$Tray" "cells" "[J", Cond.methodLink RX3 144 yX3_keep, Cond.instanceMethod yX3_keep]
def wsX3_sweepOrRefuse_r2 : List Cond := [Cond.selects RX3 yX3_keep yX3_keep, Cond.code yX3_keep cX3_keep 2 none, Cond.fieldLink RX3 24 "SetterBench" "kept" "[J", Cond.fieldLink RX3 63 "SetterBench" "keptTray" "LSetterBench$Tray;", Cond.methodLink RX3 156 yX2_copyTo, Cond.instanceMethod yX2_copyTo, Cond.selects RX2 yX2_copyTo yX2_copyTo, Cond.code yX2_copyTo cX2_copyTo 2 none, Cond.methodLink RX2 42 arraycopyName, Cond.native arraycopyName, Cond.static arraycopyName, Cond.initialized "java/lang/System", Cond.methodLink RX3 148 yX2_howManyTaken, Cond.instanceMethod yX2_howManyTaken, Cond.selects RX2 yX2_howManyTaken yX2_howManyTaken, Cond.code yX2_howManyTaken cX2_howManyTaken 5 (some .int), Cond.methodLink RX2 31 yX2_stoneSortAt, Cond.instanceMethod yX2_stoneSortAt, Cond.selects RX2 yX2_stoneSortAt yX2_stoneSortAt, Cond.code yX2_stoneSortAt cX2_stoneSortAt 2 (some .int), Cond.constantLong RX2 29 (10), Cond.methodLink RX2 23 yX2_hasRun, Cond.methodLink RX2 35 yX2_takesStone, Cond.instanceMethod yX2_takesStone]
def wsX3_sweepOrRefuse_r3 : List Cond := [Cond.selects RX2 yX2_takesStone yX2_takesStone, Cond.code yX2_takesStone cX2_takesStone 2 (some .boolean), Cond.static yX3_isRound, Cond.code yX3_isRound cX3_isRound 1 (some .boolean), Cond.methodLink RX3 152 yX2_copyRun, Cond.instanceMethod yX2_copyRun, Cond.selects RX2 yX2_copyRun yX2_copyRun, Cond.code yX2_copyRun cX2_copyRun 5 none]
def wsX3_sweepOrRefuse : List Cond := .code yX3_sweepOrRefuse cX3_sweepOrRefuse 10 (some .int) :: ((wsX3_sweepOrRefuse_r1 ++ (wsX3_sweepOrRefuse_r2 ++ wsX3_sweepOrRefuse_r3)) ++ wsX30 ++ wsX00 ++ wsX20)
def wsX3_tally : List Cond := .code yX3_tally cX3_tally 2 none :: ([.fieldLink RX3 107 "SetterBench" "doneSweeps" "I", .fieldLink RX3 110 "SetterBench" "emptySweeps" "I", .fieldLink RX3 113 "SetterBench" "unlikeSweeps" "I", .fieldLink RX3 116 "SetterBench" "beyondSweeps" "I", .fieldLink RX3 119 "SetterBench" "stoppedSweeps" "I"] ++ wsX30)
def wsX3_sweepThings_r1 : List Cond := [Cond.methodLink RX3 129 yX3_sweepOrRefuse, Cond.instanceMethod yX3_sweepOrRefuse, Cond.selects RX3 yX3_sweepOrRefuse yX3_sweepOrRefuse, Cond.initialized RX3, Cond.code yX3_sweepOrRefuse cX3_sweepOrRefuse 10 (some .int), Cond.fieldLink RX3 122 "SetterBench" "carriedMembers" "I", Cond.methodLink RX3 35 yX3_asTray, Cond.static yX3_asTray, Cond.code yX3_asTray cX3_asTray 2 (some (.object "SetterBench$Tray")), Cond.classLink RX3 15 "SetterBench$Tray", Cond.methodLink RX3 136 yX2_isLike, Cond.instanceMethod yX2_isLike, Cond.selects RX2 yX2_isLike yX2_isLike, Cond.initialized RX2, Cond.code yX2_isLike cX2_isLike 2 (some .boolean), Cond.fieldLink RX2 15 "SetterBench$Tray" "sort" "I", Cond.sameField "SetterBench$Tray" "SetterBench$Thing" "sort" "I", Cond.methodLink RX2 19 yX2_isOfStones, Cond.instanceMethod yX2_isOfStones, Cond.selects RX2 yX2_isOfStones yX2_isOfStones, Cond.code yX2_isOfStones cX2_isOfStones 1 (some .boolean), Cond.methodLink RX3 140 yX2_hasRun, Cond.instanceMethod yX2_hasRun, Cond.selects RX2 yX2_hasRun yX2_hasRun]
def wsX3_sweepThings_r2 : List Cond := [Cond.code yX2_hasRun cX2_hasRun 3 (some .boolean), Cond.fieldLink RX2 9 "SetterBench$Tray" "cells" "[J", Cond.methodLink RX3 144 yX3_keep, Cond.instanceMethod yX3_keep, Cond.selects RX3 yX3_keep yX3_keep, Cond.code yX3_keep cX3_keep 2 none, Cond.fieldLink RX3 24 "SetterBench" "kept" "[J", Cond.fieldLink RX3 63 "SetterBench" "keptTray" "LSetterBench$Tray;", Cond.methodLink RX3 156 yX2_copyTo, Cond.instanceMethod yX2_copyTo, Cond.selects RX2 yX2_copyTo yX2_copyTo, Cond.code yX2_copyTo cX2_copyTo 2 none, Cond.methodLink RX2 42 arraycopyName, Cond.native arraycopyName, Cond.static arraycopyName, Cond.initialized "java/lang/System", Cond.methodLink RX3 148 yX2_howManyTaken, Cond.instanceMethod yX2_howManyTaken, Cond.selects RX2 yX2_howManyTaken yX2_howManyTaken, Cond.code yX2_howManyTaken cX2_howManyTaken 5 (some .int), Cond.methodLink RX2 31 yX2_stoneSortAt, Cond.instanceMethod yX2_stoneSortAt, Cond.selects RX2 yX2_stoneSortAt yX2_stoneSortAt, Cond.code yX2_stoneSortAt cX2_stoneSortAt 2 (some .int)]
def wsX3_sweepThings_r3 : List Cond := [Cond.constantLong RX2 29 (10), Cond.methodLink RX2 23 yX2_hasRun, Cond.methodLink RX2 35 yX2_takesStone, Cond.instanceMethod yX2_takesStone, Cond.selects RX2 yX2_takesStone yX2_takesStone, Cond.code yX2_takesStone cX2_takesStone 2 (some .boolean), Cond.static yX3_isRound, Cond.code yX3_isRound cX3_isRound 1 (some .boolean), Cond.methodLink RX3 152 yX2_copyRun, Cond.instanceMethod yX2_copyRun, Cond.selects RX2 yX2_copyRun yX2_copyRun, Cond.code yX2_copyRun cX2_copyRun 5 none, Cond.methodLink RX3 132 yX3_tally, Cond.instanceMethod yX3_tally, Cond.selects RX3 yX3_tally yX3_tally, Cond.code yX3_tally cX3_tally 2 none, Cond.fieldLink RX3 107 "SetterBench" "doneSweeps" "I", Cond.fieldLink RX3 110 "SetterBench" "emptySweeps" "I", Cond.fieldLink RX3 113 "SetterBench" "unlikeSweeps" "I", Cond.fieldLink RX3 116 "SetterBench" "beyondSweeps" "I", Cond.fieldLink RX3 119 "SetterBench" "stoppedSweeps" "I"]
def wsX3_sweepThings : List Cond := .code yX3_sweepThings cX3_sweepThings 8 (some .int) :: ((wsX3_sweepThings_r1 ++ (wsX3_sweepThings_r2 ++ wsX3_sweepThings_r3)) ++ wsX30 ++ wsX00 ++ wsX20)
def wsX3_put_r1 : List Cond := [Cond.fieldLink RX3 20 "SetterBench" "hand" "LSetterBench$Tray;", Cond.fieldLink RX3 11 "SetterBench" "places" "[LSetterBench$Thing;", Cond.methodLink RX3 28 yX3_isPlace, Cond.static yX3_isPlace, Cond.initialized RX3, Cond.code yX3_isPlace cX3_isPlace 1 (some .boolean), Cond.methodLink RX3 55 yX3_newStone, Cond.instanceMethod yX3_newStone, Cond.selects RX3 yX3_newStone yX3_newStone, Cond.code yX3_newStone cX3_newStone 2 (some .long), Cond.fieldLink RX3 104 "SetterBench" "stonesMade" "I", Cond.constantLong RX3 127 (10), Cond.methodLink RX3 51 yX2_write, Cond.instanceMethod yX2_write, Cond.selects RX2 yX2_write yX2_write, Cond.initialized RX2, Cond.code yX2_write cX2_write 4 (some .boolean), Cond.fieldLink RX2 9 "SetterBench$Tray" "cells" "[J", Cond.methodLink RX2 23 yX2_hasRun, Cond.instanceMethod yX2_hasRun, Cond.selects RX2 yX2_hasRun yX2_hasRun, Cond.code yX2_hasRun cX2_hasRun 3 (some .boolean), Cond.methodLink RX3 59 yX3_sweepThings, Cond.instanceMethod yX3_sweepThings]
def wsX3_put_r2 : List Cond := [Cond.selects RX3 yX3_sweepThings yX3_sweepThings, Cond.code yX3_sweepThings cX3_sweepThings 8 (some .int), Cond.methodLink RX3 129 yX3_sweepOrRefuse, Cond.instanceMethod yX3_sweepOrRefuse, Cond.selects RX3 yX3_sweepOrRefuse yX3_sweepOrRefuse, Cond.code yX3_sweepOrRefuse cX3_sweepOrRefuse 10 (some .int), Cond.fieldLink RX3 122 "SetterBench" "carriedMembers" "I", Cond.methodLink RX3 35 yX3_asTray, Cond.static yX3_asTray, Cond.code yX3_asTray cX3_asTray 2 (some (.object "SetterBench$Tray")), Cond.classLink RX3 15 "SetterBench$Tray", Cond.methodLink RX3 136 yX2_isLike, Cond.instanceMethod yX2_isLike, Cond.selects RX2 yX2_isLike yX2_isLike, Cond.code yX2_isLike cX2_isLike 2 (some .boolean), Cond.fieldLink RX2 15 "SetterBench$Tray" "sort" "I", Cond.sameField "SetterBench$Tray" "SetterBench$Thing" "sort" "I", Cond.methodLink RX2 19 yX2_isOfStones, Cond.instanceMethod yX2_isOfStones, Cond.selects RX2 yX2_isOfStones yX2_isOfStones, Cond.code yX2_isOfStones cX2_isOfStones 1 (some .boolean), Cond.methodLink RX3 140 yX2_hasRun, Cond.methodLink RX3 144 yX3_keep, Cond.instanceMethod yX3_keep]
def wsX3_put_r3 : List Cond := [Cond.selects RX3 yX3_keep yX3_keep, Cond.code yX3_keep cX3_keep 2 none, Cond.fieldLink RX3 24 "SetterBench" "kept" "[J", Cond.fieldLink RX3 63 "SetterBench" "keptTray" "LSetterBench$Tray;", Cond.methodLink RX3 156 yX2_copyTo, Cond.instanceMethod yX2_copyTo, Cond.selects RX2 yX2_copyTo yX2_copyTo, Cond.code yX2_copyTo cX2_copyTo 2 none, Cond.methodLink RX2 42 arraycopyName, Cond.native arraycopyName, Cond.static arraycopyName, Cond.initialized "java/lang/System", Cond.methodLink RX3 148 yX2_howManyTaken, Cond.instanceMethod yX2_howManyTaken, Cond.selects RX2 yX2_howManyTaken yX2_howManyTaken, Cond.code yX2_howManyTaken cX2_howManyTaken 5 (some .int), Cond.methodLink RX2 31 yX2_stoneSortAt, Cond.instanceMethod yX2_stoneSortAt, Cond.selects RX2 yX2_stoneSortAt yX2_stoneSortAt, Cond.code yX2_stoneSortAt cX2_stoneSortAt 2 (some .int), Cond.constantLong RX2 29 (10), Cond.methodLink RX2 35 yX2_takesStone, Cond.instanceMethod yX2_takesStone, Cond.selects RX2 yX2_takesStone yX2_takesStone]
def wsX3_put_r4 : List Cond := [Cond.code yX2_takesStone cX2_takesStone 2 (some .boolean), Cond.static yX3_isRound, Cond.code yX3_isRound cX3_isRound 1 (some .boolean), Cond.methodLink RX3 152 yX2_copyRun, Cond.instanceMethod yX2_copyRun, Cond.selects RX2 yX2_copyRun yX2_copyRun, Cond.code yX2_copyRun cX2_copyRun 5 none, Cond.methodLink RX3 132 yX3_tally, Cond.instanceMethod yX3_tally, Cond.selects RX3 yX3_tally yX3_tally, Cond.code yX3_tally cX3_tally 2 none, Cond.fieldLink RX3 107 "SetterBench" "doneSweeps" "I", Cond.fieldLink RX3 110 "SetterBench" "emptySweeps" "I", Cond.fieldLink RX3 113 "SetterBench" "unlikeSweeps" "I", Cond.fieldLink RX3 116 "SetterBench" "beyondSweeps" "I", Cond.fieldLink RX3 119 "SetterBench" "stoppedSweeps" "I"]
def wsX3_put : List Cond := .code yX3_put cX3_put 4 (some .int) :: ((wsX3_put_r1 ++ (wsX3_put_r2 ++ (wsX3_put_r3 ++ wsX3_put_r4))) ++ wsX30 ++ wsX20 ++ wsX00)
def wsX3_sweep_r1 : List Cond := [Cond.fieldLink RX3 11 "SetterBench" "places" "[LSetterBench$Thing;", Cond.methodLink RX3 28 yX3_isPlace, Cond.static yX3_isPlace, Cond.initialized RX3, Cond.code yX3_isPlace cX3_isPlace 1 (some .boolean), Cond.methodLink RX3 59 yX3_sweepThings, Cond.instanceMethod yX3_sweepThings, Cond.selects RX3 yX3_sweepThings yX3_sweepThings, Cond.code yX3_sweepThings cX3_sweepThings 8 (some .int), Cond.methodLink RX3 129 yX3_sweepOrRefuse, Cond.instanceMethod yX3_sweepOrRefuse, Cond.selects RX3 yX3_sweepOrRefuse yX3_sweepOrRefuse, Cond.code yX3_sweepOrRefuse cX3_sweepOrRefuse 10 (some .int), Cond.fieldLink RX3 122 "SetterBench" "carriedMembers" "I", Cond.methodLink RX3 35 yX3_asTray, Cond.static yX3_asTray, Cond.code yX3_asTray cX3_asTray 2 (some (.object "SetterBench$Tray")), Cond.classLink RX3 15 "SetterBench$Tray", Cond.methodLink RX3 136 yX2_isLike, Cond.instanceMethod yX2_isLike, Cond.selects RX2 yX2_isLike yX2_isLike, Cond.initialized RX2, Cond.code yX2_isLike cX2_isLike 2 (some .boolean), Cond.fieldLink RX2 15 "SetterBench$Tray" "sort" "I"]
def wsX3_sweep_r2 : List Cond := [Cond.sameField "SetterBench$Tray" "SetterBench$Thing" "sort" "I", Cond.methodLink RX2 19 yX2_isOfStones, Cond.instanceMethod yX2_isOfStones, Cond.selects RX2 yX2_isOfStones yX2_isOfStones, Cond.code yX2_isOfStones cX2_isOfStones 1 (some .boolean), Cond.methodLink RX3 140 yX2_hasRun, Cond.instanceMethod yX2_hasRun, Cond.selects RX2 yX2_hasRun yX2_hasRun, Cond.code yX2_hasRun cX2_hasRun 3 (some .boolean), Cond.fieldLink RX2 9 "SetterBench$Tray" "cells" "[J", Cond.methodLink RX3 144 yX3_keep, Cond.instanceMethod yX3_keep, Cond.selects RX3 yX3_keep yX3_keep, Cond.code yX3_keep cX3_keep 2 none, Cond.fieldLink RX3 24 "SetterBench" "kept" "[J", Cond.fieldLink RX3 63 "SetterBench" "keptTray" "LSetterBench$Tray;", Cond.methodLink RX3 156 yX2_copyTo, Cond.instanceMethod yX2_copyTo, Cond.selects RX2 yX2_copyTo yX2_copyTo, Cond.code yX2_copyTo cX2_copyTo 2 none, Cond.methodLink RX2 42 arraycopyName, Cond.native arraycopyName, Cond.static arraycopyName, Cond.initialized "java/lang/System"]
def wsX3_sweep_r3 : List Cond := [Cond.methodLink RX3 148 yX2_howManyTaken, Cond.instanceMethod yX2_howManyTaken, Cond.selects RX2 yX2_howManyTaken yX2_howManyTaken, Cond.code yX2_howManyTaken cX2_howManyTaken 5 (some .int), Cond.methodLink RX2 31 yX2_stoneSortAt, Cond.instanceMethod yX2_stoneSortAt, Cond.selects RX2 yX2_stoneSortAt yX2_stoneSortAt, Cond.code yX2_stoneSortAt cX2_stoneSortAt 2 (some .int), Cond.constantLong RX2 29 (10), Cond.methodLink RX2 23 yX2_hasRun, Cond.methodLink RX2 35 yX2_takesStone, Cond.instanceMethod yX2_takesStone, Cond.selects RX2 yX2_takesStone yX2_takesStone, Cond.code yX2_takesStone cX2_takesStone 2 (some .boolean), Cond.static yX3_isRound, Cond.code yX3_isRound cX3_isRound 1 (some .boolean), Cond.methodLink RX3 152 yX2_copyRun, Cond.instanceMethod yX2_copyRun, Cond.selects RX2 yX2_copyRun yX2_copyRun, Cond.code yX2_copyRun cX2_copyRun 5 none, Cond.methodLink RX3 132 yX3_tally, Cond.instanceMethod yX3_tally, Cond.selects RX3 yX3_tally yX3_tally, Cond.code yX3_tally cX3_tally 2 none]
def wsX3_sweep_r4 : List Cond := [Cond.fieldLink RX3 107 "SetterBench" "doneSweeps" "I", Cond.fieldLink RX3 110 "SetterBench" "emptySweeps" "I", Cond.fieldLink RX3 113 "SetterBench" "unlikeSweeps" "I", Cond.fieldLink RX3 116 "SetterBench" "beyondSweeps" "I", Cond.fieldLink RX3 119 "SetterBench" "stoppedSweeps" "I"]
def wsX3_sweep : List Cond := .code yX3_sweep cX3_sweep 6 (some .int) :: ((wsX3_sweep_r1 ++ (wsX3_sweep_r2 ++ (wsX3_sweep_r3 ++ wsX3_sweep_r4))) ++ wsX30 ++ wsX00 ++ wsX20)
def wsX3_back : List Cond := .code yX3_back cX3_back 2 (some .int) :: ([.fieldLink RX3 63 "SetterBench" "keptTray" "LSetterBench$Tray;", .fieldLink RX3 24 "SetterBench" "kept" "[J", .methodLink RX3 66 yX2_copyFrom, .instanceMethod yX2_copyFrom, .selects RX2 yX2_copyFrom yX2_copyFrom, .initialized RX2, .code yX2_copyFrom cX2_copyFrom 2 none, .fieldLink RX2 9 "SetterBench$Tray" "cells" "[J", .methodLink RX2 42 arraycopyName, .native arraycopyName, .static arraycopyName, .initialized "java/lang/System", .methodLink RX3 70 yX2_size, .instanceMethod yX2_size, .selects RX2 yX2_size yX2_size, .code yX2_size cX2_size 1 (some .int)] ++ wsX30 ++ wsX20)
def wsX3_light : List Cond := .code yX3_light cX3_light 4 (some .int) :: ([.fieldLink RX3 11 "SetterBench" "places" "[LSetterBench$Thing;", .classLink RX3 32 "SetterBench$Lamp", .fieldLink RX3 74 "SetterBench$Lamp" "timesLit" "I", .methodLink RX3 28 yX3_isPlace, .static yX3_isPlace, .initialized RX3, .code yX3_isPlace cX3_isPlace 1 (some .boolean)] ++ wsX30 ++ wsX00)
def wsX3_trayOn : List Cond := .code yX3_trayOn cX3_trayOn 2 (some (.object "SetterBench$Tray")) :: ([.fieldLink RX3 11 "SetterBench" "places" "[LSetterBench$Thing;", .methodLink RX3 28 yX3_isPlace, .static yX3_isPlace, .initialized RX3, .code yX3_isPlace cX3_isPlace 1 (some .boolean), .methodLink RX3 35 yX3_asTray, .static yX3_asTray, .code yX3_asTray cX3_asTray 2 (some (.object "SetterBench$Tray")), .classLink RX3 15 "SetterBench$Tray"] ++ wsX30)
def wsX3_member_r1 : List Cond := [Cond.constantLong RX3 81 (-1), Cond.methodLink RX3 77 yX3_trayOn, Cond.instanceMethod yX3_trayOn, Cond.selects RX3 yX3_trayOn yX3_trayOn, Cond.initialized RX3, Cond.code yX3_trayOn cX3_trayOn 2 (some (.object "SetterBench$Tray")), Cond.fieldLink RX3 11 "SetterBench" "places" "[LSetterBench$Thing;", Cond.methodLink RX3 28 yX3_isPlace, Cond.static yX3_isPlace, Cond.code yX3_isPlace cX3_isPlace 1 (some .boolean), Cond.methodLink RX3 35 yX3_asTray, Cond.static yX3_asTray, Cond.code yX3_asTray cX3_asTray 2 (some (.object "SetterBench$Tray")), Cond.classLink RX3 15 "SetterBench$Tray", Cond.methodLink RX3 83 yX2_read, Cond.instanceMethod yX2_read, Cond.selects RX2 yX2_read yX2_read, Cond.initialized RX2, Cond.code yX2_read cX2_read 2 (some .long), Cond.fieldLink RX2 9 "SetterBench$Tray" "cells" "[J", Cond.constantLong RX2 27 (-1), Cond.methodLink RX2 23 yX2_hasRun, Cond.instanceMethod yX2_hasRun, Cond.selects RX2 yX2_hasRun yX2_hasRun]
def wsX3_member_r2 : List Cond := [Cond.code yX2_hasRun cX2_hasRun 3 (some .boolean)]
def wsX3_member : List Cond := .code yX3_member cX3_member 4 (some .long) :: ((wsX3_member_r1 ++ wsX3_member_r2) ++ wsX30 ++ wsX20)
def wsX3_sizeOf : List Cond := .code yX3_sizeOf cX3_sizeOf 2 (some .int) :: ([.methodLink RX3 35 yX3_asTray, .static yX3_asTray, .initialized RX3, .code yX3_asTray cX3_asTray 2 (some (.object "SetterBench$Tray")), .classLink RX3 15 "SetterBench$Tray", .methodLink RX3 70 yX2_size, .instanceMethod yX2_size, .selects RX2 yX2_size yX2_size, .initialized RX2, .code yX2_size cX2_size 1 (some .int), .fieldLink RX2 9 "SetterBench$Tray" "cells" "[J"] ++ wsX20)
def wsX3_leastPlaceOf : List Cond := .code yX3_leastPlaceOf cX3_leastPlaceOf 3 (some .int) :: ([.fieldLink RX3 11 "SetterBench" "places" "[LSetterBench$Thing;"] ++ wsX30)
def wsX3_thing : List Cond := .code yX3_thing cX3_thing 4 (some .int) :: ([.fieldLink RX3 11 "SetterBench" "places" "[LSetterBench$Thing;", .fieldLink RX3 86 "SetterBench$Thing" "sort" "I", .methodLink RX3 28 yX3_isPlace, .static yX3_isPlace, .initialized RX3, .code yX3_isPlace cX3_isPlace 1 (some .boolean), .methodLink RX3 87 yX3_sizeOf, .static yX3_sizeOf, .code yX3_sizeOf cX3_sizeOf 2 (some .int), .methodLink RX3 35 yX3_asTray, .static yX3_asTray, .code yX3_asTray cX3_asTray 2 (some (.object "SetterBench$Tray")), .classLink RX3 15 "SetterBench$Tray", .methodLink RX3 70 yX2_size, .instanceMethod yX2_size, .selects RX2 yX2_size yX2_size, .initialized RX2, .code yX2_size cX2_size 1 (some .int), .fieldLink RX2 9 "SetterBench$Tray" "cells" "[J", .methodLink RX3 91 yX3_leastPlaceOf, .instanceMethod yX3_leastPlaceOf, .selects RX3 yX3_leastPlaceOf yX3_leastPlaceOf, .code yX3_leastPlaceOf cX3_leastPlaceOf 3 (some .int)] ++ wsX30 ++ wsX00 ++ wsX20)
def wsX3_worthOfStone : List Cond := .code yX3_worthOfStone cX3_worthOfStone 1 (some .int) :: ([])
def wsX3_worth_r1 : List Cond := [Cond.methodLink RX3 77 yX3_trayOn, Cond.instanceMethod yX3_trayOn, Cond.selects RX3 yX3_trayOn yX3_trayOn, Cond.initialized RX3, Cond.code yX3_trayOn cX3_trayOn 2 (some (.object "SetterBench$Tray")), Cond.fieldLink RX3 11 "SetterBench" "places" "[LSetterBench$Thing;", Cond.methodLink RX3 28 yX3_isPlace, Cond.static yX3_isPlace, Cond.code yX3_isPlace cX3_isPlace 1 (some .boolean), Cond.methodLink RX3 35 yX3_asTray, Cond.static yX3_asTray, Cond.code yX3_asTray cX3_asTray 2 (some (.object "SetterBench$Tray")), Cond.classLink RX3 15 "SetterBench$Tray", Cond.methodLink RX3 39 yX2_isOfStones, Cond.instanceMethod yX2_isOfStones, Cond.selects RX2 yX2_isOfStones yX2_isOfStones, Cond.initialized RX2, Cond.code yX2_isOfStones cX2_isOfStones 1 (some .boolean), Cond.fieldLink RX2 15 "SetterBench$Tray" "sort" "I", Cond.sameField "SetterBench$Tray" "SetterBench$Thing" "sort" "I", Cond.methodLink RX3 70 yX2_size, Cond.instanceMethod yX2_size, Cond.selects RX2 yX2_size yX2_size, Cond.code yX2_size cX2_size 1 (some .int)]
def wsX3_worth_r2 : List Cond := [Cond.fieldLink RX2 9 "SetterBench$Tray" "cells" "[J", Cond.methodLink RX3 94 yX2_stoneSortAt, Cond.instanceMethod yX2_stoneSortAt, Cond.selects RX2 yX2_stoneSortAt yX2_stoneSortAt, Cond.code yX2_stoneSortAt cX2_stoneSortAt 2 (some .int), Cond.constantLong RX2 29 (10), Cond.methodLink RX2 23 yX2_hasRun, Cond.instanceMethod yX2_hasRun, Cond.selects RX2 yX2_hasRun yX2_hasRun, Cond.code yX2_hasRun cX2_hasRun 3 (some .boolean), Cond.methodLink RX3 98 yX3_worthOfStone, Cond.static yX3_worthOfStone, Cond.code yX3_worthOfStone cX3_worthOfStone 1 (some .int), Cond.methodLink RX3 101 yX3_isRound, Cond.static yX3_isRound, Cond.code yX3_isRound cX3_isRound 1 (some .boolean)]
def wsX3_worth : List Cond := .code yX3_worth cX3_worth 7 (some .int) :: ((wsX3_worth_r1 ++ wsX3_worth_r2) ++ wsX30 ++ wsX00 ++ wsX20)
def wsX3_mirror_r1 : List Cond := [Cond.methodLink RX3 77 yX3_trayOn, Cond.instanceMethod yX3_trayOn, Cond.selects RX3 yX3_trayOn yX3_trayOn, Cond.initialized RX3, Cond.code yX3_trayOn cX3_trayOn 2 (some (.object "SetterBench$Tray")), Cond.fieldLink RX3 11 "SetterBench" "places" "[LSetterBench$Thing;", Cond.methodLink RX3 28 yX3_isPlace, Cond.static yX3_isPlace, Cond.code yX3_isPlace cX3_isPlace 1 (some .boolean), Cond.methodLink RX3 35 yX3_asTray, Cond.static yX3_asTray, Cond.code yX3_asTray cX3_asTray 2 (some (.object "SetterBench$Tray")), Cond.classLink RX3 15 "SetterBench$Tray", Cond.methodLink RX3 39 yX2_isOfStones, Cond.instanceMethod yX2_isOfStones, Cond.selects RX2 yX2_isOfStones yX2_isOfStones, Cond.initialized RX2, Cond.code yX2_isOfStones cX2_isOfStones 1 (some .boolean), Cond.fieldLink RX2 15 "SetterBench$Tray" "sort" "I", Cond.sameField "SetterBench$Tray" "SetterBench$Thing" "sort" "I", Cond.methodLink RX3 70 yX2_size, Cond.instanceMethod yX2_size, Cond.selects RX2 yX2_size yX2_size, Cond.code yX2_size cX2_size 1 (some .int)]
def wsX3_mirror_r2 : List Cond := [Cond.fieldLink RX2 9 "SetterBench$Tray" "cells" "[J", Cond.methodLink RX3 94 yX2_stoneSortAt, Cond.instanceMethod yX2_stoneSortAt, Cond.selects RX2 yX2_stoneSortAt yX2_stoneSortAt, Cond.code yX2_stoneSortAt cX2_stoneSortAt 2 (some .int), Cond.constantLong RX2 29 (10), Cond.methodLink RX2 23 yX2_hasRun, Cond.instanceMethod yX2_hasRun, Cond.selects RX2 yX2_hasRun yX2_hasRun, Cond.code yX2_hasRun cX2_hasRun 3 (some .boolean)]
def wsX3_mirror : List Cond := .code yX3_mirror cX3_mirror 7 (some .boolean) :: ((wsX3_mirror_r1 ++ wsX3_mirror_r2) ++ wsX30 ++ wsX00 ++ wsX20)
def wsX3_count : List Cond := .code yX3_count cX3_count 2 (some .int) :: ([.fieldLink RX3 104 "SetterBench" "stonesMade" "I", .fieldLink RX3 107 "SetterBench" "doneSweeps" "I", .fieldLink RX3 110 "SetterBench" "emptySweeps" "I", .fieldLink RX3 113 "SetterBench" "unlikeSweeps" "I", .fieldLink RX3 116 "SetterBench" "beyondSweeps" "I", .fieldLink RX3 119 "SetterBench" "stoppedSweeps" "I", .fieldLink RX3 122 "SetterBench" "carriedMembers" "I"] ++ wsX30)
def wsX4_init : List Cond := .code yX4_init cX4_init 1 none :: ([.methodLink RX4 1 objectInit, .instanceMethod objectInit, .code objectInit ⟨#[0xb1]⟩ 1 none, .arrayClass .int, .fieldLink RX4 9 "SetterBenchModel" "lies" "[I", .fieldLink RX4 13 "SetterBenchModel" "sort" "[I", .fieldLink RX4 16 "SetterBenchModel" "many" "[I", .fieldLink RX4 19 "SetterBenchModel" "lit" "[I", .arrayClass .long, .fieldLink RX4 22 "SetterBenchModel" "members" "[J", .fieldLink RX4 26 "SetterBenchModel" "carried" "[J", .fieldLink RX4 29 "SetterBenchModel" "kept" "[J", .fieldLink RX4 32 "SetterBenchModel" "keeper" "I", .fieldLink RX4 36 "SetterBenchModel" "counts" "[I"] ++ wsX40)
def wsX4_isPlace : List Cond := .code yX4_isPlace cX4_isPlace 1 (some .boolean) :: ([])
def wsX4_isTray : List Cond := .code yX4_isTray cX4_isTray 1 (some .boolean) :: ([])
def wsX4_isOfNumbers : List Cond := .code yX4_isOfNumbers cX4_isOfNumbers 1 (some .boolean) :: ([])
def wsX4_isOfStones : List Cond := .code yX4_isOfStones cX4_isOfStones 1 (some .boolean) :: ([])
def wsX4_sortOn : List Cond := .code yX4_sortOn cX4_sortOn 2 (some .int) :: ([.fieldLink RX4 9 "SetterBenchModel" "lies" "[I", .fieldLink RX4 13 "SetterBenchModel" "sort" "[I"] ++ wsX40)
def wsX4_manyOn : List Cond := .code yX4_manyOn cX4_manyOn 2 (some .int) :: ([.fieldLink RX4 9 "SetterBenchModel" "lies" "[I", .fieldLink RX4 16 "SetterBenchModel" "many" "[I"] ++ wsX40)
def wsX4_isUsed : List Cond := .code yX4_isUsed cX4_isUsed 4 (some .boolean) :: ([.fieldLink RX4 32 "SetterBenchModel" "keeper" "I", .fieldLink RX4 9 "SetterBenchModel" "lies" "[I"] ++ wsX40)
def wsX4_lay : List Cond := .code yX4_lay cX4_lay 6 (some .boolean) :: ([.fieldLink RX4 9 "SetterBenchModel" "lies" "[I", .fieldLink RX4 13 "SetterBenchModel" "sort" "[I", .fieldLink RX4 16 "SetterBenchModel" "many" "[I", .fieldLink RX4 19 "SetterBenchModel" "lit" "[I", .fieldLink RX4 22 "SetterBenchModel" "members" "[J", .methodLink RX4 39 yX4_isPlace, .static yX4_isPlace, .initialized RX4, .code yX4_isPlace cX4_isPlace 1 (some .boolean), .methodLink RX4 43 yX4_isTray, .static yX4_isTray, .code yX4_isTray cX4_isTray 1 (some .boolean), .methodLink RX4 46 yX4_isUsed, .instanceMethod yX4_isUsed, .selects RX4 yX4_isUsed yX4_isUsed, .code yX4_isUsed cX4_isUsed 4 (some .boolean), .fieldLink RX4 32 "SetterBenchModel" "keeper" "I"] ++ wsX40)
def wsX4_share : List Cond := .code yX4_share cX4_share 3 (some .boolean) :: ([.fieldLink RX4 9 "SetterBenchModel" "lies" "[I", .methodLink RX4 39 yX4_isPlace, .static yX4_isPlace, .initialized RX4, .code yX4_isPlace cX4_isPlace 1 (some .boolean)] ++ wsX40)
def wsX4_set : List Cond := .code yX4_set cX4_set 7 (some .int) :: ([.fieldLink RX4 9 "SetterBenchModel" "lies" "[I", .constantLong RX4 59 (1000003), .fieldLink RX4 22 "SetterBenchModel" "members" "[J", .methodLink RX4 39 yX4_isPlace, .static yX4_isPlace, .initialized RX4, .code yX4_isPlace cX4_isPlace 1 (some .boolean), .methodLink RX4 49 yX4_sortOn, .instanceMethod yX4_sortOn, .selects RX4 yX4_sortOn yX4_sortOn, .code yX4_sortOn cX4_sortOn 2 (some .int), .fieldLink RX4 13 "SetterBenchModel" "sort" "[I", .methodLink RX4 53 yX4_isOfNumbers, .static yX4_isOfNumbers, .code yX4_isOfNumbers cX4_isOfNumbers 1 (some .boolean), .methodLink RX4 56 yX4_manyOn, .instanceMethod yX4_manyOn, .selects RX4 yX4_manyOn yX4_manyOn, .code yX4_manyOn cX4_manyOn 2 (some .int), .fieldLink RX4 16 "SetterBenchModel" "many" "[I"] ++ wsX40)
def wsX4_takes : List Cond := .code yX4_takes cX4_takes 4 (some .boolean) :: ([.constantLong RX4 61 (10)])
def wsX4_refusal : List Cond := .code yX4_refusal cX4_refusal 9 (some .int) :: ([.methodLink RX4 63 yX4_isOfStones, .static yX4_isOfStones, .initialized RX4, .code yX4_isOfStones cX4_isOfStones 1 (some .boolean)])
def wsX4_carry : List Cond := .code yX4_carry cX4_carry 7 (some .int) :: ([.fieldLink RX4 9 "SetterBenchModel" "lies" "[I", .fieldLink RX4 26 "SetterBenchModel" "carried" "[J", .fieldLink RX4 36 "SetterBenchModel" "counts" "[I", .fieldLink RX4 22 "SetterBenchModel" "members" "[J", .methodLink RX4 49 yX4_sortOn, .instanceMethod yX4_sortOn, .selects RX4 yX4_sortOn yX4_sortOn, .initialized RX4, .code yX4_sortOn cX4_sortOn 2 (some .int), .fieldLink RX4 13 "SetterBenchModel" "sort" "[I", .methodLink RX4 63 yX4_isOfStones, .static yX4_isOfStones, .code yX4_isOfStones cX4_isOfStones 1 (some .boolean), .methodLink RX4 66 yX4_takes, .static yX4_takes, .code yX4_takes cX4_takes 4 (some .boolean), .constantLong RX4 61 (10)] ++ wsX40)
def wsX4_put_r1 : List Cond := [Cond.fieldLink RX4 36 "SetterBenchModel" "counts" "[I", Cond.constantLong RX4 61 (10), Cond.fieldLink RX4 26 "SetterBenchModel" "carried" "[J", Cond.methodLink RX4 39 yX4_isPlace, Cond.static yX4_isPlace, Cond.initialized RX4, Cond.code yX4_isPlace cX4_isPlace 1 (some .boolean), Cond.methodLink RX4 49 yX4_sortOn, Cond.instanceMethod yX4_sortOn, Cond.selects RX4 yX4_sortOn yX4_sortOn, Cond.code yX4_sortOn cX4_sortOn 2 (some .int), Cond.fieldLink RX4 9 "SetterBenchModel" "lies" "[I", Cond.fieldLink RX4 13 "SetterBenchModel" "sort" "[I", Cond.methodLink RX4 56 yX4_manyOn, Cond.instanceMethod yX4_manyOn, Cond.selects RX4 yX4_manyOn yX4_manyOn, Cond.code yX4_manyOn cX4_manyOn 2 (some .int), Cond.fieldLink RX4 16 "SetterBenchModel" "many" "[I", Cond.methodLink RX4 70 yX4_refusal, Cond.static yX4_refusal, Cond.code yX4_refusal cX4_refusal 9 (some .int), Cond.methodLink RX4 63 yX4_isOfStones, Cond.static yX4_isOfStones, Cond.code yX4_isOfStones cX4_isOfStones 1 (some .boolean)]
def wsX4_put_r2 : List Cond := [Cond.methodLink RX4 74 yX4_carry, Cond.instanceMethod yX4_carry, Cond.selects RX4 yX4_carry yX4_carry, Cond.code yX4_carry cX4_carry 7 (some .int), Cond.fieldLink RX4 22 "SetterBenchModel" "members" "[J", Cond.methodLink RX4 66 yX4_takes, Cond.static yX4_takes, Cond.code yX4_takes cX4_takes 4 (some .boolean)]
def wsX4_put : List Cond := .code yX4_put cX4_put 7 (some .int) :: ((wsX4_put_r1 ++ wsX4_put_r2) ++ wsX40)
def wsX4_sweep_r1 : List Cond := [Cond.fieldLink RX4 36 "SetterBenchModel" "counts" "[I", Cond.fieldLink RX4 26 "SetterBenchModel" "carried" "[J", Cond.fieldLink RX4 22 "SetterBenchModel" "members" "[J", Cond.fieldLink RX4 9 "SetterBenchModel" "lies" "[I", Cond.fieldLink RX4 32 "SetterBenchModel" "keeper" "I", Cond.fieldLink RX4 16 "SetterBenchModel" "many" "[I", Cond.fieldLink RX4 29 "SetterBenchModel" "kept" "[J", Cond.methodLink RX4 39 yX4_isPlace, Cond.static yX4_isPlace, Cond.initialized RX4, Cond.code yX4_isPlace cX4_isPlace 1 (some .boolean), Cond.methodLink RX4 49 yX4_sortOn, Cond.instanceMethod yX4_sortOn, Cond.selects RX4 yX4_sortOn yX4_sortOn, Cond.code yX4_sortOn cX4_sortOn 2 (some .int), Cond.fieldLink RX4 13 "SetterBenchModel" "sort" "[I", Cond.methodLink RX4 56 yX4_manyOn, Cond.instanceMethod yX4_manyOn, Cond.selects RX4 yX4_manyOn yX4_manyOn, Cond.code yX4_manyOn cX4_manyOn 2 (some .int), Cond.methodLink RX4 70 yX4_refusal, Cond.static yX4_refusal, Cond.code yX4_refusal cX4_refusal 9 (some .int), Cond.methodLink RX4 63 yX4_isOfStones]
def wsX4_sweep_r2 : List Cond := [Cond.static yX4_isOfStones, Cond.code yX4_isOfStones cX4_isOfStones 1 (some .boolean), Cond.methodLink RX4 74 yX4_carry, Cond.instanceMethod yX4_carry, Cond.selects RX4 yX4_carry yX4_carry, Cond.code yX4_carry cX4_carry 7 (some .int), Cond.methodLink RX4 66 yX4_takes, Cond.static yX4_takes, Cond.code yX4_takes cX4_takes 4 (some .boolean), Cond.constantLong RX4 61 (10)]
def wsX4_sweep : List Cond := .code yX4_sweep cX4_sweep 8 (some .int) :: ((wsX4_sweep_r1 ++ wsX4_sweep_r2) ++ wsX40)
def wsX4_back : List Cond := .code yX4_back cX4_back 3 (some .int) :: ([.fieldLink RX4 32 "SetterBenchModel" "keeper" "I", .fieldLink RX4 16 "SetterBenchModel" "many" "[I", .fieldLink RX4 22 "SetterBenchModel" "members" "[J", .fieldLink RX4 29 "SetterBenchModel" "kept" "[J"] ++ wsX40)
def wsX4_light : List Cond := .code yX4_light cX4_light 2 (some .int) :: ([.fieldLink RX4 19 "SetterBenchModel" "lit" "[I", .fieldLink RX4 9 "SetterBenchModel" "lies" "[I", .methodLink RX4 39 yX4_isPlace, .static yX4_isPlace, .initialized RX4, .code yX4_isPlace cX4_isPlace 1 (some .boolean), .methodLink RX4 49 yX4_sortOn, .instanceMethod yX4_sortOn, .selects RX4 yX4_sortOn yX4_sortOn, .code yX4_sortOn cX4_sortOn 2 (some .int), .fieldLink RX4 13 "SetterBenchModel" "sort" "[I"] ++ wsX40)
def wsX4_member : List Cond := .code yX4_member cX4_member 3 (some .long) :: ([.constantLong RX4 78 (-1), .fieldLink RX4 22 "SetterBenchModel" "members" "[J", .fieldLink RX4 9 "SetterBenchModel" "lies" "[I", .methodLink RX4 39 yX4_isPlace, .static yX4_isPlace, .initialized RX4, .code yX4_isPlace cX4_isPlace 1 (some .boolean), .methodLink RX4 56 yX4_manyOn, .instanceMethod yX4_manyOn, .selects RX4 yX4_manyOn yX4_manyOn, .code yX4_manyOn cX4_manyOn 2 (some .int), .fieldLink RX4 16 "SetterBenchModel" "many" "[I"] ++ wsX40)
def wsX4_thing : List Cond := .code yX4_thing cX4_thing 4 (some .int) :: ([.fieldLink RX4 9 "SetterBenchModel" "lies" "[I", .methodLink RX4 39 yX4_isPlace, .static yX4_isPlace, .initialized RX4, .code yX4_isPlace cX4_isPlace 1 (some .boolean), .methodLink RX4 49 yX4_sortOn, .instanceMethod yX4_sortOn, .selects RX4 yX4_sortOn yX4_sortOn, .code yX4_sortOn cX4_sortOn 2 (some .int), .fieldLink RX4 13 "SetterBenchModel" "sort" "[I", .methodLink RX4 56 yX4_manyOn, .instanceMethod yX4_manyOn, .selects RX4 yX4_manyOn yX4_manyOn, .code yX4_manyOn cX4_manyOn 2 (some .int), .fieldLink RX4 16 "SetterBenchModel" "many" "[I"] ++ wsX40)
def wsX4_kindAt : List Cond := .code yX4_kindAt cX4_kindAt 3 (some .int) :: ([.fieldLink RX4 22 "SetterBenchModel" "members" "[J", .fieldLink RX4 9 "SetterBenchModel" "lies" "[I", .constantLong RX4 61 (10)] ++ wsX40)
def wsX4_worth : List Cond := .code yX4_worth cX4_worth 5 (some .int) :: ([.methodLink RX4 39 yX4_isPlace, .static yX4_isPlace, .initialized RX4, .code yX4_isPlace cX4_isPlace 1 (some .boolean), .methodLink RX4 49 yX4_sortOn, .instanceMethod yX4_sortOn, .selects RX4 yX4_sortOn yX4_sortOn, .code yX4_sortOn cX4_sortOn 2 (some .int), .fieldLink RX4 9 "SetterBenchModel" "lies" "[I", .fieldLink RX4 13 "SetterBenchModel" "sort" "[I", .methodLink RX4 63 yX4_isOfStones, .static yX4_isOfStones, .code yX4_isOfStones cX4_isOfStones 1 (some .boolean), .methodLink RX4 56 yX4_manyOn, .instanceMethod yX4_manyOn, .selects RX4 yX4_manyOn yX4_manyOn, .code yX4_manyOn cX4_manyOn 2 (some .int), .fieldLink RX4 16 "SetterBenchModel" "many" "[I", .methodLink RX4 80 yX4_kindAt, .instanceMethod yX4_kindAt, .selects RX4 yX4_kindAt yX4_kindAt, .code yX4_kindAt cX4_kindAt 3 (some .int), .fieldLink RX4 22 "SetterBenchModel" "members" "[J", .constantLong RX4 61 (10)] ++ wsX40)
def wsX4_mirror : List Cond := .code yX4_mirror cX4_mirror 6 (some .boolean) :: ([.methodLink RX4 39 yX4_isPlace, .static yX4_isPlace, .initialized RX4, .code yX4_isPlace cX4_isPlace 1 (some .boolean), .methodLink RX4 49 yX4_sortOn, .instanceMethod yX4_sortOn, .selects RX4 yX4_sortOn yX4_sortOn, .code yX4_sortOn cX4_sortOn 2 (some .int), .fieldLink RX4 9 "SetterBenchModel" "lies" "[I", .fieldLink RX4 13 "SetterBenchModel" "sort" "[I", .methodLink RX4 63 yX4_isOfStones, .static yX4_isOfStones, .code yX4_isOfStones cX4_isOfStones 1 (some .boolean), .methodLink RX4 56 yX4_manyOn, .instanceMethod yX4_manyOn, .selects RX4 yX4_manyOn yX4_manyOn, .code yX4_manyOn cX4_manyOn 2 (some .int), .fieldLink RX4 16 "SetterBenchModel" "many" "[I", .methodLink RX4 80 yX4_kindAt, .instanceMethod yX4_kindAt, .selects RX4 yX4_kindAt yX4_kindAt, .code yX4_kindAt cX4_kindAt 3 (some .int), .fieldLink RX4 22 "SetterBenchModel" "members" "[J", .constantLong RX4 61 (10)] ++ wsX40)
def wsX4_count : List Cond := .code yX4_count cX4_count 2 (some .int) :: ([.fieldLink RX4 36 "SetterBenchModel" "counts" "[I"] ++ wsX40)
def wsL_law_r1 : List Cond := [Cond.classLink RL 7 RX3, Cond.instantiable RX3 11, Cond.initialized RX3, Cond.classLink RL 10 RX4, Cond.instantiable RX4 9, Cond.initialized RX4, Cond.methodLink RL 9 yX3_init, Cond.instanceMethod yX3_init, Cond.code yX3_init cX3_init 1 none, Cond.methodLink RX3 1 objectInit, Cond.instanceMethod objectInit, Cond.code objectInit ⟨#[0xb1]⟩ 1 none, Cond.classLink RX3 9 RX1, Cond.fieldLink RX3 11 "SetterBench" "places" "[LSetterBench$Thing;", Cond.classLink RX3 15 RX2, Cond.instantiable RX2 2, Cond.initialized RX2, Cond.fieldLink RX3 20 "SetterBench" "hand" "LSetterBench$Tray;", Cond.arrayClass .long, Cond.fieldLink RX3 24 "SetterBench" "kept" "[J", Cond.methodLink RX3 17 yX2_init, Cond.instanceMethod yX2_init, Cond.code yX2_init cX2_init 3 none, Cond.fieldLink RX2 9 "SetterBench$Tray" "cells" "[J"]
def wsL_law_r2 : List Cond := [Cond.methodLink RX2 3 yX1_init, Cond.instanceMethod yX1_init, Cond.initialized RX1, Cond.code yX1_init cX1_init 2 none, Cond.methodLink RX1 1 objectInit, Cond.fieldLink RX1 7 "SetterBench$Thing" "sort" "I", Cond.methodLink RL 12 yX4_init, Cond.instanceMethod yX4_init, Cond.code yX4_init cX4_init 1 none, Cond.methodLink RX4 1 objectInit, Cond.arrayClass .int, Cond.fieldLink RX4 9 "SetterBenchModel" "lies" "[I", Cond.fieldLink RX4 13 "SetterBenchModel" "sort" "[I", Cond.fieldLink RX4 16 "SetterBenchModel" "many" "[I", Cond.fieldLink RX4 19 "SetterBenchModel" "lit" "[I", Cond.fieldLink RX4 22 "SetterBenchModel" "members" "[J", Cond.fieldLink RX4 26 "SetterBenchModel" "carried" "[J", Cond.fieldLink RX4 29 "SetterBenchModel" "kept" "[J", Cond.fieldLink RX4 32 "SetterBenchModel" "keeper" "I", Cond.fieldLink RX4 36 "SetterBenchModel" "counts" "[I", Cond.methodLink RL 13 yX3_lay, Cond.instanceMethod yX3_lay, Cond.selects RX3 yX3_lay yX3_lay, Cond.code yX3_lay cX3_lay 4 (some .boolean)]
def wsL_law_r3 : List Cond := [Cond.classLink RX3 32 RX0, Cond.instantiable RX0 2, Cond.initialized RX0, Cond.methodLink RX3 28 yX3_isPlace, Cond.static yX3_isPlace, Cond.code yX3_isPlace cX3_isPlace 1 (some .boolean), Cond.methodLink RX3 34 yX0_init, Cond.instanceMethod yX0_init, Cond.code yX0_init cX0_init 1 none, Cond.methodLink RX0 3 yX1_init, Cond.methodLink RL 17 yX4_lay, Cond.instanceMethod yX4_lay, Cond.selects RX4 yX4_lay yX4_lay, Cond.code yX4_lay cX4_lay 6 (some .boolean), Cond.methodLink RX4 39 yX4_isPlace, Cond.static yX4_isPlace, Cond.code yX4_isPlace cX4_isPlace 1 (some .boolean), Cond.methodLink RX4 43 yX4_isTray, Cond.static yX4_isTray, Cond.code yX4_isTray cX4_isTray 1 (some .boolean), Cond.methodLink RX4 46 yX4_isUsed, Cond.instanceMethod yX4_isUsed, Cond.selects RX4 yX4_isUsed yX4_isUsed, Cond.code yX4_isUsed cX4_isUsed 4 (some .boolean)]
def wsL_law_r4 : List Cond := [Cond.methodLink RL 18 yX3_share, Cond.instanceMethod yX3_share, Cond.selects RX3 yX3_share yX3_share, Cond.code yX3_share cX3_share 3 (some .boolean), Cond.methodLink RL 22 yX4_share, Cond.instanceMethod yX4_share, Cond.selects RX4 yX4_share yX4_share, Cond.code yX4_share cX4_share 3 (some .boolean), Cond.methodLink RL 23 yX3_set, Cond.instanceMethod yX3_set, Cond.selects RX3 yX3_set yX3_set, Cond.code yX3_set cX3_set 5 (some .int), Cond.fieldLink RX3 43 "SetterBench$Tray" "sort" "I", Cond.sameField "SetterBench$Tray" "SetterBench$Thing" "sort" "I", Cond.methodLink RX3 35 yX3_asTray, Cond.static yX3_asTray, Cond.code yX3_asTray cX3_asTray 2 (some (.object "SetterBench$Tray")), Cond.classLink RX3 15 "SetterBench$Tray", Cond.methodLink RX3 39 yX2_isOfStones, Cond.instanceMethod yX2_isOfStones, Cond.selects RX2 yX2_isOfStones yX2_isOfStones, Cond.code yX2_isOfStones cX2_isOfStones 1 (some .boolean), Cond.fieldLink RX2 15 "SetterBench$Tray" "sort" "I", Cond.methodLink RX3 47 yX3_numberFor]
def wsL_law_r5 : List Cond := [Cond.static yX3_numberFor, Cond.code yX3_numberFor cX3_numberFor 2 (some .long), Cond.constantLong RX3 125 (1000003), Cond.methodLink RX3 51 yX2_write, Cond.instanceMethod yX2_write, Cond.selects RX2 yX2_write yX2_write, Cond.code yX2_write cX2_write 4 (some .boolean), Cond.methodLink RX2 23 yX2_hasRun, Cond.instanceMethod yX2_hasRun, Cond.selects RX2 yX2_hasRun yX2_hasRun, Cond.code yX2_hasRun cX2_hasRun 3 (some .boolean), Cond.methodLink RL 27 yX4_set, Cond.instanceMethod yX4_set, Cond.selects RX4 yX4_set yX4_set, Cond.code yX4_set cX4_set 7 (some .int), Cond.constantLong RX4 59 (1000003), Cond.methodLink RX4 49 yX4_sortOn, Cond.instanceMethod yX4_sortOn, Cond.selects RX4 yX4_sortOn yX4_sortOn, Cond.code yX4_sortOn cX4_sortOn 2 (some .int), Cond.methodLink RX4 53 yX4_isOfNumbers, Cond.static yX4_isOfNumbers, Cond.code yX4_isOfNumbers cX4_isOfNumbers 1 (some .boolean), Cond.methodLink RX4 56 yX4_manyOn]
def wsL_law_r6 : List Cond := [Cond.instanceMethod yX4_manyOn, Cond.selects RX4 yX4_manyOn yX4_manyOn, Cond.code yX4_manyOn cX4_manyOn 2 (some .int), Cond.methodLink RL 28 yX3_put, Cond.instanceMethod yX3_put, Cond.selects RX3 yX3_put yX3_put, Cond.code yX3_put cX3_put 4 (some .int), Cond.methodLink RX3 55 yX3_newStone, Cond.instanceMethod yX3_newStone, Cond.selects RX3 yX3_newStone yX3_newStone, Cond.code yX3_newStone cX3_newStone 2 (some .long), Cond.fieldLink RX3 104 "SetterBench" "stonesMade" "I", Cond.constantLong RX3 127 (10), Cond.methodLink RX3 59 yX3_sweepThings, Cond.instanceMethod yX3_sweepThings, Cond.selects RX3 yX3_sweepThings yX3_sweepThings, Cond.code yX3_sweepThings cX3_sweepThings 8 (some .int), Cond.methodLink RX3 129 yX3_sweepOrRefuse, Cond.instanceMethod yX3_sweepOrRefuse, Cond.selects RX3 yX3_sweepOrRefuse yX3_sweepOrRefuse, Cond.code yX3_sweepOrRefuse cX3_sweepOrRefuse 10 (some .int), Cond.fieldLink RX3 122 "SetterBench" "carriedMembers" "I", Cond.methodLink RX3 136 yX2_isLike, Cond.instanceMethod yX2_isLike]
def wsL_law_r7 : List Cond := [Cond.selects RX2 yX2_isLike yX2_isLike, Cond.code yX2_isLike cX2_isLike 2 (some .boolean), Cond.methodLink RX2 19 yX2_isOfStones, Cond.methodLink RX3 140 yX2_hasRun, Cond.methodLink RX3 144 yX3_keep, Cond.instanceMethod yX3_keep, Cond.selects RX3 yX3_keep yX3_keep, Cond.code yX3_keep cX3_keep 2 none, Cond.fieldLink RX3 63 "SetterBench" "keptTray" "LSetterBench$Tray;", Cond.methodLink RX3 156 yX2_copyTo, Cond.instanceMethod yX2_copyTo, Cond.selects RX2 yX2_copyTo yX2_copyTo, Cond.code yX2_copyTo cX2_copyTo 2 none, Cond.methodLink RX2 42 arraycopyName, Cond.native arraycopyName, Cond.static arraycopyName, Cond.initialized "java/lang/System", Cond.methodLink RX3 148 yX2_howManyTaken, Cond.instanceMethod yX2_howManyTaken, Cond.selects RX2 yX2_howManyTaken yX2_howManyTaken, Cond.code yX2_howManyTaken cX2_howManyTaken 5 (some .int), Cond.methodLink RX2 31 yX2_stoneSortAt, Cond.instanceMethod yX2_stoneSortAt, Cond.selects RX2 yX2_stoneSortAt yX2_stoneSortAt]
def wsL_law_r8 : List Cond := [Cond.code yX2_stoneSortAt cX2_stoneSortAt 2 (some .int), Cond.constantLong RX2 29 (10), Cond.methodLink RX2 35 yX2_takesStone, Cond.instanceMethod yX2_takesStone, Cond.selects RX2 yX2_takesStone yX2_takesStone, Cond.code yX2_takesStone cX2_takesStone 2 (some .boolean), Cond.static yX3_isRound, Cond.code yX3_isRound cX3_isRound 1 (some .boolean), Cond.methodLink RX3 152 yX2_copyRun, Cond.instanceMethod yX2_copyRun, Cond.selects RX2 yX2_copyRun yX2_copyRun, Cond.code yX2_copyRun cX2_copyRun 5 none, Cond.methodLink RX3 132 yX3_tally, Cond.instanceMethod yX3_tally, Cond.selects RX3 yX3_tally yX3_tally, Cond.code yX3_tally cX3_tally 2 none, Cond.fieldLink RX3 107 "SetterBench" "doneSweeps" "I", Cond.fieldLink RX3 110 "SetterBench" "emptySweeps" "I", Cond.fieldLink RX3 113 "SetterBench" "unlikeSweeps" "I", Cond.fieldLink RX3 116 "SetterBench" "beyondSweeps" "I", Cond.fieldLink RX3 119 "SetterBench" "stoppedSweeps" "I", Cond.methodLink RL 31 yX4_put, Cond.instanceMethod yX4_put, Cond.selects RX4 yX4_put yX4_put]
def wsL_law_r9 : List Cond := [Cond.code yX4_put cX4_put 7 (some .int), Cond.constantLong RX4 61 (10), Cond.methodLink RX4 70 yX4_refusal, Cond.static yX4_refusal, Cond.code yX4_refusal cX4_refusal 9 (some .int), Cond.methodLink RX4 63 yX4_isOfStones, Cond.static yX4_isOfStones, Cond.code yX4_isOfStones cX4_isOfStones 1 (some .boolean), Cond.methodLink RX4 74 yX4_carry, Cond.instanceMethod yX4_carry, Cond.selects RX4 yX4_carry yX4_carry, Cond.code yX4_carry cX4_carry 7 (some .int), Cond.methodLink RX4 66 yX4_takes, Cond.static yX4_takes, Cond.code yX4_takes cX4_takes 4 (some .boolean), Cond.methodLink RL 32 yX3_sweep, Cond.instanceMethod yX3_sweep, Cond.selects RX3 yX3_sweep yX3_sweep, Cond.code yX3_sweep cX3_sweep 6 (some .int), Cond.methodLink RL 36 yX4_sweep, Cond.instanceMethod yX4_sweep, Cond.selects RX4 yX4_sweep yX4_sweep, Cond.code yX4_sweep cX4_sweep 8 (some .int), Cond.methodLink RL 37 yX3_back]
def wsL_law_r10 : List Cond := [Cond.instanceMethod yX3_back, Cond.selects RX3 yX3_back yX3_back, Cond.code yX3_back cX3_back 2 (some .int), Cond.methodLink RX3 66 yX2_copyFrom, Cond.instanceMethod yX2_copyFrom, Cond.selects RX2 yX2_copyFrom yX2_copyFrom, Cond.code yX2_copyFrom cX2_copyFrom 2 none, Cond.methodLink RX3 70 yX2_size, Cond.instanceMethod yX2_size, Cond.selects RX2 yX2_size yX2_size, Cond.code yX2_size cX2_size 1 (some .int), Cond.methodLink RL 41 yX4_back, Cond.instanceMethod yX4_back, Cond.selects RX4 yX4_back yX4_back, Cond.code yX4_back cX4_back 3 (some .int), Cond.methodLink RL 42 yX3_light, Cond.instanceMethod yX3_light, Cond.selects RX3 yX3_light yX3_light, Cond.code yX3_light cX3_light 4 (some .int), Cond.classLink RX3 32 "SetterBench$Lamp", Cond.fieldLink RX3 74 "SetterBench$Lamp" "timesLit" "I", Cond.methodLink RL 46 yX4_light, Cond.instanceMethod yX4_light, Cond.selects RX4 yX4_light yX4_light]
def wsL_law_r11 : List Cond := [Cond.code yX4_light cX4_light 2 (some .int), Cond.methodLink RL 47 yX3_member, Cond.instanceMethod yX3_member, Cond.selects RX3 yX3_member yX3_member, Cond.code yX3_member cX3_member 4 (some .long), Cond.constantLong RX3 81 (-1), Cond.methodLink RX3 77 yX3_trayOn, Cond.instanceMethod yX3_trayOn, Cond.selects RX3 yX3_trayOn yX3_trayOn, Cond.code yX3_trayOn cX3_trayOn 2 (some (.object "SetterBench$Tray")), Cond.methodLink RX3 83 yX2_read, Cond.instanceMethod yX2_read, Cond.selects RX2 yX2_read yX2_read, Cond.code yX2_read cX2_read 2 (some .long), Cond.constantLong RX2 27 (-1), Cond.methodLink RL 51 yX4_member, Cond.instanceMethod yX4_member, Cond.selects RX4 yX4_member yX4_member, Cond.code yX4_member cX4_member 3 (some .long), Cond.constantLong RX4 78 (-1), Cond.methodLink RL 52 yX3_thing, Cond.instanceMethod yX3_thing, Cond.selects RX3 yX3_thing yX3_thing, Cond.code yX3_thing cX3_thing 4 (some .int)]
def wsL_law_r12 : List Cond := [Cond.fieldLink RX3 86 "SetterBench$Thing" "sort" "I", Cond.methodLink RX3 87 yX3_sizeOf, Cond.static yX3_sizeOf, Cond.code yX3_sizeOf cX3_sizeOf 2 (some .int), Cond.methodLink RX3 91 yX3_leastPlaceOf, Cond.instanceMethod yX3_leastPlaceOf, Cond.selects RX3 yX3_leastPlaceOf yX3_leastPlaceOf, Cond.code yX3_leastPlaceOf cX3_leastPlaceOf 3 (some .int), Cond.methodLink RL 56 yX4_thing, Cond.instanceMethod yX4_thing, Cond.selects RX4 yX4_thing yX4_thing, Cond.code yX4_thing cX4_thing 4 (some .int), Cond.methodLink RL 57 yX3_worth, Cond.instanceMethod yX3_worth, Cond.selects RX3 yX3_worth yX3_worth, Cond.code yX3_worth cX3_worth 7 (some .int), Cond.methodLink RX3 94 yX2_stoneSortAt, Cond.methodLink RX3 98 yX3_worthOfStone, Cond.static yX3_worthOfStone, Cond.code yX3_worthOfStone cX3_worthOfStone 1 (some .int), Cond.methodLink RX3 101 yX3_isRound, Cond.methodLink RL 60 yX4_worth, Cond.instanceMethod yX4_worth, Cond.selects RX4 yX4_worth yX4_worth]
def wsL_law_r13 : List Cond := [Cond.code yX4_worth cX4_worth 5 (some .int), Cond.methodLink RX4 80 yX4_kindAt, Cond.instanceMethod yX4_kindAt, Cond.selects RX4 yX4_kindAt yX4_kindAt, Cond.code yX4_kindAt cX4_kindAt 3 (some .int), Cond.methodLink RL 61 yX3_mirror, Cond.instanceMethod yX3_mirror, Cond.selects RX3 yX3_mirror yX3_mirror, Cond.code yX3_mirror cX3_mirror 7 (some .boolean), Cond.methodLink RL 64 yX4_mirror, Cond.instanceMethod yX4_mirror, Cond.selects RX4 yX4_mirror yX4_mirror, Cond.code yX4_mirror cX4_mirror 6 (some .boolean), Cond.methodLink RL 65 yX3_count, Cond.instanceMethod yX3_count, Cond.selects RX3 yX3_count yX3_count, Cond.code yX3_count cX3_count 2 (some .int), Cond.methodLink RL 68 yX4_count, Cond.instanceMethod yX4_count, Cond.selects RX4 yX4_count yX4_count, Cond.code yX4_count cX4_count 2 (some .int)]
def wsL_law : List Cond := (wsL_law_r1 ++ (wsL_law_r2 ++ (wsL_law_r3 ++ (wsL_law_r4 ++ (wsL_law_r5 ++ (wsL_law_r6 ++ (wsL_law_r7 ++ (wsL_law_r8 ++ (wsL_law_r9 ++ (wsL_law_r10 ++ (wsL_law_r11 ++ (wsL_law_r12 ++ wsL_law_r13)))))))))))) ++ wsX30 ++ wsX40 ++ wsX20 ++ wsX00 ++ ([] : List Cond)
set_option maxRecDepth 20000 in
theorem wsL_law_in : ∀ w ∈ wsL_law, w ∈ lw_tbl := fun w h => (goodIn_p wsL_law [24, 27, 34, 37, 254, 88, 91, 96, 288, 291, 294, 298, 106, 302, 110, 113, 117, 120, 125, 129, 306, 310, 313, 317, 133, 137, 142, 146, 150, 156, 160, 167, 171, 176, 179, 183, 187, 322, 326, 329, 333, 336, 191, 340, 195, 199, 203, 344, 207, 348, 211, 215, 220, 352, 225, 228, 232, 357, 236, 240, 361, 365, 245, 369, 249, 373] (by decide +kernel) (by decide +kernel) w h).1
theorem inlX0 : ∀ w ∈ wsX00, w ∈ wsL_law := fun _ h => List.mem_append_left _ (List.mem_append_right _ h)
theorem inX0 : ∀ w ∈ wsX00, w ∈ lw_tbl := fun w h => wsL_law_in w (inlX0 w h)
theorem inX1 : ∀ w ∈ wsX10, w ∈ lw_tbl := by decide +kernel
theorem inlX2 : ∀ w ∈ wsX20, w ∈ wsL_law := fun _ h => List.mem_append_left _ (List.mem_append_left _ (List.mem_append_right _ h))
theorem inX2 : ∀ w ∈ wsX20, w ∈ lw_tbl := fun w h => wsL_law_in w (inlX2 w h)
theorem inlX3 : ∀ w ∈ wsX30, w ∈ wsL_law := fun _ h => List.mem_append_left _ (List.mem_append_left _ (List.mem_append_left _ (List.mem_append_left _ (List.mem_append_right _ h))))
theorem inX3 : ∀ w ∈ wsX30, w ∈ lw_tbl := fun w h => wsL_law_in w (inlX3 w h)
theorem inlX4 : ∀ w ∈ wsX40, w ∈ wsL_law := fun _ h => List.mem_append_left _ (List.mem_append_left _ (List.mem_append_left _ (List.mem_append_right _ h)))
theorem inX4 : ∀ w ∈ wsX40, w ∈ lw_tbl := fun w h => wsL_law_in w (inlX4 w h)
theorem inJ10 : ∀ w ∈ wsJ100, w ∈ lw_tbl := by decide +kernel
set_option maxRecDepth 20000 in
theorem ggX0_init_X1_init : GoodIn wsX0_init wsX1_init := goodIn_r _ [4, 5, 6, 7, 8, 9, 10, 11, 12] (by decide +kernel) (by decide +kernel)
set_option maxRecDepth 20000 in
theorem gX0_init_X1_init : GoodIn wsX0_init (wsX1_init) := ggX0_init_X1_init
theorem dX0_init_0 : decode cX0_init 0 = .ok (.aload_n 0, 1) := by decide +kernel
theorem dX0_init_1 : decode cX0_init 1 = .ok (.iconst 1, 1) := by decide +kernel
theorem dX0_init_2 : decode cX0_init 2 = .ok (.invokespecial 3, 3) := by decide +kernel
theorem dX0_init_5 : decode cX0_init 5 = .ok (.return_, 1) := by decide +kernel
theorem dX1_init_0 : decode cX1_init 0 = .ok (.aload_n 0, 1) := by decide +kernel
theorem dX1_init_1 : decode cX1_init 1 = .ok (.invokespecial 1, 3) := by decide +kernel
theorem dX1_init_4 : decode cX1_init 4 = .ok (.aload_n 0, 1) := by decide +kernel
theorem dX1_init_5 : decode cX1_init 5 = .ok (.iload_n 1, 1) := by decide +kernel
theorem dX1_init_6 : decode cX1_init 6 = .ok (.putfield 7, 3) := by decide +kernel
theorem dX1_init_9 : decode cX1_init 9 = .ok (.return_, 1) := by decide +kernel
set_option maxRecDepth 20000 in
theorem ggX2_init_X1_init : GoodIn wsX2_init wsX1_init := goodIn_r _ [6, 7, 8, 9, 10, 13, 14, 11, 12] (by decide +kernel) (by decide +kernel)
set_option maxRecDepth 20000 in
theorem gX2_init_X1_init : GoodIn wsX2_init (wsX1_init) := ggX2_init_X1_init
theorem dX2_init_0 : decode cX2_init 0 = .ok (.aload_n 0, 1) := by decide +kernel
theorem dX2_init_1 : decode cX2_init 1 = .ok (.iload_n 1, 1) := by decide +kernel
theorem dX2_init_2 : decode cX2_init 2 = .ok (.invokespecial 3, 3) := by decide +kernel
theorem dX2_init_5 : decode cX2_init 5 = .ok (.aload_n 0, 1) := by decide +kernel
theorem dX2_init_6 : decode cX2_init 6 = .ok (.iload_n 2, 1) := by decide +kernel
theorem dX2_init_7 : decode cX2_init 7 = .ok (.newarray .long, 2) := by decide +kernel
theorem dX2_init_9 : decode cX2_init 9 = .ok (.putfield 9, 3) := by decide +kernel
theorem dX2_init_12 : decode cX2_init 12 = .ok (.return_, 1) := by decide +kernel
theorem dX2_size_0 : decode cX2_size 0 = .ok (.aload_n 0, 1) := by decide +kernel
theorem dX2_size_1 : decode cX2_size 1 = .ok (.getfield 9, 3) := by decide +kernel
theorem dX2_size_4 : decode cX2_size 4 = .ok (.arraylength, 1) := by decide +kernel
theorem dX2_size_5 : decode cX2_size 5 = .ok (.ireturn, 1) := by decide +kernel
theorem dX2_isOfStones_0 : decode cX2_isOfStones 0 = .ok (.aload_n 0, 1) := by decide +kernel
theorem dX2_isOfStones_1 : decode cX2_isOfStones 1 = .ok (.getfield 15, 3) := by decide +kernel
theorem dX2_isOfStones_4 : decode cX2_isOfStones 4 = .ok (.bipush 6, 2) := by decide +kernel
theorem dX2_isOfStones_6 : decode cX2_isOfStones 6 = .ok (.if_icmp .lt 7, 3) := by decide +kernel
theorem dX2_isOfStones_9 : decode cX2_isOfStones 9 = .ok (.iconst 1, 1) := by decide +kernel
theorem dX2_isOfStones_10 : decode cX2_isOfStones 10 = .ok (.goto 4, 3) := by decide +kernel
theorem dX2_isOfStones_13 : decode cX2_isOfStones 13 = .ok (.iconst 0, 1) := by decide +kernel
theorem dX2_isOfStones_14 : decode cX2_isOfStones 14 = .ok (.ireturn, 1) := by decide +kernel
set_option maxRecDepth 20000 in
theorem ggX2_isLike_X2_isOfStones : GoodIn wsX2_isLike wsX2_isOfStones := goodIn_r _ [7, 1, 2, 8, 9, 10, 11] (by decide +kernel) (by decide +kernel)
set_option maxRecDepth 20000 in
theorem gX2_isLike_X2_isOfStones : GoodIn wsX2_isLike (wsV RX2 19 RX2 yX2_isOfStones wsX2_isOfStones) := goodIn_app (goodIn_of _ (by decide +kernel)) ggX2_isLike_X2_isOfStones
theorem dX2_isLike_0 : decode cX2_isLike 0 = .ok (.aload_n 0, 1) := by decide +kernel
theorem dX2_isLike_1 : decode cX2_isLike 1 = .ok (.getfield 15, 3) := by decide +kernel
theorem dX2_isLike_4 : decode cX2_isLike 4 = .ok (.aload_n 1, 1) := by decide +kernel
theorem dX2_isLike_5 : decode cX2_isLike 5 = .ok (.getfield 15, 3) := by decide +kernel
theorem dX2_isLike_8 : decode cX2_isLike 8 = .ok (.if_icmp .eq 17, 3) := by decide +kernel
theorem dX2_isLike_11 : decode cX2_isLike 11 = .ok (.aload_n 0, 1) := by decide +kernel
theorem dX2_isLike_12 : decode cX2_isLike 12 = .ok (.invokevirtual 19, 3) := by decide +kernel
theorem dX2_isLike_15 : decode cX2_isLike 15 = .ok (.ifCond .eq 14, 3) := by decide +kernel
theorem dX2_isLike_18 : decode cX2_isLike 18 = .ok (.aload_n 1, 1) := by decide +kernel
theorem dX2_isLike_19 : decode cX2_isLike 19 = .ok (.invokevirtual 19, 3) := by decide +kernel
theorem dX2_isLike_22 : decode cX2_isLike 22 = .ok (.ifCond .eq 7, 3) := by decide +kernel
theorem dX2_isLike_25 : decode cX2_isLike 25 = .ok (.iconst 1, 1) := by decide +kernel
theorem dX2_isLike_26 : decode cX2_isLike 26 = .ok (.goto 4, 3) := by decide +kernel
theorem dX2_isLike_29 : decode cX2_isLike 29 = .ok (.iconst 0, 1) := by decide +kernel
theorem dX2_isLike_30 : decode cX2_isLike 30 = .ok (.ireturn, 1) := by decide +kernel
theorem dX2_hasRun_0 : decode cX2_hasRun 0 = .ok (.iload_n 1, 1) := by decide +kernel
theorem dX2_hasRun_1 : decode cX2_hasRun 1 = .ok (.ifCond .lt 26, 3) := by decide +kernel
theorem dX2_hasRun_4 : decode cX2_hasRun 4 = .ok (.iload_n 2, 1) := by decide +kernel
theorem dX2_hasRun_5 : decode cX2_hasRun 5 = .ok (.ifCond .lt 22, 3) := by decide +kernel
theorem dX2_hasRun_8 : decode cX2_hasRun 8 = .ok (.iload_n 1, 1) := by decide +kernel
theorem dX2_hasRun_9 : decode cX2_hasRun 9 = .ok (.i2l, 1) := by decide +kernel
theorem dX2_hasRun_10 : decode cX2_hasRun 10 = .ok (.iload_n 2, 1) := by decide +kernel
theorem dX2_hasRun_11 : decode cX2_hasRun 11 = .ok (.i2l, 1) := by decide +kernel
theorem dX2_hasRun_12 : decode cX2_hasRun 12 = .ok (.ladd, 1) := by decide +kernel
theorem dX2_hasRun_13 : decode cX2_hasRun 13 = .ok (.aload_n 0, 1) := by decide +kernel
theorem dX2_hasRun_14 : decode cX2_hasRun 14 = .ok (.getfield 9, 3) := by decide +kernel
theorem dX2_hasRun_17 : decode cX2_hasRun 17 = .ok (.arraylength, 1) := by decide +kernel
theorem dX2_hasRun_18 : decode cX2_hasRun 18 = .ok (.i2l, 1) := by decide +kernel
theorem dX2_hasRun_19 : decode cX2_hasRun 19 = .ok (.lcmp, 1) := by decide +kernel
theorem dX2_hasRun_20 : decode cX2_hasRun 20 = .ok (.ifCond .gt 7, 3) := by decide +kernel
theorem dX2_hasRun_23 : decode cX2_hasRun 23 = .ok (.iconst 1, 1) := by decide +kernel
theorem dX2_hasRun_24 : decode cX2_hasRun 24 = .ok (.goto 4, 3) := by decide +kernel
theorem dX2_hasRun_27 : decode cX2_hasRun 27 = .ok (.iconst 0, 1) := by decide +kernel
theorem dX2_hasRun_28 : decode cX2_hasRun 28 = .ok (.ireturn, 1) := by decide +kernel
set_option maxRecDepth 20000 in
theorem ggX2_read_X2_hasRun : GoodIn wsX2_read wsX2_hasRun := goodIn_r _ [7, 1, 8, 9] (by decide +kernel) (by decide +kernel)
set_option maxRecDepth 20000 in
theorem gX2_read_X2_hasRun : GoodIn wsX2_read (wsV RX2 23 RX2 yX2_hasRun wsX2_hasRun) := goodIn_app (goodIn_of _ (by decide +kernel)) ggX2_read_X2_hasRun
theorem dX2_read_0 : decode cX2_read 0 = .ok (.aload_n 0, 1) := by decide +kernel
theorem dX2_read_1 : decode cX2_read 1 = .ok (.iload_n 1, 1) := by decide +kernel
theorem dX2_read_2 : decode cX2_read 2 = .ok (.iconst 1, 1) := by decide +kernel
theorem dX2_read_3 : decode cX2_read 3 = .ok (.invokevirtual 23, 3) := by decide +kernel
theorem dX2_read_6 : decode cX2_read 6 = .ok (.ifCond .eq 12, 3) := by decide +kernel
theorem dX2_read_9 : decode cX2_read 9 = .ok (.aload_n 0, 1) := by decide +kernel
theorem dX2_read_10 : decode cX2_read 10 = .ok (.getfield 9, 3) := by decide +kernel
theorem dX2_read_13 : decode cX2_read 13 = .ok (.iload_n 1, 1) := by decide +kernel
theorem dX2_read_14 : decode cX2_read 14 = .ok (.laload, 1) := by decide +kernel
theorem dX2_read_15 : decode cX2_read 15 = .ok (.goto 6, 3) := by decide +kernel
theorem dX2_read_18 : decode cX2_read 18 = .ok (.ldc2_w 27, 3) := by decide +kernel
theorem dX2_read_21 : decode cX2_read 21 = .ok (.lreturn, 1) := by decide +kernel
set_option maxRecDepth 20000 in
theorem ggX2_write_X2_hasRun : GoodIn wsX2_write wsX2_hasRun := goodIn_r _ [6, 1, 7, 8] (by decide +kernel) (by decide +kernel)
set_option maxRecDepth 20000 in
theorem gX2_write_X2_hasRun : GoodIn wsX2_write (wsV RX2 23 RX2 yX2_hasRun wsX2_hasRun) := goodIn_app (goodIn_of _ (by decide +kernel)) ggX2_write_X2_hasRun
theorem dX2_write_0 : decode cX2_write 0 = .ok (.aload_n 0, 1) := by decide +kernel
theorem dX2_write_1 : decode cX2_write 1 = .ok (.iload_n 1, 1) := by decide +kernel
theorem dX2_write_2 : decode cX2_write 2 = .ok (.iconst 1, 1) := by decide +kernel
theorem dX2_write_3 : decode cX2_write 3 = .ok (.invokevirtual 23, 3) := by decide +kernel
theorem dX2_write_6 : decode cX2_write 6 = .ok (.ifCond .ne 5, 3) := by decide +kernel
theorem dX2_write_9 : decode cX2_write 9 = .ok (.iconst 0, 1) := by decide +kernel
theorem dX2_write_10 : decode cX2_write 10 = .ok (.ireturn, 1) := by decide +kernel
theorem dX2_write_11 : decode cX2_write 11 = .ok (.aload_n 0, 1) := by decide +kernel
theorem dX2_write_12 : decode cX2_write 12 = .ok (.getfield 9, 3) := by decide +kernel
theorem dX2_write_15 : decode cX2_write 15 = .ok (.iload_n 1, 1) := by decide +kernel
theorem dX2_write_16 : decode cX2_write 16 = .ok (.lload_n 2, 1) := by decide +kernel
theorem dX2_write_17 : decode cX2_write 17 = .ok (.lastore, 1) := by decide +kernel
theorem dX2_write_18 : decode cX2_write 18 = .ok (.iconst 1, 1) := by decide +kernel
theorem dX2_write_19 : decode cX2_write 19 = .ok (.ireturn, 1) := by decide +kernel
set_option maxRecDepth 20000 in
theorem ggX2_stoneSortAt_X2_hasRun : GoodIn wsX2_stoneSortAt wsX2_hasRun := goodIn_r _ [7, 1, 8, 9] (by decide +kernel) (by decide +kernel)
set_option maxRecDepth 20000 in
theorem gX2_stoneSortAt_X2_hasRun : GoodIn wsX2_stoneSortAt (wsV RX2 23 RX2 yX2_hasRun wsX2_hasRun) := goodIn_app (goodIn_of _ (by decide +kernel)) ggX2_stoneSortAt_X2_hasRun
theorem dX2_stoneSortAt_0 : decode cX2_stoneSortAt 0 = .ok (.aload_n 0, 1) := by decide +kernel
theorem dX2_stoneSortAt_1 : decode cX2_stoneSortAt 1 = .ok (.iload_n 1, 1) := by decide +kernel
theorem dX2_stoneSortAt_2 : decode cX2_stoneSortAt 2 = .ok (.iconst 1, 1) := by decide +kernel
theorem dX2_stoneSortAt_3 : decode cX2_stoneSortAt 3 = .ok (.invokevirtual 23, 3) := by decide +kernel
theorem dX2_stoneSortAt_6 : decode cX2_stoneSortAt 6 = .ok (.ifCond .eq 17, 3) := by decide +kernel
theorem dX2_stoneSortAt_9 : decode cX2_stoneSortAt 9 = .ok (.aload_n 0, 1) := by decide +kernel
theorem dX2_stoneSortAt_10 : decode cX2_stoneSortAt 10 = .ok (.getfield 9, 3) := by decide +kernel
theorem dX2_stoneSortAt_13 : decode cX2_stoneSortAt 13 = .ok (.iload_n 1, 1) := by decide +kernel
theorem dX2_stoneSortAt_14 : decode cX2_stoneSortAt 14 = .ok (.laload, 1) := by decide +kernel
theorem dX2_stoneSortAt_15 : decode cX2_stoneSortAt 15 = .ok (.ldc2_w 29, 3) := by decide +kernel
theorem dX2_stoneSortAt_18 : decode cX2_stoneSortAt 18 = .ok (.lrem, 1) := by decide +kernel
theorem dX2_stoneSortAt_19 : decode cX2_stoneSortAt 19 = .ok (.l2i, 1) := by decide +kernel
theorem dX2_stoneSortAt_20 : decode cX2_stoneSortAt 20 = .ok (.goto 4, 3) := by decide +kernel
theorem dX2_stoneSortAt_23 : decode cX2_stoneSortAt 23 = .ok (.iconst 0, 1) := by decide +kernel
theorem dX2_stoneSortAt_24 : decode cX2_stoneSortAt 24 = .ok (.ireturn, 1) := by decide +kernel
set_option maxRecDepth 20000 in
theorem ggX2_howManyTaken_X2_isOfStones : GoodIn wsX2_howManyTaken wsX2_isOfStones := goodIn_r _ [5, 6, 7, 25, 26, 27, 28] (by decide +kernel) (by decide +kernel)
set_option maxRecDepth 20000 in
theorem gX2_howManyTaken_X2_isOfStones : GoodIn wsX2_howManyTaken (wsV RX2 19 RX2 yX2_isOfStones wsX2_isOfStones) := goodIn_app (goodIn_of _ (by decide +kernel)) ggX2_howManyTaken_X2_isOfStones
set_option maxRecDepth 20000 in
theorem ggX2_howManyTaken_X2_stoneSortAt : GoodIn wsX2_howManyTaken wsX2_stoneSortAt := goodIn_r _ [11, 12, 13, 14, 15, 16, 4, 17, 27, 28] (by decide +kernel) (by decide +kernel)
set_option maxRecDepth 20000 in
theorem gX2_howManyTaken_X2_stoneSortAt : GoodIn wsX2_howManyTaken (wsV RX2 31 RX2 yX2_stoneSortAt wsX2_stoneSortAt) := goodIn_app (goodIn_of _ (by decide +kernel)) ggX2_howManyTaken_X2_stoneSortAt
set_option maxRecDepth 20000 in
theorem ggX2_howManyTaken_X2_takesStone : GoodIn wsX2_howManyTaken wsX2_takesStone := goodIn_r _ [21, 6, 7, 22, 23, 24, 25, 26, 27, 28] (by decide +kernel) (by decide +kernel)
set_option maxRecDepth 20000 in
theorem gX2_howManyTaken_X2_takesStone : GoodIn wsX2_howManyTaken (wsV RX2 35 RX2 yX2_takesStone wsX2_takesStone) := goodIn_app (goodIn_of _ (by decide +kernel)) ggX2_howManyTaken_X2_takesStone
theorem dX2_howManyTaken_0 : decode cX2_howManyTaken 0 = .ok (.aload_n 0, 1) := by decide +kernel
theorem dX2_howManyTaken_1 : decode cX2_howManyTaken 1 = .ok (.invokevirtual 19, 3) := by decide +kernel
theorem dX2_howManyTaken_4 : decode cX2_howManyTaken 4 = .ok (.ifCond .ne 5, 3) := by decide +kernel
theorem dX2_howManyTaken_7 : decode cX2_howManyTaken 7 = .ok (.iload_n 3, 1) := by decide +kernel
theorem dX2_howManyTaken_8 : decode cX2_howManyTaken 8 = .ok (.ireturn, 1) := by decide +kernel
theorem dX2_howManyTaken_9 : decode cX2_howManyTaken 9 = .ok (.iconst 0, 1) := by decide +kernel
theorem dX2_howManyTaken_10 : decode cX2_howManyTaken 10 = .ok (.istore 4, 2) := by decide +kernel
theorem dX2_howManyTaken_12 : decode cX2_howManyTaken 12 = .ok (.iload 4, 2) := by decide +kernel
theorem dX2_howManyTaken_14 : decode cX2_howManyTaken 14 = .ok (.iload_n 3, 1) := by decide +kernel
theorem dX2_howManyTaken_15 : decode cX2_howManyTaken 15 = .ok (.if_icmp .ge 27, 3) := by decide +kernel
theorem dX2_howManyTaken_18 : decode cX2_howManyTaken 18 = .ok (.aload_n 0, 1) := by decide +kernel
theorem dX2_howManyTaken_19 : decode cX2_howManyTaken 19 = .ok (.aload_n 1, 1) := by decide +kernel
theorem dX2_howManyTaken_20 : decode cX2_howManyTaken 20 = .ok (.iload_n 2, 1) := by decide +kernel
theorem dX2_howManyTaken_21 : decode cX2_howManyTaken 21 = .ok (.iload 4, 2) := by decide +kernel
theorem dX2_howManyTaken_23 : decode cX2_howManyTaken 23 = .ok (.iadd, 1) := by decide +kernel
theorem dX2_howManyTaken_24 : decode cX2_howManyTaken 24 = .ok (.invokevirtual 31, 3) := by decide +kernel
theorem dX2_howManyTaken_27 : decode cX2_howManyTaken 27 = .ok (.invokevirtual 35, 3) := by decide +kernel
theorem dX2_howManyTaken_30 : decode cX2_howManyTaken 30 = .ok (.ifCond .ne 6, 3) := by decide +kernel
theorem dX2_howManyTaken_33 : decode cX2_howManyTaken 33 = .ok (.iload 4, 2) := by decide +kernel
theorem dX2_howManyTaken_35 : decode cX2_howManyTaken 35 = .ok (.ireturn, 1) := by decide +kernel
theorem dX2_howManyTaken_36 : decode cX2_howManyTaken 36 = .ok (.iinc 4 1, 3) := by decide +kernel
theorem dX2_howManyTaken_39 : decode cX2_howManyTaken 39 = .ok (.goto (-27), 3) := by decide +kernel
theorem dX2_howManyTaken_42 : decode cX2_howManyTaken 42 = .ok (.iload_n 3, 1) := by decide +kernel
theorem dX2_howManyTaken_43 : decode cX2_howManyTaken 43 = .ok (.ireturn, 1) := by decide +kernel
set_option maxRecDepth 20000 in
theorem ggX2_takesStone_X3_isRound : GoodIn wsX2_takesStone wsX3_isRound := goodIn_r _ [5] (by decide +kernel) (by decide +kernel)
set_option maxRecDepth 20000 in
theorem gX2_takesStone_X3_isRound_n39 : GoodIn wsX2_takesStone (wsX3_isRound) := ggX2_takesStone_X3_isRound
theorem dX2_takesStone_0 : decode cX2_takesStone 0 = .ok (.iload_n 1, 1) := by decide +kernel
theorem dX2_takesStone_1 : decode cX2_takesStone 1 = .ok (.ifCond .ne 5, 3) := by decide +kernel
theorem dX2_takesStone_4 : decode cX2_takesStone 4 = .ok (.iconst 1, 1) := by decide +kernel
theorem dX2_takesStone_5 : decode cX2_takesStone 5 = .ok (.ireturn, 1) := by decide +kernel
theorem dX2_takesStone_6 : decode cX2_takesStone 6 = .ok (.aload_n 0, 1) := by decide +kernel
theorem dX2_takesStone_7 : decode cX2_takesStone 7 = .ok (.getfield 15, 3) := by decide +kernel
theorem dX2_takesStone_10 : decode cX2_takesStone 10 = .ok (.tableswitch 73 7 10 #[30, 46, 57, 68], 30) := by decide +kernel
theorem dX2_takesStone_40 : decode cX2_takesStone 40 = .ok (.iload_n 1, 1) := by decide +kernel
theorem dX2_takesStone_41 : decode cX2_takesStone 41 = .ok (.iconst 2, 1) := by decide +kernel
theorem dX2_takesStone_42 : decode cX2_takesStone 42 = .ok (.if_icmp .eq 8, 3) := by decide +kernel
theorem dX2_takesStone_45 : decode cX2_takesStone 45 = .ok (.iload_n 1, 1) := by decide +kernel
theorem dX2_takesStone_46 : decode cX2_takesStone 46 = .ok (.iconst 3, 1) := by decide +kernel
theorem dX2_takesStone_47 : decode cX2_takesStone 47 = .ok (.if_icmp .ne 7, 3) := by decide +kernel
theorem dX2_takesStone_50 : decode cX2_takesStone 50 = .ok (.iconst 1, 1) := by decide +kernel
theorem dX2_takesStone_51 : decode cX2_takesStone 51 = .ok (.goto 4, 3) := by decide +kernel
theorem dX2_takesStone_54 : decode cX2_takesStone 54 = .ok (.iconst 0, 1) := by decide +kernel
theorem dX2_takesStone_55 : decode cX2_takesStone 55 = .ok (.ireturn, 1) := by decide +kernel
theorem dX2_takesStone_56 : decode cX2_takesStone 56 = .ok (.iload_n 1, 1) := by decide +kernel
theorem dX2_takesStone_57 : decode cX2_takesStone 57 = .ok (.iconst 3, 1) := by decide +kernel
theorem dX2_takesStone_58 : decode cX2_takesStone 58 = .ok (.if_icmp .ne 7, 3) := by decide +kernel
theorem dX2_takesStone_61 : decode cX2_takesStone 61 = .ok (.iconst 1, 1) := by decide +kernel
theorem dX2_takesStone_62 : decode cX2_takesStone 62 = .ok (.goto 4, 3) := by decide +kernel
theorem dX2_takesStone_65 : decode cX2_takesStone 65 = .ok (.iconst 0, 1) := by decide +kernel
theorem dX2_takesStone_66 : decode cX2_takesStone 66 = .ok (.ireturn, 1) := by decide +kernel
theorem dX2_takesStone_67 : decode cX2_takesStone 67 = .ok (.iload_n 1, 1) := by decide +kernel
theorem dX2_takesStone_68 : decode cX2_takesStone 68 = .ok (.iconst 4, 1) := by decide +kernel
theorem dX2_takesStone_69 : decode cX2_takesStone 69 = .ok (.if_icmp .ne 7, 3) := by decide +kernel
theorem dX2_takesStone_72 : decode cX2_takesStone 72 = .ok (.iconst 1, 1) := by decide +kernel
theorem dX2_takesStone_73 : decode cX2_takesStone 73 = .ok (.goto 4, 3) := by decide +kernel
theorem dX2_takesStone_76 : decode cX2_takesStone 76 = .ok (.iconst 0, 1) := by decide +kernel
theorem dX2_takesStone_77 : decode cX2_takesStone 77 = .ok (.ireturn, 1) := by decide +kernel
theorem dX2_takesStone_78 : decode cX2_takesStone 78 = .ok (.iload_n 1, 1) := by decide +kernel
theorem dX2_takesStone_79 : decode cX2_takesStone 79 = .ok (.invokestatic 39, 3) := by decide +kernel
theorem dX2_takesStone_82 : decode cX2_takesStone 82 = .ok (.ireturn, 1) := by decide +kernel
theorem dX2_takesStone_83 : decode cX2_takesStone 83 = .ok (.iconst 1, 1) := by decide +kernel
theorem dX2_takesStone_84 : decode cX2_takesStone 84 = .ok (.ireturn, 1) := by decide +kernel
set_option maxRecDepth 20000 in
theorem ggX2_copyRun_X2_hasRun : GoodIn wsX2_copyRun wsX2_hasRun := goodIn_r _ [10, 1, 11, 12] (by decide +kernel) (by decide +kernel)
set_option maxRecDepth 20000 in
theorem gX2_copyRun_X2_hasRun : GoodIn wsX2_copyRun (wsV RX2 23 RX2 yX2_hasRun wsX2_hasRun) := goodIn_app (goodIn_of _ (by decide +kernel)) ggX2_copyRun_X2_hasRun
theorem dX2_copyRun_0 : decode cX2_copyRun 0 = .ok (.aload_n 1, 1) := by decide +kernel
theorem dX2_copyRun_1 : decode cX2_copyRun 1 = .ok (.iload_n 2, 1) := by decide +kernel
theorem dX2_copyRun_2 : decode cX2_copyRun 2 = .ok (.iload 4, 2) := by decide +kernel
theorem dX2_copyRun_4 : decode cX2_copyRun 4 = .ok (.invokevirtual 23, 3) := by decide +kernel
theorem dX2_copyRun_7 : decode cX2_copyRun 7 = .ok (.ifCond .eq 28, 3) := by decide +kernel
theorem dX2_copyRun_10 : decode cX2_copyRun 10 = .ok (.aload_n 0, 1) := by decide +kernel
theorem dX2_copyRun_11 : decode cX2_copyRun 11 = .ok (.iload_n 3, 1) := by decide +kernel
theorem dX2_copyRun_12 : decode cX2_copyRun 12 = .ok (.iload 4, 2) := by decide +kernel
theorem dX2_copyRun_14 : decode cX2_copyRun 14 = .ok (.invokevirtual 23, 3) := by decide +kernel
theorem dX2_copyRun_17 : decode cX2_copyRun 17 = .ok (.ifCond .eq 18, 3) := by decide +kernel
theorem dX2_copyRun_20 : decode cX2_copyRun 20 = .ok (.aload_n 1, 1) := by decide +kernel
theorem dX2_copyRun_21 : decode cX2_copyRun 21 = .ok (.getfield 9, 3) := by decide +kernel
theorem dX2_copyRun_24 : decode cX2_copyRun 24 = .ok (.iload_n 2, 1) := by decide +kernel
theorem dX2_copyRun_25 : decode cX2_copyRun 25 = .ok (.aload_n 0, 1) := by decide +kernel
theorem dX2_copyRun_26 : decode cX2_copyRun 26 = .ok (.getfield 9, 3) := by decide +kernel
theorem dX2_copyRun_29 : decode cX2_copyRun 29 = .ok (.iload_n 3, 1) := by decide +kernel
theorem dX2_copyRun_30 : decode cX2_copyRun 30 = .ok (.iload 4, 2) := by decide +kernel
theorem dX2_copyRun_32 : decode cX2_copyRun 32 = .ok (.invokestatic 42, 3) := by decide +kernel
theorem dX2_copyRun_35 : decode cX2_copyRun 35 = .ok (.return_, 1) := by decide +kernel
theorem dX2_copyTo_0 : decode cX2_copyTo 0 = .ok (.aload_n 0, 1) := by decide +kernel
theorem dX2_copyTo_1 : decode cX2_copyTo 1 = .ok (.getfield 9, 3) := by decide +kernel
theorem dX2_copyTo_4 : decode cX2_copyTo 4 = .ok (.arraylength, 1) := by decide +kernel
theorem dX2_copyTo_5 : decode cX2_copyTo 5 = .ok (.aload_n 1, 1) := by decide +kernel
theorem dX2_copyTo_6 : decode cX2_copyTo 6 = .ok (.arraylength, 1) := by decide +kernel
theorem dX2_copyTo_7 : decode cX2_copyTo 7 = .ok (.if_icmp .gt 18, 3) := by decide +kernel
theorem dX2_copyTo_10 : decode cX2_copyTo 10 = .ok (.aload_n 0, 1) := by decide +kernel
theorem dX2_copyTo_11 : decode cX2_copyTo 11 = .ok (.getfield 9, 3) := by decide +kernel
theorem dX2_copyTo_14 : decode cX2_copyTo 14 = .ok (.iconst 0, 1) := by decide +kernel
theorem dX2_copyTo_15 : decode cX2_copyTo 15 = .ok (.aload_n 1, 1) := by decide +kernel
theorem dX2_copyTo_16 : decode cX2_copyTo 16 = .ok (.iconst 0, 1) := by decide +kernel
theorem dX2_copyTo_17 : decode cX2_copyTo 17 = .ok (.aload_n 0, 1) := by decide +kernel
theorem dX2_copyTo_18 : decode cX2_copyTo 18 = .ok (.getfield 9, 3) := by decide +kernel
theorem dX2_copyTo_21 : decode cX2_copyTo 21 = .ok (.arraylength, 1) := by decide +kernel
theorem dX2_copyTo_22 : decode cX2_copyTo 22 = .ok (.invokestatic 42, 3) := by decide +kernel
theorem dX2_copyTo_25 : decode cX2_copyTo 25 = .ok (.return_, 1) := by decide +kernel
theorem dX2_copyFrom_0 : decode cX2_copyFrom 0 = .ok (.aload_n 0, 1) := by decide +kernel
theorem dX2_copyFrom_1 : decode cX2_copyFrom 1 = .ok (.getfield 9, 3) := by decide +kernel
theorem dX2_copyFrom_4 : decode cX2_copyFrom 4 = .ok (.arraylength, 1) := by decide +kernel
theorem dX2_copyFrom_5 : decode cX2_copyFrom 5 = .ok (.aload_n 1, 1) := by decide +kernel
theorem dX2_copyFrom_6 : decode cX2_copyFrom 6 = .ok (.arraylength, 1) := by decide +kernel
theorem dX2_copyFrom_7 : decode cX2_copyFrom 7 = .ok (.if_icmp .gt 18, 3) := by decide +kernel
theorem dX2_copyFrom_10 : decode cX2_copyFrom 10 = .ok (.aload_n 1, 1) := by decide +kernel
theorem dX2_copyFrom_11 : decode cX2_copyFrom 11 = .ok (.iconst 0, 1) := by decide +kernel
theorem dX2_copyFrom_12 : decode cX2_copyFrom 12 = .ok (.aload_n 0, 1) := by decide +kernel
theorem dX2_copyFrom_13 : decode cX2_copyFrom 13 = .ok (.getfield 9, 3) := by decide +kernel
theorem dX2_copyFrom_16 : decode cX2_copyFrom 16 = .ok (.iconst 0, 1) := by decide +kernel
theorem dX2_copyFrom_17 : decode cX2_copyFrom 17 = .ok (.aload_n 0, 1) := by decide +kernel
theorem dX2_copyFrom_18 : decode cX2_copyFrom 18 = .ok (.getfield 9, 3) := by decide +kernel
theorem dX2_copyFrom_21 : decode cX2_copyFrom 21 = .ok (.arraylength, 1) := by decide +kernel
theorem dX2_copyFrom_22 : decode cX2_copyFrom 22 = .ok (.invokestatic 42, 3) := by decide +kernel
theorem dX2_copyFrom_25 : decode cX2_copyFrom 25 = .ok (.return_, 1) := by decide +kernel
set_option maxRecDepth 20000 in
theorem ggX3_init_X2_init : GoodIn wsX3_init wsX2_init := goodIn_r _ [14, 10, 15, 16, 17, 18, 19, 20, 2, 3, 21, 33, 34, 35, 36] (by decide +kernel) (by decide +kernel)
set_option maxRecDepth 20000 in
theorem gX3_init_X2_init : GoodIn wsX3_init (wsX2_init) := ggX3_init_X2_init
theorem dX3_init_0 : decode cX3_init 0 = .ok (.aload_n 0, 1) := by decide +kernel
theorem dX3_init_1 : decode cX3_init 1 = .ok (.invokespecial 1, 3) := by decide +kernel
theorem dX3_init_4 : decode cX3_init 4 = .ok (.aload_n 0, 1) := by decide +kernel
theorem dX3_init_5 : decode cX3_init 5 = .ok (.bipush 8, 2) := by decide +kernel
theorem dX3_init_7 : decode cX3_init 7 = .ok (.anewarray 9, 3) := by decide +kernel
theorem dX3_init_10 : decode cX3_init 10 = .ok (.putfield 11, 3) := by decide +kernel
theorem dX3_init_13 : decode cX3_init 13 = .ok (.aload_n 0, 1) := by decide +kernel
theorem dX3_init_14 : decode cX3_init 14 = .ok (.new 15, 3) := by decide +kernel
theorem dX3_init_17 : decode cX3_init 17 = .ok (.dup, 1) := by decide +kernel
theorem dX3_init_18 : decode cX3_init 18 = .ok (.bipush 6, 2) := by decide +kernel
theorem dX3_init_20 : decode cX3_init 20 = .ok (.iconst 1, 1) := by decide +kernel
theorem dX3_init_21 : decode cX3_init 21 = .ok (.invokespecial 17, 3) := by decide +kernel
theorem dX3_init_24 : decode cX3_init 24 = .ok (.putfield 20, 3) := by decide +kernel
theorem dX3_init_27 : decode cX3_init 27 = .ok (.aload_n 0, 1) := by decide +kernel
theorem dX3_init_28 : decode cX3_init 28 = .ok (.bipush 40, 2) := by decide +kernel
theorem dX3_init_30 : decode cX3_init 30 = .ok (.newarray .long, 2) := by decide +kernel
theorem dX3_init_32 : decode cX3_init 32 = .ok (.putfield 24, 3) := by decide +kernel
theorem dX3_init_35 : decode cX3_init 35 = .ok (.return_, 1) := by decide +kernel
set_option maxRecDepth 20000 in
theorem ggX3_lay_X3_isPlace : GoodIn wsX3_lay wsX3_isPlace := goodIn_r _ [11] (by decide +kernel) (by decide +kernel)
set_option maxRecDepth 20000 in
theorem gX3_lay_X3_isPlace : GoodIn wsX3_lay (va_wsS RX3 28 yX3_isPlace wsX3_isPlace) := goodIn_app (goodIn_of _ (by decide +kernel)) ggX3_lay_X3_isPlace
set_option maxRecDepth 20000 in
theorem ggX3_lay_X0_init : GoodIn wsX3_lay wsX0_init := goodIn_r _ [14, 15, 16, 17, 18, 19, 20, 21, 22, 40, 41, 42, 43] (by decide +kernel) (by decide +kernel)
set_option maxRecDepth 20000 in
theorem gX3_lay_X0_init : GoodIn wsX3_lay (wsX0_init) := ggX3_lay_X0_init
set_option maxRecDepth 20000 in
theorem ggX3_lay_X2_init : GoodIn wsX3_lay wsX2_init := goodIn_r _ [25, 26, 27, 28, 16, 17, 18, 19, 20, 21, 22, 42, 43, 40, 41] (by decide +kernel) (by decide +kernel)
set_option maxRecDepth 20000 in
theorem gX3_lay_X2_init : GoodIn wsX3_lay (wsX2_init) := ggX3_lay_X2_init
theorem dX3_lay_0 : decode cX3_lay 0 = .ok (.iload_n 1, 1) := by decide +kernel
theorem dX3_lay_1 : decode cX3_lay 1 = .ok (.invokestatic 28, 3) := by decide +kernel
theorem dX3_lay_4 : decode cX3_lay 4 = .ok (.ifCond .eq 13, 3) := by decide +kernel
theorem dX3_lay_7 : decode cX3_lay 7 = .ok (.iload_n 2, 1) := by decide +kernel
theorem dX3_lay_8 : decode cX3_lay 8 = .ok (.ifCond .lt 9, 3) := by decide +kernel
theorem dX3_lay_11 : decode cX3_lay 11 = .ok (.iload_n 2, 1) := by decide +kernel
theorem dX3_lay_12 : decode cX3_lay 12 = .ok (.bipush 10, 2) := by decide +kernel
theorem dX3_lay_14 : decode cX3_lay 14 = .ok (.if_icmp .le 5, 3) := by decide +kernel
theorem dX3_lay_17 : decode cX3_lay 17 = .ok (.iconst 0, 1) := by decide +kernel
theorem dX3_lay_18 : decode cX3_lay 18 = .ok (.ireturn, 1) := by decide +kernel
theorem dX3_lay_19 : decode cX3_lay 19 = .ok (.iload_n 2, 1) := by decide +kernel
theorem dX3_lay_20 : decode cX3_lay 20 = .ok (.ifCond .ne 12, 3) := by decide +kernel
theorem dX3_lay_23 : decode cX3_lay 23 = .ok (.aload_n 0, 1) := by decide +kernel
theorem dX3_lay_24 : decode cX3_lay 24 = .ok (.getfield 11, 3) := by decide +kernel
theorem dX3_lay_27 : decode cX3_lay 27 = .ok (.iload_n 1, 1) := by decide +kernel
theorem dX3_lay_28 : decode cX3_lay 28 = .ok (.aconst_null, 1) := by decide +kernel
theorem dX3_lay_29 : decode cX3_lay 29 = .ok (.aastore, 1) := by decide +kernel
theorem dX3_lay_30 : decode cX3_lay 30 = .ok (.iconst 1, 1) := by decide +kernel
theorem dX3_lay_31 : decode cX3_lay 31 = .ok (.ireturn, 1) := by decide +kernel
theorem dX3_lay_32 : decode cX3_lay 32 = .ok (.iload_n 2, 1) := by decide +kernel
theorem dX3_lay_33 : decode cX3_lay 33 = .ok (.iconst 1, 1) := by decide +kernel
theorem dX3_lay_34 : decode cX3_lay 34 = .ok (.if_icmp .ne 18, 3) := by decide +kernel
theorem dX3_lay_37 : decode cX3_lay 37 = .ok (.aload_n 0, 1) := by decide +kernel
theorem dX3_lay_38 : decode cX3_lay 38 = .ok (.getfield 11, 3) := by decide +kernel
theorem dX3_lay_41 : decode cX3_lay 41 = .ok (.iload_n 1, 1) := by decide +kernel
theorem dX3_lay_42 : decode cX3_lay 42 = .ok (.new 32, 3) := by decide +kernel
theorem dX3_lay_45 : decode cX3_lay 45 = .ok (.dup, 1) := by decide +kernel
theorem dX3_lay_46 : decode cX3_lay 46 = .ok (.invokespecial 34, 3) := by decide +kernel
theorem dX3_lay_49 : decode cX3_lay 49 = .ok (.aastore, 1) := by decide +kernel
theorem dX3_lay_50 : decode cX3_lay 50 = .ok (.iconst 1, 1) := by decide +kernel
theorem dX3_lay_51 : decode cX3_lay 51 = .ok (.ireturn, 1) := by decide +kernel
theorem dX3_lay_52 : decode cX3_lay 52 = .ok (.iload_n 3, 1) := by decide +kernel
theorem dX3_lay_53 : decode cX3_lay 53 = .ok (.ifCond .lt 9, 3) := by decide +kernel
theorem dX3_lay_56 : decode cX3_lay 56 = .ok (.iload_n 3, 1) := by decide +kernel
theorem dX3_lay_57 : decode cX3_lay 57 = .ok (.bipush 40, 2) := by decide +kernel
theorem dX3_lay_59 : decode cX3_lay 59 = .ok (.if_icmp .le 5, 3) := by decide +kernel
theorem dX3_lay_62 : decode cX3_lay 62 = .ok (.iconst 0, 1) := by decide +kernel
theorem dX3_lay_63 : decode cX3_lay 63 = .ok (.ireturn, 1) := by decide +kernel
theorem dX3_lay_64 : decode cX3_lay 64 = .ok (.aload_n 0, 1) := by decide +kernel
theorem dX3_lay_65 : decode cX3_lay 65 = .ok (.getfield 11, 3) := by decide +kernel
theorem dX3_lay_68 : decode cX3_lay 68 = .ok (.iload_n 1, 1) := by decide +kernel
theorem dX3_lay_69 : decode cX3_lay 69 = .ok (.new 15, 3) := by decide +kernel
theorem dX3_lay_72 : decode cX3_lay 72 = .ok (.dup, 1) := by decide +kernel
theorem dX3_lay_73 : decode cX3_lay 73 = .ok (.iload_n 2, 1) := by decide +kernel
theorem dX3_lay_74 : decode cX3_lay 74 = .ok (.iload_n 3, 1) := by decide +kernel
theorem dX3_lay_75 : decode cX3_lay 75 = .ok (.invokespecial 17, 3) := by decide +kernel
theorem dX3_lay_78 : decode cX3_lay 78 = .ok (.aastore, 1) := by decide +kernel
theorem dX3_lay_79 : decode cX3_lay 79 = .ok (.iconst 1, 1) := by decide +kernel
theorem dX3_lay_80 : decode cX3_lay 80 = .ok (.ireturn, 1) := by decide +kernel
set_option maxRecDepth 20000 in
theorem ggX3_share_X3_isPlace : GoodIn wsX3_share wsX3_isPlace := goodIn_r _ [5] (by decide +kernel) (by decide +kernel)
set_option maxRecDepth 20000 in
theorem gX3_share_X3_isPlace : GoodIn wsX3_share (va_wsS RX3 28 yX3_isPlace wsX3_isPlace) := goodIn_app (goodIn_of _ (by decide +kernel)) ggX3_share_X3_isPlace
theorem dX3_share_0 : decode cX3_share 0 = .ok (.iload_n 1, 1) := by decide +kernel
theorem dX3_share_1 : decode cX3_share 1 = .ok (.invokestatic 28, 3) := by decide +kernel
theorem dX3_share_4 : decode cX3_share 4 = .ok (.ifCond .eq 10, 3) := by decide +kernel
theorem dX3_share_7 : decode cX3_share 7 = .ok (.iload_n 2, 1) := by decide +kernel
theorem dX3_share_8 : decode cX3_share 8 = .ok (.invokestatic 28, 3) := by decide +kernel
theorem dX3_share_11 : decode cX3_share 11 = .ok (.ifCond .ne 5, 3) := by decide +kernel
theorem dX3_share_14 : decode cX3_share 14 = .ok (.iconst 0, 1) := by decide +kernel
theorem dX3_share_15 : decode cX3_share 15 = .ok (.ireturn, 1) := by decide +kernel
theorem dX3_share_16 : decode cX3_share 16 = .ok (.aload_n 0, 1) := by decide +kernel
theorem dX3_share_17 : decode cX3_share 17 = .ok (.getfield 11, 3) := by decide +kernel
theorem dX3_share_20 : decode cX3_share 20 = .ok (.iload_n 2, 1) := by decide +kernel
theorem dX3_share_21 : decode cX3_share 21 = .ok (.aload_n 0, 1) := by decide +kernel
theorem dX3_share_22 : decode cX3_share 22 = .ok (.getfield 11, 3) := by decide +kernel
theorem dX3_share_25 : decode cX3_share 25 = .ok (.iload_n 1, 1) := by decide +kernel
theorem dX3_share_26 : decode cX3_share 26 = .ok (.aaload, 1) := by decide +kernel
theorem dX3_share_27 : decode cX3_share 27 = .ok (.aastore, 1) := by decide +kernel
theorem dX3_share_28 : decode cX3_share 28 = .ok (.iconst 1, 1) := by decide +kernel
theorem dX3_share_29 : decode cX3_share 29 = .ok (.ireturn, 1) := by decide +kernel
set_option maxRecDepth 20000 in
theorem ggX3_set_X3_isPlace : GoodIn wsX3_set wsX3_isPlace := goodIn_r _ [7] (by decide +kernel) (by decide +kernel)
set_option maxRecDepth 20000 in
theorem gX3_set_X3_isPlace : GoodIn wsX3_set (va_wsS RX3 28 yX3_isPlace wsX3_isPlace) := goodIn_app (goodIn_of _ (by decide +kernel)) ggX3_set_X3_isPlace
set_option maxRecDepth 20000 in
theorem ggX3_set_X3_asTray : GoodIn wsX3_set wsX3_asTray := goodIn_r _ [10, 11] (by decide +kernel) (by decide +kernel)
set_option maxRecDepth 20000 in
theorem gX3_set_X3_asTray : GoodIn wsX3_set (va_wsS RX3 35 yX3_asTray wsX3_asTray) := goodIn_app (goodIn_of _ (by decide +kernel)) ggX3_set_X3_asTray
set_option maxRecDepth 20000 in
theorem ggX3_set_X2_isOfStones : GoodIn wsX3_set wsX2_isOfStones := goodIn_r _ [16, 17, 3, 42, 43, 44, 45] (by decide +kernel) (by decide +kernel)
set_option maxRecDepth 20000 in
theorem gX3_set_X2_isOfStones : GoodIn wsX3_set (wsV RX3 39 RX2 yX2_isOfStones wsX2_isOfStones) := goodIn_app (goodIn_of _ (by decide +kernel)) ggX3_set_X2_isOfStones
set_option maxRecDepth 20000 in
theorem ggX3_set_X3_numberFor : GoodIn wsX3_set wsX3_numberFor := goodIn_r _ [20, 21] (by decide +kernel) (by decide +kernel)
set_option maxRecDepth 20000 in
theorem gX3_set_X3_numberFor : GoodIn wsX3_set (va_wsS RX3 47 yX3_numberFor wsX3_numberFor) := goodIn_app (goodIn_of _ (by decide +kernel)) ggX3_set_X3_numberFor
set_option maxRecDepth 20000 in
theorem ggX3_set_X2_write : GoodIn wsX3_set wsX2_write := goodIn_r _ [25, 26, 27, 28, 29, 15, 30, 44, 45] (by decide +kernel) (by decide +kernel)
set_option maxRecDepth 20000 in
theorem gX3_set_X2_write : GoodIn wsX3_set (wsV RX3 51 RX2 yX2_write wsX2_write) := goodIn_app (goodIn_of _ (by decide +kernel)) ggX3_set_X2_write
theorem dX3_set_0 : decode cX3_set 0 = .ok (.iload_n 1, 1) := by decide +kernel
theorem dX3_set_1 : decode cX3_set 1 = .ok (.invokestatic 28, 3) := by decide +kernel
theorem dX3_set_4 : decode cX3_set 4 = .ok (.ifCond .ne 5, 3) := by decide +kernel
theorem dX3_set_7 : decode cX3_set 7 = .ok (.iconst (-1), 1) := by decide +kernel
theorem dX3_set_8 : decode cX3_set 8 = .ok (.ireturn, 1) := by decide +kernel
theorem dX3_set_9 : decode cX3_set 9 = .ok (.aload_n 0, 1) := by decide +kernel
theorem dX3_set_10 : decode cX3_set 10 = .ok (.getfield 11, 3) := by decide +kernel
theorem dX3_set_13 : decode cX3_set 13 = .ok (.iload_n 1, 1) := by decide +kernel
theorem dX3_set_14 : decode cX3_set 14 = .ok (.aaload, 1) := by decide +kernel
theorem dX3_set_15 : decode cX3_set 15 = .ok (.ifnonnull 5, 3) := by decide +kernel
theorem dX3_set_18 : decode cX3_set 18 = .ok (.iconst 1, 1) := by decide +kernel
theorem dX3_set_19 : decode cX3_set 19 = .ok (.ireturn, 1) := by decide +kernel
theorem dX3_set_20 : decode cX3_set 20 = .ok (.aload_n 0, 1) := by decide +kernel
theorem dX3_set_21 : decode cX3_set 21 = .ok (.getfield 11, 3) := by decide +kernel
theorem dX3_set_24 : decode cX3_set 24 = .ok (.iload_n 1, 1) := by decide +kernel
theorem dX3_set_25 : decode cX3_set 25 = .ok (.aaload, 1) := by decide +kernel
theorem dX3_set_26 : decode cX3_set 26 = .ok (.invokestatic 35, 3) := by decide +kernel
theorem dX3_set_29 : decode cX3_set 29 = .ok (.astore 4, 2) := by decide +kernel
theorem dX3_set_31 : decode cX3_set 31 = .ok (.aload 4, 2) := by decide +kernel
theorem dX3_set_33 : decode cX3_set 33 = .ok (.ifnull 11, 3) := by decide +kernel
theorem dX3_set_36 : decode cX3_set 36 = .ok (.aload 4, 2) := by decide +kernel
theorem dX3_set_38 : decode cX3_set 38 = .ok (.invokevirtual 39, 3) := by decide +kernel
theorem dX3_set_41 : decode cX3_set 41 = .ok (.ifCond .eq 5, 3) := by decide +kernel
theorem dX3_set_44 : decode cX3_set 44 = .ok (.iconst 2, 1) := by decide +kernel
theorem dX3_set_45 : decode cX3_set 45 = .ok (.ireturn, 1) := by decide +kernel
theorem dX3_set_46 : decode cX3_set 46 = .ok (.aload 4, 2) := by decide +kernel
theorem dX3_set_48 : decode cX3_set 48 = .ok (.iload_n 2, 1) := by decide +kernel
theorem dX3_set_49 : decode cX3_set 49 = .ok (.aload 4, 2) := by decide +kernel
theorem dX3_set_51 : decode cX3_set 51 = .ok (.getfield 43, 3) := by decide +kernel
theorem dX3_set_54 : decode cX3_set 54 = .ok (.iload_n 3, 1) := by decide +kernel
theorem dX3_set_55 : decode cX3_set 55 = .ok (.invokestatic 47, 3) := by decide +kernel
theorem dX3_set_58 : decode cX3_set 58 = .ok (.invokevirtual 51, 3) := by decide +kernel
theorem dX3_set_61 : decode cX3_set 61 = .ok (.ifCond .eq 7, 3) := by decide +kernel
theorem dX3_set_64 : decode cX3_set 64 = .ok (.iconst 0, 1) := by decide +kernel
theorem dX3_set_65 : decode cX3_set 65 = .ok (.goto 4, 3) := by decide +kernel
theorem dX3_set_68 : decode cX3_set 68 = .ok (.iconst 3, 1) := by decide +kernel
theorem dX3_set_69 : decode cX3_set 69 = .ok (.ireturn, 1) := by decide +kernel
set_option maxRecDepth 20000 in
theorem ggX3_put_X3_isPlace : GoodIn wsX3_put wsX3_isPlace := goodIn_r _ [6] (by decide +kernel) (by decide +kernel)
set_option maxRecDepth 20000 in
theorem gX3_put_X3_isPlace : GoodIn wsX3_put (va_wsS RX3 28 yX3_isPlace wsX3_isPlace) := goodIn_app (goodIn_of _ (by decide +kernel)) ggX3_put_X3_isPlace
set_option maxRecDepth 20000 in
theorem ggX3_put_X3_newStone : GoodIn wsX3_put wsX3_newStone := goodIn_r _ [10, 11, 12, 89, 90, 91, 92, 93, 94, 95, 96, 97, 98, 99] (by decide +kernel) (by decide +kernel)
set_option maxRecDepth 20000 in
theorem gX3_put_X3_newStone : GoodIn wsX3_put (wsV RX3 55 RX3 yX3_newStone wsX3_newStone) := goodIn_app (goodIn_of _ (by decide +kernel)) ggX3_put_X3_newStone
set_option maxRecDepth 20000 in
theorem ggX3_put_X2_write : GoodIn wsX3_put wsX2_write := goodIn_r _ [17, 18, 19, 20, 21, 16, 22, 100, 101] (by decide +kernel) (by decide +kernel)
set_option maxRecDepth 20000 in
theorem gX3_put_X2_write : GoodIn wsX3_put (wsV RX3 51 RX2 yX2_write wsX2_write) := goodIn_app (goodIn_of _ (by decide +kernel)) ggX3_put_X2_write
set_option maxRecDepth 20000 in
theorem ggX3_put_X3_sweepThings : GoodIn wsX3_put wsX3_sweepThings := goodIn_r _ [26, 27, 28, 29, 5, 30, 31, 32, 33, 34, 35, 36, 37, 38, 16, 39, 40, 41, 42, 43, 44, 45, 46, 20, 21, 22, 18, 47, 48, 49, 50, 51, 52, 53, 54, 55, 56, 57, 58, 59, 60, 61, 62, 63, 64, 65, 66, 67, 68, 69, 19, 70, 71, 72, 73, 74, 75, 76, 77, 78, 79, 80, 81, 82, 83, 84, 85, 86, 87, 88, 89, 90, 91, 92, 93, 94, 95, 96, 97, 98, 99, 102, 103, 100, 101] (by decide +kernel) (by decide +kernel)
set_option maxRecDepth 20000 in
theorem gX3_put_X3_sweepThings : GoodIn wsX3_put (wsV RX3 59 RX3 yX3_sweepThings wsX3_sweepThings) := goodIn_app (goodIn_of _ (by decide +kernel)) ggX3_put_X3_sweepThings
theorem dX3_put_0 : decode cX3_put 0 = .ok (.iload_n 1, 1) := by decide +kernel
theorem dX3_put_1 : decode cX3_put 1 = .ok (.invokestatic 28, 3) := by decide +kernel
theorem dX3_put_4 : decode cX3_put 4 = .ok (.ifCond .eq 12, 3) := by decide +kernel
theorem dX3_put_7 : decode cX3_put 7 = .ok (.iload_n 3, 1) := by decide +kernel
theorem dX3_put_8 : decode cX3_put 8 = .ok (.ifCond .lt 8, 3) := by decide +kernel
theorem dX3_put_11 : decode cX3_put 11 = .ok (.iload_n 3, 1) := by decide +kernel
theorem dX3_put_12 : decode cX3_put 12 = .ok (.iconst 4, 1) := by decide +kernel
theorem dX3_put_13 : decode cX3_put 13 = .ok (.if_icmp .le 5, 3) := by decide +kernel
theorem dX3_put_16 : decode cX3_put 16 = .ok (.iconst (-1), 1) := by decide +kernel
theorem dX3_put_17 : decode cX3_put 17 = .ok (.ireturn, 1) := by decide +kernel
theorem dX3_put_18 : decode cX3_put 18 = .ok (.aload_n 0, 1) := by decide +kernel
theorem dX3_put_19 : decode cX3_put 19 = .ok (.getfield 20, 3) := by decide +kernel
theorem dX3_put_22 : decode cX3_put 22 = .ok (.iconst 0, 1) := by decide +kernel
theorem dX3_put_23 : decode cX3_put 23 = .ok (.aload_n 0, 1) := by decide +kernel
theorem dX3_put_24 : decode cX3_put 24 = .ok (.iload_n 3, 1) := by decide +kernel
theorem dX3_put_25 : decode cX3_put 25 = .ok (.invokevirtual 55, 3) := by decide +kernel
theorem dX3_put_28 : decode cX3_put 28 = .ok (.invokevirtual 51, 3) := by decide +kernel
theorem dX3_put_31 : decode cX3_put 31 = .ok (.pop, 1) := by decide +kernel
theorem dX3_put_32 : decode cX3_put 32 = .ok (.aload_n 0, 1) := by decide +kernel
theorem dX3_put_33 : decode cX3_put 33 = .ok (.aload_n 0, 1) := by decide +kernel
theorem dX3_put_34 : decode cX3_put 34 = .ok (.getfield 20, 3) := by decide +kernel
theorem dX3_put_37 : decode cX3_put 37 = .ok (.iconst 0, 1) := by decide +kernel
theorem dX3_put_38 : decode cX3_put 38 = .ok (.aload_n 0, 1) := by decide +kernel
theorem dX3_put_39 : decode cX3_put 39 = .ok (.getfield 11, 3) := by decide +kernel
theorem dX3_put_42 : decode cX3_put 42 = .ok (.iload_n 1, 1) := by decide +kernel
theorem dX3_put_43 : decode cX3_put 43 = .ok (.aaload, 1) := by decide +kernel
theorem dX3_put_44 : decode cX3_put 44 = .ok (.iload_n 2, 1) := by decide +kernel
theorem dX3_put_45 : decode cX3_put 45 = .ok (.iconst 1, 1) := by decide +kernel
theorem dX3_put_46 : decode cX3_put 46 = .ok (.iconst 0, 1) := by decide +kernel
theorem dX3_put_47 : decode cX3_put 47 = .ok (.invokevirtual 59, 3) := by decide +kernel
theorem dX3_put_50 : decode cX3_put 50 = .ok (.ireturn, 1) := by decide +kernel
set_option maxRecDepth 20000 in
theorem ggX3_sweep_X3_isPlace : GoodIn wsX3_sweep wsX3_isPlace := goodIn_r _ [5] (by decide +kernel) (by decide +kernel)
set_option maxRecDepth 20000 in
theorem gX3_sweep_X3_isPlace : GoodIn wsX3_sweep (va_wsS RX3 28 yX3_isPlace wsX3_isPlace) := goodIn_app (goodIn_of _ (by decide +kernel)) ggX3_sweep_X3_isPlace
set_option maxRecDepth 20000 in
theorem ggX3_sweep_X3_sweepThings : GoodIn wsX3_sweep wsX3_sweepThings := goodIn_r _ [9, 10, 11, 12, 4, 13, 14, 15, 16, 17, 18, 19, 20, 21, 22, 23, 24, 25, 26, 27, 28, 29, 30, 31, 32, 33, 34, 35, 36, 37, 38, 39, 40, 41, 42, 43, 44, 45, 46, 47, 48, 49, 50, 51, 52, 53, 54, 55, 56, 57, 58, 59, 60, 61, 62, 63, 64, 65, 66, 67, 68, 69, 70, 71, 72, 73, 74, 75, 76, 77, 78, 79, 80, 81, 82, 83, 84, 85, 86, 87, 88, 89, 90, 91, 92] (by decide +kernel) (by decide +kernel)
set_option maxRecDepth 20000 in
theorem gX3_sweep_X3_sweepThings : GoodIn wsX3_sweep (wsV RX3 59 RX3 yX3_sweepThings wsX3_sweepThings) := goodIn_app (goodIn_of _ (by decide +kernel)) ggX3_sweep_X3_sweepThings
theorem dX3_sweep_0 : decode cX3_sweep 0 = .ok (.iload_n 1, 1) := by decide +kernel
theorem dX3_sweep_1 : decode cX3_sweep 1 = .ok (.invokestatic 28, 3) := by decide +kernel
theorem dX3_sweep_4 : decode cX3_sweep 4 = .ok (.ifCond .eq 10, 3) := by decide +kernel
theorem dX3_sweep_7 : decode cX3_sweep 7 = .ok (.iload_n 3, 1) := by decide +kernel
theorem dX3_sweep_8 : decode cX3_sweep 8 = .ok (.invokestatic 28, 3) := by decide +kernel
theorem dX3_sweep_11 : decode cX3_sweep 11 = .ok (.ifCond .ne 5, 3) := by decide +kernel
theorem dX3_sweep_14 : decode cX3_sweep 14 = .ok (.iconst (-1), 1) := by decide +kernel
theorem dX3_sweep_15 : decode cX3_sweep 15 = .ok (.ireturn, 1) := by decide +kernel
theorem dX3_sweep_16 : decode cX3_sweep 16 = .ok (.aload_n 0, 1) := by decide +kernel
theorem dX3_sweep_17 : decode cX3_sweep 17 = .ok (.aload_n 0, 1) := by decide +kernel
theorem dX3_sweep_18 : decode cX3_sweep 18 = .ok (.getfield 11, 3) := by decide +kernel
theorem dX3_sweep_21 : decode cX3_sweep 21 = .ok (.iload_n 1, 1) := by decide +kernel
theorem dX3_sweep_22 : decode cX3_sweep 22 = .ok (.aaload, 1) := by decide +kernel
theorem dX3_sweep_23 : decode cX3_sweep 23 = .ok (.iload_n 2, 1) := by decide +kernel
theorem dX3_sweep_24 : decode cX3_sweep 24 = .ok (.aload_n 0, 1) := by decide +kernel
theorem dX3_sweep_25 : decode cX3_sweep 25 = .ok (.getfield 11, 3) := by decide +kernel
theorem dX3_sweep_28 : decode cX3_sweep 28 = .ok (.iload_n 3, 1) := by decide +kernel
theorem dX3_sweep_29 : decode cX3_sweep 29 = .ok (.aaload, 1) := by decide +kernel
theorem dX3_sweep_30 : decode cX3_sweep 30 = .ok (.iload 4, 2) := by decide +kernel
theorem dX3_sweep_32 : decode cX3_sweep 32 = .ok (.iload 5, 2) := by decide +kernel
theorem dX3_sweep_34 : decode cX3_sweep 34 = .ok (.iconst 1, 1) := by decide +kernel
theorem dX3_sweep_35 : decode cX3_sweep 35 = .ok (.invokevirtual 59, 3) := by decide +kernel
theorem dX3_sweep_38 : decode cX3_sweep 38 = .ok (.ireturn, 1) := by decide +kernel
set_option maxRecDepth 20000 in
theorem ggX3_back_X2_copyFrom : GoodIn wsX3_back wsX2_copyFrom := goodIn_r _ [7, 8, 9, 10, 11, 12, 28, 29] (by decide +kernel) (by decide +kernel)
set_option maxRecDepth 20000 in
theorem gX3_back_X2_copyFrom : GoodIn wsX3_back (wsV RX3 66 RX2 yX2_copyFrom wsX2_copyFrom) := goodIn_app (goodIn_of _ (by decide +kernel)) ggX3_back_X2_copyFrom
set_option maxRecDepth 20000 in
theorem ggX3_back_X2_size : GoodIn wsX3_back wsX2_size := goodIn_r _ [16, 8, 28, 29] (by decide +kernel) (by decide +kernel)
set_option maxRecDepth 20000 in
theorem gX3_back_X2_size : GoodIn wsX3_back (wsV RX3 70 RX2 yX2_size wsX2_size) := goodIn_app (goodIn_of _ (by decide +kernel)) ggX3_back_X2_size
theorem dX3_back_0 : decode cX3_back 0 = .ok (.aload_n 0, 1) := by decide +kernel
theorem dX3_back_1 : decode cX3_back 1 = .ok (.getfield 63, 3) := by decide +kernel
theorem dX3_back_4 : decode cX3_back 4 = .ok (.ifnonnull 5, 3) := by decide +kernel
theorem dX3_back_7 : decode cX3_back 7 = .ok (.iconst (-1), 1) := by decide +kernel
theorem dX3_back_8 : decode cX3_back 8 = .ok (.ireturn, 1) := by decide +kernel
theorem dX3_back_9 : decode cX3_back 9 = .ok (.aload_n 0, 1) := by decide +kernel
theorem dX3_back_10 : decode cX3_back 10 = .ok (.getfield 63, 3) := by decide +kernel
theorem dX3_back_13 : decode cX3_back 13 = .ok (.astore_n 1, 1) := by decide +kernel
theorem dX3_back_14 : decode cX3_back 14 = .ok (.aload_n 0, 1) := by decide +kernel
theorem dX3_back_15 : decode cX3_back 15 = .ok (.aconst_null, 1) := by decide +kernel
theorem dX3_back_16 : decode cX3_back 16 = .ok (.putfield 63, 3) := by decide +kernel
theorem dX3_back_19 : decode cX3_back 19 = .ok (.aload_n 1, 1) := by decide +kernel
theorem dX3_back_20 : decode cX3_back 20 = .ok (.aload_n 0, 1) := by decide +kernel
theorem dX3_back_21 : decode cX3_back 21 = .ok (.getfield 24, 3) := by decide +kernel
theorem dX3_back_24 : decode cX3_back 24 = .ok (.invokevirtual 66, 3) := by decide +kernel
theorem dX3_back_27 : decode cX3_back 27 = .ok (.aload_n 1, 1) := by decide +kernel
theorem dX3_back_28 : decode cX3_back 28 = .ok (.invokevirtual 70, 3) := by decide +kernel
theorem dX3_back_31 : decode cX3_back 31 = .ok (.ireturn, 1) := by decide +kernel
set_option maxRecDepth 20000 in
theorem ggX3_light_X3_isPlace : GoodIn wsX3_light wsX3_isPlace := goodIn_r _ [7] (by decide +kernel) (by decide +kernel)
set_option maxRecDepth 20000 in
theorem gX3_light_X3_isPlace : GoodIn wsX3_light (va_wsS RX3 28 yX3_isPlace wsX3_isPlace) := goodIn_app (goodIn_of _ (by decide +kernel)) ggX3_light_X3_isPlace
theorem dX3_light_0 : decode cX3_light 0 = .ok (.iload_n 1, 1) := by decide +kernel
theorem dX3_light_1 : decode cX3_light 1 = .ok (.invokestatic 28, 3) := by decide +kernel
theorem dX3_light_4 : decode cX3_light 4 = .ok (.ifCond .eq 37, 3) := by decide +kernel
theorem dX3_light_7 : decode cX3_light 7 = .ok (.aload_n 0, 1) := by decide +kernel
theorem dX3_light_8 : decode cX3_light 8 = .ok (.getfield 11, 3) := by decide +kernel
theorem dX3_light_11 : decode cX3_light 11 = .ok (.iload_n 1, 1) := by decide +kernel
theorem dX3_light_12 : decode cX3_light 12 = .ok (.aaload, 1) := by decide +kernel
theorem dX3_light_13 : decode cX3_light 13 = .ok (.astore_n 3, 1) := by decide +kernel
theorem dX3_light_14 : decode cX3_light 14 = .ok (.aload_n 3, 1) := by decide +kernel
theorem dX3_light_15 : decode cX3_light 15 = .ok (.instanceof 32, 3) := by decide +kernel
theorem dX3_light_18 : decode cX3_light 18 = .ok (.ifCond .eq 23, 3) := by decide +kernel
theorem dX3_light_21 : decode cX3_light 21 = .ok (.aload_n 3, 1) := by decide +kernel
theorem dX3_light_22 : decode cX3_light 22 = .ok (.checkcast 32, 3) := by decide +kernel
theorem dX3_light_25 : decode cX3_light 25 = .ok (.astore_n 2, 1) := by decide +kernel
theorem dX3_light_26 : decode cX3_light 26 = .ok (.aload_n 2, 1) := by decide +kernel
theorem dX3_light_27 : decode cX3_light 27 = .ok (.dup, 1) := by decide +kernel
theorem dX3_light_28 : decode cX3_light 28 = .ok (.getfield 74, 3) := by decide +kernel
theorem dX3_light_31 : decode cX3_light 31 = .ok (.iconst 1, 1) := by decide +kernel
theorem dX3_light_32 : decode cX3_light 32 = .ok (.iadd, 1) := by decide +kernel
theorem dX3_light_33 : decode cX3_light 33 = .ok (.putfield 74, 3) := by decide +kernel
theorem dX3_light_36 : decode cX3_light 36 = .ok (.aload_n 2, 1) := by decide +kernel
theorem dX3_light_37 : decode cX3_light 37 = .ok (.getfield 74, 3) := by decide +kernel
theorem dX3_light_40 : decode cX3_light 40 = .ok (.ireturn, 1) := by decide +kernel
theorem dX3_light_41 : decode cX3_light 41 = .ok (.iconst (-1), 1) := by decide +kernel
theorem dX3_light_42 : decode cX3_light 42 = .ok (.ireturn, 1) := by decide +kernel
set_option maxRecDepth 20000 in
theorem ggX3_member_X3_trayOn : GoodIn wsX3_member wsX3_trayOn := goodIn_r _ [6, 7, 8, 9, 5, 10, 11, 12, 13, 14, 26, 27, 28, 29, 30, 31, 32, 33, 34, 35, 36] (by decide +kernel) (by decide +kernel)
set_option maxRecDepth 20000 in
theorem gX3_member_X3_trayOn : GoodIn wsX3_member (wsV RX3 77 RX3 yX3_trayOn wsX3_trayOn) := goodIn_app (goodIn_of _ (by decide +kernel)) ggX3_member_X3_trayOn
set_option maxRecDepth 20000 in
theorem ggX3_member_X2_read : GoodIn wsX3_member wsX2_read := goodIn_r _ [19, 20, 21, 22, 23, 24, 18, 25, 37, 38] (by decide +kernel) (by decide +kernel)
set_option maxRecDepth 20000 in
theorem gX3_member_X2_read : GoodIn wsX3_member (wsV RX3 83 RX2 yX2_read wsX2_read) := goodIn_app (goodIn_of _ (by decide +kernel)) ggX3_member_X2_read
theorem dX3_member_0 : decode cX3_member 0 = .ok (.aload_n 0, 1) := by decide +kernel
theorem dX3_member_1 : decode cX3_member 1 = .ok (.iload_n 1, 1) := by decide +kernel
theorem dX3_member_2 : decode cX3_member 2 = .ok (.invokevirtual 77, 3) := by decide +kernel
theorem dX3_member_5 : decode cX3_member 5 = .ok (.astore_n 3, 1) := by decide +kernel
theorem dX3_member_6 : decode cX3_member 6 = .ok (.aload_n 3, 1) := by decide +kernel
theorem dX3_member_7 : decode cX3_member 7 = .ok (.ifnonnull 9, 3) := by decide +kernel
theorem dX3_member_10 : decode cX3_member 10 = .ok (.ldc2_w 81, 3) := by decide +kernel
theorem dX3_member_13 : decode cX3_member 13 = .ok (.goto 8, 3) := by decide +kernel
theorem dX3_member_16 : decode cX3_member 16 = .ok (.aload_n 3, 1) := by decide +kernel
theorem dX3_member_17 : decode cX3_member 17 = .ok (.iload_n 2, 1) := by decide +kernel
theorem dX3_member_18 : decode cX3_member 18 = .ok (.invokevirtual 83, 3) := by decide +kernel
theorem dX3_member_21 : decode cX3_member 21 = .ok (.lreturn, 1) := by decide +kernel
set_option maxRecDepth 20000 in
theorem ggX3_thing_X3_isPlace : GoodIn wsX3_thing wsX3_isPlace := goodIn_r _ [6] (by decide +kernel) (by decide +kernel)
set_option maxRecDepth 20000 in
theorem gX3_thing_X3_isPlace : GoodIn wsX3_thing (va_wsS RX3 28 yX3_isPlace wsX3_isPlace) := goodIn_app (goodIn_of _ (by decide +kernel)) ggX3_thing_X3_isPlace
set_option maxRecDepth 20000 in
theorem ggX3_thing_X3_sizeOf : GoodIn wsX3_thing wsX3_sizeOf := goodIn_r _ [9, 10, 11, 5, 12, 13, 14, 15, 16, 17, 18, 19, 37, 38] (by decide +kernel) (by decide +kernel)
set_option maxRecDepth 20000 in
theorem gX3_thing_X3_sizeOf : GoodIn wsX3_thing (va_wsS RX3 87 yX3_sizeOf wsX3_sizeOf) := goodIn_app (goodIn_of _ (by decide +kernel)) ggX3_thing_X3_sizeOf
set_option maxRecDepth 20000 in
theorem ggX3_thing_X3_leastPlaceOf : GoodIn wsX3_thing wsX3_leastPlaceOf := goodIn_r _ [23, 1, 24, 25, 26, 27, 28, 29, 30, 31, 32, 33, 34] (by decide +kernel) (by decide +kernel)
set_option maxRecDepth 20000 in
theorem gX3_thing_X3_leastPlaceOf : GoodIn wsX3_thing (wsV RX3 91 RX3 yX3_leastPlaceOf wsX3_leastPlaceOf) := goodIn_app (goodIn_of _ (by decide +kernel)) ggX3_thing_X3_leastPlaceOf
theorem dX3_thing_0 : decode cX3_thing 0 = .ok (.iload_n 1, 1) := by decide +kernel
theorem dX3_thing_1 : decode cX3_thing 1 = .ok (.invokestatic 28, 3) := by decide +kernel
theorem dX3_thing_4 : decode cX3_thing 4 = .ok (.ifCond .ne 5, 3) := by decide +kernel
theorem dX3_thing_7 : decode cX3_thing 7 = .ok (.iconst (-1), 1) := by decide +kernel
theorem dX3_thing_8 : decode cX3_thing 8 = .ok (.ireturn, 1) := by decide +kernel
theorem dX3_thing_9 : decode cX3_thing 9 = .ok (.aload_n 0, 1) := by decide +kernel
theorem dX3_thing_10 : decode cX3_thing 10 = .ok (.getfield 11, 3) := by decide +kernel
theorem dX3_thing_13 : decode cX3_thing 13 = .ok (.iload_n 1, 1) := by decide +kernel
theorem dX3_thing_14 : decode cX3_thing 14 = .ok (.aaload, 1) := by decide +kernel
theorem dX3_thing_15 : decode cX3_thing 15 = .ok (.astore_n 3, 1) := by decide +kernel
theorem dX3_thing_16 : decode cX3_thing 16 = .ok (.iload_n 2, 1) := by decide +kernel
theorem dX3_thing_17 : decode cX3_thing 17 = .ok (.tableswitch 59 0 2 #[27, 40, 45], 27) := by decide +kernel
theorem dX3_thing_44 : decode cX3_thing 44 = .ok (.aload_n 3, 1) := by decide +kernel
theorem dX3_thing_45 : decode cX3_thing 45 = .ok (.ifnonnull 7, 3) := by decide +kernel
theorem dX3_thing_48 : decode cX3_thing 48 = .ok (.iconst 0, 1) := by decide +kernel
theorem dX3_thing_49 : decode cX3_thing 49 = .ok (.goto 7, 3) := by decide +kernel
theorem dX3_thing_52 : decode cX3_thing 52 = .ok (.aload_n 3, 1) := by decide +kernel
theorem dX3_thing_53 : decode cX3_thing 53 = .ok (.getfield 86, 3) := by decide +kernel
theorem dX3_thing_56 : decode cX3_thing 56 = .ok (.ireturn, 1) := by decide +kernel
theorem dX3_thing_57 : decode cX3_thing 57 = .ok (.aload_n 3, 1) := by decide +kernel
theorem dX3_thing_58 : decode cX3_thing 58 = .ok (.invokestatic 87, 3) := by decide +kernel
theorem dX3_thing_61 : decode cX3_thing 61 = .ok (.ireturn, 1) := by decide +kernel
theorem dX3_thing_62 : decode cX3_thing 62 = .ok (.aload_n 3, 1) := by decide +kernel
theorem dX3_thing_63 : decode cX3_thing 63 = .ok (.ifnonnull 7, 3) := by decide +kernel
theorem dX3_thing_66 : decode cX3_thing 66 = .ok (.iload_n 1, 1) := by decide +kernel
theorem dX3_thing_67 : decode cX3_thing 67 = .ok (.goto 8, 3) := by decide +kernel
theorem dX3_thing_70 : decode cX3_thing 70 = .ok (.aload_n 0, 1) := by decide +kernel
theorem dX3_thing_71 : decode cX3_thing 71 = .ok (.aload_n 3, 1) := by decide +kernel
theorem dX3_thing_72 : decode cX3_thing 72 = .ok (.invokevirtual 91, 3) := by decide +kernel
theorem dX3_thing_75 : decode cX3_thing 75 = .ok (.ireturn, 1) := by decide +kernel
theorem dX3_thing_76 : decode cX3_thing 76 = .ok (.iconst (-1), 1) := by decide +kernel
theorem dX3_thing_77 : decode cX3_thing 77 = .ok (.ireturn, 1) := by decide +kernel
set_option maxRecDepth 20000 in
theorem ggX3_worth_X3_trayOn : GoodIn wsX3_worth wsX3_trayOn := goodIn_r _ [5, 6, 7, 8, 4, 9, 10, 11, 12, 13, 41, 42, 43, 44, 45, 46, 47, 48, 49, 50, 51] (by decide +kernel) (by decide +kernel)
set_option maxRecDepth 20000 in
theorem gX3_worth_X3_trayOn : GoodIn wsX3_worth (wsV RX3 77 RX3 yX3_trayOn wsX3_trayOn) := goodIn_app (goodIn_of _ (by decide +kernel)) ggX3_worth_X3_trayOn
set_option maxRecDepth 20000 in
theorem ggX3_worth_X2_isOfStones : GoodIn wsX3_worth wsX2_isOfStones := goodIn_r _ [18, 19, 20, 52, 53, 54, 55] (by decide +kernel) (by decide +kernel)
set_option maxRecDepth 20000 in
theorem gX3_worth_X2_isOfStones : GoodIn wsX3_worth (wsV RX3 39 RX2 yX2_isOfStones wsX2_isOfStones) := goodIn_app (goodIn_of _ (by decide +kernel)) ggX3_worth_X2_isOfStones
set_option maxRecDepth 20000 in
theorem ggX3_worth_X2_size : GoodIn wsX3_worth wsX2_size := goodIn_r _ [24, 25, 54, 55] (by decide +kernel) (by decide +kernel)
set_option maxRecDepth 20000 in
theorem gX3_worth_X2_size : GoodIn wsX3_worth (wsV RX3 70 RX2 yX2_size wsX2_size) := goodIn_app (goodIn_of _ (by decide +kernel)) ggX3_worth_X2_size
set_option maxRecDepth 20000 in
theorem ggX3_worth_X2_stoneSortAt : GoodIn wsX3_worth wsX2_stoneSortAt := goodIn_r _ [29, 25, 30, 31, 32, 33, 17, 34, 54, 55] (by decide +kernel) (by decide +kernel)
set_option maxRecDepth 20000 in
theorem gX3_worth_X2_stoneSortAt : GoodIn wsX3_worth (wsV RX3 94 RX2 yX2_stoneSortAt wsX2_stoneSortAt) := goodIn_app (goodIn_of _ (by decide +kernel)) ggX3_worth_X2_stoneSortAt
set_option maxRecDepth 20000 in
theorem ggX3_worth_X3_worthOfStone : GoodIn wsX3_worth wsX3_worthOfStone := goodIn_r _ [37] (by decide +kernel) (by decide +kernel)
set_option maxRecDepth 20000 in
theorem gX3_worth_X3_worthOfStone : GoodIn wsX3_worth (va_wsS RX3 98 yX3_worthOfStone wsX3_worthOfStone) := goodIn_app (goodIn_of _ (by decide +kernel)) ggX3_worth_X3_worthOfStone
set_option maxRecDepth 20000 in
theorem ggX3_worth_X3_isRound : GoodIn wsX3_worth wsX3_isRound := goodIn_r _ [40] (by decide +kernel) (by decide +kernel)
set_option maxRecDepth 20000 in
theorem gX3_worth_X3_isRound : GoodIn wsX3_worth (va_wsS RX3 101 yX3_isRound wsX3_isRound) := goodIn_app (goodIn_of _ (by decide +kernel)) ggX3_worth_X3_isRound
theorem dX3_worth_0 : decode cX3_worth 0 = .ok (.aload_n 0, 1) := by decide +kernel
theorem dX3_worth_1 : decode cX3_worth 1 = .ok (.iload_n 1, 1) := by decide +kernel
theorem dX3_worth_2 : decode cX3_worth 2 = .ok (.invokevirtual 77, 3) := by decide +kernel
theorem dX3_worth_5 : decode cX3_worth 5 = .ok (.astore_n 2, 1) := by decide +kernel
theorem dX3_worth_6 : decode cX3_worth 6 = .ok (.aload_n 2, 1) := by decide +kernel
theorem dX3_worth_7 : decode cX3_worth 7 = .ok (.ifnull 10, 3) := by decide +kernel
theorem dX3_worth_10 : decode cX3_worth 10 = .ok (.aload_n 2, 1) := by decide +kernel
theorem dX3_worth_11 : decode cX3_worth 11 = .ok (.invokevirtual 39, 3) := by decide +kernel
theorem dX3_worth_14 : decode cX3_worth 14 = .ok (.ifCond .ne 5, 3) := by decide +kernel
theorem dX3_worth_17 : decode cX3_worth 17 = .ok (.iconst (-1), 1) := by decide +kernel
theorem dX3_worth_18 : decode cX3_worth 18 = .ok (.ireturn, 1) := by decide +kernel
theorem dX3_worth_19 : decode cX3_worth 19 = .ok (.iconst 0, 1) := by decide +kernel
theorem dX3_worth_20 : decode cX3_worth 20 = .ok (.istore_n 3, 1) := by decide +kernel
theorem dX3_worth_21 : decode cX3_worth 21 = .ok (.iconst 0, 1) := by decide +kernel
theorem dX3_worth_22 : decode cX3_worth 22 = .ok (.istore 4, 2) := by decide +kernel
theorem dX3_worth_24 : decode cX3_worth 24 = .ok (.iconst 0, 1) := by decide +kernel
theorem dX3_worth_25 : decode cX3_worth 25 = .ok (.istore 5, 2) := by decide +kernel
theorem dX3_worth_27 : decode cX3_worth 27 = .ok (.iload 5, 2) := by decide +kernel
theorem dX3_worth_29 : decode cX3_worth 29 = .ok (.aload_n 2, 1) := by decide +kernel
theorem dX3_worth_30 : decode cX3_worth 30 = .ok (.invokevirtual 70, 3) := by decide +kernel
theorem dX3_worth_33 : decode cX3_worth 33 = .ok (.if_icmp .ge 47, 3) := by decide +kernel
theorem dX3_worth_36 : decode cX3_worth 36 = .ok (.aload_n 2, 1) := by decide +kernel
theorem dX3_worth_37 : decode cX3_worth 37 = .ok (.iload 5, 2) := by decide +kernel
theorem dX3_worth_39 : decode cX3_worth 39 = .ok (.invokevirtual 94, 3) := by decide +kernel
theorem dX3_worth_42 : decode cX3_worth 42 = .ok (.istore 6, 2) := by decide +kernel
theorem dX3_worth_44 : decode cX3_worth 44 = .ok (.iload_n 3, 1) := by decide +kernel
theorem dX3_worth_45 : decode cX3_worth 45 = .ok (.iload 6, 2) := by decide +kernel
theorem dX3_worth_47 : decode cX3_worth 47 = .ok (.invokestatic 98, 3) := by decide +kernel
theorem dX3_worth_50 : decode cX3_worth 50 = .ok (.iadd, 1) := by decide +kernel
theorem dX3_worth_51 : decode cX3_worth 51 = .ok (.istore_n 3, 1) := by decide +kernel
theorem dX3_worth_52 : decode cX3_worth 52 = .ok (.iload 6, 2) := by decide +kernel
theorem dX3_worth_54 : decode cX3_worth 54 = .ok (.iload 4, 2) := by decide +kernel
theorem dX3_worth_56 : decode cX3_worth 56 = .ok (.if_icmp .ne 14, 3) := by decide +kernel
theorem dX3_worth_59 : decode cX3_worth 59 = .ok (.iload 6, 2) := by decide +kernel
theorem dX3_worth_61 : decode cX3_worth 61 = .ok (.invokestatic 101, 3) := by decide +kernel
theorem dX3_worth_64 : decode cX3_worth 64 = .ok (.ifCond .eq 6, 3) := by decide +kernel
theorem dX3_worth_67 : decode cX3_worth 67 = .ok (.iinc 3 5, 3) := by decide +kernel
theorem dX3_worth_70 : decode cX3_worth 70 = .ok (.iload 6, 2) := by decide +kernel
theorem dX3_worth_72 : decode cX3_worth 72 = .ok (.istore 4, 2) := by decide +kernel
theorem dX3_worth_74 : decode cX3_worth 74 = .ok (.iinc 5 1, 3) := by decide +kernel
theorem dX3_worth_77 : decode cX3_worth 77 = .ok (.goto (-50), 3) := by decide +kernel
theorem dX3_worth_80 : decode cX3_worth 80 = .ok (.iload_n 3, 1) := by decide +kernel
theorem dX3_worth_81 : decode cX3_worth 81 = .ok (.ireturn, 1) := by decide +kernel
set_option maxRecDepth 20000 in
theorem ggX3_mirror_X3_trayOn : GoodIn wsX3_mirror wsX3_trayOn := goodIn_r _ [5, 6, 7, 8, 4, 9, 10, 11, 12, 13, 35, 36, 37, 38, 39, 40, 41, 42, 43, 44, 45] (by decide +kernel) (by decide +kernel)
set_option maxRecDepth 20000 in
theorem gX3_mirror_X3_trayOn : GoodIn wsX3_mirror (wsV RX3 77 RX3 yX3_trayOn wsX3_trayOn) := goodIn_app (goodIn_of _ (by decide +kernel)) ggX3_mirror_X3_trayOn
set_option maxRecDepth 20000 in
theorem ggX3_mirror_X2_isOfStones : GoodIn wsX3_mirror wsX2_isOfStones := goodIn_r _ [18, 19, 20, 46, 47, 48, 49] (by decide +kernel) (by decide +kernel)
set_option maxRecDepth 20000 in
theorem gX3_mirror_X2_isOfStones : GoodIn wsX3_mirror (wsV RX3 39 RX2 yX2_isOfStones wsX2_isOfStones) := goodIn_app (goodIn_of _ (by decide +kernel)) ggX3_mirror_X2_isOfStones
set_option maxRecDepth 20000 in
theorem ggX3_mirror_X2_size : GoodIn wsX3_mirror wsX2_size := goodIn_r _ [24, 25, 48, 49] (by decide +kernel) (by decide +kernel)
set_option maxRecDepth 20000 in
theorem gX3_mirror_X2_size : GoodIn wsX3_mirror (wsV RX3 70 RX2 yX2_size wsX2_size) := goodIn_app (goodIn_of _ (by decide +kernel)) ggX3_mirror_X2_size
set_option maxRecDepth 20000 in
theorem ggX3_mirror_X2_stoneSortAt : GoodIn wsX3_mirror wsX2_stoneSortAt := goodIn_r _ [29, 25, 30, 31, 32, 33, 17, 34, 48, 49] (by decide +kernel) (by decide +kernel)
set_option maxRecDepth 20000 in
theorem gX3_mirror_X2_stoneSortAt : GoodIn wsX3_mirror (wsV RX3 94 RX2 yX2_stoneSortAt wsX2_stoneSortAt) := goodIn_app (goodIn_of _ (by decide +kernel)) ggX3_mirror_X2_stoneSortAt
theorem dX3_mirror_0 : decode cX3_mirror 0 = .ok (.aload_n 0, 1) := by decide +kernel
theorem dX3_mirror_1 : decode cX3_mirror 1 = .ok (.iload_n 1, 1) := by decide +kernel
theorem dX3_mirror_2 : decode cX3_mirror 2 = .ok (.invokevirtual 77, 3) := by decide +kernel
theorem dX3_mirror_5 : decode cX3_mirror 5 = .ok (.astore_n 3, 1) := by decide +kernel
theorem dX3_mirror_6 : decode cX3_mirror 6 = .ok (.aload_n 0, 1) := by decide +kernel
theorem dX3_mirror_7 : decode cX3_mirror 7 = .ok (.iload_n 2, 1) := by decide +kernel
theorem dX3_mirror_8 : decode cX3_mirror 8 = .ok (.invokevirtual 77, 3) := by decide +kernel
theorem dX3_mirror_11 : decode cX3_mirror 11 = .ok (.astore 4, 2) := by decide +kernel
theorem dX3_mirror_13 : decode cX3_mirror 13 = .ok (.aload_n 3, 1) := by decide +kernel
theorem dX3_mirror_14 : decode cX3_mirror 14 = .ok (.ifnull 23, 3) := by decide +kernel
theorem dX3_mirror_17 : decode cX3_mirror 17 = .ok (.aload 4, 2) := by decide +kernel
theorem dX3_mirror_19 : decode cX3_mirror 19 = .ok (.ifnull 18, 3) := by decide +kernel
theorem dX3_mirror_22 : decode cX3_mirror 22 = .ok (.aload_n 3, 1) := by decide +kernel
theorem dX3_mirror_23 : decode cX3_mirror 23 = .ok (.invokevirtual 39, 3) := by decide +kernel
theorem dX3_mirror_26 : decode cX3_mirror 26 = .ok (.ifCond .eq 11, 3) := by decide +kernel
theorem dX3_mirror_29 : decode cX3_mirror 29 = .ok (.aload 4, 2) := by decide +kernel
theorem dX3_mirror_31 : decode cX3_mirror 31 = .ok (.invokevirtual 39, 3) := by decide +kernel
theorem dX3_mirror_34 : decode cX3_mirror 34 = .ok (.ifCond .ne 5, 3) := by decide +kernel
theorem dX3_mirror_37 : decode cX3_mirror 37 = .ok (.iconst 0, 1) := by decide +kernel
theorem dX3_mirror_38 : decode cX3_mirror 38 = .ok (.ireturn, 1) := by decide +kernel
theorem dX3_mirror_39 : decode cX3_mirror 39 = .ok (.aload_n 3, 1) := by decide +kernel
theorem dX3_mirror_40 : decode cX3_mirror 40 = .ok (.invokevirtual 70, 3) := by decide +kernel
theorem dX3_mirror_43 : decode cX3_mirror 43 = .ok (.istore 5, 2) := by decide +kernel
theorem dX3_mirror_45 : decode cX3_mirror 45 = .ok (.aload 4, 2) := by decide +kernel
theorem dX3_mirror_47 : decode cX3_mirror 47 = .ok (.invokevirtual 70, 3) := by decide +kernel
theorem dX3_mirror_50 : decode cX3_mirror 50 = .ok (.iload 5, 2) := by decide +kernel
theorem dX3_mirror_52 : decode cX3_mirror 52 = .ok (.if_icmp .eq 5, 3) := by decide +kernel
theorem dX3_mirror_55 : decode cX3_mirror 55 = .ok (.iconst 0, 1) := by decide +kernel
theorem dX3_mirror_56 : decode cX3_mirror 56 = .ok (.ireturn, 1) := by decide +kernel
theorem dX3_mirror_57 : decode cX3_mirror 57 = .ok (.iconst 0, 1) := by decide +kernel
theorem dX3_mirror_58 : decode cX3_mirror 58 = .ok (.istore 6, 2) := by decide +kernel
theorem dX3_mirror_60 : decode cX3_mirror 60 = .ok (.iload 6, 2) := by decide +kernel
theorem dX3_mirror_62 : decode cX3_mirror 62 = .ok (.iload 5, 2) := by decide +kernel
theorem dX3_mirror_64 : decode cX3_mirror 64 = .ok (.if_icmp .ge 32, 3) := by decide +kernel
theorem dX3_mirror_67 : decode cX3_mirror 67 = .ok (.aload_n 3, 1) := by decide +kernel
theorem dX3_mirror_68 : decode cX3_mirror 68 = .ok (.iload 6, 2) := by decide +kernel
theorem dX3_mirror_70 : decode cX3_mirror 70 = .ok (.invokevirtual 94, 3) := by decide +kernel
theorem dX3_mirror_73 : decode cX3_mirror 73 = .ok (.aload 4, 2) := by decide +kernel
theorem dX3_mirror_75 : decode cX3_mirror 75 = .ok (.iload 5, 2) := by decide +kernel
theorem dX3_mirror_77 : decode cX3_mirror 77 = .ok (.iconst 1, 1) := by decide +kernel
theorem dX3_mirror_78 : decode cX3_mirror 78 = .ok (.isub, 1) := by decide +kernel
theorem dX3_mirror_79 : decode cX3_mirror 79 = .ok (.iload 6, 2) := by decide +kernel
theorem dX3_mirror_81 : decode cX3_mirror 81 = .ok (.isub, 1) := by decide +kernel
theorem dX3_mirror_82 : decode cX3_mirror 82 = .ok (.invokevirtual 94, 3) := by decide +kernel
theorem dX3_mirror_85 : decode cX3_mirror 85 = .ok (.if_icmp .eq 5, 3) := by decide +kernel
theorem dX3_mirror_88 : decode cX3_mirror 88 = .ok (.iconst 0, 1) := by decide +kernel
theorem dX3_mirror_89 : decode cX3_mirror 89 = .ok (.ireturn, 1) := by decide +kernel
theorem dX3_mirror_90 : decode cX3_mirror 90 = .ok (.iinc 6 1, 3) := by decide +kernel
theorem dX3_mirror_93 : decode cX3_mirror 93 = .ok (.goto (-33), 3) := by decide +kernel
theorem dX3_mirror_96 : decode cX3_mirror 96 = .ok (.iconst 1, 1) := by decide +kernel
theorem dX3_mirror_97 : decode cX3_mirror 97 = .ok (.ireturn, 1) := by decide +kernel
theorem dX3_count_0 : decode cX3_count 0 = .ok (.iload_n 1, 1) := by decide +kernel
theorem dX3_count_1 : decode cX3_count 1 = .ok (.tableswitch 78 0 6 #[43, 48, 53, 58, 63, 68, 73], 43) := by decide +kernel
theorem dX3_count_44 : decode cX3_count 44 = .ok (.aload_n 0, 1) := by decide +kernel
theorem dX3_count_45 : decode cX3_count 45 = .ok (.getfield 104, 3) := by decide +kernel
theorem dX3_count_48 : decode cX3_count 48 = .ok (.ireturn, 1) := by decide +kernel
theorem dX3_count_49 : decode cX3_count 49 = .ok (.aload_n 0, 1) := by decide +kernel
theorem dX3_count_50 : decode cX3_count 50 = .ok (.getfield 107, 3) := by decide +kernel
theorem dX3_count_53 : decode cX3_count 53 = .ok (.ireturn, 1) := by decide +kernel
theorem dX3_count_54 : decode cX3_count 54 = .ok (.aload_n 0, 1) := by decide +kernel
theorem dX3_count_55 : decode cX3_count 55 = .ok (.getfield 110, 3) := by decide +kernel
theorem dX3_count_58 : decode cX3_count 58 = .ok (.ireturn, 1) := by decide +kernel
theorem dX3_count_59 : decode cX3_count 59 = .ok (.aload_n 0, 1) := by decide +kernel
theorem dX3_count_60 : decode cX3_count 60 = .ok (.getfield 113, 3) := by decide +kernel
theorem dX3_count_63 : decode cX3_count 63 = .ok (.ireturn, 1) := by decide +kernel
theorem dX3_count_64 : decode cX3_count 64 = .ok (.aload_n 0, 1) := by decide +kernel
theorem dX3_count_65 : decode cX3_count 65 = .ok (.getfield 116, 3) := by decide +kernel
theorem dX3_count_68 : decode cX3_count 68 = .ok (.ireturn, 1) := by decide +kernel
theorem dX3_count_69 : decode cX3_count 69 = .ok (.aload_n 0, 1) := by decide +kernel
theorem dX3_count_70 : decode cX3_count 70 = .ok (.getfield 119, 3) := by decide +kernel
theorem dX3_count_73 : decode cX3_count 73 = .ok (.ireturn, 1) := by decide +kernel
theorem dX3_count_74 : decode cX3_count 74 = .ok (.aload_n 0, 1) := by decide +kernel
theorem dX3_count_75 : decode cX3_count 75 = .ok (.getfield 122, 3) := by decide +kernel
theorem dX3_count_78 : decode cX3_count 78 = .ok (.ireturn, 1) := by decide +kernel
theorem dX3_count_79 : decode cX3_count 79 = .ok (.iconst (-1), 1) := by decide +kernel
theorem dX3_count_80 : decode cX3_count 80 = .ok (.ireturn, 1) := by decide +kernel
theorem dX3_isPlace_0 : decode cX3_isPlace 0 = .ok (.iload_n 0, 1) := by decide +kernel
theorem dX3_isPlace_1 : decode cX3_isPlace 1 = .ok (.ifCond .lt 13, 3) := by decide +kernel
theorem dX3_isPlace_4 : decode cX3_isPlace 4 = .ok (.iload_n 0, 1) := by decide +kernel
theorem dX3_isPlace_5 : decode cX3_isPlace 5 = .ok (.bipush 8, 2) := by decide +kernel
theorem dX3_isPlace_7 : decode cX3_isPlace 7 = .ok (.if_icmp .ge 7, 3) := by decide +kernel
theorem dX3_isPlace_10 : decode cX3_isPlace 10 = .ok (.iconst 1, 1) := by decide +kernel
theorem dX3_isPlace_11 : decode cX3_isPlace 11 = .ok (.goto 4, 3) := by decide +kernel
theorem dX3_isPlace_14 : decode cX3_isPlace 14 = .ok (.iconst 0, 1) := by decide +kernel
theorem dX3_isPlace_15 : decode cX3_isPlace 15 = .ok (.ireturn, 1) := by decide +kernel
theorem dX3_asTray_0 : decode cX3_asTray 0 = .ok (.aload_n 0, 1) := by decide +kernel
theorem dX3_asTray_1 : decode cX3_asTray 1 = .ok (.instanceof 15, 3) := by decide +kernel
theorem dX3_asTray_4 : decode cX3_asTray 4 = .ok (.ifCond .eq 12, 3) := by decide +kernel
theorem dX3_asTray_7 : decode cX3_asTray 7 = .ok (.aload_n 0, 1) := by decide +kernel
theorem dX3_asTray_8 : decode cX3_asTray 8 = .ok (.checkcast 15, 3) := by decide +kernel
theorem dX3_asTray_11 : decode cX3_asTray 11 = .ok (.astore_n 1, 1) := by decide +kernel
theorem dX3_asTray_12 : decode cX3_asTray 12 = .ok (.aload_n 1, 1) := by decide +kernel
theorem dX3_asTray_13 : decode cX3_asTray 13 = .ok (.goto 4, 3) := by decide +kernel
theorem dX3_asTray_16 : decode cX3_asTray 16 = .ok (.aconst_null, 1) := by decide +kernel
theorem dX3_asTray_17 : decode cX3_asTray 17 = .ok (.areturn, 1) := by decide +kernel
set_option maxRecDepth 20000 in
theorem ggX3_sizeOf_X3_asTray : GoodIn wsX3_sizeOf wsX3_asTray := goodIn_r _ [4, 5] (by decide +kernel) (by decide +kernel)
set_option maxRecDepth 20000 in
theorem gX3_sizeOf_X3_asTray : GoodIn wsX3_sizeOf (va_wsS RX3 35 yX3_asTray wsX3_asTray) := goodIn_app (goodIn_of _ (by decide +kernel)) ggX3_sizeOf_X3_asTray
set_option maxRecDepth 20000 in
theorem ggX3_sizeOf_X2_size : GoodIn wsX3_sizeOf wsX2_size := goodIn_r _ [10, 11, 12, 13] (by decide +kernel) (by decide +kernel)
set_option maxRecDepth 20000 in
theorem gX3_sizeOf_X2_size : GoodIn wsX3_sizeOf (wsV RX3 70 RX2 yX2_size wsX2_size) := goodIn_app (goodIn_of _ (by decide +kernel)) ggX3_sizeOf_X2_size
theorem dX3_sizeOf_0 : decode cX3_sizeOf 0 = .ok (.aload_n 0, 1) := by decide +kernel
theorem dX3_sizeOf_1 : decode cX3_sizeOf 1 = .ok (.invokestatic 35, 3) := by decide +kernel
theorem dX3_sizeOf_4 : decode cX3_sizeOf 4 = .ok (.astore_n 1, 1) := by decide +kernel
theorem dX3_sizeOf_5 : decode cX3_sizeOf 5 = .ok (.aload_n 1, 1) := by decide +kernel
theorem dX3_sizeOf_6 : decode cX3_sizeOf 6 = .ok (.ifnonnull 7, 3) := by decide +kernel
theorem dX3_sizeOf_9 : decode cX3_sizeOf 9 = .ok (.iconst 0, 1) := by decide +kernel
theorem dX3_sizeOf_10 : decode cX3_sizeOf 10 = .ok (.goto 7, 3) := by decide +kernel
theorem dX3_sizeOf_13 : decode cX3_sizeOf 13 = .ok (.aload_n 1, 1) := by decide +kernel
theorem dX3_sizeOf_14 : decode cX3_sizeOf 14 = .ok (.invokevirtual 70, 3) := by decide +kernel
theorem dX3_sizeOf_17 : decode cX3_sizeOf 17 = .ok (.ireturn, 1) := by decide +kernel
set_option maxRecDepth 20000 in
theorem ggX3_trayOn_X3_isPlace : GoodIn wsX3_trayOn wsX3_isPlace := goodIn_r _ [5] (by decide +kernel) (by decide +kernel)
set_option maxRecDepth 20000 in
theorem gX3_trayOn_X3_isPlace : GoodIn wsX3_trayOn (va_wsS RX3 28 yX3_isPlace wsX3_isPlace) := goodIn_app (goodIn_of _ (by decide +kernel)) ggX3_trayOn_X3_isPlace
set_option maxRecDepth 20000 in
theorem ggX3_trayOn_X3_asTray : GoodIn wsX3_trayOn wsX3_asTray := goodIn_r _ [8, 9] (by decide +kernel) (by decide +kernel)
set_option maxRecDepth 20000 in
theorem gX3_trayOn_X3_asTray : GoodIn wsX3_trayOn (va_wsS RX3 35 yX3_asTray wsX3_asTray) := goodIn_app (goodIn_of _ (by decide +kernel)) ggX3_trayOn_X3_asTray
theorem dX3_trayOn_0 : decode cX3_trayOn 0 = .ok (.iload_n 1, 1) := by decide +kernel
theorem dX3_trayOn_1 : decode cX3_trayOn 1 = .ok (.invokestatic 28, 3) := by decide +kernel
theorem dX3_trayOn_4 : decode cX3_trayOn 4 = .ok (.ifCond .eq 15, 3) := by decide +kernel
theorem dX3_trayOn_7 : decode cX3_trayOn 7 = .ok (.aload_n 0, 1) := by decide +kernel
theorem dX3_trayOn_8 : decode cX3_trayOn 8 = .ok (.getfield 11, 3) := by decide +kernel
theorem dX3_trayOn_11 : decode cX3_trayOn 11 = .ok (.iload_n 1, 1) := by decide +kernel
theorem dX3_trayOn_12 : decode cX3_trayOn 12 = .ok (.aaload, 1) := by decide +kernel
theorem dX3_trayOn_13 : decode cX3_trayOn 13 = .ok (.invokestatic 35, 3) := by decide +kernel
theorem dX3_trayOn_16 : decode cX3_trayOn 16 = .ok (.goto 4, 3) := by decide +kernel
theorem dX3_trayOn_19 : decode cX3_trayOn 19 = .ok (.aconst_null, 1) := by decide +kernel
theorem dX3_trayOn_20 : decode cX3_trayOn 20 = .ok (.areturn, 1) := by decide +kernel
theorem dX3_leastPlaceOf_0 : decode cX3_leastPlaceOf 0 = .ok (.iconst 0, 1) := by decide +kernel
theorem dX3_leastPlaceOf_1 : decode cX3_leastPlaceOf 1 = .ok (.istore_n 2, 1) := by decide +kernel
theorem dX3_leastPlaceOf_2 : decode cX3_leastPlaceOf 2 = .ok (.iload_n 2, 1) := by decide +kernel
theorem dX3_leastPlaceOf_3 : decode cX3_leastPlaceOf 3 = .ok (.bipush 8, 2) := by decide +kernel
theorem dX3_leastPlaceOf_5 : decode cX3_leastPlaceOf 5 = .ok (.if_icmp .ge 21, 3) := by decide +kernel
theorem dX3_leastPlaceOf_8 : decode cX3_leastPlaceOf 8 = .ok (.aload_n 0, 1) := by decide +kernel
theorem dX3_leastPlaceOf_9 : decode cX3_leastPlaceOf 9 = .ok (.getfield 11, 3) := by decide +kernel
theorem dX3_leastPlaceOf_12 : decode cX3_leastPlaceOf 12 = .ok (.iload_n 2, 1) := by decide +kernel
theorem dX3_leastPlaceOf_13 : decode cX3_leastPlaceOf 13 = .ok (.aaload, 1) := by decide +kernel
theorem dX3_leastPlaceOf_14 : decode cX3_leastPlaceOf 14 = .ok (.aload_n 1, 1) := by decide +kernel
theorem dX3_leastPlaceOf_15 : decode cX3_leastPlaceOf 15 = .ok (.if_acmp .ne 5, 3) := by decide +kernel
theorem dX3_leastPlaceOf_18 : decode cX3_leastPlaceOf 18 = .ok (.iload_n 2, 1) := by decide +kernel
theorem dX3_leastPlaceOf_19 : decode cX3_leastPlaceOf 19 = .ok (.ireturn, 1) := by decide +kernel
theorem dX3_leastPlaceOf_20 : decode cX3_leastPlaceOf 20 = .ok (.iinc 2 1, 3) := by decide +kernel
theorem dX3_leastPlaceOf_23 : decode cX3_leastPlaceOf 23 = .ok (.goto (-21), 3) := by decide +kernel
theorem dX3_leastPlaceOf_26 : decode cX3_leastPlaceOf 26 = .ok (.iconst (-1), 1) := by decide +kernel
theorem dX3_leastPlaceOf_27 : decode cX3_leastPlaceOf 27 = .ok (.ireturn, 1) := by decide +kernel
theorem dX3_numberFor_0 : decode cX3_numberFor 0 = .ok (.iload_n 0, 1) := by decide +kernel
theorem dX3_numberFor_1 : decode cX3_numberFor 1 = .ok (.tableswitch 43 3 5 #[27, 34, 38], 27) := by decide +kernel
theorem dX3_numberFor_28 : decode cX3_numberFor 28 = .ok (.iload_n 1, 1) := by decide +kernel
theorem dX3_numberFor_29 : decode cX3_numberFor 29 = .ok (.i2l, 1) := by decide +kernel
theorem dX3_numberFor_30 : decode cX3_numberFor 30 = .ok (.ldc2_w 125, 3) := by decide +kernel
theorem dX3_numberFor_33 : decode cX3_numberFor 33 = .ok (.lmul, 1) := by decide +kernel
theorem dX3_numberFor_34 : decode cX3_numberFor 34 = .ok (.lreturn, 1) := by decide +kernel
theorem dX3_numberFor_35 : decode cX3_numberFor 35 = .ok (.iload_n 1, 1) := by decide +kernel
theorem dX3_numberFor_36 : decode cX3_numberFor 36 = .ok (.i2b, 1) := by decide +kernel
theorem dX3_numberFor_37 : decode cX3_numberFor 37 = .ok (.i2l, 1) := by decide +kernel
theorem dX3_numberFor_38 : decode cX3_numberFor 38 = .ok (.lreturn, 1) := by decide +kernel
theorem dX3_numberFor_39 : decode cX3_numberFor 39 = .ok (.iload_n 1, 1) := by decide +kernel
theorem dX3_numberFor_40 : decode cX3_numberFor 40 = .ok (.iconst 1, 1) := by decide +kernel
theorem dX3_numberFor_41 : decode cX3_numberFor 41 = .ok (.iand, 1) := by decide +kernel
theorem dX3_numberFor_42 : decode cX3_numberFor 42 = .ok (.i2l, 1) := by decide +kernel
theorem dX3_numberFor_43 : decode cX3_numberFor 43 = .ok (.lreturn, 1) := by decide +kernel
theorem dX3_numberFor_44 : decode cX3_numberFor 44 = .ok (.iload_n 1, 1) := by decide +kernel
theorem dX3_numberFor_45 : decode cX3_numberFor 45 = .ok (.i2l, 1) := by decide +kernel
theorem dX3_numberFor_46 : decode cX3_numberFor 46 = .ok (.lreturn, 1) := by decide +kernel
theorem dX3_newStone_0 : decode cX3_newStone 0 = .ok (.iload_n 1, 1) := by decide +kernel
theorem dX3_newStone_1 : decode cX3_newStone 1 = .ok (.ifCond .ne 5, 3) := by decide +kernel
theorem dX3_newStone_4 : decode cX3_newStone 4 = .ok (.lconst 0, 1) := by decide +kernel
theorem dX3_newStone_5 : decode cX3_newStone 5 = .ok (.lreturn, 1) := by decide +kernel
theorem dX3_newStone_6 : decode cX3_newStone 6 = .ok (.aload_n 0, 1) := by decide +kernel
theorem dX3_newStone_7 : decode cX3_newStone 7 = .ok (.dup, 1) := by decide +kernel
theorem dX3_newStone_8 : decode cX3_newStone 8 = .ok (.getfield 104, 3) := by decide +kernel
theorem dX3_newStone_11 : decode cX3_newStone 11 = .ok (.iconst 1, 1) := by decide +kernel
theorem dX3_newStone_12 : decode cX3_newStone 12 = .ok (.iadd, 1) := by decide +kernel
theorem dX3_newStone_13 : decode cX3_newStone 13 = .ok (.putfield 104, 3) := by decide +kernel
theorem dX3_newStone_16 : decode cX3_newStone 16 = .ok (.ldc2_w 127, 3) := by decide +kernel
theorem dX3_newStone_19 : decode cX3_newStone 19 = .ok (.aload_n 0, 1) := by decide +kernel
theorem dX3_newStone_20 : decode cX3_newStone 20 = .ok (.getfield 104, 3) := by decide +kernel
theorem dX3_newStone_23 : decode cX3_newStone 23 = .ok (.i2l, 1) := by decide +kernel
theorem dX3_newStone_24 : decode cX3_newStone 24 = .ok (.lmul, 1) := by decide +kernel
theorem dX3_newStone_25 : decode cX3_newStone 25 = .ok (.iload_n 1, 1) := by decide +kernel
theorem dX3_newStone_26 : decode cX3_newStone 26 = .ok (.i2l, 1) := by decide +kernel
theorem dX3_newStone_27 : decode cX3_newStone 27 = .ok (.ladd, 1) := by decide +kernel
theorem dX3_newStone_28 : decode cX3_newStone 28 = .ok (.lreturn, 1) := by decide +kernel
set_option maxRecDepth 20000 in
theorem ggX3_sweepThings_X3_sweepOrRefuse : GoodIn wsX3_sweepThings wsX3_sweepOrRefuse := goodIn_r _ [5, 6, 7, 8, 4, 9, 10, 11, 12, 13, 14, 15, 16, 17, 18, 19, 20, 21, 22, 23, 24, 25, 26, 27, 28, 29, 30, 31, 32, 33, 34, 35, 36, 37, 38, 39, 40, 41, 42, 43, 44, 45, 46, 47, 48, 49, 50, 51, 52, 53, 54, 55, 56, 57, 58, 59, 60, 70, 71, 72, 73, 74, 75, 76, 77, 78, 79, 80, 81, 82, 83, 84] (by decide +kernel) (by decide +kernel)
set_option maxRecDepth 20000 in
theorem gX3_sweepThings_X3_sweepOrRefuse : GoodIn wsX3_sweepThings (wsV RX3 129 RX3 yX3_sweepOrRefuse wsX3_sweepOrRefuse) := goodIn_app (goodIn_of _ (by decide +kernel)) ggX3_sweepThings_X3_sweepOrRefuse
set_option maxRecDepth 20000 in
theorem ggX3_sweepThings_X3_tally : GoodIn wsX3_sweepThings wsX3_tally := goodIn_r _ [64, 65, 66, 67, 68, 69, 70, 71, 72, 73, 74, 75, 76, 77, 78, 79, 80] (by decide +kernel) (by decide +kernel)
set_option maxRecDepth 20000 in
theorem gX3_sweepThings_X3_tally : GoodIn wsX3_sweepThings (wsV RX3 132 RX3 yX3_tally wsX3_tally) := goodIn_app (goodIn_of _ (by decide +kernel)) ggX3_sweepThings_X3_tally
theorem dX3_sweepThings_0 : decode cX3_sweepThings 0 = .ok (.aload_n 0, 1) := by decide +kernel
theorem dX3_sweepThings_1 : decode cX3_sweepThings 1 = .ok (.aload_n 1, 1) := by decide +kernel
theorem dX3_sweepThings_2 : decode cX3_sweepThings 2 = .ok (.iload_n 2, 1) := by decide +kernel
theorem dX3_sweepThings_3 : decode cX3_sweepThings 3 = .ok (.aload_n 3, 1) := by decide +kernel
theorem dX3_sweepThings_4 : decode cX3_sweepThings 4 = .ok (.iload 4, 2) := by decide +kernel
theorem dX3_sweepThings_6 : decode cX3_sweepThings 6 = .ok (.iload 5, 2) := by decide +kernel
theorem dX3_sweepThings_8 : decode cX3_sweepThings 8 = .ok (.iload 6, 2) := by decide +kernel
theorem dX3_sweepThings_10 : decode cX3_sweepThings 10 = .ok (.invokevirtual 129, 3) := by decide +kernel
theorem dX3_sweepThings_13 : decode cX3_sweepThings 13 = .ok (.istore 7, 2) := by decide +kernel
theorem dX3_sweepThings_15 : decode cX3_sweepThings 15 = .ok (.aload_n 0, 1) := by decide +kernel
theorem dX3_sweepThings_16 : decode cX3_sweepThings 16 = .ok (.iload 7, 2) := by decide +kernel
theorem dX3_sweepThings_18 : decode cX3_sweepThings 18 = .ok (.invokevirtual 132, 3) := by decide +kernel
theorem dX3_sweepThings_21 : decode cX3_sweepThings 21 = .ok (.iload 7, 2) := by decide +kernel
theorem dX3_sweepThings_23 : decode cX3_sweepThings 23 = .ok (.ireturn, 1) := by decide +kernel
set_option maxRecDepth 20000 in
theorem ggX3_sweepOrRefuse_X3_asTray : GoodIn wsX3_sweepOrRefuse wsX3_asTray := goodIn_r _ [5, 6] (by decide +kernel) (by decide +kernel)
set_option maxRecDepth 20000 in
theorem gX3_sweepOrRefuse_X3_asTray : GoodIn wsX3_sweepOrRefuse (va_wsS RX3 35 yX3_asTray wsX3_asTray) := goodIn_app (goodIn_of _ (by decide +kernel)) ggX3_sweepOrRefuse_X3_asTray
set_option maxRecDepth 20000 in
theorem ggX3_sweepOrRefuse_X2_isLike : GoodIn wsX3_sweepOrRefuse wsX2_isLike := goodIn_r _ [11, 12, 13, 14, 15, 16, 10, 17, 68, 69, 70, 71] (by decide +kernel) (by decide +kernel)
set_option maxRecDepth 20000 in
theorem gX3_sweepOrRefuse_X2_isLike : GoodIn wsX3_sweepOrRefuse (wsV RX3 136 RX2 yX2_isLike wsX2_isLike) := goodIn_app (goodIn_of _ (by decide +kernel)) ggX3_sweepOrRefuse_X2_isLike
set_option maxRecDepth 20000 in
theorem ggX3_sweepOrRefuse_X2_hasRun : GoodIn wsX3_sweepOrRefuse wsX2_hasRun := goodIn_r _ [21, 22, 70, 71] (by decide +kernel) (by decide +kernel)
set_option maxRecDepth 20000 in
theorem gX3_sweepOrRefuse_X2_hasRun : GoodIn wsX3_sweepOrRefuse (wsV RX3 140 RX2 yX2_hasRun wsX2_hasRun) := goodIn_app (goodIn_of _ (by decide +kernel)) ggX3_sweepOrRefuse_X2_hasRun
set_option maxRecDepth 20000 in
theorem ggX3_sweepOrRefuse_X3_keep : GoodIn wsX3_sweepOrRefuse wsX3_keep := goodIn_r _ [26, 27, 28, 29, 30, 31, 10, 32, 22, 33, 34, 35, 36, 57, 58, 59, 60, 61, 62, 63, 64, 65, 66, 67, 70, 71] (by decide +kernel) (by decide +kernel)
set_option maxRecDepth 20000 in
theorem gX3_sweepOrRefuse_X3_keep : GoodIn wsX3_sweepOrRefuse (wsV RX3 144 RX3 yX3_keep wsX3_keep) := goodIn_app (goodIn_of _ (by decide +kernel)) ggX3_sweepOrRefuse_X3_keep
set_option maxRecDepth 20000 in
theorem ggX3_sweepOrRefuse_X2_howManyTaken : GoodIn wsX3_sweepOrRefuse wsX2_howManyTaken := goodIn_r _ [40, 14, 15, 16, 10, 17, 12, 13, 41, 42, 43, 44, 22, 45, 46, 19, 20, 21, 47, 48, 49, 50, 51, 4, 52, 68, 69, 70, 71] (by decide +kernel) (by decide +kernel)
set_option maxRecDepth 20000 in
theorem gX3_sweepOrRefuse_X2_howManyTaken : GoodIn wsX3_sweepOrRefuse (wsV RX3 148 RX2 yX2_howManyTaken wsX2_howManyTaken) := goodIn_app (goodIn_of _ (by decide +kernel)) ggX3_sweepOrRefuse_X2_howManyTaken
set_option maxRecDepth 20000 in
theorem ggX3_sweepOrRefuse_X2_copyRun : GoodIn wsX3_sweepOrRefuse wsX2_copyRun := goodIn_r _ [56, 22, 33, 34, 35, 36, 46, 19, 20, 10, 21, 70, 71] (by decide +kernel) (by decide +kernel)
set_option maxRecDepth 20000 in
theorem gX3_sweepOrRefuse_X2_copyRun : GoodIn wsX3_sweepOrRefuse (wsV RX3 152 RX2 yX2_copyRun wsX2_copyRun) := goodIn_app (goodIn_of _ (by decide +kernel)) ggX3_sweepOrRefuse_X2_copyRun
theorem dX3_sweepOrRefuse_0 : decode cX3_sweepOrRefuse 0 = .ok (.aload_n 1, 1) := by decide +kernel
theorem dX3_sweepOrRefuse_1 : decode cX3_sweepOrRefuse 1 = .ok (.ifnull 7, 3) := by decide +kernel
theorem dX3_sweepOrRefuse_4 : decode cX3_sweepOrRefuse 4 = .ok (.aload_n 3, 1) := by decide +kernel
theorem dX3_sweepOrRefuse_5 : decode cX3_sweepOrRefuse 5 = .ok (.ifnonnull 5, 3) := by decide +kernel
theorem dX3_sweepOrRefuse_8 : decode cX3_sweepOrRefuse 8 = .ok (.iconst 1, 1) := by decide +kernel
theorem dX3_sweepOrRefuse_9 : decode cX3_sweepOrRefuse 9 = .ok (.ireturn, 1) := by decide +kernel
theorem dX3_sweepOrRefuse_10 : decode cX3_sweepOrRefuse 10 = .ok (.aload_n 1, 1) := by decide +kernel
theorem dX3_sweepOrRefuse_11 : decode cX3_sweepOrRefuse 11 = .ok (.invokestatic 35, 3) := by decide +kernel
theorem dX3_sweepOrRefuse_14 : decode cX3_sweepOrRefuse 14 = .ok (.astore 7, 2) := by decide +kernel
theorem dX3_sweepOrRefuse_16 : decode cX3_sweepOrRefuse 16 = .ok (.aload_n 3, 1) := by decide +kernel
theorem dX3_sweepOrRefuse_17 : decode cX3_sweepOrRefuse 17 = .ok (.invokestatic 35, 3) := by decide +kernel
theorem dX3_sweepOrRefuse_20 : decode cX3_sweepOrRefuse 20 = .ok (.astore 8, 2) := by decide +kernel
theorem dX3_sweepOrRefuse_22 : decode cX3_sweepOrRefuse 22 = .ok (.aload 7, 2) := by decide +kernel
theorem dX3_sweepOrRefuse_24 : decode cX3_sweepOrRefuse 24 = .ok (.ifnull 18, 3) := by decide +kernel
theorem dX3_sweepOrRefuse_27 : decode cX3_sweepOrRefuse 27 = .ok (.aload 8, 2) := by decide +kernel
theorem dX3_sweepOrRefuse_29 : decode cX3_sweepOrRefuse 29 = .ok (.ifnull 13, 3) := by decide +kernel
theorem dX3_sweepOrRefuse_32 : decode cX3_sweepOrRefuse 32 = .ok (.aload 7, 2) := by decide +kernel
theorem dX3_sweepOrRefuse_34 : decode cX3_sweepOrRefuse 34 = .ok (.aload 8, 2) := by decide +kernel
theorem dX3_sweepOrRefuse_36 : decode cX3_sweepOrRefuse 36 = .ok (.invokevirtual 136, 3) := by decide +kernel
theorem dX3_sweepOrRefuse_39 : decode cX3_sweepOrRefuse 39 = .ok (.ifCond .ne 5, 3) := by decide +kernel
theorem dX3_sweepOrRefuse_42 : decode cX3_sweepOrRefuse 42 = .ok (.iconst 2, 1) := by decide +kernel
theorem dX3_sweepOrRefuse_43 : decode cX3_sweepOrRefuse 43 = .ok (.ireturn, 1) := by decide +kernel
theorem dX3_sweepOrRefuse_44 : decode cX3_sweepOrRefuse 44 = .ok (.aload 7, 2) := by decide +kernel
theorem dX3_sweepOrRefuse_46 : decode cX3_sweepOrRefuse 46 = .ok (.iload_n 2, 1) := by decide +kernel
theorem dX3_sweepOrRefuse_47 : decode cX3_sweepOrRefuse 47 = .ok (.iload 5, 2) := by decide +kernel
theorem dX3_sweepOrRefuse_49 : decode cX3_sweepOrRefuse 49 = .ok (.invokevirtual 140, 3) := by decide +kernel
theorem dX3_sweepOrRefuse_52 : decode cX3_sweepOrRefuse 52 = .ok (.ifCond .eq 15, 3) := by decide +kernel
theorem dX3_sweepOrRefuse_55 : decode cX3_sweepOrRefuse 55 = .ok (.aload 8, 2) := by decide +kernel
theorem dX3_sweepOrRefuse_57 : decode cX3_sweepOrRefuse 57 = .ok (.iload 4, 2) := by decide +kernel
theorem dX3_sweepOrRefuse_59 : decode cX3_sweepOrRefuse 59 = .ok (.iload 5, 2) := by decide +kernel
theorem dX3_sweepOrRefuse_61 : decode cX3_sweepOrRefuse 61 = .ok (.invokevirtual 140, 3) := by decide +kernel
theorem dX3_sweepOrRefuse_64 : decode cX3_sweepOrRefuse 64 = .ok (.ifCond .ne 5, 3) := by decide +kernel
theorem dX3_sweepOrRefuse_67 : decode cX3_sweepOrRefuse 67 = .ok (.iconst 3, 1) := by decide +kernel
theorem dX3_sweepOrRefuse_68 : decode cX3_sweepOrRefuse 68 = .ok (.ireturn, 1) := by decide +kernel
theorem dX3_sweepOrRefuse_69 : decode cX3_sweepOrRefuse 69 = .ok (.iload 6, 2) := by decide +kernel
theorem dX3_sweepOrRefuse_71 : decode cX3_sweepOrRefuse 71 = .ok (.ifCond .eq 9, 3) := by decide +kernel
theorem dX3_sweepOrRefuse_74 : decode cX3_sweepOrRefuse 74 = .ok (.aload_n 0, 1) := by decide +kernel
theorem dX3_sweepOrRefuse_75 : decode cX3_sweepOrRefuse 75 = .ok (.aload 8, 2) := by decide +kernel
theorem dX3_sweepOrRefuse_77 : decode cX3_sweepOrRefuse 77 = .ok (.invokevirtual 144, 3) := by decide +kernel
theorem dX3_sweepOrRefuse_80 : decode cX3_sweepOrRefuse 80 = .ok (.aload 8, 2) := by decide +kernel
theorem dX3_sweepOrRefuse_82 : decode cX3_sweepOrRefuse 82 = .ok (.aload 7, 2) := by decide +kernel
theorem dX3_sweepOrRefuse_84 : decode cX3_sweepOrRefuse 84 = .ok (.iload_n 2, 1) := by decide +kernel
theorem dX3_sweepOrRefuse_85 : decode cX3_sweepOrRefuse 85 = .ok (.iload 5, 2) := by decide +kernel
theorem dX3_sweepOrRefuse_87 : decode cX3_sweepOrRefuse 87 = .ok (.invokevirtual 148, 3) := by decide +kernel
theorem dX3_sweepOrRefuse_90 : decode cX3_sweepOrRefuse 90 = .ok (.istore 9, 2) := by decide +kernel
theorem dX3_sweepOrRefuse_92 : decode cX3_sweepOrRefuse 92 = .ok (.aload 8, 2) := by decide +kernel
theorem dX3_sweepOrRefuse_94 : decode cX3_sweepOrRefuse 94 = .ok (.aload 7, 2) := by decide +kernel
theorem dX3_sweepOrRefuse_96 : decode cX3_sweepOrRefuse 96 = .ok (.iload_n 2, 1) := by decide +kernel
theorem dX3_sweepOrRefuse_97 : decode cX3_sweepOrRefuse 97 = .ok (.iload 4, 2) := by decide +kernel
theorem dX3_sweepOrRefuse_99 : decode cX3_sweepOrRefuse 99 = .ok (.iload 9, 2) := by decide +kernel
theorem dX3_sweepOrRefuse_101 : decode cX3_sweepOrRefuse 101 = .ok (.invokevirtual 152, 3) := by decide +kernel
theorem dX3_sweepOrRefuse_104 : decode cX3_sweepOrRefuse 104 = .ok (.aload_n 0, 1) := by decide +kernel
theorem dX3_sweepOrRefuse_105 : decode cX3_sweepOrRefuse 105 = .ok (.dup, 1) := by decide +kernel
theorem dX3_sweepOrRefuse_106 : decode cX3_sweepOrRefuse 106 = .ok (.getfield 122, 3) := by decide +kernel
theorem dX3_sweepOrRefuse_109 : decode cX3_sweepOrRefuse 109 = .ok (.iload 9, 2) := by decide +kernel
theorem dX3_sweepOrRefuse_111 : decode cX3_sweepOrRefuse 111 = .ok (.iadd, 1) := by decide +kernel
theorem dX3_sweepOrRefuse_112 : decode cX3_sweepOrRefuse 112 = .ok (.putfield 122, 3) := by decide +kernel
theorem dX3_sweepOrRefuse_115 : decode cX3_sweepOrRefuse 115 = .ok (.iload 9, 2) := by decide +kernel
theorem dX3_sweepOrRefuse_117 : decode cX3_sweepOrRefuse 117 = .ok (.iload 5, 2) := by decide +kernel
theorem dX3_sweepOrRefuse_119 : decode cX3_sweepOrRefuse 119 = .ok (.if_icmp .ne 7, 3) := by decide +kernel
theorem dX3_sweepOrRefuse_122 : decode cX3_sweepOrRefuse 122 = .ok (.iconst 0, 1) := by decide +kernel
theorem dX3_sweepOrRefuse_123 : decode cX3_sweepOrRefuse 123 = .ok (.goto 8, 3) := by decide +kernel
theorem dX3_sweepOrRefuse_126 : decode cX3_sweepOrRefuse 126 = .ok (.bipush 10, 2) := by decide +kernel
theorem dX3_sweepOrRefuse_128 : decode cX3_sweepOrRefuse 128 = .ok (.iload 9, 2) := by decide +kernel
theorem dX3_sweepOrRefuse_130 : decode cX3_sweepOrRefuse 130 = .ok (.iadd, 1) := by decide +kernel
theorem dX3_sweepOrRefuse_131 : decode cX3_sweepOrRefuse 131 = .ok (.ireturn, 1) := by decide +kernel
set_option maxRecDepth 20000 in
theorem ggX3_keep_X2_copyTo : GoodIn wsX3_keep wsX2_copyTo := goodIn_r _ [7, 8, 9, 10, 11, 12, 24, 25] (by decide +kernel) (by decide +kernel)
set_option maxRecDepth 20000 in
theorem gX3_keep_X2_copyTo : GoodIn wsX3_keep (wsV RX3 156 RX2 yX2_copyTo wsX2_copyTo) := goodIn_app (goodIn_of _ (by decide +kernel)) ggX3_keep_X2_copyTo
theorem dX3_keep_0 : decode cX3_keep 0 = .ok (.aload_n 1, 1) := by decide +kernel
theorem dX3_keep_1 : decode cX3_keep 1 = .ok (.aload_n 0, 1) := by decide +kernel
theorem dX3_keep_2 : decode cX3_keep 2 = .ok (.getfield 24, 3) := by decide +kernel
theorem dX3_keep_5 : decode cX3_keep 5 = .ok (.invokevirtual 156, 3) := by decide +kernel
theorem dX3_keep_8 : decode cX3_keep 8 = .ok (.aload_n 0, 1) := by decide +kernel
theorem dX3_keep_9 : decode cX3_keep 9 = .ok (.aload_n 1, 1) := by decide +kernel
theorem dX3_keep_10 : decode cX3_keep 10 = .ok (.putfield 63, 3) := by decide +kernel
theorem dX3_keep_13 : decode cX3_keep 13 = .ok (.return_, 1) := by decide +kernel
theorem dX3_tally_0 : decode cX3_tally 0 = .ok (.iload_n 1, 1) := by decide +kernel
theorem dX3_tally_1 : decode cX3_tally 1 = .ok (.tableswitch 83 0 3 #[31, 44, 57, 70], 31) := by decide +kernel
theorem dX3_tally_32 : decode cX3_tally 32 = .ok (.aload_n 0, 1) := by decide +kernel
theorem dX3_tally_33 : decode cX3_tally 33 = .ok (.dup, 1) := by decide +kernel
theorem dX3_tally_34 : decode cX3_tally 34 = .ok (.getfield 107, 3) := by decide +kernel
theorem dX3_tally_37 : decode cX3_tally 37 = .ok (.iconst 1, 1) := by decide +kernel
theorem dX3_tally_38 : decode cX3_tally 38 = .ok (.iadd, 1) := by decide +kernel
theorem dX3_tally_39 : decode cX3_tally 39 = .ok (.putfield 107, 3) := by decide +kernel
theorem dX3_tally_42 : decode cX3_tally 42 = .ok (.goto 52, 3) := by decide +kernel
theorem dX3_tally_45 : decode cX3_tally 45 = .ok (.aload_n 0, 1) := by decide +kernel
theorem dX3_tally_46 : decode cX3_tally 46 = .ok (.dup, 1) := by decide +kernel
theorem dX3_tally_47 : decode cX3_tally 47 = .ok (.getfield 110, 3) := by decide +kernel
theorem dX3_tally_50 : decode cX3_tally 50 = .ok (.iconst 1, 1) := by decide +kernel
theorem dX3_tally_51 : decode cX3_tally 51 = .ok (.iadd, 1) := by decide +kernel
theorem dX3_tally_52 : decode cX3_tally 52 = .ok (.putfield 110, 3) := by decide +kernel
theorem dX3_tally_55 : decode cX3_tally 55 = .ok (.goto 39, 3) := by decide +kernel
theorem dX3_tally_58 : decode cX3_tally 58 = .ok (.aload_n 0, 1) := by decide +kernel
theorem dX3_tally_59 : decode cX3_tally 59 = .ok (.dup, 1) := by decide +kernel
theorem dX3_tally_60 : decode cX3_tally 60 = .ok (.getfield 113, 3) := by decide +kernel
theorem dX3_tally_63 : decode cX3_tally 63 = .ok (.iconst 1, 1) := by decide +kernel
theorem dX3_tally_64 : decode cX3_tally 64 = .ok (.iadd, 1) := by decide +kernel
theorem dX3_tally_65 : decode cX3_tally 65 = .ok (.putfield 113, 3) := by decide +kernel
theorem dX3_tally_68 : decode cX3_tally 68 = .ok (.goto 26, 3) := by decide +kernel
theorem dX3_tally_71 : decode cX3_tally 71 = .ok (.aload_n 0, 1) := by decide +kernel
theorem dX3_tally_72 : decode cX3_tally 72 = .ok (.dup, 1) := by decide +kernel
theorem dX3_tally_73 : decode cX3_tally 73 = .ok (.getfield 116, 3) := by decide +kernel
theorem dX3_tally_76 : decode cX3_tally 76 = .ok (.iconst 1, 1) := by decide +kernel
theorem dX3_tally_77 : decode cX3_tally 77 = .ok (.iadd, 1) := by decide +kernel
theorem dX3_tally_78 : decode cX3_tally 78 = .ok (.putfield 116, 3) := by decide +kernel
theorem dX3_tally_81 : decode cX3_tally 81 = .ok (.goto 13, 3) := by decide +kernel
theorem dX3_tally_84 : decode cX3_tally 84 = .ok (.aload_n 0, 1) := by decide +kernel
theorem dX3_tally_85 : decode cX3_tally 85 = .ok (.dup, 1) := by decide +kernel
theorem dX3_tally_86 : decode cX3_tally 86 = .ok (.getfield 119, 3) := by decide +kernel
theorem dX3_tally_89 : decode cX3_tally 89 = .ok (.iconst 1, 1) := by decide +kernel
theorem dX3_tally_90 : decode cX3_tally 90 = .ok (.iadd, 1) := by decide +kernel
theorem dX3_tally_91 : decode cX3_tally 91 = .ok (.putfield 119, 3) := by decide +kernel
theorem dX3_tally_94 : decode cX3_tally 94 = .ok (.return_, 1) := by decide +kernel
theorem dX3_isRound_0 : decode cX3_isRound 0 = .ok (.iload_n 0, 1) := by decide +kernel
theorem dX3_isRound_1 : decode cX3_isRound 1 = .ok (.iconst 3, 1) := by decide +kernel
theorem dX3_isRound_2 : decode cX3_isRound 2 = .ok (.if_icmp .eq 8, 3) := by decide +kernel
theorem dX3_isRound_5 : decode cX3_isRound 5 = .ok (.iload_n 0, 1) := by decide +kernel
theorem dX3_isRound_6 : decode cX3_isRound 6 = .ok (.iconst 4, 1) := by decide +kernel
theorem dX3_isRound_7 : decode cX3_isRound 7 = .ok (.if_icmp .ne 7, 3) := by decide +kernel
theorem dX3_isRound_10 : decode cX3_isRound 10 = .ok (.iconst 1, 1) := by decide +kernel
theorem dX3_isRound_11 : decode cX3_isRound 11 = .ok (.goto 4, 3) := by decide +kernel
theorem dX3_isRound_14 : decode cX3_isRound 14 = .ok (.iconst 0, 1) := by decide +kernel
theorem dX3_isRound_15 : decode cX3_isRound 15 = .ok (.ireturn, 1) := by decide +kernel
theorem dX3_worthOfStone_0 : decode cX3_worthOfStone 0 = .ok (.iload_n 0, 1) := by decide +kernel
theorem dX3_worthOfStone_1 : decode cX3_worthOfStone 1 = .ok (.tableswitch 41 1 4 #[31, 33, 35, 38], 31) := by decide +kernel
theorem dX3_worthOfStone_32 : decode cX3_worthOfStone 32 = .ok (.iconst 1, 1) := by decide +kernel
theorem dX3_worthOfStone_33 : decode cX3_worthOfStone 33 = .ok (.ireturn, 1) := by decide +kernel
theorem dX3_worthOfStone_34 : decode cX3_worthOfStone 34 = .ok (.iconst 4, 1) := by decide +kernel
theorem dX3_worthOfStone_35 : decode cX3_worthOfStone 35 = .ok (.ireturn, 1) := by decide +kernel
theorem dX3_worthOfStone_36 : decode cX3_worthOfStone 36 = .ok (.bipush 20, 2) := by decide +kernel
theorem dX3_worthOfStone_38 : decode cX3_worthOfStone 38 = .ok (.ireturn, 1) := by decide +kernel
theorem dX3_worthOfStone_39 : decode cX3_worthOfStone 39 = .ok (.bipush 15, 2) := by decide +kernel
theorem dX3_worthOfStone_41 : decode cX3_worthOfStone 41 = .ok (.ireturn, 1) := by decide +kernel
theorem dX3_worthOfStone_42 : decode cX3_worthOfStone 42 = .ok (.iconst 0, 1) := by decide +kernel
theorem dX3_worthOfStone_43 : decode cX3_worthOfStone 43 = .ok (.ireturn, 1) := by decide +kernel
theorem dX4_init_0 : decode cX4_init 0 = .ok (.aload_n 0, 1) := by decide +kernel
theorem dX4_init_1 : decode cX4_init 1 = .ok (.invokespecial 1, 3) := by decide +kernel
theorem dX4_init_4 : decode cX4_init 4 = .ok (.aload_n 0, 1) := by decide +kernel
theorem dX4_init_5 : decode cX4_init 5 = .ok (.bipush 8, 2) := by decide +kernel
theorem dX4_init_7 : decode cX4_init 7 = .ok (.newarray .int, 2) := by decide +kernel
theorem dX4_init_9 : decode cX4_init 9 = .ok (.dup, 1) := by decide +kernel
theorem dX4_init_10 : decode cX4_init 10 = .ok (.iconst 0, 1) := by decide +kernel
theorem dX4_init_11 : decode cX4_init 11 = .ok (.iconst (-1), 1) := by decide +kernel
theorem dX4_init_12 : decode cX4_init 12 = .ok (.iastore, 1) := by decide +kernel
theorem dX4_init_13 : decode cX4_init 13 = .ok (.dup, 1) := by decide +kernel
theorem dX4_init_14 : decode cX4_init 14 = .ok (.iconst 1, 1) := by decide +kernel
theorem dX4_init_15 : decode cX4_init 15 = .ok (.iconst (-1), 1) := by decide +kernel
theorem dX4_init_16 : decode cX4_init 16 = .ok (.iastore, 1) := by decide +kernel
theorem dX4_init_17 : decode cX4_init 17 = .ok (.dup, 1) := by decide +kernel
theorem dX4_init_18 : decode cX4_init 18 = .ok (.iconst 2, 1) := by decide +kernel
theorem dX4_init_19 : decode cX4_init 19 = .ok (.iconst (-1), 1) := by decide +kernel
theorem dX4_init_20 : decode cX4_init 20 = .ok (.iastore, 1) := by decide +kernel
theorem dX4_init_21 : decode cX4_init 21 = .ok (.dup, 1) := by decide +kernel
theorem dX4_init_22 : decode cX4_init 22 = .ok (.iconst 3, 1) := by decide +kernel
theorem dX4_init_23 : decode cX4_init 23 = .ok (.iconst (-1), 1) := by decide +kernel
theorem dX4_init_24 : decode cX4_init 24 = .ok (.iastore, 1) := by decide +kernel
theorem dX4_init_25 : decode cX4_init 25 = .ok (.dup, 1) := by decide +kernel
theorem dX4_init_26 : decode cX4_init 26 = .ok (.iconst 4, 1) := by decide +kernel
theorem dX4_init_27 : decode cX4_init 27 = .ok (.iconst (-1), 1) := by decide +kernel
theorem dX4_init_28 : decode cX4_init 28 = .ok (.iastore, 1) := by decide +kernel
theorem dX4_init_29 : decode cX4_init 29 = .ok (.dup, 1) := by decide +kernel
theorem dX4_init_30 : decode cX4_init 30 = .ok (.iconst 5, 1) := by decide +kernel
theorem dX4_init_31 : decode cX4_init 31 = .ok (.iconst (-1), 1) := by decide +kernel
theorem dX4_init_32 : decode cX4_init 32 = .ok (.iastore, 1) := by decide +kernel
theorem dX4_init_33 : decode cX4_init 33 = .ok (.dup, 1) := by decide +kernel
theorem dX4_init_34 : decode cX4_init 34 = .ok (.bipush 6, 2) := by decide +kernel
theorem dX4_init_36 : decode cX4_init 36 = .ok (.iconst (-1), 1) := by decide +kernel
theorem dX4_init_37 : decode cX4_init 37 = .ok (.iastore, 1) := by decide +kernel
theorem dX4_init_38 : decode cX4_init 38 = .ok (.dup, 1) := by decide +kernel
theorem dX4_init_39 : decode cX4_init 39 = .ok (.bipush 7, 2) := by decide +kernel
theorem dX4_init_41 : decode cX4_init 41 = .ok (.iconst (-1), 1) := by decide +kernel
theorem dX4_init_42 : decode cX4_init 42 = .ok (.iastore, 1) := by decide +kernel
theorem dX4_init_43 : decode cX4_init 43 = .ok (.putfield 9, 3) := by decide +kernel
theorem dX4_init_46 : decode cX4_init 46 = .ok (.aload_n 0, 1) := by decide +kernel
theorem dX4_init_47 : decode cX4_init 47 = .ok (.bipush 10, 2) := by decide +kernel
theorem dX4_init_49 : decode cX4_init 49 = .ok (.newarray .int, 2) := by decide +kernel
theorem dX4_init_51 : decode cX4_init 51 = .ok (.putfield 13, 3) := by decide +kernel
theorem dX4_init_54 : decode cX4_init 54 = .ok (.aload_n 0, 1) := by decide +kernel
theorem dX4_init_55 : decode cX4_init 55 = .ok (.bipush 10, 2) := by decide +kernel
theorem dX4_init_57 : decode cX4_init 57 = .ok (.newarray .int, 2) := by decide +kernel
theorem dX4_init_59 : decode cX4_init 59 = .ok (.putfield 16, 3) := by decide +kernel
theorem dX4_init_62 : decode cX4_init 62 = .ok (.aload_n 0, 1) := by decide +kernel
theorem dX4_init_63 : decode cX4_init 63 = .ok (.bipush 10, 2) := by decide +kernel
theorem dX4_init_65 : decode cX4_init 65 = .ok (.newarray .int, 2) := by decide +kernel
theorem dX4_init_67 : decode cX4_init 67 = .ok (.putfield 19, 3) := by decide +kernel
theorem dX4_init_70 : decode cX4_init 70 = .ok (.aload_n 0, 1) := by decide +kernel
theorem dX4_init_71 : decode cX4_init 71 = .ok (.sipush 400, 3) := by decide +kernel
theorem dX4_init_74 : decode cX4_init 74 = .ok (.newarray .long, 2) := by decide +kernel
theorem dX4_init_76 : decode cX4_init 76 = .ok (.putfield 22, 3) := by decide +kernel
theorem dX4_init_79 : decode cX4_init 79 = .ok (.aload_n 0, 1) := by decide +kernel
theorem dX4_init_80 : decode cX4_init 80 = .ok (.bipush 40, 2) := by decide +kernel
theorem dX4_init_82 : decode cX4_init 82 = .ok (.newarray .long, 2) := by decide +kernel
theorem dX4_init_84 : decode cX4_init 84 = .ok (.putfield 26, 3) := by decide +kernel
theorem dX4_init_87 : decode cX4_init 87 = .ok (.aload_n 0, 1) := by decide +kernel
theorem dX4_init_88 : decode cX4_init 88 = .ok (.bipush 40, 2) := by decide +kernel
theorem dX4_init_90 : decode cX4_init 90 = .ok (.newarray .long, 2) := by decide +kernel
theorem dX4_init_92 : decode cX4_init 92 = .ok (.putfield 29, 3) := by decide +kernel
theorem dX4_init_95 : decode cX4_init 95 = .ok (.aload_n 0, 1) := by decide +kernel
theorem dX4_init_96 : decode cX4_init 96 = .ok (.iconst (-1), 1) := by decide +kernel
theorem dX4_init_97 : decode cX4_init 97 = .ok (.putfield 32, 3) := by decide +kernel
theorem dX4_init_100 : decode cX4_init 100 = .ok (.aload_n 0, 1) := by decide +kernel
theorem dX4_init_101 : decode cX4_init 101 = .ok (.bipush 7, 2) := by decide +kernel
theorem dX4_init_103 : decode cX4_init 103 = .ok (.newarray .int, 2) := by decide +kernel
theorem dX4_init_105 : decode cX4_init 105 = .ok (.putfield 36, 3) := by decide +kernel
theorem dX4_init_108 : decode cX4_init 108 = .ok (.return_, 1) := by decide +kernel
theorem dX4_isPlace_0 : decode cX4_isPlace 0 = .ok (.iload_n 0, 1) := by decide +kernel
theorem dX4_isPlace_1 : decode cX4_isPlace 1 = .ok (.ifCond .lt 13, 3) := by decide +kernel
theorem dX4_isPlace_4 : decode cX4_isPlace 4 = .ok (.iload_n 0, 1) := by decide +kernel
theorem dX4_isPlace_5 : decode cX4_isPlace 5 = .ok (.bipush 8, 2) := by decide +kernel
theorem dX4_isPlace_7 : decode cX4_isPlace 7 = .ok (.if_icmp .ge 7, 3) := by decide +kernel
theorem dX4_isPlace_10 : decode cX4_isPlace 10 = .ok (.iconst 1, 1) := by decide +kernel
theorem dX4_isPlace_11 : decode cX4_isPlace 11 = .ok (.goto 4, 3) := by decide +kernel
theorem dX4_isPlace_14 : decode cX4_isPlace 14 = .ok (.iconst 0, 1) := by decide +kernel
theorem dX4_isPlace_15 : decode cX4_isPlace 15 = .ok (.ireturn, 1) := by decide +kernel
theorem dX4_isTray_0 : decode cX4_isTray 0 = .ok (.iload_n 0, 1) := by decide +kernel
theorem dX4_isTray_1 : decode cX4_isTray 1 = .ok (.iconst 2, 1) := by decide +kernel
theorem dX4_isTray_2 : decode cX4_isTray 2 = .ok (.if_icmp .lt 13, 3) := by decide +kernel
theorem dX4_isTray_5 : decode cX4_isTray 5 = .ok (.iload_n 0, 1) := by decide +kernel
theorem dX4_isTray_6 : decode cX4_isTray 6 = .ok (.bipush 10, 2) := by decide +kernel
theorem dX4_isTray_8 : decode cX4_isTray 8 = .ok (.if_icmp .gt 7, 3) := by decide +kernel
theorem dX4_isTray_11 : decode cX4_isTray 11 = .ok (.iconst 1, 1) := by decide +kernel
theorem dX4_isTray_12 : decode cX4_isTray 12 = .ok (.goto 4, 3) := by decide +kernel
theorem dX4_isTray_15 : decode cX4_isTray 15 = .ok (.iconst 0, 1) := by decide +kernel
theorem dX4_isTray_16 : decode cX4_isTray 16 = .ok (.ireturn, 1) := by decide +kernel
theorem dX4_isOfNumbers_0 : decode cX4_isOfNumbers 0 = .ok (.iload_n 0, 1) := by decide +kernel
theorem dX4_isOfNumbers_1 : decode cX4_isOfNumbers 1 = .ok (.iconst 2, 1) := by decide +kernel
theorem dX4_isOfNumbers_2 : decode cX4_isOfNumbers 2 = .ok (.if_icmp .lt 12, 3) := by decide +kernel
theorem dX4_isOfNumbers_5 : decode cX4_isOfNumbers 5 = .ok (.iload_n 0, 1) := by decide +kernel
theorem dX4_isOfNumbers_6 : decode cX4_isOfNumbers 6 = .ok (.iconst 5, 1) := by decide +kernel
theorem dX4_isOfNumbers_7 : decode cX4_isOfNumbers 7 = .ok (.if_icmp .gt 7, 3) := by decide +kernel
theorem dX4_isOfNumbers_10 : decode cX4_isOfNumbers 10 = .ok (.iconst 1, 1) := by decide +kernel
theorem dX4_isOfNumbers_11 : decode cX4_isOfNumbers 11 = .ok (.goto 4, 3) := by decide +kernel
theorem dX4_isOfNumbers_14 : decode cX4_isOfNumbers 14 = .ok (.iconst 0, 1) := by decide +kernel
theorem dX4_isOfNumbers_15 : decode cX4_isOfNumbers 15 = .ok (.ireturn, 1) := by decide +kernel
theorem dX4_isOfStones_0 : decode cX4_isOfStones 0 = .ok (.iload_n 0, 1) := by decide +kernel
theorem dX4_isOfStones_1 : decode cX4_isOfStones 1 = .ok (.bipush 6, 2) := by decide +kernel
theorem dX4_isOfStones_3 : decode cX4_isOfStones 3 = .ok (.if_icmp .lt 13, 3) := by decide +kernel
theorem dX4_isOfStones_6 : decode cX4_isOfStones 6 = .ok (.iload_n 0, 1) := by decide +kernel
theorem dX4_isOfStones_7 : decode cX4_isOfStones 7 = .ok (.bipush 10, 2) := by decide +kernel
theorem dX4_isOfStones_9 : decode cX4_isOfStones 9 = .ok (.if_icmp .gt 7, 3) := by decide +kernel
theorem dX4_isOfStones_12 : decode cX4_isOfStones 12 = .ok (.iconst 1, 1) := by decide +kernel
theorem dX4_isOfStones_13 : decode cX4_isOfStones 13 = .ok (.goto 4, 3) := by decide +kernel
theorem dX4_isOfStones_16 : decode cX4_isOfStones 16 = .ok (.iconst 0, 1) := by decide +kernel
theorem dX4_isOfStones_17 : decode cX4_isOfStones 17 = .ok (.ireturn, 1) := by decide +kernel
theorem dX4_sortOn_0 : decode cX4_sortOn 0 = .ok (.aload_n 0, 1) := by decide +kernel
theorem dX4_sortOn_1 : decode cX4_sortOn 1 = .ok (.getfield 9, 3) := by decide +kernel
theorem dX4_sortOn_4 : decode cX4_sortOn 4 = .ok (.iload_n 1, 1) := by decide +kernel
theorem dX4_sortOn_5 : decode cX4_sortOn 5 = .ok (.iaload, 1) := by decide +kernel
theorem dX4_sortOn_6 : decode cX4_sortOn 6 = .ok (.iconst (-1), 1) := by decide +kernel
theorem dX4_sortOn_7 : decode cX4_sortOn 7 = .ok (.if_icmp .ne 7, 3) := by decide +kernel
theorem dX4_sortOn_10 : decode cX4_sortOn 10 = .ok (.iconst 0, 1) := by decide +kernel
theorem dX4_sortOn_11 : decode cX4_sortOn 11 = .ok (.goto 14, 3) := by decide +kernel
theorem dX4_sortOn_14 : decode cX4_sortOn 14 = .ok (.aload_n 0, 1) := by decide +kernel
theorem dX4_sortOn_15 : decode cX4_sortOn 15 = .ok (.getfield 13, 3) := by decide +kernel
theorem dX4_sortOn_18 : decode cX4_sortOn 18 = .ok (.aload_n 0, 1) := by decide +kernel
theorem dX4_sortOn_19 : decode cX4_sortOn 19 = .ok (.getfield 9, 3) := by decide +kernel
theorem dX4_sortOn_22 : decode cX4_sortOn 22 = .ok (.iload_n 1, 1) := by decide +kernel
theorem dX4_sortOn_23 : decode cX4_sortOn 23 = .ok (.iaload, 1) := by decide +kernel
theorem dX4_sortOn_24 : decode cX4_sortOn 24 = .ok (.iaload, 1) := by decide +kernel
theorem dX4_sortOn_25 : decode cX4_sortOn 25 = .ok (.ireturn, 1) := by decide +kernel
theorem dX4_manyOn_0 : decode cX4_manyOn 0 = .ok (.aload_n 0, 1) := by decide +kernel
theorem dX4_manyOn_1 : decode cX4_manyOn 1 = .ok (.getfield 9, 3) := by decide +kernel
theorem dX4_manyOn_4 : decode cX4_manyOn 4 = .ok (.iload_n 1, 1) := by decide +kernel
theorem dX4_manyOn_5 : decode cX4_manyOn 5 = .ok (.iaload, 1) := by decide +kernel
theorem dX4_manyOn_6 : decode cX4_manyOn 6 = .ok (.iconst (-1), 1) := by decide +kernel
theorem dX4_manyOn_7 : decode cX4_manyOn 7 = .ok (.if_icmp .ne 7, 3) := by decide +kernel
theorem dX4_manyOn_10 : decode cX4_manyOn 10 = .ok (.iconst 0, 1) := by decide +kernel
theorem dX4_manyOn_11 : decode cX4_manyOn 11 = .ok (.goto 14, 3) := by decide +kernel
theorem dX4_manyOn_14 : decode cX4_manyOn 14 = .ok (.aload_n 0, 1) := by decide +kernel
theorem dX4_manyOn_15 : decode cX4_manyOn 15 = .ok (.getfield 16, 3) := by decide +kernel
theorem dX4_manyOn_18 : decode cX4_manyOn 18 = .ok (.aload_n 0, 1) := by decide +kernel
theorem dX4_manyOn_19 : decode cX4_manyOn 19 = .ok (.getfield 9, 3) := by decide +kernel
theorem dX4_manyOn_22 : decode cX4_manyOn 22 = .ok (.iload_n 1, 1) := by decide +kernel
theorem dX4_manyOn_23 : decode cX4_manyOn 23 = .ok (.iaload, 1) := by decide +kernel
theorem dX4_manyOn_24 : decode cX4_manyOn 24 = .ok (.iaload, 1) := by decide +kernel
theorem dX4_manyOn_25 : decode cX4_manyOn 25 = .ok (.ireturn, 1) := by decide +kernel
theorem dX4_isUsed_0 : decode cX4_isUsed 0 = .ok (.iload_n 1, 1) := by decide +kernel
theorem dX4_isUsed_1 : decode cX4_isUsed 1 = .ok (.aload_n 0, 1) := by decide +kernel
theorem dX4_isUsed_2 : decode cX4_isUsed 2 = .ok (.getfield 32, 3) := by decide +kernel
theorem dX4_isUsed_5 : decode cX4_isUsed 5 = .ok (.if_icmp .ne 7, 3) := by decide +kernel
theorem dX4_isUsed_8 : decode cX4_isUsed 8 = .ok (.iconst 1, 1) := by decide +kernel
theorem dX4_isUsed_9 : decode cX4_isUsed 9 = .ok (.goto 4, 3) := by decide +kernel
theorem dX4_isUsed_12 : decode cX4_isUsed 12 = .ok (.iconst 0, 1) := by decide +kernel
theorem dX4_isUsed_13 : decode cX4_isUsed 13 = .ok (.istore_n 2, 1) := by decide +kernel
theorem dX4_isUsed_14 : decode cX4_isUsed 14 = .ok (.iconst 0, 1) := by decide +kernel
theorem dX4_isUsed_15 : decode cX4_isUsed 15 = .ok (.istore_n 3, 1) := by decide +kernel
theorem dX4_isUsed_16 : decode cX4_isUsed 16 = .ok (.iload_n 3, 1) := by decide +kernel
theorem dX4_isUsed_17 : decode cX4_isUsed 17 = .ok (.bipush 8, 2) := by decide +kernel
theorem dX4_isUsed_19 : decode cX4_isUsed 19 = .ok (.if_icmp .ge 29, 3) := by decide +kernel
theorem dX4_isUsed_22 : decode cX4_isUsed 22 = .ok (.iload_n 2, 1) := by decide +kernel
theorem dX4_isUsed_23 : decode cX4_isUsed 23 = .ok (.ifCond .ne 13, 3) := by decide +kernel
theorem dX4_isUsed_26 : decode cX4_isUsed 26 = .ok (.aload_n 0, 1) := by decide +kernel
theorem dX4_isUsed_27 : decode cX4_isUsed 27 = .ok (.getfield 9, 3) := by decide +kernel
theorem dX4_isUsed_30 : decode cX4_isUsed 30 = .ok (.iload_n 3, 1) := by decide +kernel
theorem dX4_isUsed_31 : decode cX4_isUsed 31 = .ok (.iaload, 1) := by decide +kernel
theorem dX4_isUsed_32 : decode cX4_isUsed 32 = .ok (.iload_n 1, 1) := by decide +kernel
theorem dX4_isUsed_33 : decode cX4_isUsed 33 = .ok (.if_icmp .ne 7, 3) := by decide +kernel
theorem dX4_isUsed_36 : decode cX4_isUsed 36 = .ok (.iconst 1, 1) := by decide +kernel
theorem dX4_isUsed_37 : decode cX4_isUsed 37 = .ok (.goto 4, 3) := by decide +kernel
theorem dX4_isUsed_40 : decode cX4_isUsed 40 = .ok (.iconst 0, 1) := by decide +kernel
theorem dX4_isUsed_41 : decode cX4_isUsed 41 = .ok (.istore_n 2, 1) := by decide +kernel
theorem dX4_isUsed_42 : decode cX4_isUsed 42 = .ok (.iinc 3 1, 3) := by decide +kernel
theorem dX4_isUsed_45 : decode cX4_isUsed 45 = .ok (.goto (-29), 3) := by decide +kernel
theorem dX4_isUsed_48 : decode cX4_isUsed 48 = .ok (.iload_n 2, 1) := by decide +kernel
theorem dX4_isUsed_49 : decode cX4_isUsed 49 = .ok (.ireturn, 1) := by decide +kernel
set_option maxRecDepth 20000 in
theorem ggX4_lay_X4_isPlace : GoodIn wsX4_lay wsX4_isPlace := goodIn_r _ [9] (by decide +kernel) (by decide +kernel)
set_option maxRecDepth 20000 in
theorem gX4_lay_X4_isPlace : GoodIn wsX4_lay (va_wsS RX4 39 yX4_isPlace wsX4_isPlace) := goodIn_app (goodIn_of _ (by decide +kernel)) ggX4_lay_X4_isPlace
set_option maxRecDepth 20000 in
theorem ggX4_lay_X4_isTray : GoodIn wsX4_lay wsX4_isTray := goodIn_r _ [12] (by decide +kernel) (by decide +kernel)
set_option maxRecDepth 20000 in
theorem gX4_lay_X4_isTray : GoodIn wsX4_lay (va_wsS RX4 43 yX4_isTray wsX4_isTray) := goodIn_app (goodIn_of _ (by decide +kernel)) ggX4_lay_X4_isTray
set_option maxRecDepth 20000 in
theorem ggX4_lay_X4_isUsed : GoodIn wsX4_lay wsX4_isUsed := goodIn_r _ [16, 17, 1, 18, 19, 20, 21, 22, 23, 24, 25, 26] (by decide +kernel) (by decide +kernel)
set_option maxRecDepth 20000 in
theorem gX4_lay_X4_isUsed : GoodIn wsX4_lay (wsV RX4 46 RX4 yX4_isUsed wsX4_isUsed) := goodIn_app (goodIn_of _ (by decide +kernel)) ggX4_lay_X4_isUsed
theorem dX4_lay_0 : decode cX4_lay 0 = .ok (.iload_n 1, 1) := by decide +kernel
theorem dX4_lay_1 : decode cX4_lay 1 = .ok (.invokestatic 39, 3) := by decide +kernel
theorem dX4_lay_4 : decode cX4_lay 4 = .ok (.ifCond .eq 30, 3) := by decide +kernel
theorem dX4_lay_7 : decode cX4_lay 7 = .ok (.iload_n 2, 1) := by decide +kernel
theorem dX4_lay_8 : decode cX4_lay 8 = .ok (.ifCond .lt 26, 3) := by decide +kernel
theorem dX4_lay_11 : decode cX4_lay 11 = .ok (.iload_n 2, 1) := by decide +kernel
theorem dX4_lay_12 : decode cX4_lay 12 = .ok (.bipush 10, 2) := by decide +kernel
theorem dX4_lay_14 : decode cX4_lay 14 = .ok (.if_icmp .gt 20, 3) := by decide +kernel
theorem dX4_lay_17 : decode cX4_lay 17 = .ok (.iload_n 2, 1) := by decide +kernel
theorem dX4_lay_18 : decode cX4_lay 18 = .ok (.invokestatic 43, 3) := by decide +kernel
theorem dX4_lay_21 : decode cX4_lay 21 = .ok (.ifCond .eq 15, 3) := by decide +kernel
theorem dX4_lay_24 : decode cX4_lay 24 = .ok (.iload_n 3, 1) := by decide +kernel
theorem dX4_lay_25 : decode cX4_lay 25 = .ok (.ifCond .lt 9, 3) := by decide +kernel
theorem dX4_lay_28 : decode cX4_lay 28 = .ok (.iload_n 3, 1) := by decide +kernel
theorem dX4_lay_29 : decode cX4_lay 29 = .ok (.bipush 40, 2) := by decide +kernel
theorem dX4_lay_31 : decode cX4_lay 31 = .ok (.if_icmp .le 5, 3) := by decide +kernel
theorem dX4_lay_34 : decode cX4_lay 34 = .ok (.iconst 0, 1) := by decide +kernel
theorem dX4_lay_35 : decode cX4_lay 35 = .ok (.ireturn, 1) := by decide +kernel
theorem dX4_lay_36 : decode cX4_lay 36 = .ok (.aload_n 0, 1) := by decide +kernel
theorem dX4_lay_37 : decode cX4_lay 37 = .ok (.getfield 9, 3) := by decide +kernel
theorem dX4_lay_40 : decode cX4_lay 40 = .ok (.iload_n 1, 1) := by decide +kernel
theorem dX4_lay_41 : decode cX4_lay 41 = .ok (.iconst (-1), 1) := by decide +kernel
theorem dX4_lay_42 : decode cX4_lay 42 = .ok (.iastore, 1) := by decide +kernel
theorem dX4_lay_43 : decode cX4_lay 43 = .ok (.iload_n 2, 1) := by decide +kernel
theorem dX4_lay_44 : decode cX4_lay 44 = .ok (.ifCond .ne 5, 3) := by decide +kernel
theorem dX4_lay_47 : decode cX4_lay 47 = .ok (.iconst 1, 1) := by decide +kernel
theorem dX4_lay_48 : decode cX4_lay 48 = .ok (.ireturn, 1) := by decide +kernel
theorem dX4_lay_49 : decode cX4_lay 49 = .ok (.iconst 0, 1) := by decide +kernel
theorem dX4_lay_50 : decode cX4_lay 50 = .ok (.istore 4, 2) := by decide +kernel
theorem dX4_lay_52 : decode cX4_lay 52 = .ok (.iload 4, 2) := by decide +kernel
theorem dX4_lay_54 : decode cX4_lay 54 = .ok (.bipush 9, 2) := by decide +kernel
theorem dX4_lay_56 : decode cX4_lay 56 = .ok (.if_icmp .ge 18, 3) := by decide +kernel
theorem dX4_lay_59 : decode cX4_lay 59 = .ok (.aload_n 0, 1) := by decide +kernel
theorem dX4_lay_60 : decode cX4_lay 60 = .ok (.iload 4, 2) := by decide +kernel
theorem dX4_lay_62 : decode cX4_lay 62 = .ok (.invokevirtual 46, 3) := by decide +kernel
theorem dX4_lay_65 : decode cX4_lay 65 = .ok (.ifCond .eq 9, 3) := by decide +kernel
theorem dX4_lay_68 : decode cX4_lay 68 = .ok (.iinc 4 1, 3) := by decide +kernel
theorem dX4_lay_71 : decode cX4_lay 71 = .ok (.goto (-19), 3) := by decide +kernel
theorem dX4_lay_74 : decode cX4_lay 74 = .ok (.aload_n 0, 1) := by decide +kernel
theorem dX4_lay_75 : decode cX4_lay 75 = .ok (.getfield 13, 3) := by decide +kernel
theorem dX4_lay_78 : decode cX4_lay 78 = .ok (.iload 4, 2) := by decide +kernel
theorem dX4_lay_80 : decode cX4_lay 80 = .ok (.iload_n 2, 1) := by decide +kernel
theorem dX4_lay_81 : decode cX4_lay 81 = .ok (.iastore, 1) := by decide +kernel
theorem dX4_lay_82 : decode cX4_lay 82 = .ok (.aload_n 0, 1) := by decide +kernel
theorem dX4_lay_83 : decode cX4_lay 83 = .ok (.getfield 16, 3) := by decide +kernel
theorem dX4_lay_86 : decode cX4_lay 86 = .ok (.iload 4, 2) := by decide +kernel
theorem dX4_lay_88 : decode cX4_lay 88 = .ok (.iload_n 2, 1) := by decide +kernel
theorem dX4_lay_89 : decode cX4_lay 89 = .ok (.invokestatic 43, 3) := by decide +kernel
theorem dX4_lay_92 : decode cX4_lay 92 = .ok (.ifCond .eq 7, 3) := by decide +kernel
theorem dX4_lay_95 : decode cX4_lay 95 = .ok (.iload_n 3, 1) := by decide +kernel
theorem dX4_lay_96 : decode cX4_lay 96 = .ok (.goto 4, 3) := by decide +kernel
theorem dX4_lay_99 : decode cX4_lay 99 = .ok (.iconst 0, 1) := by decide +kernel
theorem dX4_lay_100 : decode cX4_lay 100 = .ok (.iastore, 1) := by decide +kernel
theorem dX4_lay_101 : decode cX4_lay 101 = .ok (.aload_n 0, 1) := by decide +kernel
theorem dX4_lay_102 : decode cX4_lay 102 = .ok (.getfield 19, 3) := by decide +kernel
theorem dX4_lay_105 : decode cX4_lay 105 = .ok (.iload 4, 2) := by decide +kernel
theorem dX4_lay_107 : decode cX4_lay 107 = .ok (.iconst 0, 1) := by decide +kernel
theorem dX4_lay_108 : decode cX4_lay 108 = .ok (.iastore, 1) := by decide +kernel
theorem dX4_lay_109 : decode cX4_lay 109 = .ok (.iconst 0, 1) := by decide +kernel
theorem dX4_lay_110 : decode cX4_lay 110 = .ok (.istore 5, 2) := by decide +kernel
theorem dX4_lay_112 : decode cX4_lay 112 = .ok (.iload 5, 2) := by decide +kernel
theorem dX4_lay_114 : decode cX4_lay 114 = .ok (.bipush 40, 2) := by decide +kernel
theorem dX4_lay_116 : decode cX4_lay 116 = .ok (.if_icmp .ge 23, 3) := by decide +kernel
theorem dX4_lay_119 : decode cX4_lay 119 = .ok (.aload_n 0, 1) := by decide +kernel
theorem dX4_lay_120 : decode cX4_lay 120 = .ok (.getfield 22, 3) := by decide +kernel
theorem dX4_lay_123 : decode cX4_lay 123 = .ok (.bipush 40, 2) := by decide +kernel
theorem dX4_lay_125 : decode cX4_lay 125 = .ok (.iload 4, 2) := by decide +kernel
theorem dX4_lay_127 : decode cX4_lay 127 = .ok (.imul, 1) := by decide +kernel
theorem dX4_lay_128 : decode cX4_lay 128 = .ok (.iload 5, 2) := by decide +kernel
theorem dX4_lay_130 : decode cX4_lay 130 = .ok (.iadd, 1) := by decide +kernel
theorem dX4_lay_131 : decode cX4_lay 131 = .ok (.lconst 0, 1) := by decide +kernel
theorem dX4_lay_132 : decode cX4_lay 132 = .ok (.lastore, 1) := by decide +kernel
theorem dX4_lay_133 : decode cX4_lay 133 = .ok (.iinc 5 1, 3) := by decide +kernel
theorem dX4_lay_136 : decode cX4_lay 136 = .ok (.goto (-24), 3) := by decide +kernel
theorem dX4_lay_139 : decode cX4_lay 139 = .ok (.aload_n 0, 1) := by decide +kernel
theorem dX4_lay_140 : decode cX4_lay 140 = .ok (.getfield 9, 3) := by decide +kernel
theorem dX4_lay_143 : decode cX4_lay 143 = .ok (.iload_n 1, 1) := by decide +kernel
theorem dX4_lay_144 : decode cX4_lay 144 = .ok (.iload 4, 2) := by decide +kernel
theorem dX4_lay_146 : decode cX4_lay 146 = .ok (.iastore, 1) := by decide +kernel
theorem dX4_lay_147 : decode cX4_lay 147 = .ok (.iconst 1, 1) := by decide +kernel
theorem dX4_lay_148 : decode cX4_lay 148 = .ok (.ireturn, 1) := by decide +kernel
set_option maxRecDepth 20000 in
theorem ggX4_share_X4_isPlace : GoodIn wsX4_share wsX4_isPlace := goodIn_r _ [5] (by decide +kernel) (by decide +kernel)
set_option maxRecDepth 20000 in
theorem gX4_share_X4_isPlace : GoodIn wsX4_share (va_wsS RX4 39 yX4_isPlace wsX4_isPlace) := goodIn_app (goodIn_of _ (by decide +kernel)) ggX4_share_X4_isPlace
theorem dX4_share_0 : decode cX4_share 0 = .ok (.iload_n 1, 1) := by decide +kernel
theorem dX4_share_1 : decode cX4_share 1 = .ok (.invokestatic 39, 3) := by decide +kernel
theorem dX4_share_4 : decode cX4_share 4 = .ok (.ifCond .eq 10, 3) := by decide +kernel
theorem dX4_share_7 : decode cX4_share 7 = .ok (.iload_n 2, 1) := by decide +kernel
theorem dX4_share_8 : decode cX4_share 8 = .ok (.invokestatic 39, 3) := by decide +kernel
theorem dX4_share_11 : decode cX4_share 11 = .ok (.ifCond .ne 5, 3) := by decide +kernel
theorem dX4_share_14 : decode cX4_share 14 = .ok (.iconst 0, 1) := by decide +kernel
theorem dX4_share_15 : decode cX4_share 15 = .ok (.ireturn, 1) := by decide +kernel
theorem dX4_share_16 : decode cX4_share 16 = .ok (.aload_n 0, 1) := by decide +kernel
theorem dX4_share_17 : decode cX4_share 17 = .ok (.getfield 9, 3) := by decide +kernel
theorem dX4_share_20 : decode cX4_share 20 = .ok (.iload_n 2, 1) := by decide +kernel
theorem dX4_share_21 : decode cX4_share 21 = .ok (.aload_n 0, 1) := by decide +kernel
theorem dX4_share_22 : decode cX4_share 22 = .ok (.getfield 9, 3) := by decide +kernel
theorem dX4_share_25 : decode cX4_share 25 = .ok (.iload_n 1, 1) := by decide +kernel
theorem dX4_share_26 : decode cX4_share 26 = .ok (.iaload, 1) := by decide +kernel
theorem dX4_share_27 : decode cX4_share 27 = .ok (.iastore, 1) := by decide +kernel
theorem dX4_share_28 : decode cX4_share 28 = .ok (.iconst 1, 1) := by decide +kernel
theorem dX4_share_29 : decode cX4_share 29 = .ok (.ireturn, 1) := by decide +kernel
set_option maxRecDepth 20000 in
theorem ggX4_set_X4_isPlace : GoodIn wsX4_set wsX4_isPlace := goodIn_r _ [7] (by decide +kernel) (by decide +kernel)
set_option maxRecDepth 20000 in
theorem gX4_set_X4_isPlace : GoodIn wsX4_set (va_wsS RX4 39 yX4_isPlace wsX4_isPlace) := goodIn_app (goodIn_of _ (by decide +kernel)) ggX4_set_X4_isPlace
set_option maxRecDepth 20000 in
theorem ggX4_set_X4_sortOn : GoodIn wsX4_set wsX4_sortOn := goodIn_r _ [11, 1, 12, 21, 22, 23, 24, 25, 26, 27, 28, 29] (by decide +kernel) (by decide +kernel)
set_option maxRecDepth 20000 in
theorem gX4_set_X4_sortOn : GoodIn wsX4_set (wsV RX4 49 RX4 yX4_sortOn wsX4_sortOn) := goodIn_app (goodIn_of _ (by decide +kernel)) ggX4_set_X4_sortOn
set_option maxRecDepth 20000 in
theorem ggX4_set_X4_isOfNumbers : GoodIn wsX4_set wsX4_isOfNumbers := goodIn_r _ [15] (by decide +kernel) (by decide +kernel)
set_option maxRecDepth 20000 in
theorem gX4_set_X4_isOfNumbers : GoodIn wsX4_set (va_wsS RX4 53 yX4_isOfNumbers wsX4_isOfNumbers) := goodIn_app (goodIn_of _ (by decide +kernel)) ggX4_set_X4_isOfNumbers
set_option maxRecDepth 20000 in
theorem ggX4_set_X4_manyOn : GoodIn wsX4_set wsX4_manyOn := goodIn_r _ [19, 1, 20, 21, 22, 23, 24, 25, 26, 27, 28, 29] (by decide +kernel) (by decide +kernel)
set_option maxRecDepth 20000 in
theorem gX4_set_X4_manyOn : GoodIn wsX4_set (wsV RX4 56 RX4 yX4_manyOn wsX4_manyOn) := goodIn_app (goodIn_of _ (by decide +kernel)) ggX4_set_X4_manyOn
theorem dX4_set_0 : decode cX4_set 0 = .ok (.iload_n 1, 1) := by decide +kernel
theorem dX4_set_1 : decode cX4_set 1 = .ok (.invokestatic 39, 3) := by decide +kernel
theorem dX4_set_4 : decode cX4_set 4 = .ok (.ifCond .ne 5, 3) := by decide +kernel
theorem dX4_set_7 : decode cX4_set 7 = .ok (.iconst (-1), 1) := by decide +kernel
theorem dX4_set_8 : decode cX4_set 8 = .ok (.ireturn, 1) := by decide +kernel
theorem dX4_set_9 : decode cX4_set 9 = .ok (.aload_n 0, 1) := by decide +kernel
theorem dX4_set_10 : decode cX4_set 10 = .ok (.getfield 9, 3) := by decide +kernel
theorem dX4_set_13 : decode cX4_set 13 = .ok (.iload_n 1, 1) := by decide +kernel
theorem dX4_set_14 : decode cX4_set 14 = .ok (.iaload, 1) := by decide +kernel
theorem dX4_set_15 : decode cX4_set 15 = .ok (.iconst (-1), 1) := by decide +kernel
theorem dX4_set_16 : decode cX4_set 16 = .ok (.if_icmp .ne 5, 3) := by decide +kernel
theorem dX4_set_19 : decode cX4_set 19 = .ok (.iconst 1, 1) := by decide +kernel
theorem dX4_set_20 : decode cX4_set 20 = .ok (.ireturn, 1) := by decide +kernel
theorem dX4_set_21 : decode cX4_set 21 = .ok (.aload_n 0, 1) := by decide +kernel
theorem dX4_set_22 : decode cX4_set 22 = .ok (.iload_n 1, 1) := by decide +kernel
theorem dX4_set_23 : decode cX4_set 23 = .ok (.invokevirtual 49, 3) := by decide +kernel
theorem dX4_set_26 : decode cX4_set 26 = .ok (.istore 4, 2) := by decide +kernel
theorem dX4_set_28 : decode cX4_set 28 = .ok (.iload 4, 2) := by decide +kernel
theorem dX4_set_30 : decode cX4_set 30 = .ok (.invokestatic 53, 3) := by decide +kernel
theorem dX4_set_33 : decode cX4_set 33 = .ok (.ifCond .ne 5, 3) := by decide +kernel
theorem dX4_set_36 : decode cX4_set 36 = .ok (.iconst 2, 1) := by decide +kernel
theorem dX4_set_37 : decode cX4_set 37 = .ok (.ireturn, 1) := by decide +kernel
theorem dX4_set_38 : decode cX4_set 38 = .ok (.iload_n 2, 1) := by decide +kernel
theorem dX4_set_39 : decode cX4_set 39 = .ok (.ifCond .lt 12, 3) := by decide +kernel
theorem dX4_set_42 : decode cX4_set 42 = .ok (.iload_n 2, 1) := by decide +kernel
theorem dX4_set_43 : decode cX4_set 43 = .ok (.aload_n 0, 1) := by decide +kernel
theorem dX4_set_44 : decode cX4_set 44 = .ok (.iload_n 1, 1) := by decide +kernel
theorem dX4_set_45 : decode cX4_set 45 = .ok (.invokevirtual 56, 3) := by decide +kernel
theorem dX4_set_48 : decode cX4_set 48 = .ok (.if_icmp .lt 5, 3) := by decide +kernel
theorem dX4_set_51 : decode cX4_set 51 = .ok (.iconst 3, 1) := by decide +kernel
theorem dX4_set_52 : decode cX4_set 52 = .ok (.ireturn, 1) := by decide +kernel
theorem dX4_set_53 : decode cX4_set 53 = .ok (.iload_n 3, 1) := by decide +kernel
theorem dX4_set_54 : decode cX4_set 54 = .ok (.i2l, 1) := by decide +kernel
theorem dX4_set_55 : decode cX4_set 55 = .ok (.lstore 5, 2) := by decide +kernel
theorem dX4_set_57 : decode cX4_set 57 = .ok (.iload 4, 2) := by decide +kernel
theorem dX4_set_59 : decode cX4_set 59 = .ok (.iconst 3, 1) := by decide +kernel
theorem dX4_set_60 : decode cX4_set 60 = .ok (.if_icmp .ne 11, 3) := by decide +kernel
theorem dX4_set_63 : decode cX4_set 63 = .ok (.iload_n 3, 1) := by decide +kernel
theorem dX4_set_64 : decode cX4_set 64 = .ok (.i2l, 1) := by decide +kernel
theorem dX4_set_65 : decode cX4_set 65 = .ok (.ldc2_w 59, 3) := by decide +kernel
theorem dX4_set_68 : decode cX4_set 68 = .ok (.lmul, 1) := by decide +kernel
theorem dX4_set_69 : decode cX4_set 69 = .ok (.lstore 5, 2) := by decide +kernel
theorem dX4_set_71 : decode cX4_set 71 = .ok (.iload 4, 2) := by decide +kernel
theorem dX4_set_73 : decode cX4_set 73 = .ok (.iconst 4, 1) := by decide +kernel
theorem dX4_set_74 : decode cX4_set 74 = .ok (.if_icmp .ne 16, 3) := by decide +kernel
theorem dX4_set_77 : decode cX4_set 77 = .ok (.iload_n 3, 1) := by decide +kernel
theorem dX4_set_78 : decode cX4_set 78 = .ok (.bipush 127, 2) := by decide +kernel
theorem dX4_set_80 : decode cX4_set 80 = .ok (.iand, 1) := by decide +kernel
theorem dX4_set_81 : decode cX4_set 81 = .ok (.iload_n 3, 1) := by decide +kernel
theorem dX4_set_82 : decode cX4_set 82 = .ok (.sipush 128, 3) := by decide +kernel
theorem dX4_set_85 : decode cX4_set 85 = .ok (.iand, 1) := by decide +kernel
theorem dX4_set_86 : decode cX4_set 86 = .ok (.isub, 1) := by decide +kernel
theorem dX4_set_87 : decode cX4_set 87 = .ok (.i2l, 1) := by decide +kernel
theorem dX4_set_88 : decode cX4_set 88 = .ok (.lstore 5, 2) := by decide +kernel
theorem dX4_set_90 : decode cX4_set 90 = .ok (.iload 4, 2) := by decide +kernel
theorem dX4_set_92 : decode cX4_set 92 = .ok (.iconst 5, 1) := by decide +kernel
theorem dX4_set_93 : decode cX4_set 93 = .ok (.if_icmp .ne 9, 3) := by decide +kernel
theorem dX4_set_96 : decode cX4_set 96 = .ok (.iload_n 3, 1) := by decide +kernel
theorem dX4_set_97 : decode cX4_set 97 = .ok (.iconst 1, 1) := by decide +kernel
theorem dX4_set_98 : decode cX4_set 98 = .ok (.iand, 1) := by decide +kernel
theorem dX4_set_99 : decode cX4_set 99 = .ok (.i2l, 1) := by decide +kernel
theorem dX4_set_100 : decode cX4_set 100 = .ok (.lstore 5, 2) := by decide +kernel
theorem dX4_set_102 : decode cX4_set 102 = .ok (.aload_n 0, 1) := by decide +kernel
theorem dX4_set_103 : decode cX4_set 103 = .ok (.getfield 22, 3) := by decide +kernel
theorem dX4_set_106 : decode cX4_set 106 = .ok (.bipush 40, 2) := by decide +kernel
theorem dX4_set_108 : decode cX4_set 108 = .ok (.aload_n 0, 1) := by decide +kernel
theorem dX4_set_109 : decode cX4_set 109 = .ok (.getfield 9, 3) := by decide +kernel
theorem dX4_set_112 : decode cX4_set 112 = .ok (.iload_n 1, 1) := by decide +kernel
theorem dX4_set_113 : decode cX4_set 113 = .ok (.iaload, 1) := by decide +kernel
theorem dX4_set_114 : decode cX4_set 114 = .ok (.imul, 1) := by decide +kernel
theorem dX4_set_115 : decode cX4_set 115 = .ok (.iload_n 2, 1) := by decide +kernel
theorem dX4_set_116 : decode cX4_set 116 = .ok (.iadd, 1) := by decide +kernel
theorem dX4_set_117 : decode cX4_set 117 = .ok (.lload 5, 2) := by decide +kernel
theorem dX4_set_119 : decode cX4_set 119 = .ok (.lastore, 1) := by decide +kernel
theorem dX4_set_120 : decode cX4_set 120 = .ok (.iconst 0, 1) := by decide +kernel
theorem dX4_set_121 : decode cX4_set 121 = .ok (.ireturn, 1) := by decide +kernel
theorem dX4_takes_0 : decode cX4_takes 0 = .ok (.lload_n 1, 1) := by decide +kernel
theorem dX4_takes_1 : decode cX4_takes 1 = .ok (.ldc2_w 61, 3) := by decide +kernel
theorem dX4_takes_4 : decode cX4_takes 4 = .ok (.lrem, 1) := by decide +kernel
theorem dX4_takes_5 : decode cX4_takes 5 = .ok (.l2i, 1) := by decide +kernel
theorem dX4_takes_6 : decode cX4_takes 6 = .ok (.istore_n 3, 1) := by decide +kernel
theorem dX4_takes_7 : decode cX4_takes 7 = .ok (.iload_n 3, 1) := by decide +kernel
theorem dX4_takes_8 : decode cX4_takes 8 = .ok (.ifCond .eq 9, 3) := by decide +kernel
theorem dX4_takes_11 : decode cX4_takes 11 = .ok (.iload_n 0, 1) := by decide +kernel
theorem dX4_takes_12 : decode cX4_takes 12 = .ok (.bipush 6, 2) := by decide +kernel
theorem dX4_takes_14 : decode cX4_takes 14 = .ok (.if_icmp .ne 5, 3) := by decide +kernel
theorem dX4_takes_17 : decode cX4_takes 17 = .ok (.iconst 1, 1) := by decide +kernel
theorem dX4_takes_18 : decode cX4_takes 18 = .ok (.ireturn, 1) := by decide +kernel
theorem dX4_takes_19 : decode cX4_takes 19 = .ok (.iload_n 0, 1) := by decide +kernel
theorem dX4_takes_20 : decode cX4_takes 20 = .ok (.bipush 7, 2) := by decide +kernel
theorem dX4_takes_22 : decode cX4_takes 22 = .ok (.if_icmp .ne 19, 3) := by decide +kernel
theorem dX4_takes_25 : decode cX4_takes 25 = .ok (.iload_n 3, 1) := by decide +kernel
theorem dX4_takes_26 : decode cX4_takes 26 = .ok (.iconst 2, 1) := by decide +kernel
theorem dX4_takes_27 : decode cX4_takes 27 = .ok (.if_icmp .eq 8, 3) := by decide +kernel
theorem dX4_takes_30 : decode cX4_takes 30 = .ok (.iload_n 3, 1) := by decide +kernel
theorem dX4_takes_31 : decode cX4_takes 31 = .ok (.iconst 3, 1) := by decide +kernel
theorem dX4_takes_32 : decode cX4_takes 32 = .ok (.if_icmp .ne 7, 3) := by decide +kernel
theorem dX4_takes_35 : decode cX4_takes 35 = .ok (.iconst 1, 1) := by decide +kernel
theorem dX4_takes_36 : decode cX4_takes 36 = .ok (.goto 4, 3) := by decide +kernel
theorem dX4_takes_39 : decode cX4_takes 39 = .ok (.iconst 0, 1) := by decide +kernel
theorem dX4_takes_40 : decode cX4_takes 40 = .ok (.ireturn, 1) := by decide +kernel
theorem dX4_takes_41 : decode cX4_takes 41 = .ok (.iload_n 0, 1) := by decide +kernel
theorem dX4_takes_42 : decode cX4_takes 42 = .ok (.bipush 8, 2) := by decide +kernel
theorem dX4_takes_44 : decode cX4_takes 44 = .ok (.if_icmp .ne 14, 3) := by decide +kernel
theorem dX4_takes_47 : decode cX4_takes 47 = .ok (.iload_n 3, 1) := by decide +kernel
theorem dX4_takes_48 : decode cX4_takes 48 = .ok (.iconst 3, 1) := by decide +kernel
theorem dX4_takes_49 : decode cX4_takes 49 = .ok (.if_icmp .ne 7, 3) := by decide +kernel
theorem dX4_takes_52 : decode cX4_takes 52 = .ok (.iconst 1, 1) := by decide +kernel
theorem dX4_takes_53 : decode cX4_takes 53 = .ok (.goto 4, 3) := by decide +kernel
theorem dX4_takes_56 : decode cX4_takes 56 = .ok (.iconst 0, 1) := by decide +kernel
theorem dX4_takes_57 : decode cX4_takes 57 = .ok (.ireturn, 1) := by decide +kernel
theorem dX4_takes_58 : decode cX4_takes 58 = .ok (.iload_n 0, 1) := by decide +kernel
theorem dX4_takes_59 : decode cX4_takes 59 = .ok (.bipush 9, 2) := by decide +kernel
theorem dX4_takes_61 : decode cX4_takes 61 = .ok (.if_icmp .ne 14, 3) := by decide +kernel
theorem dX4_takes_64 : decode cX4_takes 64 = .ok (.iload_n 3, 1) := by decide +kernel
theorem dX4_takes_65 : decode cX4_takes 65 = .ok (.iconst 4, 1) := by decide +kernel
theorem dX4_takes_66 : decode cX4_takes 66 = .ok (.if_icmp .ne 7, 3) := by decide +kernel
theorem dX4_takes_69 : decode cX4_takes 69 = .ok (.iconst 1, 1) := by decide +kernel
theorem dX4_takes_70 : decode cX4_takes 70 = .ok (.goto 4, 3) := by decide +kernel
theorem dX4_takes_73 : decode cX4_takes 73 = .ok (.iconst 0, 1) := by decide +kernel
theorem dX4_takes_74 : decode cX4_takes 74 = .ok (.ireturn, 1) := by decide +kernel
theorem dX4_takes_75 : decode cX4_takes 75 = .ok (.iload_n 3, 1) := by decide +kernel
theorem dX4_takes_76 : decode cX4_takes 76 = .ok (.iconst 3, 1) := by decide +kernel
theorem dX4_takes_77 : decode cX4_takes 77 = .ok (.if_icmp .eq 8, 3) := by decide +kernel
theorem dX4_takes_80 : decode cX4_takes 80 = .ok (.iload_n 3, 1) := by decide +kernel
theorem dX4_takes_81 : decode cX4_takes 81 = .ok (.iconst 4, 1) := by decide +kernel
theorem dX4_takes_82 : decode cX4_takes 82 = .ok (.if_icmp .ne 7, 3) := by decide +kernel
theorem dX4_takes_85 : decode cX4_takes 85 = .ok (.iconst 1, 1) := by decide +kernel
theorem dX4_takes_86 : decode cX4_takes 86 = .ok (.goto 4, 3) := by decide +kernel
theorem dX4_takes_89 : decode cX4_takes 89 = .ok (.iconst 0, 1) := by decide +kernel
theorem dX4_takes_90 : decode cX4_takes 90 = .ok (.ireturn, 1) := by decide +kernel
set_option maxRecDepth 20000 in
theorem ggX4_refusal_X4_isOfStones : GoodIn wsX4_refusal wsX4_isOfStones := goodIn_r _ [4] (by decide +kernel) (by decide +kernel)
set_option maxRecDepth 20000 in
theorem gX4_refusal_X4_isOfStones : GoodIn wsX4_refusal (va_wsS RX4 63 yX4_isOfStones wsX4_isOfStones) := goodIn_app (goodIn_of _ (by decide +kernel)) ggX4_refusal_X4_isOfStones
theorem dX4_refusal_0 : decode cX4_refusal 0 = .ok (.iload_n 0, 1) := by decide +kernel
theorem dX4_refusal_1 : decode cX4_refusal 1 = .ok (.ifCond .eq 7, 3) := by decide +kernel
theorem dX4_refusal_4 : decode cX4_refusal 4 = .ok (.iload_n 3, 1) := by decide +kernel
theorem dX4_refusal_5 : decode cX4_refusal 5 = .ok (.ifCond .ne 5, 3) := by decide +kernel
theorem dX4_refusal_8 : decode cX4_refusal 8 = .ok (.iconst 1, 1) := by decide +kernel
theorem dX4_refusal_9 : decode cX4_refusal 9 = .ok (.ireturn, 1) := by decide +kernel
theorem dX4_refusal_10 : decode cX4_refusal 10 = .ok (.iload_n 0, 1) := by decide +kernel
theorem dX4_refusal_11 : decode cX4_refusal 11 = .ok (.iload_n 3, 1) := by decide +kernel
theorem dX4_refusal_12 : decode cX4_refusal 12 = .ok (.if_icmp .eq 17, 3) := by decide +kernel
theorem dX4_refusal_15 : decode cX4_refusal 15 = .ok (.iload_n 0, 1) := by decide +kernel
theorem dX4_refusal_16 : decode cX4_refusal 16 = .ok (.invokestatic 63, 3) := by decide +kernel
theorem dX4_refusal_19 : decode cX4_refusal 19 = .ok (.ifCond .eq 14, 3) := by decide +kernel
theorem dX4_refusal_22 : decode cX4_refusal 22 = .ok (.iload_n 3, 1) := by decide +kernel
theorem dX4_refusal_23 : decode cX4_refusal 23 = .ok (.invokestatic 63, 3) := by decide +kernel
theorem dX4_refusal_26 : decode cX4_refusal 26 = .ok (.ifCond .eq 7, 3) := by decide +kernel
theorem dX4_refusal_29 : decode cX4_refusal 29 = .ok (.iconst 1, 1) := by decide +kernel
theorem dX4_refusal_30 : decode cX4_refusal 30 = .ok (.goto 4, 3) := by decide +kernel
theorem dX4_refusal_33 : decode cX4_refusal 33 = .ok (.iconst 0, 1) := by decide +kernel
theorem dX4_refusal_34 : decode cX4_refusal 34 = .ok (.istore 7, 2) := by decide +kernel
theorem dX4_refusal_36 : decode cX4_refusal 36 = .ok (.iload_n 0, 1) := by decide +kernel
theorem dX4_refusal_37 : decode cX4_refusal 37 = .ok (.iconst 1, 1) := by decide +kernel
theorem dX4_refusal_38 : decode cX4_refusal 38 = .ok (.if_icmp .eq 13, 3) := by decide +kernel
theorem dX4_refusal_41 : decode cX4_refusal 41 = .ok (.iload_n 3, 1) := by decide +kernel
theorem dX4_refusal_42 : decode cX4_refusal 42 = .ok (.iconst 1, 1) := by decide +kernel
theorem dX4_refusal_43 : decode cX4_refusal 43 = .ok (.if_icmp .eq 8, 3) := by decide +kernel
theorem dX4_refusal_46 : decode cX4_refusal 46 = .ok (.iload 7, 2) := by decide +kernel
theorem dX4_refusal_48 : decode cX4_refusal 48 = .ok (.ifCond .ne 5, 3) := by decide +kernel
theorem dX4_refusal_51 : decode cX4_refusal 51 = .ok (.iconst 2, 1) := by decide +kernel
theorem dX4_refusal_52 : decode cX4_refusal 52 = .ok (.ireturn, 1) := by decide +kernel
theorem dX4_refusal_53 : decode cX4_refusal 53 = .ok (.iload_n 2, 1) := by decide +kernel
theorem dX4_refusal_54 : decode cX4_refusal 54 = .ok (.ifCond .lt 13, 3) := by decide +kernel
theorem dX4_refusal_57 : decode cX4_refusal 57 = .ok (.iload 5, 2) := by decide +kernel
theorem dX4_refusal_59 : decode cX4_refusal 59 = .ok (.ifCond .lt 8, 3) := by decide +kernel
theorem dX4_refusal_62 : decode cX4_refusal 62 = .ok (.iload 6, 2) := by decide +kernel
theorem dX4_refusal_64 : decode cX4_refusal 64 = .ok (.ifCond .ge 7, 3) := by decide +kernel
theorem dX4_refusal_67 : decode cX4_refusal 67 = .ok (.iconst 1, 1) := by decide +kernel
theorem dX4_refusal_68 : decode cX4_refusal 68 = .ok (.goto 4, 3) := by decide +kernel
theorem dX4_refusal_71 : decode cX4_refusal 71 = .ok (.iconst 0, 1) := by decide +kernel
theorem dX4_refusal_72 : decode cX4_refusal 72 = .ok (.istore 8, 2) := by decide +kernel
theorem dX4_refusal_74 : decode cX4_refusal 74 = .ok (.iload 8, 2) := by decide +kernel
theorem dX4_refusal_76 : decode cX4_refusal 76 = .ok (.ifCond .ne 17, 3) := by decide +kernel
theorem dX4_refusal_79 : decode cX4_refusal 79 = .ok (.iload 6, 2) := by decide +kernel
theorem dX4_refusal_81 : decode cX4_refusal 81 = .ok (.iload_n 1, 1) := by decide +kernel
theorem dX4_refusal_82 : decode cX4_refusal 82 = .ok (.if_icmp .gt 11, 3) := by decide +kernel
theorem dX4_refusal_85 : decode cX4_refusal 85 = .ok (.iload_n 2, 1) := by decide +kernel
theorem dX4_refusal_86 : decode cX4_refusal 86 = .ok (.iload_n 1, 1) := by decide +kernel
theorem dX4_refusal_87 : decode cX4_refusal 87 = .ok (.iload 6, 2) := by decide +kernel
theorem dX4_refusal_89 : decode cX4_refusal 89 = .ok (.isub, 1) := by decide +kernel
theorem dX4_refusal_90 : decode cX4_refusal 90 = .ok (.if_icmp .le 7, 3) := by decide +kernel
theorem dX4_refusal_93 : decode cX4_refusal 93 = .ok (.iconst 1, 1) := by decide +kernel
theorem dX4_refusal_94 : decode cX4_refusal 94 = .ok (.goto 4, 3) := by decide +kernel
theorem dX4_refusal_97 : decode cX4_refusal 97 = .ok (.iconst 0, 1) := by decide +kernel
theorem dX4_refusal_98 : decode cX4_refusal 98 = .ok (.istore 8, 2) := by decide +kernel
theorem dX4_refusal_100 : decode cX4_refusal 100 = .ok (.iload 8, 2) := by decide +kernel
theorem dX4_refusal_102 : decode cX4_refusal 102 = .ok (.ifCond .ne 20, 3) := by decide +kernel
theorem dX4_refusal_105 : decode cX4_refusal 105 = .ok (.iload 6, 2) := by decide +kernel
theorem dX4_refusal_107 : decode cX4_refusal 107 = .ok (.iload 4, 2) := by decide +kernel
theorem dX4_refusal_109 : decode cX4_refusal 109 = .ok (.if_icmp .gt 13, 3) := by decide +kernel
theorem dX4_refusal_112 : decode cX4_refusal 112 = .ok (.iload 5, 2) := by decide +kernel
theorem dX4_refusal_114 : decode cX4_refusal 114 = .ok (.iload 4, 2) := by decide +kernel
theorem dX4_refusal_116 : decode cX4_refusal 116 = .ok (.iload 6, 2) := by decide +kernel
theorem dX4_refusal_118 : decode cX4_refusal 118 = .ok (.isub, 1) := by decide +kernel
theorem dX4_refusal_119 : decode cX4_refusal 119 = .ok (.if_icmp .le 7, 3) := by decide +kernel
theorem dX4_refusal_122 : decode cX4_refusal 122 = .ok (.iconst 1, 1) := by decide +kernel
theorem dX4_refusal_123 : decode cX4_refusal 123 = .ok (.goto 4, 3) := by decide +kernel
theorem dX4_refusal_126 : decode cX4_refusal 126 = .ok (.iconst 0, 1) := by decide +kernel
theorem dX4_refusal_127 : decode cX4_refusal 127 = .ok (.istore 8, 2) := by decide +kernel
theorem dX4_refusal_129 : decode cX4_refusal 129 = .ok (.iload 8, 2) := by decide +kernel
theorem dX4_refusal_131 : decode cX4_refusal 131 = .ok (.ifCond .eq 7, 3) := by decide +kernel
theorem dX4_refusal_134 : decode cX4_refusal 134 = .ok (.iconst 3, 1) := by decide +kernel
theorem dX4_refusal_135 : decode cX4_refusal 135 = .ok (.goto 4, 3) := by decide +kernel
theorem dX4_refusal_138 : decode cX4_refusal 138 = .ok (.iconst 0, 1) := by decide +kernel
theorem dX4_refusal_139 : decode cX4_refusal 139 = .ok (.ireturn, 1) := by decide +kernel
set_option maxRecDepth 20000 in
theorem ggX4_carry_X4_sortOn : GoodIn wsX4_carry wsX4_sortOn := goodIn_r _ [9, 1, 10, 18, 19, 20, 21, 22, 23, 24, 25, 26] (by decide +kernel) (by decide +kernel)
set_option maxRecDepth 20000 in
theorem gX4_carry_X4_sortOn : GoodIn wsX4_carry (wsV RX4 49 RX4 yX4_sortOn wsX4_sortOn) := goodIn_app (goodIn_of _ (by decide +kernel)) ggX4_carry_X4_sortOn
set_option maxRecDepth 20000 in
theorem ggX4_carry_X4_isOfStones : GoodIn wsX4_carry wsX4_isOfStones := goodIn_r _ [13] (by decide +kernel) (by decide +kernel)
set_option maxRecDepth 20000 in
theorem gX4_carry_X4_isOfStones : GoodIn wsX4_carry (va_wsS RX4 63 yX4_isOfStones wsX4_isOfStones) := goodIn_app (goodIn_of _ (by decide +kernel)) ggX4_carry_X4_isOfStones
set_option maxRecDepth 20000 in
theorem ggX4_carry_X4_takes : GoodIn wsX4_carry wsX4_takes := goodIn_r _ [16, 17] (by decide +kernel) (by decide +kernel)
set_option maxRecDepth 20000 in
theorem gX4_carry_X4_takes : GoodIn wsX4_carry (va_wsS RX4 66 yX4_takes wsX4_takes) := goodIn_app (goodIn_of _ (by decide +kernel)) ggX4_carry_X4_takes
theorem dX4_carry_0 : decode cX4_carry 0 = .ok (.aload_n 0, 1) := by decide +kernel
theorem dX4_carry_1 : decode cX4_carry 1 = .ok (.iload_n 1, 1) := by decide +kernel
theorem dX4_carry_2 : decode cX4_carry 2 = .ok (.invokevirtual 49, 3) := by decide +kernel
theorem dX4_carry_5 : decode cX4_carry 5 = .ok (.istore 4, 2) := by decide +kernel
theorem dX4_carry_7 : decode cX4_carry 7 = .ok (.bipush 40, 2) := by decide +kernel
theorem dX4_carry_9 : decode cX4_carry 9 = .ok (.aload_n 0, 1) := by decide +kernel
theorem dX4_carry_10 : decode cX4_carry 10 = .ok (.getfield 9, 3) := by decide +kernel
theorem dX4_carry_13 : decode cX4_carry 13 = .ok (.iload_n 1, 1) := by decide +kernel
theorem dX4_carry_14 : decode cX4_carry 14 = .ok (.iaload, 1) := by decide +kernel
theorem dX4_carry_15 : decode cX4_carry 15 = .ok (.imul, 1) := by decide +kernel
theorem dX4_carry_16 : decode cX4_carry 16 = .ok (.iload_n 2, 1) := by decide +kernel
theorem dX4_carry_17 : decode cX4_carry 17 = .ok (.iadd, 1) := by decide +kernel
theorem dX4_carry_18 : decode cX4_carry 18 = .ok (.istore 5, 2) := by decide +kernel
theorem dX4_carry_20 : decode cX4_carry 20 = .ok (.iconst 0, 1) := by decide +kernel
theorem dX4_carry_21 : decode cX4_carry 21 = .ok (.istore 6, 2) := by decide +kernel
theorem dX4_carry_23 : decode cX4_carry 23 = .ok (.iload 6, 2) := by decide +kernel
theorem dX4_carry_25 : decode cX4_carry 25 = .ok (.iload_n 3, 1) := by decide +kernel
theorem dX4_carry_26 : decode cX4_carry 26 = .ok (.if_icmp .ge 76, 3) := by decide +kernel
theorem dX4_carry_29 : decode cX4_carry 29 = .ok (.iload 4, 2) := by decide +kernel
theorem dX4_carry_31 : decode cX4_carry 31 = .ok (.invokestatic 63, 3) := by decide +kernel
theorem dX4_carry_34 : decode cX4_carry 34 = .ok (.ifCond .eq 34, 3) := by decide +kernel
theorem dX4_carry_37 : decode cX4_carry 37 = .ok (.iload 4, 2) := by decide +kernel
theorem dX4_carry_39 : decode cX4_carry 39 = .ok (.aload_n 0, 1) := by decide +kernel
theorem dX4_carry_40 : decode cX4_carry 40 = .ok (.getfield 26, 3) := by decide +kernel
theorem dX4_carry_43 : decode cX4_carry 43 = .ok (.iload 6, 2) := by decide +kernel
theorem dX4_carry_45 : decode cX4_carry 45 = .ok (.laload, 1) := by decide +kernel
theorem dX4_carry_46 : decode cX4_carry 46 = .ok (.invokestatic 66, 3) := by decide +kernel
theorem dX4_carry_49 : decode cX4_carry 49 = .ok (.ifCond .ne 19, 3) := by decide +kernel
theorem dX4_carry_52 : decode cX4_carry 52 = .ok (.aload_n 0, 1) := by decide +kernel
theorem dX4_carry_53 : decode cX4_carry 53 = .ok (.getfield 36, 3) := by decide +kernel
theorem dX4_carry_56 : decode cX4_carry 56 = .ok (.iconst 5, 1) := by decide +kernel
theorem dX4_carry_57 : decode cX4_carry 57 = .ok (.dup2, 1) := by decide +kernel
theorem dX4_carry_58 : decode cX4_carry 58 = .ok (.iaload, 1) := by decide +kernel
theorem dX4_carry_59 : decode cX4_carry 59 = .ok (.iconst 1, 1) := by decide +kernel
theorem dX4_carry_60 : decode cX4_carry 60 = .ok (.iadd, 1) := by decide +kernel
theorem dX4_carry_61 : decode cX4_carry 61 = .ok (.iastore, 1) := by decide +kernel
theorem dX4_carry_62 : decode cX4_carry 62 = .ok (.bipush 10, 2) := by decide +kernel
theorem dX4_carry_64 : decode cX4_carry 64 = .ok (.iload 6, 2) := by decide +kernel
theorem dX4_carry_66 : decode cX4_carry 66 = .ok (.iadd, 1) := by decide +kernel
theorem dX4_carry_67 : decode cX4_carry 67 = .ok (.ireturn, 1) := by decide +kernel
theorem dX4_carry_68 : decode cX4_carry 68 = .ok (.aload_n 0, 1) := by decide +kernel
theorem dX4_carry_69 : decode cX4_carry 69 = .ok (.getfield 22, 3) := by decide +kernel
theorem dX4_carry_72 : decode cX4_carry 72 = .ok (.iload 5, 2) := by decide +kernel
theorem dX4_carry_74 : decode cX4_carry 74 = .ok (.iload 6, 2) := by decide +kernel
theorem dX4_carry_76 : decode cX4_carry 76 = .ok (.iadd, 1) := by decide +kernel
theorem dX4_carry_77 : decode cX4_carry 77 = .ok (.aload_n 0, 1) := by decide +kernel
theorem dX4_carry_78 : decode cX4_carry 78 = .ok (.getfield 26, 3) := by decide +kernel
theorem dX4_carry_81 : decode cX4_carry 81 = .ok (.iload 6, 2) := by decide +kernel
theorem dX4_carry_83 : decode cX4_carry 83 = .ok (.laload, 1) := by decide +kernel
theorem dX4_carry_84 : decode cX4_carry 84 = .ok (.lastore, 1) := by decide +kernel
theorem dX4_carry_85 : decode cX4_carry 85 = .ok (.aload_n 0, 1) := by decide +kernel
theorem dX4_carry_86 : decode cX4_carry 86 = .ok (.getfield 36, 3) := by decide +kernel
theorem dX4_carry_89 : decode cX4_carry 89 = .ok (.bipush 6, 2) := by decide +kernel
theorem dX4_carry_91 : decode cX4_carry 91 = .ok (.dup2, 1) := by decide +kernel
theorem dX4_carry_92 : decode cX4_carry 92 = .ok (.iaload, 1) := by decide +kernel
theorem dX4_carry_93 : decode cX4_carry 93 = .ok (.iconst 1, 1) := by decide +kernel
theorem dX4_carry_94 : decode cX4_carry 94 = .ok (.iadd, 1) := by decide +kernel
theorem dX4_carry_95 : decode cX4_carry 95 = .ok (.iastore, 1) := by decide +kernel
theorem dX4_carry_96 : decode cX4_carry 96 = .ok (.iinc 6 1, 3) := by decide +kernel
theorem dX4_carry_99 : decode cX4_carry 99 = .ok (.goto (-76), 3) := by decide +kernel
theorem dX4_carry_102 : decode cX4_carry 102 = .ok (.aload_n 0, 1) := by decide +kernel
theorem dX4_carry_103 : decode cX4_carry 103 = .ok (.getfield 36, 3) := by decide +kernel
theorem dX4_carry_106 : decode cX4_carry 106 = .ok (.iconst 1, 1) := by decide +kernel
theorem dX4_carry_107 : decode cX4_carry 107 = .ok (.dup2, 1) := by decide +kernel
theorem dX4_carry_108 : decode cX4_carry 108 = .ok (.iaload, 1) := by decide +kernel
theorem dX4_carry_109 : decode cX4_carry 109 = .ok (.iconst 1, 1) := by decide +kernel
theorem dX4_carry_110 : decode cX4_carry 110 = .ok (.iadd, 1) := by decide +kernel
theorem dX4_carry_111 : decode cX4_carry 111 = .ok (.iastore, 1) := by decide +kernel
theorem dX4_carry_112 : decode cX4_carry 112 = .ok (.iconst 0, 1) := by decide +kernel
theorem dX4_carry_113 : decode cX4_carry 113 = .ok (.ireturn, 1) := by decide +kernel
set_option maxRecDepth 20000 in
theorem ggX4_put_X4_isPlace : GoodIn wsX4_put wsX4_isPlace := goodIn_r _ [7] (by decide +kernel) (by decide +kernel)
set_option maxRecDepth 20000 in
theorem gX4_put_X4_isPlace : GoodIn wsX4_put (va_wsS RX4 39 yX4_isPlace wsX4_isPlace) := goodIn_app (goodIn_of _ (by decide +kernel)) ggX4_put_X4_isPlace
set_option maxRecDepth 20000 in
theorem ggX4_put_X4_sortOn : GoodIn wsX4_put wsX4_sortOn := goodIn_r _ [11, 12, 13, 33, 34, 35, 36, 37, 38, 39, 40, 41] (by decide +kernel) (by decide +kernel)
set_option maxRecDepth 20000 in
theorem gX4_put_X4_sortOn : GoodIn wsX4_put (wsV RX4 49 RX4 yX4_sortOn wsX4_sortOn) := goodIn_app (goodIn_of _ (by decide +kernel)) ggX4_put_X4_sortOn
set_option maxRecDepth 20000 in
theorem ggX4_put_X4_manyOn : GoodIn wsX4_put wsX4_manyOn := goodIn_r _ [17, 12, 18, 33, 34, 35, 36, 37, 38, 39, 40, 41] (by decide +kernel) (by decide +kernel)
set_option maxRecDepth 20000 in
theorem gX4_put_X4_manyOn : GoodIn wsX4_put (wsV RX4 56 RX4 yX4_manyOn wsX4_manyOn) := goodIn_app (goodIn_of _ (by decide +kernel)) ggX4_put_X4_manyOn
set_option maxRecDepth 20000 in
theorem ggX4_put_X4_refusal : GoodIn wsX4_put wsX4_refusal := goodIn_r _ [21, 22, 23, 6, 24] (by decide +kernel) (by decide +kernel)
set_option maxRecDepth 20000 in
theorem gX4_put_X4_refusal : GoodIn wsX4_put (va_wsS RX4 70 yX4_refusal wsX4_refusal) := goodIn_app (goodIn_of _ (by decide +kernel)) ggX4_put_X4_refusal
set_option maxRecDepth 20000 in
theorem ggX4_put_X4_carry : GoodIn wsX4_put wsX4_carry := goodIn_r _ [28, 12, 3, 1, 29, 8, 9, 10, 6, 11, 13, 22, 23, 24, 30, 31, 32, 2, 33, 34, 35, 36, 37, 38, 39, 40, 41] (by decide +kernel) (by decide +kernel)
set_option maxRecDepth 20000 in
theorem gX4_put_X4_carry : GoodIn wsX4_put (wsV RX4 74 RX4 yX4_carry wsX4_carry) := goodIn_app (goodIn_of _ (by decide +kernel)) ggX4_put_X4_carry
theorem dX4_put_0 : decode cX4_put 0 = .ok (.iload_n 1, 1) := by decide +kernel
theorem dX4_put_1 : decode cX4_put 1 = .ok (.invokestatic 39, 3) := by decide +kernel
theorem dX4_put_4 : decode cX4_put 4 = .ok (.ifCond .eq 12, 3) := by decide +kernel
theorem dX4_put_7 : decode cX4_put 7 = .ok (.iload_n 3, 1) := by decide +kernel
theorem dX4_put_8 : decode cX4_put 8 = .ok (.ifCond .lt 8, 3) := by decide +kernel
theorem dX4_put_11 : decode cX4_put 11 = .ok (.iload_n 3, 1) := by decide +kernel
theorem dX4_put_12 : decode cX4_put 12 = .ok (.iconst 4, 1) := by decide +kernel
theorem dX4_put_13 : decode cX4_put 13 = .ok (.if_icmp .le 5, 3) := by decide +kernel
theorem dX4_put_16 : decode cX4_put 16 = .ok (.iconst (-1), 1) := by decide +kernel
theorem dX4_put_17 : decode cX4_put 17 = .ok (.ireturn, 1) := by decide +kernel
theorem dX4_put_18 : decode cX4_put 18 = .ok (.lconst 0, 1) := by decide +kernel
theorem dX4_put_19 : decode cX4_put 19 = .ok (.lstore 4, 2) := by decide +kernel
theorem dX4_put_21 : decode cX4_put 21 = .ok (.iload_n 3, 1) := by decide +kernel
theorem dX4_put_22 : decode cX4_put 22 = .ok (.ifCond .le 29, 3) := by decide +kernel
theorem dX4_put_25 : decode cX4_put 25 = .ok (.aload_n 0, 1) := by decide +kernel
theorem dX4_put_26 : decode cX4_put 26 = .ok (.getfield 36, 3) := by decide +kernel
theorem dX4_put_29 : decode cX4_put 29 = .ok (.iconst 0, 1) := by decide +kernel
theorem dX4_put_30 : decode cX4_put 30 = .ok (.dup2, 1) := by decide +kernel
theorem dX4_put_31 : decode cX4_put 31 = .ok (.iaload, 1) := by decide +kernel
theorem dX4_put_32 : decode cX4_put 32 = .ok (.iconst 1, 1) := by decide +kernel
theorem dX4_put_33 : decode cX4_put 33 = .ok (.iadd, 1) := by decide +kernel
theorem dX4_put_34 : decode cX4_put 34 = .ok (.iastore, 1) := by decide +kernel
theorem dX4_put_35 : decode cX4_put 35 = .ok (.ldc2_w 61, 3) := by decide +kernel
theorem dX4_put_38 : decode cX4_put 38 = .ok (.aload_n 0, 1) := by decide +kernel
theorem dX4_put_39 : decode cX4_put 39 = .ok (.getfield 36, 3) := by decide +kernel
theorem dX4_put_42 : decode cX4_put 42 = .ok (.iconst 0, 1) := by decide +kernel
theorem dX4_put_43 : decode cX4_put 43 = .ok (.iaload, 1) := by decide +kernel
theorem dX4_put_44 : decode cX4_put 44 = .ok (.i2l, 1) := by decide +kernel
theorem dX4_put_45 : decode cX4_put 45 = .ok (.lmul, 1) := by decide +kernel
theorem dX4_put_46 : decode cX4_put 46 = .ok (.iload_n 3, 1) := by decide +kernel
theorem dX4_put_47 : decode cX4_put 47 = .ok (.i2l, 1) := by decide +kernel
theorem dX4_put_48 : decode cX4_put 48 = .ok (.ladd, 1) := by decide +kernel
theorem dX4_put_49 : decode cX4_put 49 = .ok (.lstore 4, 2) := by decide +kernel
theorem dX4_put_51 : decode cX4_put 51 = .ok (.bipush 6, 2) := by decide +kernel
theorem dX4_put_53 : decode cX4_put 53 = .ok (.iconst 1, 1) := by decide +kernel
theorem dX4_put_54 : decode cX4_put 54 = .ok (.iconst 0, 1) := by decide +kernel
theorem dX4_put_55 : decode cX4_put 55 = .ok (.aload_n 0, 1) := by decide +kernel
theorem dX4_put_56 : decode cX4_put 56 = .ok (.iload_n 1, 1) := by decide +kernel
theorem dX4_put_57 : decode cX4_put 57 = .ok (.invokevirtual 49, 3) := by decide +kernel
theorem dX4_put_60 : decode cX4_put 60 = .ok (.aload_n 0, 1) := by decide +kernel
theorem dX4_put_61 : decode cX4_put 61 = .ok (.iload_n 1, 1) := by decide +kernel
theorem dX4_put_62 : decode cX4_put 62 = .ok (.invokevirtual 56, 3) := by decide +kernel
theorem dX4_put_65 : decode cX4_put 65 = .ok (.iload_n 2, 1) := by decide +kernel
theorem dX4_put_66 : decode cX4_put 66 = .ok (.iconst 1, 1) := by decide +kernel
theorem dX4_put_67 : decode cX4_put 67 = .ok (.invokestatic 70, 3) := by decide +kernel
theorem dX4_put_70 : decode cX4_put 70 = .ok (.istore 6, 2) := by decide +kernel
theorem dX4_put_72 : decode cX4_put 72 = .ok (.iload 6, 2) := by decide +kernel
theorem dX4_put_74 : decode cX4_put 74 = .ok (.ifCond .le 19, 3) := by decide +kernel
theorem dX4_put_77 : decode cX4_put 77 = .ok (.aload_n 0, 1) := by decide +kernel
theorem dX4_put_78 : decode cX4_put 78 = .ok (.getfield 36, 3) := by decide +kernel
theorem dX4_put_81 : decode cX4_put 81 = .ok (.iconst 1, 1) := by decide +kernel
theorem dX4_put_82 : decode cX4_put 82 = .ok (.iload 6, 2) := by decide +kernel
theorem dX4_put_84 : decode cX4_put 84 = .ok (.iadd, 1) := by decide +kernel
theorem dX4_put_85 : decode cX4_put 85 = .ok (.dup2, 1) := by decide +kernel
theorem dX4_put_86 : decode cX4_put 86 = .ok (.iaload, 1) := by decide +kernel
theorem dX4_put_87 : decode cX4_put 87 = .ok (.iconst 1, 1) := by decide +kernel
theorem dX4_put_88 : decode cX4_put 88 = .ok (.iadd, 1) := by decide +kernel
theorem dX4_put_89 : decode cX4_put 89 = .ok (.iastore, 1) := by decide +kernel
theorem dX4_put_90 : decode cX4_put 90 = .ok (.iload 6, 2) := by decide +kernel
theorem dX4_put_92 : decode cX4_put 92 = .ok (.ireturn, 1) := by decide +kernel
theorem dX4_put_93 : decode cX4_put 93 = .ok (.aload_n 0, 1) := by decide +kernel
theorem dX4_put_94 : decode cX4_put 94 = .ok (.getfield 26, 3) := by decide +kernel
theorem dX4_put_97 : decode cX4_put 97 = .ok (.iconst 0, 1) := by decide +kernel
theorem dX4_put_98 : decode cX4_put 98 = .ok (.lload 4, 2) := by decide +kernel
theorem dX4_put_100 : decode cX4_put 100 = .ok (.lastore, 1) := by decide +kernel
theorem dX4_put_101 : decode cX4_put 101 = .ok (.aload_n 0, 1) := by decide +kernel
theorem dX4_put_102 : decode cX4_put 102 = .ok (.iload_n 1, 1) := by decide +kernel
theorem dX4_put_103 : decode cX4_put 103 = .ok (.iload_n 2, 1) := by decide +kernel
theorem dX4_put_104 : decode cX4_put 104 = .ok (.iconst 1, 1) := by decide +kernel
theorem dX4_put_105 : decode cX4_put 105 = .ok (.invokevirtual 74, 3) := by decide +kernel
theorem dX4_put_108 : decode cX4_put 108 = .ok (.ireturn, 1) := by decide +kernel
set_option maxRecDepth 20000 in
theorem ggX4_sweep_X4_isPlace : GoodIn wsX4_sweep wsX4_isPlace := goodIn_r _ [11] (by decide +kernel) (by decide +kernel)
set_option maxRecDepth 20000 in
theorem gX4_sweep_X4_isPlace : GoodIn wsX4_sweep (va_wsS RX4 39 yX4_isPlace wsX4_isPlace) := goodIn_app (goodIn_of _ (by decide +kernel)) ggX4_sweep_X4_isPlace
set_option maxRecDepth 20000 in
theorem ggX4_sweep_X4_sortOn : GoodIn wsX4_sweep wsX4_sortOn := goodIn_r _ [15, 4, 16, 35, 36, 37, 38, 39, 40, 41, 42, 43] (by decide +kernel) (by decide +kernel)
set_option maxRecDepth 20000 in
theorem gX4_sweep_X4_sortOn : GoodIn wsX4_sweep (wsV RX4 49 RX4 yX4_sortOn wsX4_sortOn) := goodIn_app (goodIn_of _ (by decide +kernel)) ggX4_sweep_X4_sortOn
set_option maxRecDepth 20000 in
theorem ggX4_sweep_X4_manyOn : GoodIn wsX4_sweep wsX4_manyOn := goodIn_r _ [20, 4, 6, 35, 36, 37, 38, 39, 40, 41, 42, 43] (by decide +kernel) (by decide +kernel)
set_option maxRecDepth 20000 in
theorem gX4_sweep_X4_manyOn : GoodIn wsX4_sweep (wsV RX4 56 RX4 yX4_manyOn wsX4_manyOn) := goodIn_app (goodIn_of _ (by decide +kernel)) ggX4_sweep_X4_manyOn
set_option maxRecDepth 20000 in
theorem ggX4_sweep_X4_refusal : GoodIn wsX4_sweep wsX4_refusal := goodIn_r _ [23, 24, 25, 10, 26] (by decide +kernel) (by decide +kernel)
set_option maxRecDepth 20000 in
theorem gX4_sweep_X4_refusal : GoodIn wsX4_sweep (va_wsS RX4 70 yX4_refusal wsX4_refusal) := goodIn_app (goodIn_of _ (by decide +kernel)) ggX4_sweep_X4_refusal
set_option maxRecDepth 20000 in
theorem ggX4_sweep_X4_carry : GoodIn wsX4_sweep wsX4_carry := goodIn_r _ [30, 4, 2, 1, 3, 12, 13, 14, 10, 15, 16, 24, 25, 26, 31, 32, 33, 34, 35, 36, 37, 38, 39, 40, 41, 42, 43] (by decide +kernel) (by decide +kernel)
set_option maxRecDepth 20000 in
theorem gX4_sweep_X4_carry : GoodIn wsX4_sweep (wsV RX4 74 RX4 yX4_carry wsX4_carry) := goodIn_app (goodIn_of _ (by decide +kernel)) ggX4_sweep_X4_carry
theorem dX4_sweep_0 : decode cX4_sweep 0 = .ok (.iload_n 1, 1) := by decide +kernel
theorem dX4_sweep_1 : decode cX4_sweep 1 = .ok (.invokestatic 39, 3) := by decide +kernel
theorem dX4_sweep_4 : decode cX4_sweep 4 = .ok (.ifCond .eq 10, 3) := by decide +kernel
theorem dX4_sweep_7 : decode cX4_sweep 7 = .ok (.iload_n 3, 1) := by decide +kernel
theorem dX4_sweep_8 : decode cX4_sweep 8 = .ok (.invokestatic 39, 3) := by decide +kernel
theorem dX4_sweep_11 : decode cX4_sweep 11 = .ok (.ifCond .ne 5, 3) := by decide +kernel
theorem dX4_sweep_14 : decode cX4_sweep 14 = .ok (.iconst (-1), 1) := by decide +kernel
theorem dX4_sweep_15 : decode cX4_sweep 15 = .ok (.ireturn, 1) := by decide +kernel
theorem dX4_sweep_16 : decode cX4_sweep 16 = .ok (.aload_n 0, 1) := by decide +kernel
theorem dX4_sweep_17 : decode cX4_sweep 17 = .ok (.iload_n 1, 1) := by decide +kernel
theorem dX4_sweep_18 : decode cX4_sweep 18 = .ok (.invokevirtual 49, 3) := by decide +kernel
theorem dX4_sweep_21 : decode cX4_sweep 21 = .ok (.aload_n 0, 1) := by decide +kernel
theorem dX4_sweep_22 : decode cX4_sweep 22 = .ok (.iload_n 1, 1) := by decide +kernel
theorem dX4_sweep_23 : decode cX4_sweep 23 = .ok (.invokevirtual 56, 3) := by decide +kernel
theorem dX4_sweep_26 : decode cX4_sweep 26 = .ok (.iload_n 2, 1) := by decide +kernel
theorem dX4_sweep_27 : decode cX4_sweep 27 = .ok (.aload_n 0, 1) := by decide +kernel
theorem dX4_sweep_28 : decode cX4_sweep 28 = .ok (.iload_n 3, 1) := by decide +kernel
theorem dX4_sweep_29 : decode cX4_sweep 29 = .ok (.invokevirtual 49, 3) := by decide +kernel
theorem dX4_sweep_32 : decode cX4_sweep 32 = .ok (.aload_n 0, 1) := by decide +kernel
theorem dX4_sweep_33 : decode cX4_sweep 33 = .ok (.iload_n 3, 1) := by decide +kernel
theorem dX4_sweep_34 : decode cX4_sweep 34 = .ok (.invokevirtual 56, 3) := by decide +kernel
theorem dX4_sweep_37 : decode cX4_sweep 37 = .ok (.iload 4, 2) := by decide +kernel
theorem dX4_sweep_39 : decode cX4_sweep 39 = .ok (.iload 5, 2) := by decide +kernel
theorem dX4_sweep_41 : decode cX4_sweep 41 = .ok (.invokestatic 70, 3) := by decide +kernel
theorem dX4_sweep_44 : decode cX4_sweep 44 = .ok (.istore 6, 2) := by decide +kernel
theorem dX4_sweep_46 : decode cX4_sweep 46 = .ok (.iload 6, 2) := by decide +kernel
theorem dX4_sweep_48 : decode cX4_sweep 48 = .ok (.ifCond .le 19, 3) := by decide +kernel
theorem dX4_sweep_51 : decode cX4_sweep 51 = .ok (.aload_n 0, 1) := by decide +kernel
theorem dX4_sweep_52 : decode cX4_sweep 52 = .ok (.getfield 36, 3) := by decide +kernel
theorem dX4_sweep_55 : decode cX4_sweep 55 = .ok (.iconst 1, 1) := by decide +kernel
theorem dX4_sweep_56 : decode cX4_sweep 56 = .ok (.iload 6, 2) := by decide +kernel
theorem dX4_sweep_58 : decode cX4_sweep 58 = .ok (.iadd, 1) := by decide +kernel
theorem dX4_sweep_59 : decode cX4_sweep 59 = .ok (.dup2, 1) := by decide +kernel
theorem dX4_sweep_60 : decode cX4_sweep 60 = .ok (.iaload, 1) := by decide +kernel
theorem dX4_sweep_61 : decode cX4_sweep 61 = .ok (.iconst 1, 1) := by decide +kernel
theorem dX4_sweep_62 : decode cX4_sweep 62 = .ok (.iadd, 1) := by decide +kernel
theorem dX4_sweep_63 : decode cX4_sweep 63 = .ok (.iastore, 1) := by decide +kernel
theorem dX4_sweep_64 : decode cX4_sweep 64 = .ok (.iload 6, 2) := by decide +kernel
theorem dX4_sweep_66 : decode cX4_sweep 66 = .ok (.ireturn, 1) := by decide +kernel
theorem dX4_sweep_67 : decode cX4_sweep 67 = .ok (.iconst 0, 1) := by decide +kernel
theorem dX4_sweep_68 : decode cX4_sweep 68 = .ok (.istore 7, 2) := by decide +kernel
theorem dX4_sweep_70 : decode cX4_sweep 70 = .ok (.iload 7, 2) := by decide +kernel
theorem dX4_sweep_72 : decode cX4_sweep 72 = .ok (.iload 5, 2) := by decide +kernel
theorem dX4_sweep_74 : decode cX4_sweep 74 = .ok (.if_icmp .ge 35, 3) := by decide +kernel
theorem dX4_sweep_77 : decode cX4_sweep 77 = .ok (.aload_n 0, 1) := by decide +kernel
theorem dX4_sweep_78 : decode cX4_sweep 78 = .ok (.getfield 26, 3) := by decide +kernel
theorem dX4_sweep_81 : decode cX4_sweep 81 = .ok (.iload 7, 2) := by decide +kernel
theorem dX4_sweep_83 : decode cX4_sweep 83 = .ok (.aload_n 0, 1) := by decide +kernel
theorem dX4_sweep_84 : decode cX4_sweep 84 = .ok (.getfield 22, 3) := by decide +kernel
theorem dX4_sweep_87 : decode cX4_sweep 87 = .ok (.bipush 40, 2) := by decide +kernel
theorem dX4_sweep_89 : decode cX4_sweep 89 = .ok (.aload_n 0, 1) := by decide +kernel
theorem dX4_sweep_90 : decode cX4_sweep 90 = .ok (.getfield 9, 3) := by decide +kernel
theorem dX4_sweep_93 : decode cX4_sweep 93 = .ok (.iload_n 1, 1) := by decide +kernel
theorem dX4_sweep_94 : decode cX4_sweep 94 = .ok (.iaload, 1) := by decide +kernel
theorem dX4_sweep_95 : decode cX4_sweep 95 = .ok (.imul, 1) := by decide +kernel
theorem dX4_sweep_96 : decode cX4_sweep 96 = .ok (.iload_n 2, 1) := by decide +kernel
theorem dX4_sweep_97 : decode cX4_sweep 97 = .ok (.iadd, 1) := by decide +kernel
theorem dX4_sweep_98 : decode cX4_sweep 98 = .ok (.iload 7, 2) := by decide +kernel
theorem dX4_sweep_100 : decode cX4_sweep 100 = .ok (.iadd, 1) := by decide +kernel
theorem dX4_sweep_101 : decode cX4_sweep 101 = .ok (.laload, 1) := by decide +kernel
theorem dX4_sweep_102 : decode cX4_sweep 102 = .ok (.lastore, 1) := by decide +kernel
theorem dX4_sweep_103 : decode cX4_sweep 103 = .ok (.iinc 7 1, 3) := by decide +kernel
theorem dX4_sweep_106 : decode cX4_sweep 106 = .ok (.goto (-36), 3) := by decide +kernel
theorem dX4_sweep_109 : decode cX4_sweep 109 = .ok (.aload_n 0, 1) := by decide +kernel
theorem dX4_sweep_110 : decode cX4_sweep 110 = .ok (.aload_n 0, 1) := by decide +kernel
theorem dX4_sweep_111 : decode cX4_sweep 111 = .ok (.getfield 9, 3) := by decide +kernel
theorem dX4_sweep_114 : decode cX4_sweep 114 = .ok (.iload_n 3, 1) := by decide +kernel
theorem dX4_sweep_115 : decode cX4_sweep 115 = .ok (.iaload, 1) := by decide +kernel
theorem dX4_sweep_116 : decode cX4_sweep 116 = .ok (.putfield 32, 3) := by decide +kernel
theorem dX4_sweep_119 : decode cX4_sweep 119 = .ok (.iconst 0, 1) := by decide +kernel
theorem dX4_sweep_120 : decode cX4_sweep 120 = .ok (.istore 7, 2) := by decide +kernel
theorem dX4_sweep_122 : decode cX4_sweep 122 = .ok (.iload 7, 2) := by decide +kernel
theorem dX4_sweep_124 : decode cX4_sweep 124 = .ok (.aload_n 0, 1) := by decide +kernel
theorem dX4_sweep_125 : decode cX4_sweep 125 = .ok (.getfield 16, 3) := by decide +kernel
theorem dX4_sweep_128 : decode cX4_sweep 128 = .ok (.aload_n 0, 1) := by decide +kernel
theorem dX4_sweep_129 : decode cX4_sweep 129 = .ok (.getfield 32, 3) := by decide +kernel
theorem dX4_sweep_132 : decode cX4_sweep 132 = .ok (.iaload, 1) := by decide +kernel
theorem dX4_sweep_133 : decode cX4_sweep 133 = .ok (.if_icmp .ge 31, 3) := by decide +kernel
theorem dX4_sweep_136 : decode cX4_sweep 136 = .ok (.aload_n 0, 1) := by decide +kernel
theorem dX4_sweep_137 : decode cX4_sweep 137 = .ok (.getfield 29, 3) := by decide +kernel
theorem dX4_sweep_140 : decode cX4_sweep 140 = .ok (.iload 7, 2) := by decide +kernel
theorem dX4_sweep_142 : decode cX4_sweep 142 = .ok (.aload_n 0, 1) := by decide +kernel
theorem dX4_sweep_143 : decode cX4_sweep 143 = .ok (.getfield 22, 3) := by decide +kernel
theorem dX4_sweep_146 : decode cX4_sweep 146 = .ok (.bipush 40, 2) := by decide +kernel
theorem dX4_sweep_148 : decode cX4_sweep 148 = .ok (.aload_n 0, 1) := by decide +kernel
theorem dX4_sweep_149 : decode cX4_sweep 149 = .ok (.getfield 32, 3) := by decide +kernel
theorem dX4_sweep_152 : decode cX4_sweep 152 = .ok (.imul, 1) := by decide +kernel
theorem dX4_sweep_153 : decode cX4_sweep 153 = .ok (.iload 7, 2) := by decide +kernel
theorem dX4_sweep_155 : decode cX4_sweep 155 = .ok (.iadd, 1) := by decide +kernel
theorem dX4_sweep_156 : decode cX4_sweep 156 = .ok (.laload, 1) := by decide +kernel
theorem dX4_sweep_157 : decode cX4_sweep 157 = .ok (.lastore, 1) := by decide +kernel
theorem dX4_sweep_158 : decode cX4_sweep 158 = .ok (.iinc 7 1, 3) := by decide +kernel
theorem dX4_sweep_161 : decode cX4_sweep 161 = .ok (.goto (-39), 3) := by decide +kernel
theorem dX4_sweep_164 : decode cX4_sweep 164 = .ok (.aload_n 0, 1) := by decide +kernel
theorem dX4_sweep_165 : decode cX4_sweep 165 = .ok (.iload_n 3, 1) := by decide +kernel
theorem dX4_sweep_166 : decode cX4_sweep 166 = .ok (.iload 4, 2) := by decide +kernel
theorem dX4_sweep_168 : decode cX4_sweep 168 = .ok (.iload 5, 2) := by decide +kernel
theorem dX4_sweep_170 : decode cX4_sweep 170 = .ok (.invokevirtual 74, 3) := by decide +kernel
theorem dX4_sweep_173 : decode cX4_sweep 173 = .ok (.ireturn, 1) := by decide +kernel
theorem dX4_back_0 : decode cX4_back 0 = .ok (.aload_n 0, 1) := by decide +kernel
theorem dX4_back_1 : decode cX4_back 1 = .ok (.getfield 32, 3) := by decide +kernel
theorem dX4_back_4 : decode cX4_back 4 = .ok (.iconst (-1), 1) := by decide +kernel
theorem dX4_back_5 : decode cX4_back 5 = .ok (.if_icmp .ne 5, 3) := by decide +kernel
theorem dX4_back_8 : decode cX4_back 8 = .ok (.iconst (-1), 1) := by decide +kernel
theorem dX4_back_9 : decode cX4_back 9 = .ok (.ireturn, 1) := by decide +kernel
theorem dX4_back_10 : decode cX4_back 10 = .ok (.aload_n 0, 1) := by decide +kernel
theorem dX4_back_11 : decode cX4_back 11 = .ok (.getfield 16, 3) := by decide +kernel
theorem dX4_back_14 : decode cX4_back 14 = .ok (.aload_n 0, 1) := by decide +kernel
theorem dX4_back_15 : decode cX4_back 15 = .ok (.getfield 32, 3) := by decide +kernel
theorem dX4_back_18 : decode cX4_back 18 = .ok (.iaload, 1) := by decide +kernel
theorem dX4_back_19 : decode cX4_back 19 = .ok (.istore_n 1, 1) := by decide +kernel
theorem dX4_back_20 : decode cX4_back 20 = .ok (.iconst 0, 1) := by decide +kernel
theorem dX4_back_21 : decode cX4_back 21 = .ok (.istore_n 2, 1) := by decide +kernel
theorem dX4_back_22 : decode cX4_back 22 = .ok (.iload_n 2, 1) := by decide +kernel
theorem dX4_back_23 : decode cX4_back 23 = .ok (.iload_n 1, 1) := by decide +kernel
theorem dX4_back_24 : decode cX4_back 24 = .ok (.if_icmp .ge 29, 3) := by decide +kernel
theorem dX4_back_27 : decode cX4_back 27 = .ok (.aload_n 0, 1) := by decide +kernel
theorem dX4_back_28 : decode cX4_back 28 = .ok (.getfield 22, 3) := by decide +kernel
theorem dX4_back_31 : decode cX4_back 31 = .ok (.bipush 40, 2) := by decide +kernel
theorem dX4_back_33 : decode cX4_back 33 = .ok (.aload_n 0, 1) := by decide +kernel
theorem dX4_back_34 : decode cX4_back 34 = .ok (.getfield 32, 3) := by decide +kernel
theorem dX4_back_37 : decode cX4_back 37 = .ok (.imul, 1) := by decide +kernel
theorem dX4_back_38 : decode cX4_back 38 = .ok (.iload_n 2, 1) := by decide +kernel
theorem dX4_back_39 : decode cX4_back 39 = .ok (.iadd, 1) := by decide +kernel
theorem dX4_back_40 : decode cX4_back 40 = .ok (.aload_n 0, 1) := by decide +kernel
theorem dX4_back_41 : decode cX4_back 41 = .ok (.getfield 29, 3) := by decide +kernel
theorem dX4_back_44 : decode cX4_back 44 = .ok (.iload_n 2, 1) := by decide +kernel
theorem dX4_back_45 : decode cX4_back 45 = .ok (.laload, 1) := by decide +kernel
theorem dX4_back_46 : decode cX4_back 46 = .ok (.lastore, 1) := by decide +kernel
theorem dX4_back_47 : decode cX4_back 47 = .ok (.iinc 2 1, 3) := by decide +kernel
theorem dX4_back_50 : decode cX4_back 50 = .ok (.goto (-28), 3) := by decide +kernel
theorem dX4_back_53 : decode cX4_back 53 = .ok (.aload_n 0, 1) := by decide +kernel
theorem dX4_back_54 : decode cX4_back 54 = .ok (.iconst (-1), 1) := by decide +kernel
theorem dX4_back_55 : decode cX4_back 55 = .ok (.putfield 32, 3) := by decide +kernel
theorem dX4_back_58 : decode cX4_back 58 = .ok (.iload_n 1, 1) := by decide +kernel
theorem dX4_back_59 : decode cX4_back 59 = .ok (.ireturn, 1) := by decide +kernel
set_option maxRecDepth 20000 in
theorem ggX4_light_X4_isPlace : GoodIn wsX4_light wsX4_isPlace := goodIn_r _ [6] (by decide +kernel) (by decide +kernel)
set_option maxRecDepth 20000 in
theorem gX4_light_X4_isPlace : GoodIn wsX4_light (va_wsS RX4 39 yX4_isPlace wsX4_isPlace) := goodIn_app (goodIn_of _ (by decide +kernel)) ggX4_light_X4_isPlace
set_option maxRecDepth 20000 in
theorem ggX4_light_X4_sortOn : GoodIn wsX4_light wsX4_sortOn := goodIn_r _ [10, 2, 11, 12, 13, 14, 15, 16, 17, 18, 19, 20] (by decide +kernel) (by decide +kernel)
set_option maxRecDepth 20000 in
theorem gX4_light_X4_sortOn : GoodIn wsX4_light (wsV RX4 49 RX4 yX4_sortOn wsX4_sortOn) := goodIn_app (goodIn_of _ (by decide +kernel)) ggX4_light_X4_sortOn
theorem dX4_light_0 : decode cX4_light 0 = .ok (.iload_n 1, 1) := by decide +kernel
theorem dX4_light_1 : decode cX4_light 1 = .ok (.invokestatic 39, 3) := by decide +kernel
theorem dX4_light_4 : decode cX4_light 4 = .ok (.ifCond .eq 12, 3) := by decide +kernel
theorem dX4_light_7 : decode cX4_light 7 = .ok (.aload_n 0, 1) := by decide +kernel
theorem dX4_light_8 : decode cX4_light 8 = .ok (.iload_n 1, 1) := by decide +kernel
theorem dX4_light_9 : decode cX4_light 9 = .ok (.invokevirtual 49, 3) := by decide +kernel
theorem dX4_light_12 : decode cX4_light 12 = .ok (.iconst 1, 1) := by decide +kernel
theorem dX4_light_13 : decode cX4_light 13 = .ok (.if_icmp .eq 5, 3) := by decide +kernel
theorem dX4_light_16 : decode cX4_light 16 = .ok (.iconst (-1), 1) := by decide +kernel
theorem dX4_light_17 : decode cX4_light 17 = .ok (.ireturn, 1) := by decide +kernel
theorem dX4_light_18 : decode cX4_light 18 = .ok (.aload_n 0, 1) := by decide +kernel
theorem dX4_light_19 : decode cX4_light 19 = .ok (.getfield 19, 3) := by decide +kernel
theorem dX4_light_22 : decode cX4_light 22 = .ok (.aload_n 0, 1) := by decide +kernel
theorem dX4_light_23 : decode cX4_light 23 = .ok (.getfield 9, 3) := by decide +kernel
theorem dX4_light_26 : decode cX4_light 26 = .ok (.iload_n 1, 1) := by decide +kernel
theorem dX4_light_27 : decode cX4_light 27 = .ok (.iaload, 1) := by decide +kernel
theorem dX4_light_28 : decode cX4_light 28 = .ok (.dup2, 1) := by decide +kernel
theorem dX4_light_29 : decode cX4_light 29 = .ok (.iaload, 1) := by decide +kernel
theorem dX4_light_30 : decode cX4_light 30 = .ok (.iconst 1, 1) := by decide +kernel
theorem dX4_light_31 : decode cX4_light 31 = .ok (.iadd, 1) := by decide +kernel
theorem dX4_light_32 : decode cX4_light 32 = .ok (.iastore, 1) := by decide +kernel
theorem dX4_light_33 : decode cX4_light 33 = .ok (.aload_n 0, 1) := by decide +kernel
theorem dX4_light_34 : decode cX4_light 34 = .ok (.getfield 19, 3) := by decide +kernel
theorem dX4_light_37 : decode cX4_light 37 = .ok (.aload_n 0, 1) := by decide +kernel
theorem dX4_light_38 : decode cX4_light 38 = .ok (.getfield 9, 3) := by decide +kernel
theorem dX4_light_41 : decode cX4_light 41 = .ok (.iload_n 1, 1) := by decide +kernel
theorem dX4_light_42 : decode cX4_light 42 = .ok (.iaload, 1) := by decide +kernel
theorem dX4_light_43 : decode cX4_light 43 = .ok (.iaload, 1) := by decide +kernel
theorem dX4_light_44 : decode cX4_light 44 = .ok (.ireturn, 1) := by decide +kernel
set_option maxRecDepth 20000 in
theorem ggX4_member_X4_isPlace : GoodIn wsX4_member wsX4_isPlace := goodIn_r _ [7] (by decide +kernel) (by decide +kernel)
set_option maxRecDepth 20000 in
theorem gX4_member_X4_isPlace : GoodIn wsX4_member (va_wsS RX4 39 yX4_isPlace wsX4_isPlace) := goodIn_app (goodIn_of _ (by decide +kernel)) ggX4_member_X4_isPlace
set_option maxRecDepth 20000 in
theorem ggX4_member_X4_manyOn : GoodIn wsX4_member wsX4_manyOn := goodIn_r _ [11, 3, 12, 13, 14, 15, 16, 17, 18, 19, 20, 21] (by decide +kernel) (by decide +kernel)
set_option maxRecDepth 20000 in
theorem gX4_member_X4_manyOn : GoodIn wsX4_member (wsV RX4 56 RX4 yX4_manyOn wsX4_manyOn) := goodIn_app (goodIn_of _ (by decide +kernel)) ggX4_member_X4_manyOn
theorem dX4_member_0 : decode cX4_member 0 = .ok (.iload_n 1, 1) := by decide +kernel
theorem dX4_member_1 : decode cX4_member 1 = .ok (.invokestatic 39, 3) := by decide +kernel
theorem dX4_member_4 : decode cX4_member 4 = .ok (.ifCond .eq 16, 3) := by decide +kernel
theorem dX4_member_7 : decode cX4_member 7 = .ok (.iload_n 2, 1) := by decide +kernel
theorem dX4_member_8 : decode cX4_member 8 = .ok (.ifCond .lt 12, 3) := by decide +kernel
theorem dX4_member_11 : decode cX4_member 11 = .ok (.iload_n 2, 1) := by decide +kernel
theorem dX4_member_12 : decode cX4_member 12 = .ok (.aload_n 0, 1) := by decide +kernel
theorem dX4_member_13 : decode cX4_member 13 = .ok (.iload_n 1, 1) := by decide +kernel
theorem dX4_member_14 : decode cX4_member 14 = .ok (.invokevirtual 56, 3) := by decide +kernel
theorem dX4_member_17 : decode cX4_member 17 = .ok (.if_icmp .lt 7, 3) := by decide +kernel
theorem dX4_member_20 : decode cX4_member 20 = .ok (.ldc2_w 78, 3) := by decide +kernel
theorem dX4_member_23 : decode cX4_member 23 = .ok (.lreturn, 1) := by decide +kernel
theorem dX4_member_24 : decode cX4_member 24 = .ok (.aload_n 0, 1) := by decide +kernel
theorem dX4_member_25 : decode cX4_member 25 = .ok (.getfield 22, 3) := by decide +kernel
theorem dX4_member_28 : decode cX4_member 28 = .ok (.bipush 40, 2) := by decide +kernel
theorem dX4_member_30 : decode cX4_member 30 = .ok (.aload_n 0, 1) := by decide +kernel
theorem dX4_member_31 : decode cX4_member 31 = .ok (.getfield 9, 3) := by decide +kernel
theorem dX4_member_34 : decode cX4_member 34 = .ok (.iload_n 1, 1) := by decide +kernel
theorem dX4_member_35 : decode cX4_member 35 = .ok (.iaload, 1) := by decide +kernel
theorem dX4_member_36 : decode cX4_member 36 = .ok (.imul, 1) := by decide +kernel
theorem dX4_member_37 : decode cX4_member 37 = .ok (.iload_n 2, 1) := by decide +kernel
theorem dX4_member_38 : decode cX4_member 38 = .ok (.iadd, 1) := by decide +kernel
theorem dX4_member_39 : decode cX4_member 39 = .ok (.laload, 1) := by decide +kernel
theorem dX4_member_40 : decode cX4_member 40 = .ok (.lreturn, 1) := by decide +kernel
set_option maxRecDepth 20000 in
theorem ggX4_thing_X4_isPlace : GoodIn wsX4_thing wsX4_isPlace := goodIn_r _ [5] (by decide +kernel) (by decide +kernel)
set_option maxRecDepth 20000 in
theorem gX4_thing_X4_isPlace : GoodIn wsX4_thing (va_wsS RX4 39 yX4_isPlace wsX4_isPlace) := goodIn_app (goodIn_of _ (by decide +kernel)) ggX4_thing_X4_isPlace
set_option maxRecDepth 20000 in
theorem ggX4_thing_X4_sortOn : GoodIn wsX4_thing wsX4_sortOn := goodIn_r _ [9, 1, 10, 16, 17, 18, 19, 20, 21, 22, 23, 24] (by decide +kernel) (by decide +kernel)
set_option maxRecDepth 20000 in
theorem gX4_thing_X4_sortOn : GoodIn wsX4_thing (wsV RX4 49 RX4 yX4_sortOn wsX4_sortOn) := goodIn_app (goodIn_of _ (by decide +kernel)) ggX4_thing_X4_sortOn
set_option maxRecDepth 20000 in
theorem ggX4_thing_X4_manyOn : GoodIn wsX4_thing wsX4_manyOn := goodIn_r _ [14, 1, 15, 16, 17, 18, 19, 20, 21, 22, 23, 24] (by decide +kernel) (by decide +kernel)
set_option maxRecDepth 20000 in
theorem gX4_thing_X4_manyOn : GoodIn wsX4_thing (wsV RX4 56 RX4 yX4_manyOn wsX4_manyOn) := goodIn_app (goodIn_of _ (by decide +kernel)) ggX4_thing_X4_manyOn
theorem dX4_thing_0 : decode cX4_thing 0 = .ok (.iload_n 1, 1) := by decide +kernel
theorem dX4_thing_1 : decode cX4_thing 1 = .ok (.invokestatic 39, 3) := by decide +kernel
theorem dX4_thing_4 : decode cX4_thing 4 = .ok (.ifCond .eq 12, 3) := by decide +kernel
theorem dX4_thing_7 : decode cX4_thing 7 = .ok (.iload_n 2, 1) := by decide +kernel
theorem dX4_thing_8 : decode cX4_thing 8 = .ok (.ifCond .lt 8, 3) := by decide +kernel
theorem dX4_thing_11 : decode cX4_thing 11 = .ok (.iload_n 2, 1) := by decide +kernel
theorem dX4_thing_12 : decode cX4_thing 12 = .ok (.iconst 2, 1) := by decide +kernel
theorem dX4_thing_13 : decode cX4_thing 13 = .ok (.if_icmp .le 5, 3) := by decide +kernel
theorem dX4_thing_16 : decode cX4_thing 16 = .ok (.iconst (-1), 1) := by decide +kernel
theorem dX4_thing_17 : decode cX4_thing 17 = .ok (.ireturn, 1) := by decide +kernel
theorem dX4_thing_18 : decode cX4_thing 18 = .ok (.iload_n 2, 1) := by decide +kernel
theorem dX4_thing_19 : decode cX4_thing 19 = .ok (.ifCond .ne 9, 3) := by decide +kernel
theorem dX4_thing_22 : decode cX4_thing 22 = .ok (.aload_n 0, 1) := by decide +kernel
theorem dX4_thing_23 : decode cX4_thing 23 = .ok (.iload_n 1, 1) := by decide +kernel
theorem dX4_thing_24 : decode cX4_thing 24 = .ok (.invokevirtual 49, 3) := by decide +kernel
theorem dX4_thing_27 : decode cX4_thing 27 = .ok (.ireturn, 1) := by decide +kernel
theorem dX4_thing_28 : decode cX4_thing 28 = .ok (.iload_n 2, 1) := by decide +kernel
theorem dX4_thing_29 : decode cX4_thing 29 = .ok (.iconst 1, 1) := by decide +kernel
theorem dX4_thing_30 : decode cX4_thing 30 = .ok (.if_icmp .ne 9, 3) := by decide +kernel
theorem dX4_thing_33 : decode cX4_thing 33 = .ok (.aload_n 0, 1) := by decide +kernel
theorem dX4_thing_34 : decode cX4_thing 34 = .ok (.iload_n 1, 1) := by decide +kernel
theorem dX4_thing_35 : decode cX4_thing 35 = .ok (.invokevirtual 56, 3) := by decide +kernel
theorem dX4_thing_38 : decode cX4_thing 38 = .ok (.ireturn, 1) := by decide +kernel
theorem dX4_thing_39 : decode cX4_thing 39 = .ok (.aload_n 0, 1) := by decide +kernel
theorem dX4_thing_40 : decode cX4_thing 40 = .ok (.getfield 9, 3) := by decide +kernel
theorem dX4_thing_43 : decode cX4_thing 43 = .ok (.iload_n 1, 1) := by decide +kernel
theorem dX4_thing_44 : decode cX4_thing 44 = .ok (.iaload, 1) := by decide +kernel
theorem dX4_thing_45 : decode cX4_thing 45 = .ok (.iconst (-1), 1) := by decide +kernel
theorem dX4_thing_46 : decode cX4_thing 46 = .ok (.if_icmp .ne 5, 3) := by decide +kernel
theorem dX4_thing_49 : decode cX4_thing 49 = .ok (.iload_n 1, 1) := by decide +kernel
theorem dX4_thing_50 : decode cX4_thing 50 = .ok (.ireturn, 1) := by decide +kernel
theorem dX4_thing_51 : decode cX4_thing 51 = .ok (.iconst 0, 1) := by decide +kernel
theorem dX4_thing_52 : decode cX4_thing 52 = .ok (.istore_n 3, 1) := by decide +kernel
theorem dX4_thing_53 : decode cX4_thing 53 = .ok (.iload_n 3, 1) := by decide +kernel
theorem dX4_thing_54 : decode cX4_thing 54 = .ok (.iload_n 1, 1) := by decide +kernel
theorem dX4_thing_55 : decode cX4_thing 55 = .ok (.if_icmp .ge 24, 3) := by decide +kernel
theorem dX4_thing_58 : decode cX4_thing 58 = .ok (.aload_n 0, 1) := by decide +kernel
theorem dX4_thing_59 : decode cX4_thing 59 = .ok (.getfield 9, 3) := by decide +kernel
theorem dX4_thing_62 : decode cX4_thing 62 = .ok (.iload_n 3, 1) := by decide +kernel
theorem dX4_thing_63 : decode cX4_thing 63 = .ok (.iaload, 1) := by decide +kernel
theorem dX4_thing_64 : decode cX4_thing 64 = .ok (.aload_n 0, 1) := by decide +kernel
theorem dX4_thing_65 : decode cX4_thing 65 = .ok (.getfield 9, 3) := by decide +kernel
theorem dX4_thing_68 : decode cX4_thing 68 = .ok (.iload_n 1, 1) := by decide +kernel
theorem dX4_thing_69 : decode cX4_thing 69 = .ok (.iaload, 1) := by decide +kernel
theorem dX4_thing_70 : decode cX4_thing 70 = .ok (.if_icmp .eq 9, 3) := by decide +kernel
theorem dX4_thing_73 : decode cX4_thing 73 = .ok (.iinc 3 1, 3) := by decide +kernel
theorem dX4_thing_76 : decode cX4_thing 76 = .ok (.goto (-23), 3) := by decide +kernel
theorem dX4_thing_79 : decode cX4_thing 79 = .ok (.iload_n 3, 1) := by decide +kernel
theorem dX4_thing_80 : decode cX4_thing 80 = .ok (.ireturn, 1) := by decide +kernel
theorem dX4_kindAt_0 : decode cX4_kindAt 0 = .ok (.aload_n 0, 1) := by decide +kernel
theorem dX4_kindAt_1 : decode cX4_kindAt 1 = .ok (.getfield 22, 3) := by decide +kernel
theorem dX4_kindAt_4 : decode cX4_kindAt 4 = .ok (.bipush 40, 2) := by decide +kernel
theorem dX4_kindAt_6 : decode cX4_kindAt 6 = .ok (.aload_n 0, 1) := by decide +kernel
theorem dX4_kindAt_7 : decode cX4_kindAt 7 = .ok (.getfield 9, 3) := by decide +kernel
theorem dX4_kindAt_10 : decode cX4_kindAt 10 = .ok (.iload_n 1, 1) := by decide +kernel
theorem dX4_kindAt_11 : decode cX4_kindAt 11 = .ok (.iaload, 1) := by decide +kernel
theorem dX4_kindAt_12 : decode cX4_kindAt 12 = .ok (.imul, 1) := by decide +kernel
theorem dX4_kindAt_13 : decode cX4_kindAt 13 = .ok (.iload_n 2, 1) := by decide +kernel
theorem dX4_kindAt_14 : decode cX4_kindAt 14 = .ok (.iadd, 1) := by decide +kernel
theorem dX4_kindAt_15 : decode cX4_kindAt 15 = .ok (.laload, 1) := by decide +kernel
theorem dX4_kindAt_16 : decode cX4_kindAt 16 = .ok (.ldc2_w 61, 3) := by decide +kernel
theorem dX4_kindAt_19 : decode cX4_kindAt 19 = .ok (.lrem, 1) := by decide +kernel
theorem dX4_kindAt_20 : decode cX4_kindAt 20 = .ok (.l2i, 1) := by decide +kernel
theorem dX4_kindAt_21 : decode cX4_kindAt 21 = .ok (.ireturn, 1) := by decide +kernel
set_option maxRecDepth 20000 in
theorem ggX4_worth_X4_isPlace : GoodIn wsX4_worth wsX4_isPlace := goodIn_r _ [4] (by decide +kernel) (by decide +kernel)
set_option maxRecDepth 20000 in
theorem gX4_worth_X4_isPlace : GoodIn wsX4_worth (va_wsS RX4 39 yX4_isPlace wsX4_isPlace) := goodIn_app (goodIn_of _ (by decide +kernel)) ggX4_worth_X4_isPlace
set_option maxRecDepth 20000 in
theorem ggX4_worth_X4_sortOn : GoodIn wsX4_worth wsX4_sortOn := goodIn_r _ [8, 9, 10, 25, 26, 27, 28, 29, 30, 31, 32, 33] (by decide +kernel) (by decide +kernel)
set_option maxRecDepth 20000 in
theorem gX4_worth_X4_sortOn : GoodIn wsX4_worth (wsV RX4 49 RX4 yX4_sortOn wsX4_sortOn) := goodIn_app (goodIn_of _ (by decide +kernel)) ggX4_worth_X4_sortOn
set_option maxRecDepth 20000 in
theorem ggX4_worth_X4_isOfStones : GoodIn wsX4_worth wsX4_isOfStones := goodIn_r _ [13] (by decide +kernel) (by decide +kernel)
set_option maxRecDepth 20000 in
theorem gX4_worth_X4_isOfStones : GoodIn wsX4_worth (va_wsS RX4 63 yX4_isOfStones wsX4_isOfStones) := goodIn_app (goodIn_of _ (by decide +kernel)) ggX4_worth_X4_isOfStones
set_option maxRecDepth 20000 in
theorem ggX4_worth_X4_manyOn : GoodIn wsX4_worth wsX4_manyOn := goodIn_r _ [17, 9, 18, 25, 26, 27, 28, 29, 30, 31, 32, 33] (by decide +kernel) (by decide +kernel)
set_option maxRecDepth 20000 in
theorem gX4_worth_X4_manyOn : GoodIn wsX4_worth (wsV RX4 56 RX4 yX4_manyOn wsX4_manyOn) := goodIn_app (goodIn_of _ (by decide +kernel)) ggX4_worth_X4_manyOn
set_option maxRecDepth 20000 in
theorem ggX4_worth_X4_kindAt : GoodIn wsX4_worth wsX4_kindAt := goodIn_r _ [22, 23, 9, 24, 25, 26, 27, 28, 29, 30, 31, 32, 33] (by decide +kernel) (by decide +kernel)
set_option maxRecDepth 20000 in
theorem gX4_worth_X4_kindAt : GoodIn wsX4_worth (wsV RX4 80 RX4 yX4_kindAt wsX4_kindAt) := goodIn_app (goodIn_of _ (by decide +kernel)) ggX4_worth_X4_kindAt
theorem dX4_worth_0 : decode cX4_worth 0 = .ok (.iload_n 1, 1) := by decide +kernel
theorem dX4_worth_1 : decode cX4_worth 1 = .ok (.invokestatic 39, 3) := by decide +kernel
theorem dX4_worth_4 : decode cX4_worth 4 = .ok (.ifCond .eq 14, 3) := by decide +kernel
theorem dX4_worth_7 : decode cX4_worth 7 = .ok (.aload_n 0, 1) := by decide +kernel
theorem dX4_worth_8 : decode cX4_worth 8 = .ok (.iload_n 1, 1) := by decide +kernel
theorem dX4_worth_9 : decode cX4_worth 9 = .ok (.invokevirtual 49, 3) := by decide +kernel
theorem dX4_worth_12 : decode cX4_worth 12 = .ok (.invokestatic 63, 3) := by decide +kernel
theorem dX4_worth_15 : decode cX4_worth 15 = .ok (.ifCond .ne 5, 3) := by decide +kernel
theorem dX4_worth_18 : decode cX4_worth 18 = .ok (.iconst (-1), 1) := by decide +kernel
theorem dX4_worth_19 : decode cX4_worth 19 = .ok (.ireturn, 1) := by decide +kernel
theorem dX4_worth_20 : decode cX4_worth 20 = .ok (.iconst 0, 1) := by decide +kernel
theorem dX4_worth_21 : decode cX4_worth 21 = .ok (.istore_n 2, 1) := by decide +kernel
theorem dX4_worth_22 : decode cX4_worth 22 = .ok (.iconst 0, 1) := by decide +kernel
theorem dX4_worth_23 : decode cX4_worth 23 = .ok (.istore_n 3, 1) := by decide +kernel
theorem dX4_worth_24 : decode cX4_worth 24 = .ok (.iload_n 3, 1) := by decide +kernel
theorem dX4_worth_25 : decode cX4_worth 25 = .ok (.aload_n 0, 1) := by decide +kernel
theorem dX4_worth_26 : decode cX4_worth 26 = .ok (.iload_n 1, 1) := by decide +kernel
theorem dX4_worth_27 : decode cX4_worth 27 = .ok (.invokevirtual 56, 3) := by decide +kernel
theorem dX4_worth_30 : decode cX4_worth 30 = .ok (.if_icmp .ge 79, 3) := by decide +kernel
theorem dX4_worth_33 : decode cX4_worth 33 = .ok (.aload_n 0, 1) := by decide +kernel
theorem dX4_worth_34 : decode cX4_worth 34 = .ok (.iload_n 1, 1) := by decide +kernel
theorem dX4_worth_35 : decode cX4_worth 35 = .ok (.iload_n 3, 1) := by decide +kernel
theorem dX4_worth_36 : decode cX4_worth 36 = .ok (.invokevirtual 80, 3) := by decide +kernel
theorem dX4_worth_39 : decode cX4_worth 39 = .ok (.istore 4, 2) := by decide +kernel
theorem dX4_worth_41 : decode cX4_worth 41 = .ok (.iload 4, 2) := by decide +kernel
theorem dX4_worth_43 : decode cX4_worth 43 = .ok (.iconst 1, 1) := by decide +kernel
theorem dX4_worth_44 : decode cX4_worth 44 = .ok (.if_icmp .ne 6, 3) := by decide +kernel
theorem dX4_worth_47 : decode cX4_worth 47 = .ok (.iinc 2 1, 3) := by decide +kernel
theorem dX4_worth_50 : decode cX4_worth 50 = .ok (.iload 4, 2) := by decide +kernel
theorem dX4_worth_52 : decode cX4_worth 52 = .ok (.iconst 2, 1) := by decide +kernel
theorem dX4_worth_53 : decode cX4_worth 53 = .ok (.if_icmp .ne 6, 3) := by decide +kernel
theorem dX4_worth_56 : decode cX4_worth 56 = .ok (.iinc 2 4, 3) := by decide +kernel
theorem dX4_worth_59 : decode cX4_worth 59 = .ok (.iload 4, 2) := by decide +kernel
theorem dX4_worth_61 : decode cX4_worth 61 = .ok (.iconst 3, 1) := by decide +kernel
theorem dX4_worth_62 : decode cX4_worth 62 = .ok (.if_icmp .ne 6, 3) := by decide +kernel
theorem dX4_worth_65 : decode cX4_worth 65 = .ok (.iinc 2 20, 3) := by decide +kernel
theorem dX4_worth_68 : decode cX4_worth 68 = .ok (.iload 4, 2) := by decide +kernel
theorem dX4_worth_70 : decode cX4_worth 70 = .ok (.iconst 4, 1) := by decide +kernel
theorem dX4_worth_71 : decode cX4_worth 71 = .ok (.if_icmp .ne 6, 3) := by decide +kernel
theorem dX4_worth_74 : decode cX4_worth 74 = .ok (.iinc 2 15, 3) := by decide +kernel
theorem dX4_worth_77 : decode cX4_worth 77 = .ok (.iload_n 3, 1) := by decide +kernel
theorem dX4_worth_78 : decode cX4_worth 78 = .ok (.ifCond .le 25, 3) := by decide +kernel
theorem dX4_worth_81 : decode cX4_worth 81 = .ok (.iload 4, 2) := by decide +kernel
theorem dX4_worth_83 : decode cX4_worth 83 = .ok (.iconst 3, 1) := by decide +kernel
theorem dX4_worth_84 : decode cX4_worth 84 = .ok (.if_icmp .lt 19, 3) := by decide +kernel
theorem dX4_worth_87 : decode cX4_worth 87 = .ok (.aload_n 0, 1) := by decide +kernel
theorem dX4_worth_88 : decode cX4_worth 88 = .ok (.iload_n 1, 1) := by decide +kernel
theorem dX4_worth_89 : decode cX4_worth 89 = .ok (.iload_n 3, 1) := by decide +kernel
theorem dX4_worth_90 : decode cX4_worth 90 = .ok (.iconst 1, 1) := by decide +kernel
theorem dX4_worth_91 : decode cX4_worth 91 = .ok (.isub, 1) := by decide +kernel
theorem dX4_worth_92 : decode cX4_worth 92 = .ok (.invokevirtual 80, 3) := by decide +kernel
theorem dX4_worth_95 : decode cX4_worth 95 = .ok (.iload 4, 2) := by decide +kernel
theorem dX4_worth_97 : decode cX4_worth 97 = .ok (.if_icmp .ne 6, 3) := by decide +kernel
theorem dX4_worth_100 : decode cX4_worth 100 = .ok (.iinc 2 5, 3) := by decide +kernel
theorem dX4_worth_103 : decode cX4_worth 103 = .ok (.iinc 3 1, 3) := by decide +kernel
theorem dX4_worth_106 : decode cX4_worth 106 = .ok (.goto (-82), 3) := by decide +kernel
theorem dX4_worth_109 : decode cX4_worth 109 = .ok (.iload_n 2, 1) := by decide +kernel
theorem dX4_worth_110 : decode cX4_worth 110 = .ok (.ireturn, 1) := by decide +kernel
set_option maxRecDepth 20000 in
theorem ggX4_mirror_X4_isPlace : GoodIn wsX4_mirror wsX4_isPlace := goodIn_r _ [4] (by decide +kernel) (by decide +kernel)
set_option maxRecDepth 20000 in
theorem gX4_mirror_X4_isPlace : GoodIn wsX4_mirror (va_wsS RX4 39 yX4_isPlace wsX4_isPlace) := goodIn_app (goodIn_of _ (by decide +kernel)) ggX4_mirror_X4_isPlace
set_option maxRecDepth 20000 in
theorem ggX4_mirror_X4_sortOn : GoodIn wsX4_mirror wsX4_sortOn := goodIn_r _ [8, 9, 10, 25, 26, 27, 28, 29, 30, 31, 32, 33] (by decide +kernel) (by decide +kernel)
set_option maxRecDepth 20000 in
theorem gX4_mirror_X4_sortOn : GoodIn wsX4_mirror (wsV RX4 49 RX4 yX4_sortOn wsX4_sortOn) := goodIn_app (goodIn_of _ (by decide +kernel)) ggX4_mirror_X4_sortOn
set_option maxRecDepth 20000 in
theorem ggX4_mirror_X4_isOfStones : GoodIn wsX4_mirror wsX4_isOfStones := goodIn_r _ [13] (by decide +kernel) (by decide +kernel)
set_option maxRecDepth 20000 in
theorem gX4_mirror_X4_isOfStones : GoodIn wsX4_mirror (va_wsS RX4 63 yX4_isOfStones wsX4_isOfStones) := goodIn_app (goodIn_of _ (by decide +kernel)) ggX4_mirror_X4_isOfStones
set_option maxRecDepth 20000 in
theorem ggX4_mirror_X4_manyOn : GoodIn wsX4_mirror wsX4_manyOn := goodIn_r _ [17, 9, 18, 25, 26, 27, 28, 29, 30, 31, 32, 33] (by decide +kernel) (by decide +kernel)
set_option maxRecDepth 20000 in
theorem gX4_mirror_X4_manyOn : GoodIn wsX4_mirror (wsV RX4 56 RX4 yX4_manyOn wsX4_manyOn) := goodIn_app (goodIn_of _ (by decide +kernel)) ggX4_mirror_X4_manyOn
set_option maxRecDepth 20000 in
theorem ggX4_mirror_X4_kindAt : GoodIn wsX4_mirror wsX4_kindAt := goodIn_r _ [22, 23, 9, 24, 25, 26, 27, 28, 29, 30, 31, 32, 33] (by decide +kernel) (by decide +kernel)
set_option maxRecDepth 20000 in
theorem gX4_mirror_X4_kindAt : GoodIn wsX4_mirror (wsV RX4 80 RX4 yX4_kindAt wsX4_kindAt) := goodIn_app (goodIn_of _ (by decide +kernel)) ggX4_mirror_X4_kindAt
theorem dX4_mirror_0 : decode cX4_mirror 0 = .ok (.iload_n 1, 1) := by decide +kernel
theorem dX4_mirror_1 : decode cX4_mirror 1 = .ok (.invokestatic 39, 3) := by decide +kernel
theorem dX4_mirror_4 : decode cX4_mirror 4 = .ok (.ifCond .eq 32, 3) := by decide +kernel
theorem dX4_mirror_7 : decode cX4_mirror 7 = .ok (.iload_n 2, 1) := by decide +kernel
theorem dX4_mirror_8 : decode cX4_mirror 8 = .ok (.invokestatic 39, 3) := by decide +kernel
theorem dX4_mirror_11 : decode cX4_mirror 11 = .ok (.ifCond .eq 25, 3) := by decide +kernel
theorem dX4_mirror_14 : decode cX4_mirror 14 = .ok (.aload_n 0, 1) := by decide +kernel
theorem dX4_mirror_15 : decode cX4_mirror 15 = .ok (.iload_n 1, 1) := by decide +kernel
theorem dX4_mirror_16 : decode cX4_mirror 16 = .ok (.invokevirtual 49, 3) := by decide +kernel
theorem dX4_mirror_19 : decode cX4_mirror 19 = .ok (.invokestatic 63, 3) := by decide +kernel
theorem dX4_mirror_22 : decode cX4_mirror 22 = .ok (.ifCond .eq 14, 3) := by decide +kernel
theorem dX4_mirror_25 : decode cX4_mirror 25 = .ok (.aload_n 0, 1) := by decide +kernel
theorem dX4_mirror_26 : decode cX4_mirror 26 = .ok (.iload_n 2, 1) := by decide +kernel
theorem dX4_mirror_27 : decode cX4_mirror 27 = .ok (.invokevirtual 49, 3) := by decide +kernel
theorem dX4_mirror_30 : decode cX4_mirror 30 = .ok (.invokestatic 63, 3) := by decide +kernel
theorem dX4_mirror_33 : decode cX4_mirror 33 = .ok (.ifCond .ne 5, 3) := by decide +kernel
theorem dX4_mirror_36 : decode cX4_mirror 36 = .ok (.iconst 0, 1) := by decide +kernel
theorem dX4_mirror_37 : decode cX4_mirror 37 = .ok (.ireturn, 1) := by decide +kernel
theorem dX4_mirror_38 : decode cX4_mirror 38 = .ok (.aload_n 0, 1) := by decide +kernel
theorem dX4_mirror_39 : decode cX4_mirror 39 = .ok (.iload_n 1, 1) := by decide +kernel
theorem dX4_mirror_40 : decode cX4_mirror 40 = .ok (.invokevirtual 56, 3) := by decide +kernel
theorem dX4_mirror_43 : decode cX4_mirror 43 = .ok (.istore_n 3, 1) := by decide +kernel
theorem dX4_mirror_44 : decode cX4_mirror 44 = .ok (.iload_n 3, 1) := by decide +kernel
theorem dX4_mirror_45 : decode cX4_mirror 45 = .ok (.aload_n 0, 1) := by decide +kernel
theorem dX4_mirror_46 : decode cX4_mirror 46 = .ok (.iload_n 2, 1) := by decide +kernel
theorem dX4_mirror_47 : decode cX4_mirror 47 = .ok (.invokevirtual 56, 3) := by decide +kernel
theorem dX4_mirror_50 : decode cX4_mirror 50 = .ok (.if_icmp .eq 5, 3) := by decide +kernel
theorem dX4_mirror_53 : decode cX4_mirror 53 = .ok (.iconst 0, 1) := by decide +kernel
theorem dX4_mirror_54 : decode cX4_mirror 54 = .ok (.ireturn, 1) := by decide +kernel
theorem dX4_mirror_55 : decode cX4_mirror 55 = .ok (.iconst 1, 1) := by decide +kernel
theorem dX4_mirror_56 : decode cX4_mirror 56 = .ok (.istore 4, 2) := by decide +kernel
theorem dX4_mirror_58 : decode cX4_mirror 58 = .ok (.iconst 0, 1) := by decide +kernel
theorem dX4_mirror_59 : decode cX4_mirror 59 = .ok (.istore 5, 2) := by decide +kernel
theorem dX4_mirror_61 : decode cX4_mirror 61 = .ok (.iload 5, 2) := by decide +kernel
theorem dX4_mirror_63 : decode cX4_mirror 63 = .ok (.iload_n 3, 1) := by decide +kernel
theorem dX4_mirror_64 : decode cX4_mirror 64 = .ok (.if_icmp .ge 42, 3) := by decide +kernel
theorem dX4_mirror_67 : decode cX4_mirror 67 = .ok (.iload 4, 2) := by decide +kernel
theorem dX4_mirror_69 : decode cX4_mirror 69 = .ok (.ifCond .eq 28, 3) := by decide +kernel
theorem dX4_mirror_72 : decode cX4_mirror 72 = .ok (.aload_n 0, 1) := by decide +kernel
theorem dX4_mirror_73 : decode cX4_mirror 73 = .ok (.iload_n 1, 1) := by decide +kernel
theorem dX4_mirror_74 : decode cX4_mirror 74 = .ok (.iload 5, 2) := by decide +kernel
theorem dX4_mirror_76 : decode cX4_mirror 76 = .ok (.invokevirtual 80, 3) := by decide +kernel
theorem dX4_mirror_79 : decode cX4_mirror 79 = .ok (.aload_n 0, 1) := by decide +kernel
theorem dX4_mirror_80 : decode cX4_mirror 80 = .ok (.iload_n 2, 1) := by decide +kernel
theorem dX4_mirror_81 : decode cX4_mirror 81 = .ok (.iload_n 3, 1) := by decide +kernel
theorem dX4_mirror_82 : decode cX4_mirror 82 = .ok (.iconst 1, 1) := by decide +kernel
theorem dX4_mirror_83 : decode cX4_mirror 83 = .ok (.isub, 1) := by decide +kernel
theorem dX4_mirror_84 : decode cX4_mirror 84 = .ok (.iload 5, 2) := by decide +kernel
theorem dX4_mirror_86 : decode cX4_mirror 86 = .ok (.isub, 1) := by decide +kernel
theorem dX4_mirror_87 : decode cX4_mirror 87 = .ok (.invokevirtual 80, 3) := by decide +kernel
theorem dX4_mirror_90 : decode cX4_mirror 90 = .ok (.if_icmp .ne 7, 3) := by decide +kernel
theorem dX4_mirror_93 : decode cX4_mirror 93 = .ok (.iconst 1, 1) := by decide +kernel
theorem dX4_mirror_94 : decode cX4_mirror 94 = .ok (.goto 4, 3) := by decide +kernel
theorem dX4_mirror_97 : decode cX4_mirror 97 = .ok (.iconst 0, 1) := by decide +kernel
theorem dX4_mirror_98 : decode cX4_mirror 98 = .ok (.istore 4, 2) := by decide +kernel
theorem dX4_mirror_100 : decode cX4_mirror 100 = .ok (.iinc 5 1, 3) := by decide +kernel
theorem dX4_mirror_103 : decode cX4_mirror 103 = .ok (.goto (-42), 3) := by decide +kernel
theorem dX4_mirror_106 : decode cX4_mirror 106 = .ok (.iload 4, 2) := by decide +kernel
theorem dX4_mirror_108 : decode cX4_mirror 108 = .ok (.ireturn, 1) := by decide +kernel
theorem dX4_count_0 : decode cX4_count 0 = .ok (.iload_n 1, 1) := by decide +kernel
theorem dX4_count_1 : decode cX4_count 1 = .ok (.ifCond .lt 9, 3) := by decide +kernel
theorem dX4_count_4 : decode cX4_count 4 = .ok (.iload_n 1, 1) := by decide +kernel
theorem dX4_count_5 : decode cX4_count 5 = .ok (.bipush 6, 2) := by decide +kernel
theorem dX4_count_7 : decode cX4_count 7 = .ok (.if_icmp .le 7, 3) := by decide +kernel
theorem dX4_count_10 : decode cX4_count 10 = .ok (.iconst (-1), 1) := by decide +kernel
theorem dX4_count_11 : decode cX4_count 11 = .ok (.goto 9, 3) := by decide +kernel
theorem dX4_count_14 : decode cX4_count 14 = .ok (.aload_n 0, 1) := by decide +kernel
theorem dX4_count_15 : decode cX4_count 15 = .ok (.getfield 36, 3) := by decide +kernel
theorem dX4_count_18 : decode cX4_count 18 = .ok (.iload_n 1, 1) := by decide +kernel
theorem dX4_count_19 : decode cX4_count 19 = .ok (.iaload, 1) := by decide +kernel
theorem dX4_count_20 : decode cX4_count 20 = .ok (.ireturn, 1) := by decide +kernel
set_option maxRecDepth 20000 in
theorem ggL_law_X3_init : GoodIn wsL_law wsX3_init := goodIn_r _ [8, 9, 10, 11, 12, 13, 14, 15, 16, 17, 18, 19, 20, 21, 22, 23, 24, 25, 26, 27, 28, 29, 309, 310, 311, 312, 313, 314, 315, 316, 317, 318, 319, 329, 330, 331, 332] (by decide +kernel) (by decide +kernel)
set_option maxRecDepth 20000 in
theorem gL_law_X3_init : GoodIn wsL_law (wsX3_init) := ggL_law_X3_init
set_option maxRecDepth 20000 in
theorem ggL_law_X4_init : GoodIn wsL_law wsX4_init := goodIn_r _ [32, 33, 10, 11, 34, 35, 36, 37, 38, 18, 39, 40, 41, 42, 43, 320, 321, 322, 323, 324, 325, 326, 327, 328] (by decide +kernel) (by decide +kernel)
set_option maxRecDepth 20000 in
theorem gL_law_X4_init : GoodIn wsL_law (wsX4_init) := ggL_law_X4_init
set_option maxRecDepth 20000 in
theorem ggL_law_X3_lay : GoodIn wsL_law wsX3_lay := goodIn_r _ [47, 13, 48, 49, 50, 14, 15, 16, 51, 52, 2, 53, 54, 55, 56, 57, 25, 26, 27, 28, 10, 11, 29, 20, 21, 22, 18, 23, 24, 309, 310, 311, 312, 313, 314, 315, 316, 317, 318, 319, 331, 332, 329, 330] (by decide +kernel) (by decide +kernel)
set_option maxRecDepth 20000 in
theorem gL_law_X3_lay : GoodIn wsL_law (wsV RL 13 RX3 yX3_lay wsX3_lay) := goodIn_app (goodIn_of _ (by decide +kernel)) ggL_law_X3_lay
set_option maxRecDepth 20000 in
theorem ggL_law_X4_lay : GoodIn wsL_law wsX4_lay := goodIn_r _ [61, 35, 36, 37, 38, 39, 62, 63, 5, 64, 65, 66, 67, 68, 69, 70, 71, 42, 320, 321, 322, 323, 324, 325, 326, 327, 328] (by decide +kernel) (by decide +kernel)
set_option maxRecDepth 20000 in
theorem gL_law_X4_lay : GoodIn wsL_law (wsV RL 17 RX4 yX4_lay wsX4_lay) := goodIn_app (goodIn_of _ (by decide +kernel)) ggL_law_X4_lay
set_option maxRecDepth 20000 in
theorem ggL_law_X3_share : GoodIn wsL_law wsX3_share := goodIn_r _ [75, 13, 51, 52, 2, 53, 309, 310, 311, 312, 313, 314, 315, 316, 317, 318, 319] (by decide +kernel) (by decide +kernel)
set_option maxRecDepth 20000 in
theorem gL_law_X3_share : GoodIn wsL_law (wsV RL 18 RX3 yX3_share wsX3_share) := goodIn_app (goodIn_of _ (by decide +kernel)) ggL_law_X3_share
set_option maxRecDepth 20000 in
theorem ggL_law_X4_share : GoodIn wsL_law wsX4_share := goodIn_r _ [79, 35, 62, 63, 5, 64, 320, 321, 322, 323, 324, 325, 326, 327, 328] (by decide +kernel) (by decide +kernel)
set_option maxRecDepth 20000 in
theorem gL_law_X4_share : GoodIn wsL_law (wsV RL 22 RX4 yX4_share wsX4_share) := goodIn_app (goodIn_of _ (by decide +kernel)) ggL_law_X4_share
set_option maxRecDepth 20000 in
theorem ggL_law_X3_set : GoodIn wsL_law wsX3_set := goodIn_r _ [83, 13, 84, 85, 51, 52, 2, 53, 86, 87, 88, 89, 90, 91, 92, 16, 93, 94, 95, 96, 97, 98, 99, 100, 101, 102, 23, 103, 104, 105, 106, 309, 310, 311, 312, 313, 314, 315, 316, 317, 318, 319, 331, 332, 329, 330] (by decide +kernel) (by decide +kernel)
set_option maxRecDepth 20000 in
theorem gL_law_X3_set : GoodIn wsL_law (wsV RL 23 RX3 yX3_set wsX3_set) := goodIn_app (goodIn_of _ (by decide +kernel)) ggL_law_X3_set
set_option maxRecDepth 20000 in
theorem ggL_law_X4_set : GoodIn wsL_law wsX4_set := goodIn_r _ [110, 35, 111, 39, 62, 63, 5, 64, 112, 113, 114, 115, 36, 116, 117, 118, 119, 120, 121, 122, 37, 320, 321, 322, 323, 324, 325, 326, 327, 328] (by decide +kernel) (by decide +kernel)
set_option maxRecDepth 20000 in
theorem gL_law_X4_set : GoodIn wsL_law (wsV RL 27 RX4 yX4_set wsX4_set) := goodIn_app (goodIn_of _ (by decide +kernel)) ggL_law_X4_set
set_option maxRecDepth 20000 in
theorem ggL_law_X3_put : GoodIn wsL_law wsX3_put := goodIn_r _ [126, 17, 13, 51, 52, 2, 53, 127, 128, 129, 130, 131, 132, 99, 100, 101, 16, 102, 23, 103, 104, 105, 106, 133, 134, 135, 136, 137, 138, 139, 140, 141, 86, 87, 88, 89, 142, 143, 144, 145, 94, 85, 146, 91, 92, 93, 147, 148, 149, 150, 151, 19, 152, 153, 154, 155, 156, 157, 158, 159, 160, 161, 162, 163, 164, 165, 166, 167, 168, 169, 170, 171, 172, 173, 174, 175, 176, 177, 178, 179, 180, 181, 182, 183, 184, 185, 186, 187, 188, 309, 310, 311, 312, 313, 314, 315, 316, 317, 318, 319, 329, 330, 331, 332] (by decide +kernel) (by decide +kernel)
set_option maxRecDepth 20000 in
theorem gL_law_X3_put : GoodIn wsL_law (wsV RL 28 RX3 yX3_put wsX3_put) := goodIn_app (goodIn_of _ (by decide +kernel)) ggL_law_X3_put
set_option maxRecDepth 20000 in
theorem ggL_law_X4_put : GoodIn wsL_law wsX4_put := goodIn_r _ [192, 43, 193, 40, 62, 63, 5, 64, 112, 113, 114, 115, 35, 36, 119, 120, 121, 122, 37, 194, 195, 196, 197, 198, 199, 200, 201, 202, 203, 39, 204, 205, 206, 320, 321, 322, 323, 324, 325, 326, 327, 328] (by decide +kernel) (by decide +kernel)
set_option maxRecDepth 20000 in
theorem gL_law_X4_put : GoodIn wsL_law (wsV RL 31 RX4 yX4_put wsX4_put) := goodIn_app (goodIn_of _ (by decide +kernel)) ggL_law_X4_put
set_option maxRecDepth 20000 in
theorem ggL_law_X3_sweep : GoodIn wsL_law wsX3_sweep := goodIn_r _ [210, 13, 51, 52, 2, 53, 133, 134, 135, 136, 137, 138, 139, 140, 141, 86, 87, 88, 89, 142, 143, 144, 16, 145, 94, 85, 146, 91, 92, 93, 147, 104, 105, 106, 23, 148, 149, 150, 151, 19, 152, 153, 154, 155, 156, 157, 158, 159, 160, 161, 162, 163, 164, 165, 166, 167, 168, 169, 103, 170, 171, 172, 173, 174, 175, 176, 177, 178, 179, 180, 181, 182, 183, 184, 185, 186, 187, 188, 309, 310, 311, 312, 313, 314, 315, 316, 317, 318, 319, 331, 332, 329, 330] (by decide +kernel) (by decide +kernel)
set_option maxRecDepth 20000 in
theorem gL_law_X3_sweep : GoodIn wsL_law (wsV RL 32 RX3 yX3_sweep wsX3_sweep) := goodIn_app (goodIn_of _ (by decide +kernel)) ggL_law_X3_sweep
set_option maxRecDepth 20000 in
theorem ggL_law_X4_sweep : GoodIn wsL_law wsX4_sweep := goodIn_r _ [214, 43, 40, 39, 35, 42, 37, 41, 62, 63, 5, 64, 112, 113, 114, 115, 36, 119, 120, 121, 122, 194, 195, 196, 197, 198, 199, 200, 201, 202, 203, 204, 205, 206, 193, 320, 321, 322, 323, 324, 325, 326, 327, 328] (by decide +kernel) (by decide +kernel)
set_option maxRecDepth 20000 in
theorem gL_law_X4_sweep : GoodIn wsL_law (wsV RL 36 RX4 yX4_sweep wsX4_sweep) := goodIn_app (goodIn_of _ (by decide +kernel)) ggL_law_X4_sweep
set_option maxRecDepth 20000 in
theorem ggL_law_X3_back : GoodIn wsL_law wsX3_back := goodIn_r _ [218, 152, 19, 219, 220, 221, 16, 222, 23, 157, 158, 159, 160, 223, 224, 225, 226, 309, 310, 311, 312, 313, 314, 315, 316, 317, 318, 319, 329, 330] (by decide +kernel) (by decide +kernel)
set_option maxRecDepth 20000 in
theorem gL_law_X3_back : GoodIn wsL_law (wsV RL 37 RX3 yX3_back wsX3_back) := goodIn_app (goodIn_of _ (by decide +kernel)) ggL_law_X3_back
set_option maxRecDepth 20000 in
theorem ggL_law_X4_back : GoodIn wsL_law wsX4_back := goodIn_r _ [230, 42, 37, 39, 41, 320, 321, 322, 323, 324, 325, 326, 327, 328] (by decide +kernel) (by decide +kernel)
set_option maxRecDepth 20000 in
theorem gL_law_X4_back : GoodIn wsL_law (wsV RL 41 RX4 yX4_back wsX4_back) := goodIn_app (goodIn_of _ (by decide +kernel)) ggL_law_X4_back
set_option maxRecDepth 20000 in
theorem ggL_law_X3_light : GoodIn wsL_law wsX3_light := goodIn_r _ [234, 13, 235, 236, 51, 52, 2, 53, 309, 310, 311, 312, 313, 314, 315, 316, 317, 318, 319, 331, 332] (by decide +kernel) (by decide +kernel)
set_option maxRecDepth 20000 in
theorem gL_law_X3_light : GoodIn wsL_law (wsV RL 42 RX3 yX3_light wsX3_light) := goodIn_app (goodIn_of _ (by decide +kernel)) ggL_law_X3_light
set_option maxRecDepth 20000 in
theorem ggL_law_X4_light : GoodIn wsL_law wsX4_light := goodIn_r _ [240, 38, 35, 62, 63, 5, 64, 112, 113, 114, 115, 36, 320, 321, 322, 323, 324, 325, 326, 327, 328] (by decide +kernel) (by decide +kernel)
set_option maxRecDepth 20000 in
theorem gL_law_X4_light : GoodIn wsL_law (wsV RL 46 RX4 yX4_light wsX4_light) := goodIn_app (goodIn_of _ (by decide +kernel)) ggL_law_X4_light
set_option maxRecDepth 20000 in
theorem ggL_law_X3_member : GoodIn wsL_law wsX3_member := goodIn_r _ [244, 245, 246, 247, 248, 2, 249, 13, 51, 52, 53, 86, 87, 88, 89, 250, 251, 252, 16, 253, 23, 254, 103, 104, 105, 106, 309, 310, 311, 312, 313, 314, 315, 316, 317, 318, 319, 329, 330] (by decide +kernel) (by decide +kernel)
set_option maxRecDepth 20000 in
theorem gL_law_X3_member : GoodIn wsL_law (wsV RL 47 RX3 yX3_member wsX3_member) := goodIn_app (goodIn_of _ (by decide +kernel)) ggL_law_X3_member
set_option maxRecDepth 20000 in
theorem ggL_law_X4_member : GoodIn wsL_law wsX4_member := goodIn_r _ [258, 259, 39, 35, 62, 63, 5, 64, 119, 120, 121, 122, 37, 320, 321, 322, 323, 324, 325, 326, 327, 328] (by decide +kernel) (by decide +kernel)
set_option maxRecDepth 20000 in
theorem gL_law_X4_member : GoodIn wsL_law (wsV RL 51 RX4 yX4_member wsX4_member) := goodIn_app (goodIn_of _ (by decide +kernel)) ggL_law_X4_member
set_option maxRecDepth 20000 in
theorem ggL_law_X3_thing : GoodIn wsL_law wsX3_thing := goodIn_r _ [263, 13, 264, 51, 52, 2, 53, 265, 266, 267, 86, 87, 88, 89, 223, 224, 225, 16, 226, 23, 268, 269, 270, 271, 309, 310, 311, 312, 313, 314, 315, 316, 317, 318, 319, 331, 332, 329, 330] (by decide +kernel) (by decide +kernel)
set_option maxRecDepth 20000 in
theorem gL_law_X3_thing : GoodIn wsL_law (wsV RL 52 RX3 yX3_thing wsX3_thing) := goodIn_app (goodIn_of _ (by decide +kernel)) ggL_law_X3_thing
set_option maxRecDepth 20000 in
theorem ggL_law_X4_thing : GoodIn wsL_law wsX4_thing := goodIn_r _ [275, 35, 62, 63, 5, 64, 112, 113, 114, 115, 36, 119, 120, 121, 122, 37, 320, 321, 322, 323, 324, 325, 326, 327, 328] (by decide +kernel) (by decide +kernel)
set_option maxRecDepth 20000 in
theorem gL_law_X4_thing : GoodIn wsL_law (wsV RL 56 RX4 yX4_thing wsX4_thing) := goodIn_app (goodIn_of _ (by decide +kernel)) ggL_law_X4_thing
set_option maxRecDepth 20000 in
theorem ggL_law_X3_worth : GoodIn wsL_law wsX3_worth := goodIn_r _ [279, 246, 247, 248, 2, 249, 13, 51, 52, 53, 86, 87, 88, 89, 90, 91, 92, 16, 93, 94, 85, 223, 224, 225, 226, 23, 280, 166, 167, 168, 169, 103, 104, 105, 106, 281, 282, 283, 284, 174, 175, 309, 310, 311, 312, 313, 314, 315, 316, 317, 318, 319, 331, 332, 329, 330] (by decide +kernel) (by decide +kernel)
set_option maxRecDepth 20000 in
theorem gL_law_X3_worth : GoodIn wsL_law (wsV RL 57 RX3 yX3_worth wsX3_worth) := goodIn_app (goodIn_of _ (by decide +kernel)) ggL_law_X3_worth
set_option maxRecDepth 20000 in
theorem ggL_law_X4_worth : GoodIn wsL_law wsX4_worth := goodIn_r _ [288, 62, 63, 5, 64, 112, 113, 114, 115, 35, 36, 197, 198, 199, 119, 120, 121, 122, 37, 289, 290, 291, 292, 39, 193, 320, 321, 322, 323, 324, 325, 326, 327, 328] (by decide +kernel) (by decide +kernel)
set_option maxRecDepth 20000 in
theorem gL_law_X4_worth : GoodIn wsL_law (wsV RL 60 RX4 yX4_worth wsX4_worth) := goodIn_app (goodIn_of _ (by decide +kernel)) ggL_law_X4_worth
set_option maxRecDepth 20000 in
theorem ggL_law_X3_mirror : GoodIn wsL_law wsX3_mirror := goodIn_r _ [296, 246, 247, 248, 2, 249, 13, 51, 52, 53, 86, 87, 88, 89, 90, 91, 92, 16, 93, 94, 85, 223, 224, 225, 226, 23, 280, 166, 167, 168, 169, 103, 104, 105, 106, 309, 310, 311, 312, 313, 314, 315, 316, 317, 318, 319, 331, 332, 329, 330] (by decide +kernel) (by decide +kernel)
set_option maxRecDepth 20000 in
theorem gL_law_X3_mirror : GoodIn wsL_law (wsV RL 61 RX3 yX3_mirror wsX3_mirror) := goodIn_app (goodIn_of _ (by decide +kernel)) ggL_law_X3_mirror
set_option maxRecDepth 20000 in
theorem ggL_law_X4_mirror : GoodIn wsL_law wsX4_mirror := goodIn_r _ [300, 62, 63, 5, 64, 112, 113, 114, 115, 35, 36, 197, 198, 199, 119, 120, 121, 122, 37, 289, 290, 291, 292, 39, 193, 320, 321, 322, 323, 324, 325, 326, 327, 328] (by decide +kernel) (by decide +kernel)
set_option maxRecDepth 20000 in
theorem gL_law_X4_mirror : GoodIn wsL_law (wsV RL 64 RX4 yX4_mirror wsX4_mirror) := goodIn_app (goodIn_of _ (by decide +kernel)) ggL_law_X4_mirror
set_option maxRecDepth 20000 in
theorem ggL_law_X3_count : GoodIn wsL_law wsX3_count := goodIn_r _ [304, 131, 184, 185, 186, 187, 188, 141, 309, 310, 311, 312, 313, 314, 315, 316, 317, 318, 319] (by decide +kernel) (by decide +kernel)
set_option maxRecDepth 20000 in
theorem gL_law_X3_count : GoodIn wsL_law (wsV RL 65 RX3 yX3_count wsX3_count) := goodIn_app (goodIn_of _ (by decide +kernel)) ggL_law_X3_count
set_option maxRecDepth 20000 in
theorem ggL_law_X4_count : GoodIn wsL_law wsX4_count := goodIn_r _ [308, 43, 320, 321, 322, 323, 324, 325, 326, 327, 328] (by decide +kernel) (by decide +kernel)
set_option maxRecDepth 20000 in
theorem gL_law_X4_count : GoodIn wsL_law (wsV RL 68 RX4 yX4_count wsX4_count) := goodIn_app (goodIn_of _ (by decide +kernel)) ggL_law_X4_count
theorem dL_law_0 : decode cL_law 0 = .ok (.new 7, 3) := by decide +kernel
theorem dL_law_3 : decode cL_law 3 = .ok (.dup, 1) := by decide +kernel
theorem dL_law_4 : decode cL_law 4 = .ok (.invokespecial 9, 3) := by decide +kernel
theorem dL_law_7 : decode cL_law 7 = .ok (.astore_n 1, 1) := by decide +kernel
theorem dL_law_8 : decode cL_law 8 = .ok (.new 10, 3) := by decide +kernel
theorem dL_law_11 : decode cL_law 11 = .ok (.dup, 1) := by decide +kernel
theorem dL_law_12 : decode cL_law 12 = .ok (.invokespecial 12, 3) := by decide +kernel
theorem dL_law_15 : decode cL_law 15 = .ok (.astore_n 2, 1) := by decide +kernel
theorem dL_law_16 : decode cL_law 16 = .ok (.iconst 0, 1) := by decide +kernel
theorem dL_law_17 : decode cL_law 17 = .ok (.istore_n 3, 1) := by decide +kernel
theorem dL_law_18 : decode cL_law 18 = .ok (.iload_n 3, 1) := by decide +kernel
theorem dL_law_19 : decode cL_law 19 = .ok (.aload_n 0, 1) := by decide +kernel
theorem dL_law_20 : decode cL_law 20 = .ok (.arraylength, 1) := by decide +kernel
theorem dL_law_21 : decode cL_law 21 = .ok (.bipush 6, 2) := by decide +kernel
theorem dL_law_23 : decode cL_law 23 = .ok (.isub, 1) := by decide +kernel
theorem dL_law_24 : decode cL_law 24 = .ok (.if_icmp .gt 485, 3) := by decide +kernel
theorem dL_law_27 : decode cL_law 27 = .ok (.aload_n 0, 1) := by decide +kernel
theorem dL_law_28 : decode cL_law 28 = .ok (.iload_n 3, 1) := by decide +kernel
theorem dL_law_29 : decode cL_law 29 = .ok (.iaload, 1) := by decide +kernel
theorem dL_law_30 : decode cL_law 30 = .ok (.bipush 15, 2) := by decide +kernel
theorem dL_law_32 : decode cL_law 32 = .ok (.iand, 1) := by decide +kernel
theorem dL_law_33 : decode cL_law 33 = .ok (.tableswitch 470 0 11 #[63, 106, 139, 182, 225, 288, 301, 324, 358, 391, 414, 447], 63) := by decide +kernel
theorem dL_law_96 : decode cL_law 96 = .ok (.aload_n 1, 1) := by decide +kernel
theorem dL_law_97 : decode cL_law 97 = .ok (.aload_n 0, 1) := by decide +kernel
theorem dL_law_98 : decode cL_law 98 = .ok (.iload_n 3, 1) := by decide +kernel
theorem dL_law_99 : decode cL_law 99 = .ok (.iconst 1, 1) := by decide +kernel
theorem dL_law_100 : decode cL_law 100 = .ok (.iadd, 1) := by decide +kernel
theorem dL_law_101 : decode cL_law 101 = .ok (.iaload, 1) := by decide +kernel
theorem dL_law_102 : decode cL_law 102 = .ok (.aload_n 0, 1) := by decide +kernel
theorem dL_law_103 : decode cL_law 103 = .ok (.iload_n 3, 1) := by decide +kernel
theorem dL_law_104 : decode cL_law 104 = .ok (.iconst 2, 1) := by decide +kernel
theorem dL_law_105 : decode cL_law 105 = .ok (.iadd, 1) := by decide +kernel
theorem dL_law_106 : decode cL_law 106 = .ok (.iaload, 1) := by decide +kernel
theorem dL_law_107 : decode cL_law 107 = .ok (.aload_n 0, 1) := by decide +kernel
theorem dL_law_108 : decode cL_law 108 = .ok (.iload_n 3, 1) := by decide +kernel
theorem dL_law_109 : decode cL_law 109 = .ok (.iconst 3, 1) := by decide +kernel
theorem dL_law_110 : decode cL_law 110 = .ok (.iadd, 1) := by decide +kernel
theorem dL_law_111 : decode cL_law 111 = .ok (.iaload, 1) := by decide +kernel
theorem dL_law_112 : decode cL_law 112 = .ok (.invokevirtual 13, 3) := by decide +kernel
theorem dL_law_115 : decode cL_law 115 = .ok (.aload_n 2, 1) := by decide +kernel
theorem dL_law_116 : decode cL_law 116 = .ok (.aload_n 0, 1) := by decide +kernel
theorem dL_law_117 : decode cL_law 117 = .ok (.iload_n 3, 1) := by decide +kernel
theorem dL_law_118 : decode cL_law 118 = .ok (.iconst 1, 1) := by decide +kernel
theorem dL_law_119 : decode cL_law 119 = .ok (.iadd, 1) := by decide +kernel
theorem dL_law_120 : decode cL_law 120 = .ok (.iaload, 1) := by decide +kernel
theorem dL_law_121 : decode cL_law 121 = .ok (.aload_n 0, 1) := by decide +kernel
theorem dL_law_122 : decode cL_law 122 = .ok (.iload_n 3, 1) := by decide +kernel
theorem dL_law_123 : decode cL_law 123 = .ok (.iconst 2, 1) := by decide +kernel
theorem dL_law_124 : decode cL_law 124 = .ok (.iadd, 1) := by decide +kernel
theorem dL_law_125 : decode cL_law 125 = .ok (.iaload, 1) := by decide +kernel
theorem dL_law_126 : decode cL_law 126 = .ok (.aload_n 0, 1) := by decide +kernel
theorem dL_law_127 : decode cL_law 127 = .ok (.iload_n 3, 1) := by decide +kernel
theorem dL_law_128 : decode cL_law 128 = .ok (.iconst 3, 1) := by decide +kernel
theorem dL_law_129 : decode cL_law 129 = .ok (.iadd, 1) := by decide +kernel
theorem dL_law_130 : decode cL_law 130 = .ok (.iaload, 1) := by decide +kernel
theorem dL_law_131 : decode cL_law 131 = .ok (.invokevirtual 17, 3) := by decide +kernel
theorem dL_law_134 : decode cL_law 134 = .ok (.if_icmp .eq 369, 3) := by decide +kernel
theorem dL_law_137 : decode cL_law 137 = .ok (.iconst 0, 1) := by decide +kernel
theorem dL_law_138 : decode cL_law 138 = .ok (.ireturn, 1) := by decide +kernel
theorem dL_law_139 : decode cL_law 139 = .ok (.aload_n 1, 1) := by decide +kernel
theorem dL_law_140 : decode cL_law 140 = .ok (.aload_n 0, 1) := by decide +kernel
theorem dL_law_141 : decode cL_law 141 = .ok (.iload_n 3, 1) := by decide +kernel
theorem dL_law_142 : decode cL_law 142 = .ok (.iconst 1, 1) := by decide +kernel
theorem dL_law_143 : decode cL_law 143 = .ok (.iadd, 1) := by decide +kernel
theorem dL_law_144 : decode cL_law 144 = .ok (.iaload, 1) := by decide +kernel
theorem dL_law_145 : decode cL_law 145 = .ok (.aload_n 0, 1) := by decide +kernel
theorem dL_law_146 : decode cL_law 146 = .ok (.iload_n 3, 1) := by decide +kernel
theorem dL_law_147 : decode cL_law 147 = .ok (.iconst 2, 1) := by decide +kernel
theorem dL_law_148 : decode cL_law 148 = .ok (.iadd, 1) := by decide +kernel
theorem dL_law_149 : decode cL_law 149 = .ok (.iaload, 1) := by decide +kernel
theorem dL_law_150 : decode cL_law 150 = .ok (.invokevirtual 18, 3) := by decide +kernel
theorem dL_law_153 : decode cL_law 153 = .ok (.aload_n 2, 1) := by decide +kernel
theorem dL_law_154 : decode cL_law 154 = .ok (.aload_n 0, 1) := by decide +kernel
theorem dL_law_155 : decode cL_law 155 = .ok (.iload_n 3, 1) := by decide +kernel
theorem dL_law_156 : decode cL_law 156 = .ok (.iconst 1, 1) := by decide +kernel
theorem dL_law_157 : decode cL_law 157 = .ok (.iadd, 1) := by decide +kernel
theorem dL_law_158 : decode cL_law 158 = .ok (.iaload, 1) := by decide +kernel
theorem dL_law_159 : decode cL_law 159 = .ok (.aload_n 0, 1) := by decide +kernel
theorem dL_law_160 : decode cL_law 160 = .ok (.iload_n 3, 1) := by decide +kernel
theorem dL_law_161 : decode cL_law 161 = .ok (.iconst 2, 1) := by decide +kernel
theorem dL_law_162 : decode cL_law 162 = .ok (.iadd, 1) := by decide +kernel
theorem dL_law_163 : decode cL_law 163 = .ok (.iaload, 1) := by decide +kernel
theorem dL_law_164 : decode cL_law 164 = .ok (.invokevirtual 22, 3) := by decide +kernel
theorem dL_law_167 : decode cL_law 167 = .ok (.if_icmp .eq 336, 3) := by decide +kernel
theorem dL_law_170 : decode cL_law 170 = .ok (.iconst 0, 1) := by decide +kernel
theorem dL_law_171 : decode cL_law 171 = .ok (.ireturn, 1) := by decide +kernel
theorem dL_law_172 : decode cL_law 172 = .ok (.aload_n 1, 1) := by decide +kernel
theorem dL_law_173 : decode cL_law 173 = .ok (.aload_n 0, 1) := by decide +kernel
theorem dL_law_174 : decode cL_law 174 = .ok (.iload_n 3, 1) := by decide +kernel
theorem dL_law_175 : decode cL_law 175 = .ok (.iconst 1, 1) := by decide +kernel
theorem dL_law_176 : decode cL_law 176 = .ok (.iadd, 1) := by decide +kernel
theorem dL_law_177 : decode cL_law 177 = .ok (.iaload, 1) := by decide +kernel
theorem dL_law_178 : decode cL_law 178 = .ok (.aload_n 0, 1) := by decide +kernel
theorem dL_law_179 : decode cL_law 179 = .ok (.iload_n 3, 1) := by decide +kernel
theorem dL_law_180 : decode cL_law 180 = .ok (.iconst 2, 1) := by decide +kernel
theorem dL_law_181 : decode cL_law 181 = .ok (.iadd, 1) := by decide +kernel
theorem dL_law_182 : decode cL_law 182 = .ok (.iaload, 1) := by decide +kernel
theorem dL_law_183 : decode cL_law 183 = .ok (.aload_n 0, 1) := by decide +kernel
theorem dL_law_184 : decode cL_law 184 = .ok (.iload_n 3, 1) := by decide +kernel
theorem dL_law_185 : decode cL_law 185 = .ok (.iconst 3, 1) := by decide +kernel
theorem dL_law_186 : decode cL_law 186 = .ok (.iadd, 1) := by decide +kernel
theorem dL_law_187 : decode cL_law 187 = .ok (.iaload, 1) := by decide +kernel
theorem dL_law_188 : decode cL_law 188 = .ok (.invokevirtual 23, 3) := by decide +kernel
theorem dL_law_191 : decode cL_law 191 = .ok (.aload_n 2, 1) := by decide +kernel
theorem dL_law_192 : decode cL_law 192 = .ok (.aload_n 0, 1) := by decide +kernel
theorem dL_law_193 : decode cL_law 193 = .ok (.iload_n 3, 1) := by decide +kernel
theorem dL_law_194 : decode cL_law 194 = .ok (.iconst 1, 1) := by decide +kernel
theorem dL_law_195 : decode cL_law 195 = .ok (.iadd, 1) := by decide +kernel
theorem dL_law_196 : decode cL_law 196 = .ok (.iaload, 1) := by decide +kernel
theorem dL_law_197 : decode cL_law 197 = .ok (.aload_n 0, 1) := by decide +kernel
theorem dL_law_198 : decode cL_law 198 = .ok (.iload_n 3, 1) := by decide +kernel
theorem dL_law_199 : decode cL_law 199 = .ok (.iconst 2, 1) := by decide +kernel
theorem dL_law_200 : decode cL_law 200 = .ok (.iadd, 1) := by decide +kernel
theorem dL_law_201 : decode cL_law 201 = .ok (.iaload, 1) := by decide +kernel
theorem dL_law_202 : decode cL_law 202 = .ok (.aload_n 0, 1) := by decide +kernel
theorem dL_law_203 : decode cL_law 203 = .ok (.iload_n 3, 1) := by decide +kernel
theorem dL_law_204 : decode cL_law 204 = .ok (.iconst 3, 1) := by decide +kernel
theorem dL_law_205 : decode cL_law 205 = .ok (.iadd, 1) := by decide +kernel
theorem dL_law_206 : decode cL_law 206 = .ok (.iaload, 1) := by decide +kernel
theorem dL_law_207 : decode cL_law 207 = .ok (.invokevirtual 27, 3) := by decide +kernel
theorem dL_law_210 : decode cL_law 210 = .ok (.if_icmp .eq 293, 3) := by decide +kernel
theorem dL_law_213 : decode cL_law 213 = .ok (.iconst 0, 1) := by decide +kernel
theorem dL_law_214 : decode cL_law 214 = .ok (.ireturn, 1) := by decide +kernel
theorem dL_law_215 : decode cL_law 215 = .ok (.aload_n 1, 1) := by decide +kernel
theorem dL_law_216 : decode cL_law 216 = .ok (.aload_n 0, 1) := by decide +kernel
theorem dL_law_217 : decode cL_law 217 = .ok (.iload_n 3, 1) := by decide +kernel
theorem dL_law_218 : decode cL_law 218 = .ok (.iconst 1, 1) := by decide +kernel
theorem dL_law_219 : decode cL_law 219 = .ok (.iadd, 1) := by decide +kernel
theorem dL_law_220 : decode cL_law 220 = .ok (.iaload, 1) := by decide +kernel
theorem dL_law_221 : decode cL_law 221 = .ok (.aload_n 0, 1) := by decide +kernel
theorem dL_law_222 : decode cL_law 222 = .ok (.iload_n 3, 1) := by decide +kernel
theorem dL_law_223 : decode cL_law 223 = .ok (.iconst 2, 1) := by decide +kernel
theorem dL_law_224 : decode cL_law 224 = .ok (.iadd, 1) := by decide +kernel
theorem dL_law_225 : decode cL_law 225 = .ok (.iaload, 1) := by decide +kernel
theorem dL_law_226 : decode cL_law 226 = .ok (.aload_n 0, 1) := by decide +kernel
theorem dL_law_227 : decode cL_law 227 = .ok (.iload_n 3, 1) := by decide +kernel
theorem dL_law_228 : decode cL_law 228 = .ok (.iconst 3, 1) := by decide +kernel
theorem dL_law_229 : decode cL_law 229 = .ok (.iadd, 1) := by decide +kernel
theorem dL_law_230 : decode cL_law 230 = .ok (.iaload, 1) := by decide +kernel
theorem dL_law_231 : decode cL_law 231 = .ok (.invokevirtual 28, 3) := by decide +kernel
theorem dL_law_234 : decode cL_law 234 = .ok (.aload_n 2, 1) := by decide +kernel
theorem dL_law_235 : decode cL_law 235 = .ok (.aload_n 0, 1) := by decide +kernel
theorem dL_law_236 : decode cL_law 236 = .ok (.iload_n 3, 1) := by decide +kernel
theorem dL_law_237 : decode cL_law 237 = .ok (.iconst 1, 1) := by decide +kernel
theorem dL_law_238 : decode cL_law 238 = .ok (.iadd, 1) := by decide +kernel
theorem dL_law_239 : decode cL_law 239 = .ok (.iaload, 1) := by decide +kernel
theorem dL_law_240 : decode cL_law 240 = .ok (.aload_n 0, 1) := by decide +kernel
theorem dL_law_241 : decode cL_law 241 = .ok (.iload_n 3, 1) := by decide +kernel
theorem dL_law_242 : decode cL_law 242 = .ok (.iconst 2, 1) := by decide +kernel
theorem dL_law_243 : decode cL_law 243 = .ok (.iadd, 1) := by decide +kernel
theorem dL_law_244 : decode cL_law 244 = .ok (.iaload, 1) := by decide +kernel
theorem dL_law_245 : decode cL_law 245 = .ok (.aload_n 0, 1) := by decide +kernel
theorem dL_law_246 : decode cL_law 246 = .ok (.iload_n 3, 1) := by decide +kernel
theorem dL_law_247 : decode cL_law 247 = .ok (.iconst 3, 1) := by decide +kernel
theorem dL_law_248 : decode cL_law 248 = .ok (.iadd, 1) := by decide +kernel
theorem dL_law_249 : decode cL_law 249 = .ok (.iaload, 1) := by decide +kernel
theorem dL_law_250 : decode cL_law 250 = .ok (.invokevirtual 31, 3) := by decide +kernel
theorem dL_law_253 : decode cL_law 253 = .ok (.if_icmp .eq 250, 3) := by decide +kernel
theorem dL_law_256 : decode cL_law 256 = .ok (.iconst 0, 1) := by decide +kernel
theorem dL_law_257 : decode cL_law 257 = .ok (.ireturn, 1) := by decide +kernel
theorem dL_law_258 : decode cL_law 258 = .ok (.aload_n 1, 1) := by decide +kernel
theorem dL_law_259 : decode cL_law 259 = .ok (.aload_n 0, 1) := by decide +kernel
theorem dL_law_260 : decode cL_law 260 = .ok (.iload_n 3, 1) := by decide +kernel
theorem dL_law_261 : decode cL_law 261 = .ok (.iconst 1, 1) := by decide +kernel
theorem dL_law_262 : decode cL_law 262 = .ok (.iadd, 1) := by decide +kernel
theorem dL_law_263 : decode cL_law 263 = .ok (.iaload, 1) := by decide +kernel
theorem dL_law_264 : decode cL_law 264 = .ok (.aload_n 0, 1) := by decide +kernel
theorem dL_law_265 : decode cL_law 265 = .ok (.iload_n 3, 1) := by decide +kernel
theorem dL_law_266 : decode cL_law 266 = .ok (.iconst 2, 1) := by decide +kernel
theorem dL_law_267 : decode cL_law 267 = .ok (.iadd, 1) := by decide +kernel
theorem dL_law_268 : decode cL_law 268 = .ok (.iaload, 1) := by decide +kernel
theorem dL_law_269 : decode cL_law 269 = .ok (.aload_n 0, 1) := by decide +kernel
theorem dL_law_270 : decode cL_law 270 = .ok (.iload_n 3, 1) := by decide +kernel
theorem dL_law_271 : decode cL_law 271 = .ok (.iconst 3, 1) := by decide +kernel
theorem dL_law_272 : decode cL_law 272 = .ok (.iadd, 1) := by decide +kernel
theorem dL_law_273 : decode cL_law 273 = .ok (.iaload, 1) := by decide +kernel
theorem dL_law_274 : decode cL_law 274 = .ok (.aload_n 0, 1) := by decide +kernel
theorem dL_law_275 : decode cL_law 275 = .ok (.iload_n 3, 1) := by decide +kernel
theorem dL_law_276 : decode cL_law 276 = .ok (.iconst 4, 1) := by decide +kernel
theorem dL_law_277 : decode cL_law 277 = .ok (.iadd, 1) := by decide +kernel
theorem dL_law_278 : decode cL_law 278 = .ok (.iaload, 1) := by decide +kernel
theorem dL_law_279 : decode cL_law 279 = .ok (.aload_n 0, 1) := by decide +kernel
theorem dL_law_280 : decode cL_law 280 = .ok (.iload_n 3, 1) := by decide +kernel
theorem dL_law_281 : decode cL_law 281 = .ok (.iconst 5, 1) := by decide +kernel
theorem dL_law_282 : decode cL_law 282 = .ok (.iadd, 1) := by decide +kernel
theorem dL_law_283 : decode cL_law 283 = .ok (.iaload, 1) := by decide +kernel
theorem dL_law_284 : decode cL_law 284 = .ok (.invokevirtual 32, 3) := by decide +kernel
theorem dL_law_287 : decode cL_law 287 = .ok (.aload_n 2, 1) := by decide +kernel
theorem dL_law_288 : decode cL_law 288 = .ok (.aload_n 0, 1) := by decide +kernel
theorem dL_law_289 : decode cL_law 289 = .ok (.iload_n 3, 1) := by decide +kernel
theorem dL_law_290 : decode cL_law 290 = .ok (.iconst 1, 1) := by decide +kernel
theorem dL_law_291 : decode cL_law 291 = .ok (.iadd, 1) := by decide +kernel
theorem dL_law_292 : decode cL_law 292 = .ok (.iaload, 1) := by decide +kernel
theorem dL_law_293 : decode cL_law 293 = .ok (.aload_n 0, 1) := by decide +kernel
theorem dL_law_294 : decode cL_law 294 = .ok (.iload_n 3, 1) := by decide +kernel
theorem dL_law_295 : decode cL_law 295 = .ok (.iconst 2, 1) := by decide +kernel
theorem dL_law_296 : decode cL_law 296 = .ok (.iadd, 1) := by decide +kernel
theorem dL_law_297 : decode cL_law 297 = .ok (.iaload, 1) := by decide +kernel
theorem dL_law_298 : decode cL_law 298 = .ok (.aload_n 0, 1) := by decide +kernel
theorem dL_law_299 : decode cL_law 299 = .ok (.iload_n 3, 1) := by decide +kernel
theorem dL_law_300 : decode cL_law 300 = .ok (.iconst 3, 1) := by decide +kernel
theorem dL_law_301 : decode cL_law 301 = .ok (.iadd, 1) := by decide +kernel
theorem dL_law_302 : decode cL_law 302 = .ok (.iaload, 1) := by decide +kernel
theorem dL_law_303 : decode cL_law 303 = .ok (.aload_n 0, 1) := by decide +kernel
theorem dL_law_304 : decode cL_law 304 = .ok (.iload_n 3, 1) := by decide +kernel
theorem dL_law_305 : decode cL_law 305 = .ok (.iconst 4, 1) := by decide +kernel
theorem dL_law_306 : decode cL_law 306 = .ok (.iadd, 1) := by decide +kernel
theorem dL_law_307 : decode cL_law 307 = .ok (.iaload, 1) := by decide +kernel
theorem dL_law_308 : decode cL_law 308 = .ok (.aload_n 0, 1) := by decide +kernel
theorem dL_law_309 : decode cL_law 309 = .ok (.iload_n 3, 1) := by decide +kernel
theorem dL_law_310 : decode cL_law 310 = .ok (.iconst 5, 1) := by decide +kernel
theorem dL_law_311 : decode cL_law 311 = .ok (.iadd, 1) := by decide +kernel
theorem dL_law_312 : decode cL_law 312 = .ok (.iaload, 1) := by decide +kernel
theorem dL_law_313 : decode cL_law 313 = .ok (.invokevirtual 36, 3) := by decide +kernel
theorem dL_law_316 : decode cL_law 316 = .ok (.if_icmp .eq 187, 3) := by decide +kernel
theorem dL_law_319 : decode cL_law 319 = .ok (.iconst 0, 1) := by decide +kernel
theorem dL_law_320 : decode cL_law 320 = .ok (.ireturn, 1) := by decide +kernel
theorem dL_law_321 : decode cL_law 321 = .ok (.aload_n 1, 1) := by decide +kernel
theorem dL_law_322 : decode cL_law 322 = .ok (.invokevirtual 37, 3) := by decide +kernel
theorem dL_law_325 : decode cL_law 325 = .ok (.aload_n 2, 1) := by decide +kernel
theorem dL_law_326 : decode cL_law 326 = .ok (.invokevirtual 41, 3) := by decide +kernel
theorem dL_law_329 : decode cL_law 329 = .ok (.if_icmp .eq 174, 3) := by decide +kernel
theorem dL_law_332 : decode cL_law 332 = .ok (.iconst 0, 1) := by decide +kernel
theorem dL_law_333 : decode cL_law 333 = .ok (.ireturn, 1) := by decide +kernel
theorem dL_law_334 : decode cL_law 334 = .ok (.aload_n 1, 1) := by decide +kernel
theorem dL_law_335 : decode cL_law 335 = .ok (.aload_n 0, 1) := by decide +kernel
theorem dL_law_336 : decode cL_law 336 = .ok (.iload_n 3, 1) := by decide +kernel
theorem dL_law_337 : decode cL_law 337 = .ok (.iconst 1, 1) := by decide +kernel
theorem dL_law_338 : decode cL_law 338 = .ok (.iadd, 1) := by decide +kernel
theorem dL_law_339 : decode cL_law 339 = .ok (.iaload, 1) := by decide +kernel
theorem dL_law_340 : decode cL_law 340 = .ok (.invokevirtual 42, 3) := by decide +kernel
theorem dL_law_343 : decode cL_law 343 = .ok (.aload_n 2, 1) := by decide +kernel
theorem dL_law_344 : decode cL_law 344 = .ok (.aload_n 0, 1) := by decide +kernel
theorem dL_law_345 : decode cL_law 345 = .ok (.iload_n 3, 1) := by decide +kernel
theorem dL_law_346 : decode cL_law 346 = .ok (.iconst 1, 1) := by decide +kernel
theorem dL_law_347 : decode cL_law 347 = .ok (.iadd, 1) := by decide +kernel
theorem dL_law_348 : decode cL_law 348 = .ok (.iaload, 1) := by decide +kernel
theorem dL_law_349 : decode cL_law 349 = .ok (.invokevirtual 46, 3) := by decide +kernel
theorem dL_law_352 : decode cL_law 352 = .ok (.if_icmp .eq 151, 3) := by decide +kernel
theorem dL_law_355 : decode cL_law 355 = .ok (.iconst 0, 1) := by decide +kernel
theorem dL_law_356 : decode cL_law 356 = .ok (.ireturn, 1) := by decide +kernel
theorem dL_law_357 : decode cL_law 357 = .ok (.aload_n 1, 1) := by decide +kernel
theorem dL_law_358 : decode cL_law 358 = .ok (.aload_n 0, 1) := by decide +kernel
theorem dL_law_359 : decode cL_law 359 = .ok (.iload_n 3, 1) := by decide +kernel
theorem dL_law_360 : decode cL_law 360 = .ok (.iconst 1, 1) := by decide +kernel
theorem dL_law_361 : decode cL_law 361 = .ok (.iadd, 1) := by decide +kernel
theorem dL_law_362 : decode cL_law 362 = .ok (.iaload, 1) := by decide +kernel
theorem dL_law_363 : decode cL_law 363 = .ok (.aload_n 0, 1) := by decide +kernel
theorem dL_law_364 : decode cL_law 364 = .ok (.iload_n 3, 1) := by decide +kernel
theorem dL_law_365 : decode cL_law 365 = .ok (.iconst 2, 1) := by decide +kernel
theorem dL_law_366 : decode cL_law 366 = .ok (.iadd, 1) := by decide +kernel
theorem dL_law_367 : decode cL_law 367 = .ok (.iaload, 1) := by decide +kernel
theorem dL_law_368 : decode cL_law 368 = .ok (.invokevirtual 47, 3) := by decide +kernel
theorem dL_law_371 : decode cL_law 371 = .ok (.aload_n 2, 1) := by decide +kernel
theorem dL_law_372 : decode cL_law 372 = .ok (.aload_n 0, 1) := by decide +kernel
theorem dL_law_373 : decode cL_law 373 = .ok (.iload_n 3, 1) := by decide +kernel
theorem dL_law_374 : decode cL_law 374 = .ok (.iconst 1, 1) := by decide +kernel
theorem dL_law_375 : decode cL_law 375 = .ok (.iadd, 1) := by decide +kernel
theorem dL_law_376 : decode cL_law 376 = .ok (.iaload, 1) := by decide +kernel
theorem dL_law_377 : decode cL_law 377 = .ok (.aload_n 0, 1) := by decide +kernel
theorem dL_law_378 : decode cL_law 378 = .ok (.iload_n 3, 1) := by decide +kernel
theorem dL_law_379 : decode cL_law 379 = .ok (.iconst 2, 1) := by decide +kernel
theorem dL_law_380 : decode cL_law 380 = .ok (.iadd, 1) := by decide +kernel
theorem dL_law_381 : decode cL_law 381 = .ok (.iaload, 1) := by decide +kernel
theorem dL_law_382 : decode cL_law 382 = .ok (.invokevirtual 51, 3) := by decide +kernel
theorem dL_law_385 : decode cL_law 385 = .ok (.lcmp, 1) := by decide +kernel
theorem dL_law_386 : decode cL_law 386 = .ok (.ifCond .eq 117, 3) := by decide +kernel
theorem dL_law_389 : decode cL_law 389 = .ok (.iconst 0, 1) := by decide +kernel
theorem dL_law_390 : decode cL_law 390 = .ok (.ireturn, 1) := by decide +kernel
theorem dL_law_391 : decode cL_law 391 = .ok (.aload_n 1, 1) := by decide +kernel
theorem dL_law_392 : decode cL_law 392 = .ok (.aload_n 0, 1) := by decide +kernel
theorem dL_law_393 : decode cL_law 393 = .ok (.iload_n 3, 1) := by decide +kernel
theorem dL_law_394 : decode cL_law 394 = .ok (.iconst 1, 1) := by decide +kernel
theorem dL_law_395 : decode cL_law 395 = .ok (.iadd, 1) := by decide +kernel
theorem dL_law_396 : decode cL_law 396 = .ok (.iaload, 1) := by decide +kernel
theorem dL_law_397 : decode cL_law 397 = .ok (.aload_n 0, 1) := by decide +kernel
theorem dL_law_398 : decode cL_law 398 = .ok (.iload_n 3, 1) := by decide +kernel
theorem dL_law_399 : decode cL_law 399 = .ok (.iconst 2, 1) := by decide +kernel
theorem dL_law_400 : decode cL_law 400 = .ok (.iadd, 1) := by decide +kernel
theorem dL_law_401 : decode cL_law 401 = .ok (.iaload, 1) := by decide +kernel
theorem dL_law_402 : decode cL_law 402 = .ok (.invokevirtual 52, 3) := by decide +kernel
theorem dL_law_405 : decode cL_law 405 = .ok (.aload_n 2, 1) := by decide +kernel
theorem dL_law_406 : decode cL_law 406 = .ok (.aload_n 0, 1) := by decide +kernel
theorem dL_law_407 : decode cL_law 407 = .ok (.iload_n 3, 1) := by decide +kernel
theorem dL_law_408 : decode cL_law 408 = .ok (.iconst 1, 1) := by decide +kernel
theorem dL_law_409 : decode cL_law 409 = .ok (.iadd, 1) := by decide +kernel
theorem dL_law_410 : decode cL_law 410 = .ok (.iaload, 1) := by decide +kernel
theorem dL_law_411 : decode cL_law 411 = .ok (.aload_n 0, 1) := by decide +kernel
theorem dL_law_412 : decode cL_law 412 = .ok (.iload_n 3, 1) := by decide +kernel
theorem dL_law_413 : decode cL_law 413 = .ok (.iconst 2, 1) := by decide +kernel
theorem dL_law_414 : decode cL_law 414 = .ok (.iadd, 1) := by decide +kernel
theorem dL_law_415 : decode cL_law 415 = .ok (.iaload, 1) := by decide +kernel
theorem dL_law_416 : decode cL_law 416 = .ok (.invokevirtual 56, 3) := by decide +kernel
theorem dL_law_419 : decode cL_law 419 = .ok (.if_icmp .eq 84, 3) := by decide +kernel
theorem dL_law_422 : decode cL_law 422 = .ok (.iconst 0, 1) := by decide +kernel
theorem dL_law_423 : decode cL_law 423 = .ok (.ireturn, 1) := by decide +kernel
theorem dL_law_424 : decode cL_law 424 = .ok (.aload_n 1, 1) := by decide +kernel
theorem dL_law_425 : decode cL_law 425 = .ok (.aload_n 0, 1) := by decide +kernel
theorem dL_law_426 : decode cL_law 426 = .ok (.iload_n 3, 1) := by decide +kernel
theorem dL_law_427 : decode cL_law 427 = .ok (.iconst 1, 1) := by decide +kernel
theorem dL_law_428 : decode cL_law 428 = .ok (.iadd, 1) := by decide +kernel
theorem dL_law_429 : decode cL_law 429 = .ok (.iaload, 1) := by decide +kernel
theorem dL_law_430 : decode cL_law 430 = .ok (.invokevirtual 57, 3) := by decide +kernel
theorem dL_law_433 : decode cL_law 433 = .ok (.aload_n 2, 1) := by decide +kernel
theorem dL_law_434 : decode cL_law 434 = .ok (.aload_n 0, 1) := by decide +kernel
theorem dL_law_435 : decode cL_law 435 = .ok (.iload_n 3, 1) := by decide +kernel
theorem dL_law_436 : decode cL_law 436 = .ok (.iconst 1, 1) := by decide +kernel
theorem dL_law_437 : decode cL_law 437 = .ok (.iadd, 1) := by decide +kernel
theorem dL_law_438 : decode cL_law 438 = .ok (.iaload, 1) := by decide +kernel
theorem dL_law_439 : decode cL_law 439 = .ok (.invokevirtual 60, 3) := by decide +kernel
theorem dL_law_442 : decode cL_law 442 = .ok (.if_icmp .eq 61, 3) := by decide +kernel
theorem dL_law_445 : decode cL_law 445 = .ok (.iconst 0, 1) := by decide +kernel
theorem dL_law_446 : decode cL_law 446 = .ok (.ireturn, 1) := by decide +kernel
theorem dL_law_447 : decode cL_law 447 = .ok (.aload_n 1, 1) := by decide +kernel
theorem dL_law_448 : decode cL_law 448 = .ok (.aload_n 0, 1) := by decide +kernel
theorem dL_law_449 : decode cL_law 449 = .ok (.iload_n 3, 1) := by decide +kernel
theorem dL_law_450 : decode cL_law 450 = .ok (.iconst 1, 1) := by decide +kernel
theorem dL_law_451 : decode cL_law 451 = .ok (.iadd, 1) := by decide +kernel
theorem dL_law_452 : decode cL_law 452 = .ok (.iaload, 1) := by decide +kernel
theorem dL_law_453 : decode cL_law 453 = .ok (.aload_n 0, 1) := by decide +kernel
theorem dL_law_454 : decode cL_law 454 = .ok (.iload_n 3, 1) := by decide +kernel
theorem dL_law_455 : decode cL_law 455 = .ok (.iconst 2, 1) := by decide +kernel
theorem dL_law_456 : decode cL_law 456 = .ok (.iadd, 1) := by decide +kernel
theorem dL_law_457 : decode cL_law 457 = .ok (.iaload, 1) := by decide +kernel
theorem dL_law_458 : decode cL_law 458 = .ok (.invokevirtual 61, 3) := by decide +kernel
theorem dL_law_461 : decode cL_law 461 = .ok (.aload_n 2, 1) := by decide +kernel
theorem dL_law_462 : decode cL_law 462 = .ok (.aload_n 0, 1) := by decide +kernel
theorem dL_law_463 : decode cL_law 463 = .ok (.iload_n 3, 1) := by decide +kernel
theorem dL_law_464 : decode cL_law 464 = .ok (.iconst 1, 1) := by decide +kernel
theorem dL_law_465 : decode cL_law 465 = .ok (.iadd, 1) := by decide +kernel
theorem dL_law_466 : decode cL_law 466 = .ok (.iaload, 1) := by decide +kernel
theorem dL_law_467 : decode cL_law 467 = .ok (.aload_n 0, 1) := by decide +kernel
theorem dL_law_468 : decode cL_law 468 = .ok (.iload_n 3, 1) := by decide +kernel
theorem dL_law_469 : decode cL_law 469 = .ok (.iconst 2, 1) := by decide +kernel
theorem dL_law_470 : decode cL_law 470 = .ok (.iadd, 1) := by decide +kernel
theorem dL_law_471 : decode cL_law 471 = .ok (.iaload, 1) := by decide +kernel
theorem dL_law_472 : decode cL_law 472 = .ok (.invokevirtual 64, 3) := by decide +kernel
theorem dL_law_475 : decode cL_law 475 = .ok (.if_icmp .eq 28, 3) := by decide +kernel
theorem dL_law_478 : decode cL_law 478 = .ok (.iconst 0, 1) := by decide +kernel
theorem dL_law_479 : decode cL_law 479 = .ok (.ireturn, 1) := by decide +kernel
theorem dL_law_480 : decode cL_law 480 = .ok (.aload_n 1, 1) := by decide +kernel
theorem dL_law_481 : decode cL_law 481 = .ok (.aload_n 0, 1) := by decide +kernel
theorem dL_law_482 : decode cL_law 482 = .ok (.iload_n 3, 1) := by decide +kernel
theorem dL_law_483 : decode cL_law 483 = .ok (.iconst 1, 1) := by decide +kernel
theorem dL_law_484 : decode cL_law 484 = .ok (.iadd, 1) := by decide +kernel
theorem dL_law_485 : decode cL_law 485 = .ok (.iaload, 1) := by decide +kernel
theorem dL_law_486 : decode cL_law 486 = .ok (.invokevirtual 65, 3) := by decide +kernel
theorem dL_law_489 : decode cL_law 489 = .ok (.aload_n 2, 1) := by decide +kernel
theorem dL_law_490 : decode cL_law 490 = .ok (.aload_n 0, 1) := by decide +kernel
theorem dL_law_491 : decode cL_law 491 = .ok (.iload_n 3, 1) := by decide +kernel
theorem dL_law_492 : decode cL_law 492 = .ok (.iconst 1, 1) := by decide +kernel
theorem dL_law_493 : decode cL_law 493 = .ok (.iadd, 1) := by decide +kernel
theorem dL_law_494 : decode cL_law 494 = .ok (.iaload, 1) := by decide +kernel
theorem dL_law_495 : decode cL_law 495 = .ok (.invokevirtual 68, 3) := by decide +kernel
theorem dL_law_498 : decode cL_law 498 = .ok (.if_icmp .eq 5, 3) := by decide +kernel
theorem dL_law_501 : decode cL_law 501 = .ok (.iconst 0, 1) := by decide +kernel
theorem dL_law_502 : decode cL_law 502 = .ok (.ireturn, 1) := by decide +kernel
theorem dL_law_503 : decode cL_law 503 = .ok (.iinc 3 6, 3) := by decide +kernel
theorem dL_law_506 : decode cL_law 506 = .ok (.goto (-488), 3) := by decide +kernel
theorem dL_law_509 : decode cL_law 509 = .ok (.iconst 1, 1) := by decide +kernel
theorem dL_law_510 : decode cL_law 510 = .ok (.ireturn, 1) := by decide +kernel
abbrev vwCl : List vw_C := [(RX0, TX0, 2), (RX2, TX2, 2), (RX3, TX3, 11), (RX4, TX4, 9)]
end
section
/-! THE POOL: what a method can reach, as one partial map from addresses to cells -/
abbrev hCe : Type := (Nat × vp_A) ⊕ (Nat × List Value)
abbrev hPl : Type := Nat → Option hCe
abbrev hGb : Type := (Nat → ClassId) × (Nat → Nat → Nat) × ClassId × ClassId × ClassId
abbrev hD (g : hGb) : va_G := (g.1, g.2.1)
abbrev hty (g : hGb) : List (ClassId × FieldType) := [(g.2.2.1, .int), (g.2.2.2.1, .long), (g.2.2.2.2, .object "SetterBench$Thing")]
def hcid (g : hGb) : Nat → ClassId := fun t => match t with
  | 0 => g.2.2.1
  | 1 => g.2.2.2.1
  | _ => g.2.2.2.2
def hE (g : hGb) (e : hCe) : va_E := match e with
  | .inl x => .inl (hcid g x.1, x.2)
  | .inr o => .inr o
def hup (f : hPl) (a : Nat) (e : hCe) : hPl := fun b => if b = a then some e else f b
theorem hup_s {f : hPl} {a : Nat} {e : hCe} : hup f a e a = some e := by simp [hup]
theorem hup_n {f : hPl} {a b : Nat} {e : hCe} (h : b ≠ a) : hup f a e b = f b := by simp [hup, h]
abbrev oC (ci : Nat) (fs : List Value) : hCe := .inr (ci, fs)
abbrev aI (n : Nat) (r : Nat → Int32) : hCe := .inl (0, n, .inl r)
abbrev aJ (n : Nat) (r : Nat → Int64) : hCe := .inl (1, n, .inr (.inl r))
abbrev aQ (n : Nat) (r : Nat → Option Nat) : hCe := .inl (2, n, .inr (.inr (.inr (.inr r))))
/-- what the tables say, as it goes from a caller to its callee -/
def hK (g : hGb) (U : State) : Prop := va_K (hD g) vwCl (hty g) U ∧ va_Nw (.methodLinkNest RX2 39 yX3_isRound RX3) U ∧ va_Nw (.castable RX0 RX0) U ∧ va_Nw (.castable RX2 RX2) U ∧ va_Nw (.castable RX0 RX1) U ∧ va_Nw (.castable RX2 RX1) U ∧ va_Nc RX0 RX2 U ∧ va_Nc RX2 RX0 U ∧ va_AO RX1 U
theorem hK.moved {g : hGb} {s U : State} (hW : s.WarmedH U.vm) (h : hK g s) : hK g U := by
  obtain ⟨h1, h2, h3, h4, h5, h6, h7, h8, h9⟩ := h
  exact ⟨h1.moved hW.alike, h2.warmM hW, h3.warmC hW, h4.warmC hW, h5.warmC hW, h6.warmC hW, h7.moved hW.alike, h8.moved hW.alike, h9.moved hW.alike⟩
theorem hK.same {g : hGb} {s U : State} (e : s.vm = U.vm) (h : hK g s) : hK g U := by
  have ha : s.vm.Alike U.vm := by rw [e]; exact Vm.Alike.refl _
  obtain ⟨h1, h2, h3, h4, h5, h6, h7, h8, h9⟩ := h
  exact ⟨h1.moved ha, va_Nw.same rfl e h2, va_Nw.same rfl e h3, va_Nw.same rfl e h4, va_Nw.same rfl e h5, va_Nw.same rfl e h6, h7.moved ha, h8.moved ha, h9.moved ha⟩
/-- the heap holds the pool; z is the heap's size; A the cells that may be written -/
def hW (g : hGb) (A : Nat → Prop) (s : State) (f : hPl) (z : Nat) (H : Heap) (locs : List Loc) : Prop :=
  H.size = z ∧ (∀ (a : Nat) (e : hCe), f a = some e → va_at (hD g) vwCl (a, hE g e) H ∧ A a) ∧ va_S A s.heap H locs ∧ ∀ q : Nat, s.heap.size ≤ q → A q
theorem hW.P1 {g : hGb} {A : Nat → Prop} {s : State} {f : hPl} {z : Nat} {H : Heap} {locs : List Loc} (h : hW g A s f z H locs) {a : Nat} {e : hCe} (ha : f a = some e) : va_P (hD g) vwCl [(a, hE g e)] H := by
  intro k q hk
  match k, hk with
  | 0, hk => cases hk; exact (h.2.1 a e ha).1
  | k + 1, hk => simp at hk
theorem hW.upd {g : hGb} {A : Nat → Prop} {s : State} {f : hPl} {z : Nat} {H H1 : Heap} {locs : List Loc} (h : hW g A s f z H locs) {a k : Nat} {e e' : hCe} (ha : f a = some e) (z1 : H1.size = H.size) (oq : ∀ q, q ≠ a → H1[q]? = H[q]?) (h1 : va_at (hD g) vwCl (a, hE g e') H1) : hW g A s (hup f a e') z H1 (locs ++ [⟨a, k⟩]) := by
  obtain ⟨hz, hp, hS, hA⟩ := h
  refine ⟨z1.trans hz, fun b x hb => ?_, hS.put z1 oq (hp a e ha).2, hA⟩
  by_cases hba : b = a
  · subst hba
    rw [hup_s] at hb
    cases hb
    exact ⟨h1, (hp b e ha).2⟩
  · rw [hup_n hba] at hb
    exact ⟨(hp b x hb).1.kept (oq b hba), (hp b x hb).2⟩
theorem hW.new {g : hGb} {A : Nat → Prop} {s : State} {f : hPl} {z : Nat} {H H1 : Heap} {locs : List Loc} (h : hW g A s f z H locs) {e' : hCe} (z1 : H1.size = z + 1) (oq : ∀ q, q < z → H1[q]? = H[q]?) (h1 : va_at (hD g) vwCl (z, hE g e') H1) : hW g A s (hup f z e') (z + 1) H1 locs := by
  obtain ⟨hz, hp, hS, hA⟩ := h
  have hle : s.heap.size ≤ z := by rw [← hz]; exact hS.1
  refine ⟨z1, fun b x hb => ?_, ⟨by omega, fun q g1 g2 => (oq q (by omega)).trans (hS.2.1 q g1 g2), hS.2.2⟩, hA⟩
  by_cases hba : b = z
  · subst hba
    rw [hup_s] at hb
    cases hb
    exact ⟨h1, hA _ hle⟩
  · rw [hup_n hba] at hb
    have hlt : b < H.size := (hp b x hb).1.lt
    exact ⟨(hp b x hb).1.kept (oq b (by omega)), (hp b x hb).2⟩
/-! reads and writes of the pool -/
def hgV (f : hPl) (a ci k : Nat) : Option Value := match f a with
  | some (.inr o) => if o.1 = ci then o.2[k]? else none
  | _ => none
theorem hgV_spec {f : hPl} {a ci k : Nat} {v : Value} (h : hgV f a ci k = some v) : ∃ fs, f a = some (oC ci fs) ∧ fs[k]? = some v := by
  unfold hgV at h
  cases hf : f a with
  | none => rw [hf] at h; cases h
  | some e =>
    rw [hf] at h
    cases e with
    | inl x => cases h
    | inr o =>
      obtain ⟨c, fs⟩ := o
      by_cases hc : c = ci
      · subst hc
        simp at h
        exact ⟨fs, rfl, h⟩
      · simp [hc] at h
def hvI : Value → Option Int32
  | .int x => some x
  | _ => none
def hvJ : Value → Option Int64
  | .long x => some x
  | _ => none
def hvQ : Value → Option (Option Nat)
  | .null => some none
  | .ref a => some (some a)
  | _ => none
theorem hvI_spec {v : Value} {x : Int32} (h : hvI v = some x) : v = .int x := by
  cases v <;> simp [hvI] at h
  rw [h]
theorem hvJ_spec {v : Value} {x : Int64} (h : hvJ v = some x) : v = .long x := by
  cases v <;> simp [hvJ] at h
  rw [h]
theorem hvQ_spec {v : Value} {x : Option Nat} (h : hvQ v = some x) : v = va_rf x := by
  cases v <;> simp [hvQ] at h
  all_goals (rw [← h]; rfl)
def hgI (f : hPl) (a ci k : Nat) : Option Int32 := (hgV f a ci k).bind hvI
def hgQ (f : hPl) (a ci k : Nat) : Option (Option Nat) := (hgV f a ci k).bind hvQ
theorem hgI_spec {f : hPl} {a ci k : Nat} {x : Int32} (h : hgI f a ci k = some x) : ∃ fs, f a = some (oC ci fs) ∧ fs[k]? = some (.int x) := by
  obtain ⟨v, h1, h2⟩ := Option.bind_eq_some_iff.mp h
  obtain ⟨fs, h3, h4⟩ := hgV_spec h1
  exact ⟨fs, h3, by rw [h4, hvI_spec h2]⟩
theorem hgQ_spec {f : hPl} {a ci k : Nat} {x : Option Nat} (h : hgQ f a ci k = some x) : ∃ fs, f a = some (oC ci fs) ∧ fs[k]? = some (va_rf x) := by
  obtain ⟨v, h1, h2⟩ := Option.bind_eq_some_iff.mp h
  obtain ⟨fs, h3, h4⟩ := hgV_spec h1
  exact ⟨fs, h3, by rw [h4, hvQ_spec h2]⟩
def hput (f : hPl) (a ci k : Nat) (v : Value) : Option hPl := match f a with
  | some (.inr o) => if o.1 = ci ∧ k < o.2.length then some (hup f a (.inr (ci, o.2.set k v))) else none
  | _ => none
theorem hput_spec {f f' : hPl} {a ci k : Nat} {v : Value} (h : hput f a ci k v = some f') : ∃ fs, f a = some (oC ci fs) ∧ k < fs.length ∧ f' = hup f a (oC ci (fs.set k v)) := by
  unfold hput at h
  cases hf : f a with
  | none => rw [hf] at h; cases h
  | some e =>
    rw [hf] at h
    cases e with
    | inl x => cases h
    | inr o =>
      obtain ⟨c, fs⟩ := o
      by_cases hc : c = ci ∧ k < fs.length
      · obtain ⟨rfl, hk⟩ := hc
        simp [hk] at h
        exact ⟨fs, rfl, hk, h.symm⟩
      · simp at h
        exact absurd ⟨h.1.1, h.1.2⟩ hc
/-- an object of the kind ci lies at a -/
def hob (f : hPl) (a ci : Nat) : Option Unit := match f a with
  | some (.inr o) => if o.1 = ci then some () else none
  | _ => none
theorem hob_spec {f : hPl} {a ci : Nat} {u : Unit} (h : hob f a ci = some u) : ∃ fs, f a = some (oC ci fs) := by
  unfold hob at h
  cases hf : f a with
  | none => rw [hf] at h; cases h
  | some e =>
    rw [hf] at h
    cases e with
    | inl x => cases h
    | inr o =>
      obtain ⟨c, fs⟩ := o
      by_cases hc : c = ci
      · subst hc; exact ⟨fs, rfl⟩
      · simp [hc] at h
/-- which kind of object lies at a -/
def hkd (f : hPl) (a : Nat) : Option Nat := match f a with
  | some (.inr o) => some o.1
  | _ => none
theorem hkd_spec {f : hPl} {a ci : Nat} (h : hkd f a = some ci) : ∃ fs, f a = some (oC ci fs) := by
  unfold hkd at h
  cases hf : f a with
  | none => rw [hf] at h; cases h
  | some e =>
    rw [hf] at h
    cases e with
    | inl x => cases h
    | inr o =>
      obtain ⟨c, fs⟩ := o
      simp at h
      subst h
      exact ⟨fs, rfl⟩
def hin (i : Int32) (n : Nat) : Prop := ¬ (i < 0 ∨ n ≤ i.toNatClampNeg)
def hinB (i : Int32) (n : Nat) : Bool := decide (¬ (i < 0 ∨ n ≤ i.toNatClampNeg))
theorem hinB_iff {i : Int32} {n : Nat} : hinB i n = true ↔ vp_in i n := by simp [hinB, vp_in]
def hrI (f : hPl) (a : Nat) : Option (Nat × (Nat → Int32)) := match f a with
  | some (.inl (0, n, .inl r)) => some (n, r)
  | _ => none
def hrJ (f : hPl) (a : Nat) : Option (Nat × (Nat → Int64)) := match f a with
  | some (.inl (1, n, .inr (.inl r))) => some (n, r)
  | _ => none
def hrQ (f : hPl) (a : Nat) : Option (Nat × (Nat → Option Nat)) := match f a with
  | some (.inl (2, n, .inr (.inr (.inr (.inr r))))) => some (n, r)
  | _ => none
theorem hrI_spec {f : hPl} {a n : Nat} {r : Nat → Int32} (h : hrI f a = some (n, r)) : f a = some (aI n r) := by
  unfold hrI at h
  split at h
  · rename_i e; cases h; exact e
  · cases h
theorem hrJ_spec {f : hPl} {a n : Nat} {r : Nat → Int64} (h : hrJ f a = some (n, r)) : f a = some (aJ n r) := by
  unfold hrJ at h
  split at h
  · rename_i e; cases h; exact e
  · cases h
theorem hrQ_spec {f : hPl} {a n : Nat} {r : Nat → Option Nat} (h : hrQ f a = some (n, r)) : f a = some (aQ n r) := by
  unfold hrQ at h
  split at h
  · rename_i e; cases h; exact e
  · cases h
def hlI (f : hPl) (a : Nat) (i : Int32) : Option Int32 := (hrI f a).bind fun x => if hinB i x.1 = true then some (x.2 i.toNatClampNeg) else none
def hlJ (f : hPl) (a : Nat) (i : Int32) : Option Int64 := (hrJ f a).bind fun x => if hinB i x.1 = true then some (x.2 i.toNatClampNeg) else none
def hlQ (f : hPl) (a : Nat) (i : Int32) : Option (Option Nat) := (hrQ f a).bind fun x => if hinB i x.1 = true then some (x.2 i.toNatClampNeg) else none
def hsI (f : hPl) (a : Nat) (i v : Int32) : Option hPl := (hrI f a).bind fun x => if hinB i x.1 = true then some (hup f a (aI x.1 (upd x.2 i.toNatClampNeg v))) else none
def hsJ (f : hPl) (a : Nat) (i : Int32) (v : Int64) : Option hPl := (hrJ f a).bind fun x => if hinB i x.1 = true then some (hup f a (aJ x.1 (vp_updL x.2 i.toNatClampNeg v))) else none
def hsQ (f : hPl) (a : Nat) (i : Int32) (v : Option Nat) : Option hPl := (hrQ f a).bind fun x => if hinB i x.1 = true then some (hup f a (aQ x.1 (va_up x.2 i.toNatClampNeg v))) else none
/-- a row's length, of any kind -/
def hln (f : hPl) (a : Nat) : Option Int32 := match f a with
  | some (.inl x) => if x.1 < 3 then some (Int32.ofNat x.2.1) else none
  | _ => none
/-- System.arraycopy between rows of longs -/
def hcp (f : hPl) (a0 : Nat) (sp : Int32) (a : Nat) (dp n : Int32) : Option hPl := (hrJ f a0).bind fun x => (hrJ f a).bind fun y => if ¬ sp < 0 ∧ ¬ dp < 0 ∧ ¬ n < 0 ∧ sp.toNatClampNeg + n.toNatClampNeg ≤ x.1 ∧ dp.toNatClampNeg + n.toNatClampNeg ≤ y.1 then some (hup f a (aJ y.1 (va_cpy x.2 y.2 sp.toNatClampNeg dp.toNatClampNeg n.toNatClampNeg))) else none
theorem hif {c : Prop} {_ : Decidable c} {α : Type} {x y : α} (h : (if c then some x else none) = some y) : c ∧ x = y := by
  by_cases hc : c
  · rw [if_pos hc] at h; exact ⟨hc, Option.some.inj h⟩
  · rw [if_neg hc] at h; cases h
end
section
section HR
variable {g : hGb} {p : Program} {l : Launch} {e : Env} {R : Room} {s : State} {m : MethodId} {args : Array Value} {below : List Frame} {meth : Method} {c : Code} {H : Heap} {locs : List Loc} {cells slots : Nat} {Q : State → Prop}
variable {cc : ByteArray} {pc : Nat} {ls : Array Slot} {rest : List Value} {A : Nat → Prop} {f : hPl} {z a : Nat}
/-- what a walk of a method keeps: the machine, the code, the words, the tables -/
def hX (g : hGb) (p : Program) (s : State) (m : MethodId) (args : Array Value) (meth : Method) (c : Code) (own : String) (cc : ByteArray) (nL : Nat) (Ts : List Cond) (rt : Option FieldType) : Prop :=
  p.tables.exec = Jvm.exec ∧ c.code = cc ∧ c.maxLocals = nL ∧ s.vm.findClass own = some m.cls ∧ (∀ w ∈ Ts, w.before args s = true) ∧ meth.sig.returnType = rt ∧ meth.locks = false ∧ hK g s
theorem hr_getI (hexec : p.tables.exec = Jvm.exec) (hb : c.code = cc) {own ref C : String} {T : u_T} {N ci index : Nat} {Ts : List Cond} (hts : ∀ w ∈ Ts, w.before args s = true) (hin : ∀ w ∈ u_ws C T N, w ∈ Ts) (hown : s.vm.findClass own = some m.cls) (hk : hK g s) (hw : hW g A s f z H locs) (hc : vwCl[ci]? = some (C, T, N)) (k : Nat) (hkN : k < N) (hlink : (Cond.fieldLink own index ref (T k).2.1 (T k).2.2.1).before args s = true) (hsame : ∀ x, s.fieldFound? (T k).1 (T k).2.1 (T k).2.2.1 = some x → s.fieldFound? ref (T k).2.1 (T k).2.2.1 = some x) {x : Int32} (h : hgI f a ci k = some x) (hdg : decode cc pc = .ok (.getfield index, 3))
    (kk : W p l e R s m args below meth c H locs cells slots Q (F0 m (pc + 3) ls (.int x :: rest))) : W p l e R s m args below meth c H locs cells slots Q (F0 m pc ls (.ref a :: rest)) := by
  obtain ⟨fs, h1, h2⟩ := hgI_spec h
  exact va_get hexec hb hts hin hown hk.1 (hw.P1 h1) 0 rfl hc k hkN hlink hsame h2 hdg kk
theorem hr_getQ (hexec : p.tables.exec = Jvm.exec) (hb : c.code = cc) {own ref C : String} {T : u_T} {N ci index : Nat} {Ts : List Cond} (hts : ∀ w ∈ Ts, w.before args s = true) (hin : ∀ w ∈ u_ws C T N, w ∈ Ts) (hown : s.vm.findClass own = some m.cls) (hk : hK g s) (hw : hW g A s f z H locs) (hc : vwCl[ci]? = some (C, T, N)) (k : Nat) (hkN : k < N) (hlink : (Cond.fieldLink own index ref (T k).2.1 (T k).2.2.1).before args s = true) (hsame : ∀ x, s.fieldFound? (T k).1 (T k).2.1 (T k).2.2.1 = some x → s.fieldFound? ref (T k).2.1 (T k).2.2.1 = some x) {x : Option Nat} (h : hgQ f a ci k = some x) (hdg : decode cc pc = .ok (.getfield index, 3))
    (kk : W p l e R s m args below meth c H locs cells slots Q (F0 m (pc + 3) ls (va_rf x :: rest))) : W p l e R s m args below meth c H locs cells slots Q (F0 m pc ls (.ref a :: rest)) := by
  obtain ⟨fs, h1, h2⟩ := hgQ_spec h
  exact va_get hexec hb hts hin hown hk.1 (hw.P1 h1) 0 rfl hc k hkN hlink hsame h2 hdg kk
theorem hr_put (hexec : p.tables.exec = Jvm.exec) (hb : c.code = cc) {own ref C : String} {T : u_T} {N ci index : Nat} {Ts : List Cond} (hts : ∀ w ∈ Ts, w.before args s = true) (hin : ∀ w ∈ u_ws C T N, w ∈ Ts) (ty0 : Nat → FieldType) (hty : ∀ k, k < N → parseFieldDescriptor (T k).2.2.1 = some (ty0 k)) (hnm : ∀ a, a < N → ∀ b, b < N → a ≠ b → (T a).2.1 ≠ (T b).2.1) (hown : s.vm.findClass own = some m.cls) (hk : hK g s) (hw : hW g A s f z H locs) (hc : vwCl[ci]? = some (C, T, N)) (k : Nat) (hkN : k < N) (hlink : (Cond.fieldLink own index ref (T k).2.1 (T k).2.2.1).before args s = true) (hsame : ∀ x, s.fieldFound? (T k).1 (T k).2.1 (T k).2.2.1 = some x → s.fieldFound? ref (T k).2.1 (T k).2.2.1 = some x) (hfin : (T k).2.2.2 = false) {ty : FieldType} {v : Value} (hd : parseFieldDescriptor (T k).2.2.1 = some ty) (hn : narrow ty v = v) (hfit : fits ty v = true) {f' : hPl} (h : hput f a ci k v = some f')
    (hdg : decode cc pc = .ok (.putfield index, 3)) (kk : ∀ (H1 : Heap) (locs1 : List Loc), hW g A s f' z H1 locs1 → W p l e R s m args below meth c H1 locs1 cells slots Q (F0 m (pc + 3) ls rest)) : W p l e R s m args below meth c H locs cells slots Q (F0 m pc ls (v :: .ref a :: rest)) := by
  obtain ⟨fs, h1, h2, rfl⟩ := hput_spec h
  have hap := va_apart (own := own) hts hin ty0 hty hnm hk.1 hc
  obtain ⟨r, h3, cell, q1, q2, q3, q4⟩ := (hw.2.1 a _ h1).1
  have hr : r = (C, T, N) := Option.some.inj (h3.symm.trans hc)
  subst hr
  obtain ⟨hS, hfc, kC, hkC, hkind⟩ := hk.1.1 ci _ hc
  obtain ⟨cf, kf, fi, fl, hi, hsl⟩ := hS k hkN
  have hlay := hts _ (hin _ (u_in_lay hkN))
  unfold u_lay at hlay
  rw [if_neg (by rw [hfin]; decide)] at hlay
  have hst := (u_facts hfc hkC (u_lays hts hin hkN) hi).1
  have h6 := u_store hfc hkC hkind hlay hi hd hn hfit
  refine W.putK hexec hb (f := fl) ⟨hown, hlink, ⟨_, _, _, hsame _ hi⟩, hst⟩ (by rw [q2]; exact h6) q1 q3 (by rw [hsl]; exact k2_hasslot (q4 k hkN)) rfl rfl hdg fun H' e1 e2 e3 => ?_
  rw [hsl] at e1 ⊢
  exact kk H' _ (hw.upd h1 e2 e3 ⟨_, hc, t_OB.to (V := updV (vp_V fs) k v) ⟨_, e1, q2, q3, t_set q4 hap hkN v⟩ (fun j _ => vp_updV_set h2 v j)⟩)
theorem hr_putF (hexec : p.tables.exec = Jvm.exec) (hb : c.code = cc) {own ref C : String} {T : u_T} {N ci index : Nat} {Ts : List Cond} (hts : ∀ w ∈ Ts, w.before args s = true) (hin : ∀ w ∈ u_ws C T N, w ∈ Ts) (ty0 : Nat → FieldType) (hty : ∀ k, k < N → parseFieldDescriptor (T k).2.2.1 = some (ty0 k)) (hnm : ∀ a, a < N → ∀ b, b < N → a ≠ b → (T a).2.1 ≠ (T b).2.1) (hown : s.vm.findClass own = some m.cls) (hk : hK g s) (hw : hW g A s f z H locs) (hc : vwCl[ci]? = some (C, T, N)) (k : Nat) (hkN : k < N) (hlink : (Cond.fieldLink own index ref (T k).2.1 (T k).2.2.1).before args s = true) (hsame : ∀ x, s.fieldFound? (T k).1 (T k).2.1 (T k).2.2.1 = some x → s.fieldFound? ref (T k).2.1 (T k).2.2.1 = some x) (hfin : (T k).2.2.2 = true) (hin2 : meth.name = "<init>") (hdecl : (T k).1 = own) {ty : FieldType} {v : Value} (hd : parseFieldDescriptor (T k).2.2.1 = some ty) (hn : narrow ty v = v) (hfit : fits ty v = true) {f' : hPl} (h : hput f a ci k v = some f')
    (hdg : decode cc pc = .ok (.putfield index, 3)) (kk : ∀ (H1 : Heap) (locs1 : List Loc), hW g A s f' z H1 locs1 → W p l e R s m args below meth c H1 locs1 cells slots Q (F0 m (pc + 3) ls rest)) : W p l e R s m args below meth c H locs cells slots Q (F0 m pc ls (v :: .ref a :: rest)) := by
  obtain ⟨fs, h1, h2, rfl⟩ := hput_spec h
  have hap := va_apart (own := own) hts hin ty0 hty hnm hk.1 hc
  obtain ⟨r, h3, cell, q1, q2, q3, q4⟩ := (hw.2.1 a _ h1).1
  have hr : r = (C, T, N) := Option.some.inj (h3.symm.trans hc)
  subst hr
  obtain ⟨hS, hfc, kC, hkC, hkind⟩ := hk.1.1 ci _ hc
  obtain ⟨cf, kf, fi, fl, hi, hsl⟩ := hS k hkN
  have hlay := hts _ (hin _ (u_in_lay hkN))
  unfold u_lay at hlay
  rw [if_pos hfin] at hlay
  have hst := (u_facts hfc hkC (u_lays hts hin hkN) hi).1
  have hcf : m.cls = cf := by
    obtain ⟨_, _, c', _, _, _, -, -, hf', -, -, -, hown2, -⟩ := Cond.laysFinal_spec hlay
    have e1 : c' = cf := by have := hi.symm.trans hf'; simp at this; exact this.1.symm
    rw [hdecl] at hown2
    rw [← e1]; exact Option.some.inj (hown.symm.trans hown2)
  have h6 := u_fits hfc hkC hkind (Or.inr hlay) hi hd hn hfit
  refine W.putFinK hexec hb hown hlink (hsame _ hi) hst hcf hin2 (by rw [q2]; exact h6) q1 q3 (by rw [hsl]; exact k2_hasslot (q4 k hkN)) rfl rfl hdg fun H' e1 e2 e3 => ?_
  rw [hsl] at e1 ⊢
  exact kk H' _ (hw.upd h1 e2 e3 ⟨_, hc, t_OB.to (V := updV (vp_V fs) k v) ⟨_, e1, q2, q3, t_set q4 hap hkN v⟩ (fun j _ => vp_updV_set h2 v j)⟩)
theorem hr_lI (hexec : p.tables.exec = Jvm.exec) (hb : c.code = cc) (hk : hK g s) (hw : hW g A s f z H locs) {i x : Int32} (h : hlI f a i = some x) (hdg : decode cc pc = .ok (.iaload, 1))
    (kk : W p l e R s m args below meth c H locs cells slots Q (F0 m (pc + 1) ls (.int x :: rest))) : W p l e R s m args below meth c H locs cells slots Q (F0 m pc ls (.int i :: .ref a :: rest)) := by
  obtain ⟨⟨n, r⟩, h1, h2⟩ := Option.bind_eq_some_iff.mp h
  obtain ⟨h3, rfl⟩ := hif h2
  exact va_iald hexec hb hk.1 (hw.P1 (hrI_spec h1)) 0 0 rfl rfl (hinB_iff.mp h3) hdg kk
theorem hr_lJ (hexec : p.tables.exec = Jvm.exec) (hb : c.code = cc) (hk : hK g s) (hw : hW g A s f z H locs) {i : Int32} {x : Int64} (h : hlJ f a i = some x) (hdg : decode cc pc = .ok (.laload, 1))
    (kk : W p l e R s m args below meth c H locs cells slots Q (F0 m (pc + 1) ls (.long x :: rest))) : W p l e R s m args below meth c H locs cells slots Q (F0 m pc ls (.int i :: .ref a :: rest)) := by
  obtain ⟨⟨n, r⟩, h1, h2⟩ := Option.bind_eq_some_iff.mp h
  obtain ⟨h3, rfl⟩ := hif h2
  exact va_lald hexec hb hk.1 (hw.P1 (hrJ_spec h1)) 0 1 rfl rfl (hinB_iff.mp h3) hdg kk
theorem hr_lQ (hexec : p.tables.exec = Jvm.exec) (hb : c.code = cc) (hk : hK g s) (hw : hW g A s f z H locs) {i : Int32} {x : Option Nat} (h : hlQ f a i = some x) (hdg : decode cc pc = .ok (.aaload, 1))
    (kk : W p l e R s m args below meth c H locs cells slots Q (F0 m (pc + 1) ls (va_rf x :: rest))) : W p l e R s m args below meth c H locs cells slots Q (F0 m pc ls (.int i :: .ref a :: rest)) := by
  obtain ⟨⟨n, r⟩, h1, h2⟩ := Option.bind_eq_some_iff.mp h
  obtain ⟨h3, rfl⟩ := hif h2
  exact va_aldq hexec hb hk.1 (hw.P1 (hrQ_spec h1)) 0 2 rfl rfl (hinB_iff.mp h3) hdg kk
theorem hr_sI (hexec : p.tables.exec = Jvm.exec) (hb : c.code = cc) (hk : hK g s) (hw : hW g A s f z H locs) {i x : Int32} {f' : hPl} (h : hsI f a i x = some f') (hdg : decode cc pc = .ok (.iastore, 1))
    (kk : ∀ (H1 : Heap) (locs1 : List Loc), hW g A s f' z H1 locs1 → W p l e R s m args below meth c H1 locs1 cells slots Q (F0 m (pc + 1) ls rest)) : W p l e R s m args below meth c H locs cells slots Q (F0 m pc ls (.int x :: .int i :: .ref a :: rest)) := by
  obtain ⟨⟨n, r⟩, h1, h2⟩ := Option.bind_eq_some_iff.mp h
  obtain ⟨h3, rfl⟩ := hif h2
  have hf := hrI_spec h1
  have hin := hinB_iff.mp h3
  have hat : H[a]? = some (vp_cell g.2.2.1 (n, .inl r)) := (hw.2.1 a _ hf).1
  refine W.iast hexec hb hat ((hk.1.2 0 _ rfl).1 n (fun j => .int (r j))) (fun q => by cases q) (by show ¬ (i < 0 ∨ (arrV _ _ _).slots.size ≤ _); rw [arrV_size]; exact hin) rfl rfl hdg fun H1 e z oq => ?_
  refine kk H1 _ (hw.upd hf z oq ?_)
  show H1[a]? = some (arrV g.2.2.1 n (fun j => .int (upd r i.toNatClampNeg x j)))
  rw [e]
  rw [vp_cell_i]
  show some (Cell.setSlot (arrV _ _ _) _ _) = _
  rw [arrV_store]
  congr 2
  funext q
  by_cases hq : q = i.toNatClampNeg
  · subst hq
    simp [updV, upd]
  · simp [updV, upd, hq]
theorem hr_sJ (hexec : p.tables.exec = Jvm.exec) (hb : c.code = cc) (hk : hK g s) (hw : hW g A s f z H locs) {i : Int32} {x : Int64} {f' : hPl} (h : hsJ f a i x = some f') (hdg : decode cc pc = .ok (.lastore, 1))
    (kk : ∀ (H1 : Heap) (locs1 : List Loc), hW g A s f' z H1 locs1 → W p l e R s m args below meth c H1 locs1 cells slots Q (F0 m (pc + 1) ls rest)) : W p l e R s m args below meth c H locs cells slots Q (F0 m pc ls (.long x :: .int i :: .ref a :: rest)) := by
  obtain ⟨⟨n, r⟩, h1, h2⟩ := Option.bind_eq_some_iff.mp h
  obtain ⟨h3, rfl⟩ := hif h2
  have hf := hrJ_spec h1
  have hin := hinB_iff.mp h3
  have hat : H[a]? = some (vp_cell g.2.2.2.1 (n, .inr (.inl r))) := (hw.2.1 a _ hf).1
  refine W.last hexec hb hat ((hk.1.2 1 _ rfl).1 n (fun j => .long (r j))) (fun q => by cases q) (by show ¬ (i < 0 ∨ (arrV _ _ _).slots.size ≤ _); rw [arrV_size]; exact hin) rfl rfl hdg fun H1 e z oq => ?_
  refine kk H1 _ (hw.upd hf z oq ?_)
  show H1[a]? = some (arrV g.2.2.2.1 n (fun j => .long (vp_updL r i.toNatClampNeg x j)))
  rw [e]
  rw [vp_cell_l]
  show some (Cell.setSlot (arrV _ _ _) _ _) = _
  rw [arrV_store]
  congr 2
  funext q
  by_cases hq : q = i.toNatClampNeg
  · subst hq
    simp [updV, vp_updL]
  · simp [updV, vp_updL, hq]
theorem hr_sN (hexec : p.tables.exec = Jvm.exec) (hb : c.code = cc) (hk : hK g s) (hw : hW g A s f z H locs) {i : Int32} {f' : hPl} (h : hsQ f a i none = some f') (hdg : decode cc pc = .ok (.aastore, 1))
    (kk : ∀ (H1 : Heap) (locs1 : List Loc), hW g A s f' z H1 locs1 → W p l e R s m args below meth c H1 locs1 cells slots Q (F0 m (pc + 1) ls rest)) : W p l e R s m args below meth c H locs cells slots Q (F0 m pc ls (.null :: .int i :: .ref a :: rest)) := by
  obtain ⟨⟨n, r⟩, h1, h2⟩ := Option.bind_eq_some_iff.mp h
  obtain ⟨h3, rfl⟩ := hif h2
  have hf := hrQ_spec h1
  have hin := hinB_iff.mp h3
  have hat : H[a]? = some (vp_cell g.2.2.2.2 (n, .inr (.inr (.inr (.inr r))))) := (hw.2.1 a _ hf).1
  refine va_WaastN (C := "SetterBench$Thing") hexec hb hat ((hk.1.2 2 _ rfl).1 n (fun j => va_rf (r j))) (fun h => by cases h) (by show ¬ (i < 0 ∨ (arrV _ _ _).slots.size ≤ _); rw [arrV_size]; exact hin) rfl rfl hdg fun H1 e z oq => ?_
  refine kk H1 _ (hw.upd hf z oq ?_)
  show H1[a]? = some (arrV g.2.2.2.2 n (fun j => va_rf (va_up r i.toNatClampNeg none j)))
  rw [e]
  rw [vp_cell_q]
  show some (Cell.setSlot (arrV _ _ _) _ _) = _
  rw [arrV_store]
  congr 2
  funext q
  by_cases hq : q = i.toNatClampNeg
  · subst hq
    simp [updV, va_up, va_rf]
  · simp [updV, va_up, hq]
/-- a Lamp or a Tray lies at a: it may lie in a row of Things -/
theorem hany (hk : hK g s) (hw : hW g A s f z H locs) {a ci : Nat} (hc : hkd f a = some ci) (h2 : ci = 0 ∨ ci = 1) : va_Any RX1 s H a := by
  obtain ⟨fs, h1⟩ := hkd_spec hc
  rcases h2 with rfl | rfl
  · refine va_rAny hk.1 (hw.P1 h1) (q0 := 0) rfl (r := (RX0, TX0, 2)) rfl (fun comp c0 g1 g2 => ?_)
    obtain ⟨c1, t1, f1, f2, f3⟩ := Cond.castable_spec (args := #[]) (va_Nw.use (A := #[]) rfl hk.2.2.2.2.1)
    cases g2.symm.trans f1
    cases g1.symm.trans f2
    exact f3
  · refine va_rAny hk.1 (hw.P1 h1) (q0 := 0) rfl (r := (RX2, TX2, 2)) rfl (fun comp c0 g1 g2 => ?_)
    obtain ⟨c1, t1, f1, f2, f3⟩ := Cond.castable_spec (args := #[]) (va_Nw.use (A := #[]) rfl hk.2.2.2.2.2.1)
    cases g2.symm.trans f1
    cases g1.symm.trans f2
    exact f3
/-- what may lie in a row of Things: nothing, a Lamp, a Tray -/
def hth (f : hPl) (v : Option Nat) : Option Unit := match v with
  | none => some ()
  | some a => (hkd f a).bind fun ci => if ci = 0 ∨ ci = 1 then some () else none
theorem hr_sQ (hexec : p.tables.exec = Jvm.exec) (hb : c.code = cc) (hk : hK g s) (hw : hW g A s f z H locs) {i : Int32} {v : Option Nat} {u : Unit} (hv : hth f v = some u) {f' : hPl} (h : hsQ f a i v = some f') (hdg : decode cc pc = .ok (.aastore, 1))
    (kk : ∀ (H1 : Heap) (locs1 : List Loc), hW g A s f' z H1 locs1 → W p l e R s m args below meth c H1 locs1 cells slots Q (F0 m (pc + 1) ls rest)) : W p l e R s m args below meth c H locs cells slots Q (F0 m pc ls (va_rf v :: .int i :: .ref a :: rest)) := by
  cases v with
  | none => exact hr_sN hexec hb hk hw h hdg kk
  | some v =>
    obtain ⟨ci, hc, h9⟩ := Option.bind_eq_some_iff.mp hv
    have hci : ci = 0 ∨ ci = 1 := (hif h9).1
    obtain ⟨cellV, g1, g3, ⟨kC, hkC⟩, hasg⟩ := hany hk hw hc hci
    obtain ⟨⟨n, r⟩, h1, h2⟩ := Option.bind_eq_some_iff.mp h
    obtain ⟨h3, rfl⟩ := hif h2
    have hf := hrQ_spec h1
    have hin := hinB_iff.mp h3
    have hlt : i.toNatClampNeg < n := Nat.not_le.mp fun q => hin (Or.inr q)
    have h0 : ¬ i < 0 := fun q => hin (Or.inl q)
    have hat : H[a]? = some (vp_cell g.2.2.2.2 (n, .inr (.inr (.inr (.inr r))))) := (hw.2.1 a _ hf).1
    obtain ⟨kA, comp, k1, k2, k3, -⟩ := (hk.1.2 2 _ rfl).2
    obtain ⟨kE, hkE, -⟩ := Vm.findClass_spec k3
    refine W.aast hexec hb hat (fun q h => by cases h) (fun h => by cases h) k1 k2 rfl hkE ⟨h0, by show _ < (arrV _ _ _).slots.size; rw [arrV_size]; exact hlt⟩ g1 (fun q h => by rw [h] at g3; cases g3) hkC (hasg _ k3) rfl rfl hdg fun H1 e z oq => ?_
    refine kk H1 _ (hw.upd hf z oq ?_)
    show H1[a]? = some (arrV g.2.2.2.2 n (fun j => va_rf (va_up r i.toNatClampNeg (some v) j)))
    rw [e]
    rw [vp_cell_q]
    show some (Cell.setSlot (arrV _ _ _) _ _) = _
    rw [arrV_store]
    congr 2
    funext q
    by_cases hq : q = i.toNatClampNeg
    · subst hq
      simp [updV, va_up, va_rf]
    · simp [updV, va_up, hq]
theorem hr_len (hexec : p.tables.exec = Jvm.exec) (hb : c.code = cc) (hk : hK g s) (hw : hW g A s f z H locs) {x : Int32} (h : hln f a = some x) (hdg : decode cc pc = .ok (.arraylength, 1))
    (kk : W p l e R s m args below meth c H locs cells slots Q (F0 m (pc + 1) ls (.int x :: rest))) : W p l e R s m args below meth c H locs cells slots Q (F0 m pc ls (.ref a :: rest)) := by
  unfold hln at h
  cases hf : f a with
  | none => rw [hf] at h; cases h
  | some e =>
    rw [hf] at h
    cases e with
    | inr o => cases h
    | inl y =>
      obtain ⟨t, y⟩ := y
      obtain ⟨h3, rfl⟩ := hif h
      match t, h3 with
      | 0, _ => exact va_alen hexec hb hk.1 (hw.P1 hf) 0 0 rfl rfl rfl hdg kk
      | 1, _ => exact va_alen hexec hb hk.1 (hw.P1 hf) 0 1 rfl rfl rfl hdg kk
      | 2, _ => exact va_alen hexec hb hk.1 (hw.P1 hf) 0 2 rfl rfl rfl hdg kk
      | t + 3, h => exact absurd h (by simp)
end HR
end
section
section HR2
variable {g : hGb} {p : Program} {l : Launch} {e : Env} {R : Room} {s : State} {m : MethodId} {args : Array Value} {below : List Frame} {meth : Method} {c : Code} {H : Heap} {locs : List Loc} {cells slots : Nat} {Q : State → Prop}
variable {cc : ByteArray} {pc : Nat} {ls : Array Slot} {rest : List Value} {A : Nat → Prop} {f : hPl} {z a : Nat}
theorem hr_new (hexec : p.tables.exec = Jvm.exec) (hb : c.code = cc) {own C : String} {T : u_T} {N ci index : Nat} {Ts : List Cond} (hts : ∀ w ∈ Ts, w.before args s = true) (hin : ∀ w ∈ u_ws C T N, w ∈ Ts) (ty : Nat → FieldType) (hty : ∀ k, k < N → parseFieldDescriptor (T k).2.2.1 = some (ty k)) (hown : s.vm.findClass own = some m.cls) (hcl : (Cond.classLink own index C).before args s = true) (hinst : (Cond.instantiable C N).before args s = true) (hini : (Cond.initialized C).before args s = true)
    (hk : hK g s) (hw : hW g A s f z H locs) (hc : vwCl[ci]? = some (C, T, N)) {fs : List Value} (hfs : ∀ j, j < N → defaultValue (ty j) = vp_V fs j) (hcells : cells + 1 ≤ R.cells) (hslots : slots + N ≤ R.slots) (hdg : decode cc pc = .ok (.new index, 3))
    (kk : ∀ (H1 : Heap), hW g A s (hup f z (oC ci fs)) (z + 1) H1 locs → W p l e R s m args below meth c H1 locs (cells + 1) (slots + N) Q (F0 m (pc + 3) ls (.ref z :: rest))) : W p l e R s m args below meth c H locs cells slots Q (F0 m pc ls rest) := by
  have hKn := hk.1.1 ci _ hc
  have hz := hw.1
  refine W.newcK hexec hb hown hcl hinst hini rfl hdg hcells hslots hKn.2.1 hz fun H1 kC hkC e1 z1 o1 => ?_
  exact kk H1 (hw.new z1 o1 ⟨_, hc, (u_born ty hts hin hKn hkC e1 hty).to hfs⟩)
theorem hr_newI (hexec : p.tables.exec = Jvm.exec) (hb : c.code = cc) (hk : hK g s) (harr : (Cond.arrayClass .int).before args s = true) (hw : hW g A s f z H locs) {n : Int32} {M : Nat} (hn : ¬ n < 0 ∧ n.toNatClampNeg ≤ M) (hM : M ≤ 1000) (hcells : cells + 1 ≤ R.cells) (hslots : slots + M ≤ R.slots) (hdg : decode cc pc = .ok (.newarray .int, 2))
    (kk : ∀ (H1 : Heap), hW g A s (hup f z (aI n.toNatClampNeg (fun _ => 0))) (z + 1) H1 locs → W p l e R s m args below meth c H1 locs (cells + 1) (slots + M) Q (F0 m (pc + 2) ls (.ref z :: rest))) : W p l e R s m args below meth c H locs cells slots Q (F0 m pc ls (.int n :: rest)) := by
  refine va_newaK (atype := .int) (N := n.toNatClampNeg) hexec hb harr rfl hdg rfl hn.1 rfl (Nat.le_trans (Nat.mul_le_mul_right 4 (Nat.le_trans hn.2 hM)) (by decide)) hcells (by omega) hw.1 fun H1 cA e1 z1 o1 hAr hNm => ?_
  have hcA : cA = g.2.2.1 := Option.some.inj (hNm.symm.trans (hk.1.2 0 _ rfl).2)
  subst hcA
  refine W.widen (k := cells + 1) (n := slots + M) (Nat.le_refl _) (by omega) ?_
  exact kk H1 (hw.new z1 o1 e1)
theorem hr_newJ (hexec : p.tables.exec = Jvm.exec) (hb : c.code = cc) (hk : hK g s) (harr : (Cond.arrayClass .long).before args s = true) (hw : hW g A s f z H locs) {n : Int32} {M : Nat} (hn : ¬ n < 0 ∧ n.toNatClampNeg ≤ M) (hM : M ≤ 1000) (hcells : cells + 1 ≤ R.cells) (hslots : slots + M ≤ R.slots) (hdg : decode cc pc = .ok (.newarray .long, 2))
    (kk : ∀ (H1 : Heap), hW g A s (hup f z (aJ n.toNatClampNeg (fun _ => 0))) (z + 1) H1 locs → W p l e R s m args below meth c H1 locs (cells + 1) (slots + M) Q (F0 m (pc + 2) ls (.ref z :: rest))) : W p l e R s m args below meth c H locs cells slots Q (F0 m pc ls (.int n :: rest)) := by
  refine va_newaK (atype := .long) (N := n.toNatClampNeg) hexec hb harr rfl hdg rfl hn.1 rfl (Nat.le_trans (Nat.mul_le_mul_right 8 (Nat.le_trans hn.2 hM)) (by decide)) hcells (by omega) hw.1 fun H1 cA e1 z1 o1 hAr hNm => ?_
  have hcA : cA = g.2.2.2.1 := Option.some.inj (hNm.symm.trans (hk.1.2 1 _ rfl).2)
  subst hcA
  refine W.widen (k := cells + 1) (n := slots + M) (Nat.le_refl _) (by omega) ?_
  exact kk H1 (hw.new z1 o1 e1)
theorem hr_newQ (hexec : p.tables.exec = Jvm.exec) (hb : c.code = cc) (hk : hK g s) {own : String} {index : Nat} (hown : s.vm.findClass own = some m.cls) (hclink : (Cond.classLink own index RX1).before args s = true) (hw : hW g A s f z H locs) {n : Int32} {M : Nat} (hn : ¬ n < 0 ∧ n.toNatClampNeg ≤ M) (hM : M ≤ 1000) (hcells : cells + 1 ≤ R.cells) (hslots : slots + M ≤ R.slots) (hdg : decode cc pc = .ok (.anewarray index, 3))
    (kk : ∀ (H1 : Heap), hW g A s (hup f z (aQ n.toNatClampNeg (fun _ => none))) (z + 1) H1 locs → W p l e R s m args below meth c H1 locs (cells + 1) (slots + M) Q (F0 m (pc + 3) ls (.ref z :: rest))) : W p l e R s m args below meth c H locs cells slots Q (F0 m pc ls (.int n :: rest)) := by
  refine W.anew hexec hb hown hclink (va_AO.use hk.2.2.2.2.2.2.2.2) rfl hdg rfl hn.1 (by omega) hcells (by omega) fun cA kA comp f1 f2 f3 f4 => ?_
  obtain ⟨kA', comp', k1, k2, k3, k4⟩ := (hk.1.2 2 _ rfl).2
  have hcA : cA = g.2.2.2.2 := Option.some.inj (f1.symm.trans k4)
  subst hcA
  have hz := hw.1
  refine W.widen (k := cells + 1) (n := slots + M) (Nat.le_refl _) (by omega) ?_
  subst hz
  refine kk _ (hw.new (by simp) (fun q hq => by rw [Array.getElem?_push, if_neg (Nat.ne_of_lt hq)]) ?_)
  show (H.push _)[H.size]? = some (arrV g.2.2.2.2 n.toNatClampNeg (fun _ => .null))
  rw [Array.getElem?_push_size, ← arrV_new]
theorem hr_cp (hexec : p.tables.exec = Jvm.exec) (hb : c.code = cc) (hml : c.maxLocals = ls.size) {own : String} {index : Nat} (hown : s.vm.findClass own = some m.cls) (hlink : (Cond.methodLink own index arraycopyName).before args s = true) (hnat : (Cond.native arraycopyName).before args s = true) (hstat : (Cond.static arraycopyName).before args s = true) (hini : (Cond.initialized "java/lang/System").before args s = true)
    (hk : hK g s) (hw : hW g A s f z H locs) {a0 : Nat} {sp dp n : Int32} {f' : hPl} (h : hcp f a0 sp a dp n = some f')
    (hframes : 1 ≤ R.frames) (hlocals : (rest.map fun v => v.category).sum + (nativeFrameWords "java/lang/System" "arraycopy" 5 + 11) ≤ R.locals) (hdg : decode cc pc = .ok (.invokestatic index, 3))
    (kk : ∀ (H1 : Heap) (locs1 : List Loc), hW g A s f' z H1 locs1 → W p l e R s m args below meth c H1 locs1 cells slots Q (F0 m (pc + 3) ls rest)) : W p l e R s m args below meth c H locs cells slots Q (F0 m pc ls (.int n :: .int dp :: .ref a :: .int sp :: .ref a0 :: rest)) := by
  have nn : ∀ z : Int32, ¬ z < 0 → z.toInt = (z.toNatClampNeg : Int) := by
    intro z hz
    have hz0 : (0 : Int) ≤ z.toInt := by
      have := Int32.not_lt.mp hz
      simpa using Int32.le_iff_toInt_le.mp this
    show z.toInt = ((z.toInt.toNat : Nat) : Int)
    omega
  obtain ⟨⟨n0, r0⟩, g1, h⟩ := Option.bind_eq_some_iff.mp h
  obtain ⟨⟨n1, r1⟩, g2, h⟩ := Option.bind_eq_some_iff.mp h
  obtain ⟨⟨h1, h2, h3, h4, h5⟩, rfl⟩ := hif h
  have hf0 := hrJ_spec g1
  have hf1 := hrJ_spec g2
  have hc0 : H[a0]? = some (vp_cell g.2.2.2.1 (n0, .inr (.inl r0))) := (hw.2.1 a0 _ hf0).1
  have hc1 : H[a]? = some (vp_cell g.2.2.2.1 (n1, .inr (.inl r1))) := (hw.2.1 a _ hf1).1
  dsimp only at h4 h5
  intro T hT X
  obtain ⟨-, k0, hk0, cm0, hkk0⟩ := (hk.1.2 1 _ rfl).1 n0 (fun j => .long (r0 j))
  obtain ⟨vm', X', step⟩ := X.arraycopy hexec hown hlink hnat hstat hini (src := a0) (dst := a) (cs := vp_cell g.2.2.2.1 (n0, .inr (.inl r0))) (cd := vp_cell g.2.2.2.1 (n1, .inr (.inl r1))) (srcPos := sp) (destPos := dp) (n := n) (by rw [hT]; exact hc0) (by rw [hT]; exact hc1)
    (fun _ h => by cases h) (fun _ h => by cases h) (fun h => by cases h) (fun h => by cases h) hk0 hk0 hkk0 hkk0 (by simp [refKind]) h1 h2 h3
    (by rw [nn sp h1, nn n h3]; show ¬ _ > ((arrV _ n0 (fun j => .long (r0 j))).slots.size : Int); rw [arrV_size]; omega)
    (by rw [nn dp h2, nn n h3]; show ¬ _ > ((arrV _ n1 (fun j => .long (r1 j))).slots.size : Int); rw [arrV_size]; omega)
    (fun vm₁ _ i hi => by
      have e : (vp_cell g.2.2.2.1 (n0, .inr (.inl r0))).slots.getD (sp.toNatClampNeg + i) .null = .long (r0 (sp.toNatClampNeg + i)) := by
        show (arrV _ n0 (fun j => .long (r0 j))).slots.getD _ _ = _
        rw [Array.getD_eq_getD_getElem?, arrV_read _ _ (by omega)]
        rfl
      refine ⟨?_, ?_⟩
      · rw [e]
        rfl
      · rw [e]
        exact trivial)
    (g := F0 m pc ls (.int n :: .int dp :: .ref a :: .int sp :: .ref a0 :: rest)) rfl (by rw [hml]) (rest := rest) rfl (by rw [hb]; exact hdg) hframes (by show 2 * 0 + _ + _ ≤ _; omega)
  have e1 : copied (vp_cell g.2.2.2.1 (n0, .inr (.inl r0))) (vp_cell g.2.2.2.1 (n1, .inr (.inl r1))) sp dp n = vp_cell g.2.2.2.1 (n1, .inr (.inl (va_cpy r0 r1 sp.toNatClampNeg dp.toNatClampNeg n.toNatClampNeg))) := va_copied (fun z => .long z) _ _ r0 r1 h4
  rw [e1] at X' step
  have hl : a < H.size := (Array.getElem?_eq_some_iff.mp hc1).1
  have hheap : ((T.setVm vm').setCell a (vp_cell g.2.2.2.1 (n1, .inr (.inl (va_cpy r0 r1 sp.toNatClampNeg dp.toNatClampNeg n.toNatClampNeg))))).heap = H.setIfInBounds a (vp_cell g.2.2.2.1 (n1, .inr (.inl (va_cpy r0 r1 sp.toNatClampNeg dp.toNatClampNeg n.toNatClampNeg)))) := by rw [← hT]; rfl
  have oq : ∀ q : Nat, q ≠ a → (H.setIfInBounds a (vp_cell g.2.2.2.1 (n1, .inr (.inl (va_cpy r0 r1 sp.toNatClampNeg dp.toNatClampNeg n.toNatClampNeg)))))[q]? = H[q]? := fun q hq => by simp [Array.getElem?_setIfInBounds, Ne.symm hq]
  have hu := hw.upd (k := 0) hf1 (H1 := H.setIfInBounds a (vp_cell g.2.2.2.1 (n1, .inr (.inl (va_cpy r0 r1 sp.toNatClampNeg dp.toNatClampNeg n.toNatClampNeg))))) (e' := aJ n1 (va_cpy r0 r1 sp.toNatClampNeg dp.toNatClampNeg n.toNatClampNeg)) (by simp) oq (show (H.setIfInBounds a _)[a]? = some _ by simp [Array.getElem?_setIfInBounds, hl]; rfl)
  obtain ⟨t, a1, b1⟩ := kk _ _ ⟨hu.1, hu.2.1, ⟨hu.2.2.1.1, hu.2.2.1.2.1, fun q hq => by
      rcases List.mem_append.mp hq with h | h
      · exact hw.2.2.1.2.2 q h
      · obtain ⟨z, -, hz⟩ := List.mem_map.mp h
        rw [← hz]
        exact (hw.2.1 a _ hf1).2⟩, hu.2.2.2⟩ _ hheap X'
  exact ⟨t, step t a1, b1⟩
/-! references that may be null -/
theorem hv_aload_n (hexec : p.tables.exec = Jvm.exec) (hb : c.code = cc) {k : Fin 4} {i : Nat} {q : Option Nat} (hdg : decode cc pc = .ok (.aload_n k, 1)) (hi : (k : Nat) = i) (hl : ls[i]? = some (.val (va_rf q)))
    (kk : W p l e R s m args below meth c H locs cells slots Q (F0 m (pc + 1) ls (va_rf q :: rest))) : W p l e R s m args below meth c H locs cells slots Q (F0 m pc ls rest) := by
  cases q with
  | none => exact lv_aload_nN hexec hb hdg hi hl kk
  | some a => exact lv_aload_n hexec hb hdg hi hl kk
theorem hv_aload (hexec : p.tables.exec = Jvm.exec) (hb : c.code = cc) {i : Nat} {q : Option Nat} (hdg : decode cc pc = .ok (.aload i, 2)) (hl : ls[i]? = some (.val (va_rf q)))
    (kk : W p l e R s m args below meth c H locs cells slots Q (F0 m (pc + 2) ls (va_rf q :: rest))) : W p l e R s m args below meth c H locs cells slots Q (F0 m pc ls rest) := by
  cases q with
  | none => exact lv_aloadN hexec hb hdg hl kk
  | some a => exact lv_aload hexec hb hdg hl kk
theorem hv_astore_n (hexec : p.tables.exec = Jvm.exec) (hb : c.code = cc) {k : Fin 4} {i nL : Nat} {q : Option Nat} {lv lv' : List (Nat × Value)} (hdg : decode cc pc = .ok (.astore_n k, 1)) (hi : (k : Nat) = i) (h : lv_has ls nL lv) (hn : i < nL) (hl : (i, va_rf q) :: lv.filter (fun q => !(q.1 == i) && !(q.1 + 1 == i && q.2.category == 2)) = lv')
    (kk : ∀ ls' : Array Slot, lv_has ls' nL lv' → W p l e R s m args below meth c H locs cells slots Q (F0 m (pc + 1) ls' rest)) : W p l e R s m args below meth c H locs cells slots Q (F0 m pc ls (va_rf q :: rest)) := by
  cases q with
  | none => exact lv_astore_nN hexec hb hdg hi h hn hl kk
  | some a => exact lv_astore_n hexec hb hdg hi h hn hl kk
theorem hv_astore (hexec : p.tables.exec = Jvm.exec) (hb : c.code = cc) {i nL : Nat} {q : Option Nat} {lv lv' : List (Nat × Value)} (hdg : decode cc pc = .ok (.astore i, 2)) (h : lv_has ls nL lv) (hn : i < nL) (hl : (i, va_rf q) :: lv.filter (fun q => !(q.1 == i) && !(q.1 + 1 == i && q.2.category == 2)) = lv')
    (kk : ∀ ls' : Array Slot, lv_has ls' nL lv' → W p l e R s m args below meth c H locs cells slots Q (F0 m (pc + 2) ls' rest)) : W p l e R s m args below meth c H locs cells slots Q (F0 m pc ls (va_rf q :: rest)) := by
  cases q with
  | none => exact lv_astoreN hexec hb hdg h hn hl kk
  | some a => exact lv_astore hexec hb hdg h hn hl kk
theorem hv_ifnull (hexec : p.tables.exec = Jvm.exec) (hb : c.code = cc) {q : Option Nat} {off : Int} {tgt : Nat} (hdg : decode cc pc = .ok (.ifnull off, 3)) (ht : (pc : Int) + off = (tgt : Int)) (kt : q = none → W p l e R s m args below meth c H locs cells slots Q (F0 m tgt ls rest)) (kf : ¬ q = none → W p l e R s m args below meth c H locs cells slots Q (F0 m (pc + 3) ls rest)) : W p l e R s m args below meth c H locs cells slots Q (F0 m pc ls (va_rf q :: rest)) := by
  cases q with
  | none => exact lv_ifnullN hexec hb hdg ht (kt rfl)
  | some a => exact lv_ifnull hexec hb hdg (kf (fun h => by cases h))
theorem hv_ifnonnull (hexec : p.tables.exec = Jvm.exec) (hb : c.code = cc) {q : Option Nat} {off : Int} {tgt : Nat} (hdg : decode cc pc = .ok (.ifnonnull off, 3)) (ht : (pc : Int) + off = (tgt : Int)) (kt : ¬ q = none → W p l e R s m args below meth c H locs cells slots Q (F0 m tgt ls rest)) (kf : q = none → W p l e R s m args below meth c H locs cells slots Q (F0 m (pc + 3) ls rest)) : W p l e R s m args below meth c H locs cells slots Q (F0 m pc ls (va_rf q :: rest)) := by
  cases q with
  | none => exact lv_ifnonnullN hexec hb hdg (kf rfl)
  | some a => exact lv_ifnonnull hexec hb hdg ht (kt (fun h => by cases h))
/-- whether what lies at q is of the kind ci (0 a Lamp, 1 a Tray) -/
def hii (f : hPl) (q : Option Nat) (ci : Nat) : Option Int32 := match q with
  | none => some 0
  | some a => (hkd f a).bind fun k => if k = 0 ∨ k = 1 then some (if k = ci then 1 else 0) else none
theorem hr_instL (hexec : p.tables.exec = Jvm.exec) (hb : c.code = cc) {own : String} {index : Nat} (hown : s.vm.findClass own = some m.cls) (hlink : (Cond.classLink own index RX0).before args s = true) (hk : hK g s) (hw : hW g A s f z H locs) {q : Option Nat} {x : Int32} (h : hii f q 0 = some x) (hdg : decode cc pc = .ok (.instanceof index, 3))
    (kk : W p l e R s m args below meth c H locs cells slots Q (F0 m (pc + 3) ls (.int x :: rest))) : W p l e R s m args below meth c H locs cells slots Q (F0 m pc ls (va_rf q :: rest)) := by
  cases q with
  | none => cases h; exact lv_instN hexec hb hdg kk
  | some a =>
    obtain ⟨k, h1, h2⟩ := Option.bind_eq_some_iff.mp h
    obtain ⟨h3, rfl⟩ := hif h2
    obtain ⟨fs, h4⟩ := hkd_spec h1
    rcases h3 with rfl | rfl
    · exact va_instY hexec hb hown hlink hk.2.2.1 (va_recv hk.1 (hw.P1 h4) (ci := 0) (q0 := 0) rfl rfl) hdg kk
    · exact va_instNo hexec hb hown hlink hk.2.2.2.2.2.2.2.1 (va_recv hk.1 (hw.P1 h4) (ci := 1) (q0 := 0) rfl rfl) hdg kk
theorem hr_instT (hexec : p.tables.exec = Jvm.exec) (hb : c.code = cc) {own : String} {index : Nat} (hown : s.vm.findClass own = some m.cls) (hlink : (Cond.classLink own index RX2).before args s = true) (hk : hK g s) (hw : hW g A s f z H locs) {q : Option Nat} {x : Int32} (h : hii f q 1 = some x) (hdg : decode cc pc = .ok (.instanceof index, 3))
    (kk : W p l e R s m args below meth c H locs cells slots Q (F0 m (pc + 3) ls (.int x :: rest))) : W p l e R s m args below meth c H locs cells slots Q (F0 m pc ls (va_rf q :: rest)) := by
  cases q with
  | none => cases h; exact lv_instN hexec hb hdg kk
  | some a =>
    obtain ⟨k, h1, h2⟩ := Option.bind_eq_some_iff.mp h
    obtain ⟨h3, rfl⟩ := hif h2
    obtain ⟨fs, h4⟩ := hkd_spec h1
    rcases h3 with rfl | rfl
    · exact va_instNo hexec hb hown hlink hk.2.2.2.2.2.2.1 (va_recv hk.1 (hw.P1 h4) (ci := 0) (q0 := 0) rfl rfl) hdg kk
    · exact va_instY hexec hb hown hlink hk.2.2.2.1 (va_recv hk.1 (hw.P1 h4) (ci := 1) (q0 := 0) rfl rfl) hdg kk
theorem hr_castL (hexec : p.tables.exec = Jvm.exec) (hb : c.code = cc) {own : String} {index : Nat} (hown : s.vm.findClass own = some m.cls) (hlink : (Cond.classLink own index RX0).before args s = true) (hk : hK g s) (hw : hW g A s f z H locs) {u : Unit} (h : hob f a 0 = some u) (hdg : decode cc pc = .ok (.checkcast index, 3))
    (kk : W p l e R s m args below meth c H locs cells slots Q (F0 m (pc + 3) ls (.ref a :: rest))) : W p l e R s m args below meth c H locs cells slots Q (F0 m pc ls (.ref a :: rest)) := by
  obtain ⟨fs, h4⟩ := hob_spec h
  exact va_castY hexec hb hown hlink hk.2.2.1 (va_recv hk.1 (hw.P1 h4) (ci := 0) (q0 := 0) rfl rfl) hdg kk
theorem hr_castT (hexec : p.tables.exec = Jvm.exec) (hb : c.code = cc) {own : String} {index : Nat} (hown : s.vm.findClass own = some m.cls) (hlink : (Cond.classLink own index RX2).before args s = true) (hk : hK g s) (hw : hW g A s f z H locs) {u : Unit} (h : hob f a 1 = some u) (hdg : decode cc pc = .ok (.checkcast index, 3))
    (kk : W p l e R s m args below meth c H locs cells slots Q (F0 m (pc + 3) ls (.ref a :: rest))) : W p l e R s m args below meth c H locs cells slots Q (F0 m pc ls (.ref a :: rest)) := by
  obtain ⟨fs, h4⟩ := hob_spec h
  exact va_castY hexec hb hown hlink hk.2.2.2.1 (va_recv hk.1 (hw.P1 h4) (ci := 1) (q0 := 0) rfl rfl) hdg kk
/-- one arm of a table switch -/
theorem hv_arm (hexec : p.tables.exec = Jvm.exec) (hb : c.code = cc) {dflt lo hi : Int} {offs : Array Int} {len : Nat} {x k : Int32} {off : Int} {tgt : Nat} (hx : x = k) (hdg : decode cc pc = .ok (.tableswitch dflt lo hi offs, len)) (h1 : ¬ k.toInt < lo) (h2 : ¬ hi < k.toInt) (ho : offs[(k.toInt - lo).toNat]? = some off) (ht : (pc : Int) + off = (tgt : Int))
    (kk : W p l e R s m args below meth c H locs cells slots Q (F0 m tgt ls rest)) : W p l e R s m args below meth c H locs cells slots Q (F0 m pc ls (.int x :: rest)) := by
  subst hx
  exact lv_tableIn hexec hb hdg h1 h2 ho ht kk
/-! contracts -/
def hPre (g : hGb) (av : List Value) (f : hPl) (z : Nat) : Array Value → State → Prop := va_Pc av (fun U => hK g U ∧ U.heap.size = z ∧ ∀ (a : Nat) (e : hCe), f a = some e → va_at (hD g) vwCl (a, hE g e) U.heap)
def hA (f : hPl) (z : Nat) : Nat → Prop := fun q => (f q).isSome = true ∨ z ≤ q
def hQ (g : hGb) (A : Nat → Prop) (o : Option Value) (f' : hPl) (z' : Nat) : Array Value → State → Outcome → State → Prop := fun _ st oc t => oc = .returned o ∧ (t.heap.size = z' ∧ ∀ (a : Nat) (e : hCe), f' a = some e → va_at (hD g) vwCl (a, hE g e) t.heap ∧ A a) ∧ va_F A st t
abbrev hRm (fr mc ms : Nat) : Room := { frames := fr, cells := mc, slots := ms, locals := 40 * fr }
def hCt (l : Launch) (g : hGb) (y : MethodName) (ws : List Cond) (fr mc ms : Nat) (av : List Value) (f : hPl) (z : Nat) (o : Option Value) (f' : hPl) (z' : Nat) : Prop := Met l y ws (hRm fr mc ms) (hPre g av f z) (hQ g (hA f z) o f' z') mc ms (hA f z)
abbrev hZ (g : hGb) (A : Nat → Prop) (below : List Frame) (args : Array Value) (s : State) (mc ms : Nat) (o : Option Value) (f' : hPl) (z' : Nat) : State → Prop := MQ below (hQ g A o f' z') args s mc ms A
theorem hCt.of {y : MethodName} {ws ws' : List Cond} {fr mc ms : Nat} {av : List Value} {o : Option Value} {f' : hPl} {z' : Nat} {maxL : Nat} {ret : Option FieldType} (hy : plainName y.cls = true) (hw : ws = Cond.code y cc maxL ret :: ws') (hn : (lg_sl av).length ≤ maxL)
    (body : ∀ (p : Program) (e : Env) (s : State) (m : MethodId) (below : List Frame) (meth : Method) (c : Code), hX g p s m av.toArray meth c y.cls cc maxL ws ret → meth.name = y.name → hW g (hA f z) s f z s.heap [] → ∀ ls : Array Slot, lv_has ls maxL (lv_args 0 av) →
      W p l e (hRm fr mc ms) s m av.toArray below meth c s.heap [] 0 0 (hZ g (hA f z) below av.toArray s mc ms o f' z') (F0 m 0 ls [])) : hCt l g y ws fr mc ms av f z o f' z' := by
  refine Met.ofW (cc := cc) (maxL := maxL) (ret := ret) hy hw ?_
  intro p e s m args below meth c s₁ B hml hv
  obtain ⟨rfl, hk, hsz, hp⟩ := hv
  have hl := lv_entry av (n := maxL) hn
  rw [lg_entry_eq]
  exact body p e s m below meth c ⟨B.exec, B.bytes, hml, findClass_of_methodNamed B.named, atoms_spec (ws := ws) B.pre, B.returns, B.notSynchronized, hk⟩ (name_of_methodNamed B.named B.method).1 ⟨hsz, fun a e h => ⟨hp a e h, Or.inl (by rw [h]; rfl)⟩, va_S.rf, fun q h => Or.inr (by rw [← hsz]; exact h)⟩ _ hl
theorem hret_q (hw : hW g A s f z H locs) {o : Option Value} (t : State) (ht : t.heap = H) : hQ g A o f z args s (.returned o) t := ⟨rfl, ⟨by rw [ht]; exact hw.1, fun a e h => by rw [ht]; exact hw.2.1 a e h⟩, hw.2.2.1.F ht⟩
theorem hret_i (hexec : p.tables.exec = Jvm.exec) (hb : c.code = cc) (hr : meth.sig.returnType = some .int) (hlocks : meth.locks = false) (hw : hW g A s f z H locs) {v : Int32} (hdg : decode cc pc = .ok (.ireturn, 1)) : W p l e R s m args below meth c H locs cells slots (hZ g A below args s cells slots (some (.int v)) f z) (F0 m pc ls [.int v]) := W.iret hexec hb hr (fun t ht _ => hret_q hw t ht) hw.2.2.1.2.2 hdg
theorem hret_z (hexec : p.tables.exec = Jvm.exec) (hb : c.code = cc) (hr : meth.sig.returnType = some .boolean) (hlocks : meth.locks = false) (hw : hW g A s f z H locs) {v : Int32} (hv : v = 0 ∨ v = 1) (hdg : decode cc pc = .ok (.ireturn, 1)) : W p l e R s m args below meth c H locs cells slots (hZ g A below args s cells slots (some (.int v)) f z) (F0 m pc ls [.int v]) := W.zret hexec hb hr (by rcases hv with rfl | rfl <;> decide +kernel) (fun t ht _ => hret_q hw t ht) hw.2.2.1.2.2 hdg
theorem hret_l (hexec : p.tables.exec = Jvm.exec) (hb : c.code = cc) (hr : meth.sig.returnType = some .long) (hlocks : meth.locks = false) (hw : hW g A s f z H locs) {v : Int64} (hdg : decode cc pc = .ok (.lreturn, 1)) : W p l e R s m args below meth c H locs cells slots (hZ g A below args s cells slots (some (.long v)) f z) (F0 m pc ls [.long v]) := W.lret hexec hb hr (fun t ht _ => hret_q hw t ht) hw.2.2.1.2.2 hdg
theorem hret_v (hexec : p.tables.exec = Jvm.exec) (hb : c.code = cc) (hr : meth.sig.returnType = none) (hlocks : meth.locks = false) (hw : hW g A s f z H locs) (hdg : decode cc pc = .ok (.return_, 1)) : W p l e R s m args below meth c H locs cells slots (hZ g A below args s cells slots none f z) (F0 m pc ls []) := W.vret hexec hb hr (fun t ht _ => hret_q hw t ht) hw.2.2.1.2.2 hdg
theorem hret_a (hexec : p.tables.exec = Jvm.exec) (hb : c.code = cc) {C : String} (hr : meth.sig.returnType = some (.object C)) (hlocks : meth.locks = false) (hw : hW g A s f z H locs) {q : Option Nat} (hdg : decode cc pc = .ok (.areturn, 1)) : W p l e R s m args below meth c H locs cells slots (hZ g A below args s cells slots (some (va_rf q)) f z) (F0 m pc ls [va_rf q]) := W.aret hexec hb hr (Or.inl ⟨_, rfl⟩) (va_rf_or q) (fun t ht _ => hret_q hw t ht) hw.2.2.1.2.2 hdg
theorem hblind {av : List Value} : FrameBlind (hPre g av f z) := fun a U gg mk q => ⟨q.1, q.2.1.same rfl, q.2.2⟩
theorem hpre (hk : hK g s) (hw : hW g A s f z H locs) {av : List Value} : PreS s H (hPre g av f z) av := ⟨hblind, fun U hU hV => ⟨rfl, hk.moved hV, by rw [hU]; exact hw.1, fun a e h => by rw [hU]; exact (hw.2.1 a e h).1⟩⟩
theorem hpreV (hk : hK g s) (hw : hW g A s f z H locs) {As : List Value} {ci b : Nat} {C : String} {T : u_T} {N : Nat} (hc : vwCl[ci]? = some (C, T, N)) {u : Unit} (ho : hob f b ci = some u) : PreV s H C b (hPre g (.ref b :: As) f z) As := by
  obtain ⟨fs, h4⟩ := hob_spec ho
  exact ⟨hblind, va_recv hk.1 (hw.P1 h4) (ci := ci) (q0 := 0) hc rfl, (hpre hk hw).2⟩
theorem h_call {mc ms : Nat} {st0 : List Value} {o : Option Value} {f' : hPl} {z' : Nat} {av : Array Value} (hr : va_Run p l e R s m args below meth c H locs cells slots mc ms (F0 m pc ls st0) rest (hQ g (hA f z) o f' z' av) (hA f z)) (hw : hW g A s f z H locs)
    (kk : ∀ (H1 : Heap) (locs1 : List Loc), hW g A s f' z' H1 locs1 → W p l e R s m args below meth c H1 locs1 (cells + mc) (slots + ms) Q (F0 m (pc + 3) ls (o.toList ++ rest))) : W p l e R s m args below meth c H locs cells slots Q (F0 m pc ls st0) := by
  intro T hT X
  obtain ⟨v, st₀, t, T', L, h0, X', hL, e1, e2, ⟨hv, ⟨hz', hp'⟩, hz, hkp⟩, st⟩ := hr T hT X
  cases hv
  rw [h0] at hz hkp
  obtain ⟨hwz, hwp, hS, hA0⟩ := hw
  have hAA : ∀ q, hA f z q → A q := by
    intro q hq
    rcases hq with hq | hq
    · cases hf : f q with
      | none => rw [hf] at hq; cases hq
      | some e => exact (hwp q e hf).2
    · exact hA0 q (Nat.le_trans hS.1 (by rw [hwz]; exact hq))
  obtain ⟨t2, a1, b1⟩ := kk T'.heap (locs ++ L) ⟨by rw [e1]; exact hz', fun a e h => ⟨by rw [e1]; exact (hp' a e h).1, hAA a (hp' a e h).2⟩, ⟨Nat.le_trans hS.1 (by rw [e1]; exact hz), fun q h1 h2 => by rw [e1, hkp q (Nat.lt_of_lt_of_le h1 hS.1) (fun z => h2 (hAA q z))]; exact hS.2.1 q h1 h2, fun q hq => by
      rcases List.mem_append.mp hq with h | h
      · exact hS.2.2 q h
      · exact hAA _ (hL q h)⟩, hA0⟩ T' rfl X'
  exact ⟨t2, st t2 a1, b1⟩
end HR2
end
section
section HC
variable {g : hGb} {p : Program} {l : Launch} {e : Env} {R : Room} {s : State} {m : MethodId} {args : Array Value} {below : List Frame} {meth : Method} {c : Code} {H : Heap} {locs : List Loc} {cells slots : Nat} {Q : State → Prop}
variable {cc : ByteArray} {pc : Nat} {ls : Array Slot} {rest : List Value} {A : Nat → Prop} {f : hPl} {z a : Nat}
variable {own : String} {index : Nat} {y : MethodName} {bytes : ByteArray} {maxL nL fr mc ms n : Nat} {ret : Option FieldType} {ws ws' Ts : List Cond} {As st0 : List Value} {o : Option Value} {f' : hPl} {z' : Nat}
theorem hcallV (hx : p.tables.exec = Jvm.exec) (hb : c.code = cc) (hml : c.maxLocals = nL) (hown : s.vm.findClass own = some m.cls) (hts : ∀ w ∈ Ts, w.before args s = true) (hk : hK g s) {b : Nat} (As rest : List Value) (hM : hCt l g y ws fr mc ms (.ref b :: As) f z o f' z') {C : String} (hG : GoodIn Ts (wsV own index C y ws)) (hw0 : ws = Cond.code y bytes maxL ret :: ws')
    (hn : As.length = n) (hd : y.cls = C ∧ y.cls ≠ "java/lang/invoke/MethodHandle" ∧ y.cls ≠ "java/lang/invoke/VarHandle" ∧ (parseMethodDescriptor y.desc).map (fun d => d.parameters.length) = some n) (hR : fr + 1 ≤ R.frames ∧ 8 + (maxL + 11) + 40 * fr ≤ R.locals) {ci : Nat} {T : u_T} {N : Nat} (hc : vwCl[ci]? = some (C, T, N)) {u : Unit} (ho : hob f b ci = some u) (hw : hW g A s f z H locs)
    (hs : ls.size = nL) (hst : st0 = As.reverse ++ .ref b :: rest) (hcat : (rest.map fun v => v.category).sum ≤ 8) (hdg : decode cc pc = .ok (.invokevirtual index, 3)) (hf : cells + mc ≤ R.cells ∧ slots + ms ≤ R.slots)
    (kk : ∀ (H1 : Heap) (locs1 : List Loc), hW g A s f' z' H1 locs1 → W p l e R s m args below meth c H1 locs1 (cells + mc) (slots + ms) Q (F0 m (pc + 3) ls (o.toList ++ rest))) : W p l e R s m args below meth c H locs cells slots Q (F0 m pc ls st0) :=
  h_call (va_runV (As := As) (rest := rest) ⟨hx, hb, hml, hown, hts⟩ hM (cwV n hts hG hw0 rfl rfl hd hR) (hpreV hk hw hc ho) rfl hn hs hst (lv_room hcat) hdg hf) hw kk
theorem hcallS (hx : p.tables.exec = Jvm.exec) (hb : c.code = cc) (hml : c.maxLocals = nL) (hown : s.vm.findClass own = some m.cls) (hts : ∀ w ∈ Ts, w.before args s = true) (hk : hK g s) (As rest : List Value) (hM : hCt l g y ws fr mc ms As f z o f' z') (hG : GoodIn Ts (va_wsS own index y ws)) (hw0 : ws = Cond.code y bytes maxL ret :: ws')
    (hn : As.length = n) (hd : y.cls ≠ "java/lang/invoke/MethodHandle" ∧ y.cls ≠ "java/lang/invoke/VarHandle" ∧ (parseMethodDescriptor y.desc).map (fun d => d.parameters.length) = some n) (hR : fr + 1 ≤ R.frames ∧ 8 + (maxL + 11) + 40 * fr ≤ R.locals) (hw : hW g A s f z H locs)
    (hs : ls.size = nL) (hst : st0 = As.reverse ++ rest) (hcat : (rest.map fun v => v.category).sum ≤ 8) (hdg : decode cc pc = .ok (.invokestatic index, 3)) (hf : cells + mc ≤ R.cells ∧ slots + ms ≤ R.slots)
    (kk : ∀ (H1 : Heap) (locs1 : List Loc), hW g A s f' z' H1 locs1 → W p l e R s m args below meth c H1 locs1 (cells + mc) (slots + ms) Q (F0 m (pc + 3) ls (o.toList ++ rest))) : W p l e R s m args below meth c H locs cells slots Q (F0 m pc ls st0) :=
  h_call (va_runS (As := As) (rest := rest) ⟨hx, hb, hml, hown, hts⟩ hM (va_cwS n hts hG hw0 rfl rfl hd hR) (hpre hk hw) rfl hn hs hst (lv_room hcat) hdg hf) hw kk
theorem hcallI (hx : p.tables.exec = Jvm.exec) (hb : c.code = cc) (hml : c.maxLocals = nL) (hown : s.vm.findClass own = some m.cls) (hts : ∀ w ∈ Ts, w.before args s = true) (hk : hK g s) {b : Nat} (As rest : List Value) (hM : hCt l g y ws fr mc ms (.ref b :: As) f z o f' z') (hG : GoodIn Ts ws) (hw0 : ws = Cond.code y bytes maxL none :: ws') (hini : (Cond.initialized y.cls).before args s = true) (hl : (Cond.methodLink own index y).before args s = true) (hin : (Cond.instanceMethod y).before args s = true)
    (hn : As.length = n) (hd : y.cls ≠ "java/lang/invoke/MethodHandle" ∧ y.cls ≠ "java/lang/invoke/VarHandle" ∧ (parseMethodDescriptor y.desc).map (fun d => d.parameters.length) = some n) (hy1 : y.name = "<init>") (hR : fr + 1 ≤ R.frames ∧ 8 + (maxL + 11) + 40 * fr ≤ R.locals) (hw : hW g A s f z H locs)
    (hs : ls.size = nL) (hst : st0 = As.reverse ++ .ref b :: rest) (hcat : (rest.map fun v => v.category).sum ≤ 8) (hdg : decode cc pc = .ok (.invokespecial index, 3)) (hf : cells + mc ≤ R.cells ∧ slots + ms ≤ R.slots)
    (kk : ∀ (H1 : Heap) (locs1 : List Loc), hW g A s f' z' H1 locs1 → W p l e R s m args below meth c H1 locs1 (cells + mc) (slots + ms) Q (F0 m (pc + 3) ls (o.toList ++ rest))) : W p l e R s m args below meth c H locs cells slots Q (F0 m pc ls st0) :=
  h_call (va_runI (As := As) (rest := rest) ⟨hx, hb, hml, hown, hts⟩ hM (cwI n hts hG hw0 rfl rfl hini hl hin hy1 hd hR) (hpre hk hw) rfl hn hs hst (lv_room hcat) hdg hf) hw kk
theorem hcallSN (hx : p.tables.exec = Jvm.exec) (hb : c.code = cc) (hml : c.maxLocals = nL) (hown : s.vm.findClass own = some m.cls) (hts : ∀ w ∈ Ts, w.before args s = true) (hk : hK g s) (As rest : List Value) (hM : hCt l g y ws fr mc ms As f z o f' z') (hG : GoodIn Ts ws) (hw0 : ws = Cond.code y bytes maxL ret :: ws') {host : String} (hl : va_Nw (.methodLinkNest own index y host) s) (hini : (Cond.initialized y.cls).before args s = true) (hstt : (Cond.static y).before args s = true)
    (hn : As.length = n) (hd : y.cls ≠ "java/lang/invoke/MethodHandle" ∧ y.cls ≠ "java/lang/invoke/VarHandle" ∧ (parseMethodDescriptor y.desc).map (fun d => d.parameters.length) = some n) (hR : fr + 1 ≤ R.frames ∧ 8 + (maxL + 11) + 40 * fr ≤ R.locals) (hw : hW g A s f z H locs)
    (hs : ls.size = nL) (hst : st0 = As.reverse ++ rest) (hcat : (rest.map fun v => v.category).sum ≤ 8) (hdg : decode cc pc = .ok (.invokestatic index, 3)) (hf : cells + mc ≤ R.cells ∧ slots + ms ≤ R.slots)
    (kk : ∀ (H1 : Heap) (locs1 : List Loc), hW g A s f' z' H1 locs1 → W p l e R s m args below meth c H1 locs1 (cells + mc) (slots + ms) Q (F0 m (pc + 3) ls (o.toList ++ rest))) : W p l e R s m args below meth c H locs cells slots Q (F0 m pc ls st0) :=
  h_call (va_runSN (As := As) (rest := rest) ⟨hx, hb, hml, hown, hts⟩ hM ⟨va_cnB n hts hG hw0 rfl rfl hl hini hd hR, hstt, trivial⟩ (hpre hk hw) rfl hn hs hst (lv_room hcat) hdg hf) hw kk
/-- the sort of a Thing, be it a Lamp or a Tray -/
def hgT (f : hPl) (a : Nat) : Option Int32 := (hkd f a).bind fun ci => if ci = 0 ∨ ci = 1 then hgI f a ci 0 else none
def hputT (f : hPl) (a : Nat) (v : Int32) : Option hPl := (hkd f a).bind fun ci => if ci = 0 ∨ ci = 1 then hput f a ci 0 (.int v) else none
theorem hr_getT (hexec : p.tables.exec = Jvm.exec) (hb : c.code = cc) (hts : ∀ w ∈ Ts, w.before args s = true) (hin0 : ∀ w ∈ wsX00, w ∈ Ts) (hin2 : ∀ w ∈ wsX20, w ∈ Ts) (hown : s.vm.findClass own = some m.cls) (hk : hK g s) (hw : hW g A s f z H locs) (hlink : (Cond.fieldLink own index "SetterBench$Thing" "sort" "I").before args s = true) {x : Int32} (h : hgT f a = some x) (hdg : decode cc pc = .ok (.getfield index, 3))
    (kk : W p l e R s m args below meth c H locs cells slots Q (F0 m (pc + 3) ls (.int x :: rest))) : W p l e R s m args below meth c H locs cells slots Q (F0 m pc ls (.ref a :: rest)) := by
  obtain ⟨ci, h1, h2⟩ := Option.bind_eq_some_iff.mp h
  by_cases hc : ci = 0 ∨ ci = 1
  · rw [if_pos hc] at h2
    rcases hc with rfl | rfl
    · exact hr_getI (C := RX0) (T := TX0) (N := 2) hexec hb hts hin0 hown hk hw rfl 0 (by decide) hlink (fun _ h9 => h9) h2 hdg kk
    · exact hr_getI (C := RX2) (T := TX2) (N := 2) hexec hb hts hin2 hown hk hw rfl 0 (by decide) hlink (fun _ h9 => h9) h2 hdg kk
  · rw [if_neg hc] at h2; cases h2
theorem hr_putT (hexec : p.tables.exec = Jvm.exec) (hb : c.code = cc) (hts : ∀ w ∈ Ts, w.before args s = true) (hin0 : ∀ w ∈ wsX00, w ∈ Ts) (hin2 : ∀ w ∈ wsX20, w ∈ Ts) (hown : s.vm.findClass "SetterBench$Thing" = some m.cls) (hk : hK g s) (hw : hW g A s f z H locs) (hname : meth.name = "<init>") (hlink : (Cond.fieldLink "SetterBench$Thing" index "SetterBench$Thing" "sort" "I").before args s = true) {v : Int32} {f' : hPl} (h : hputT f a v = some f') (hdg : decode cc pc = .ok (.putfield index, 3))
    (kk : ∀ (H1 : Heap) (locs1 : List Loc), hW g A s f' z H1 locs1 → W p l e R s m args below meth c H1 locs1 cells slots Q (F0 m (pc + 3) ls rest)) : W p l e R s m args below meth c H locs cells slots Q (F0 m pc ls (.int v :: .ref a :: rest)) := by
  obtain ⟨ci, h1, h2⟩ := Option.bind_eq_some_iff.mp h
  by_cases hc : ci = 0 ∨ ci = 1
  · rw [if_pos hc] at h2
    rcases hc with rfl | rfl
    · exact hr_putF (C := RX0) (T := TX0) (N := 2) (ty := .int) hexec hb hts hin0 tyX0 tyX0_ok nmX0 hown hk hw rfl 0 (by decide) hlink (fun _ h9 => h9) rfl hname rfl (by decide +kernel) rfl rfl h2 hdg kk
    · exact hr_putF (C := RX2) (T := TX2) (N := 2) (ty := .int) hexec hb hts hin2 tyX2 tyX2_ok nmX2 hown hk hw rfl 0 (by decide) hlink (fun _ h9 => h9) rfl hname rfl (by decide +kernel) rfl rfl h2 hdg kk
  · rw [if_neg hc] at h2; cases h2
theorem hbd {α β : Type} {o : Option α} {k : α → Option β} {b : β} (h : o.bind k = some b) : ∃ a, o = some a ∧ k a = some b := Option.bind_eq_some_iff.mp h
end HC
end
section
theorem iX1_init_X0 : ∀ w ∈ wsX00, w ∈ wsX1_init := by decide +kernel
theorem iX1_init_X2 : ∀ w ∈ wsX20, w ∈ wsX1_init := by decide +kernel
def fX1_init (f : hPl) (z : Nat) (a : Nat) (p1 : Int32) : Option (Unit × hPl × Nat) := (hputT f a p1).bind fun f1 => some ((), f1, z)
set_option maxHeartbeats 4000000 in
set_option maxRecDepth 100000 in
theorem kX1_init (l : Launch) (g : hGb) {f : hPl} {z : Nat} {a : Nat} {p1 : Int32} {r : Unit} {f' : hPl} {z' : Nat} (h : fX1_init f z a p1 = some (r, f', z')) : hCt l g yX1_init wsX1_init 1 0 0 [.ref a, .int p1] f z none f' z' := by
  refine hCt.of (cc := cX1_init) (maxL := 2) (ret := none) (by decide +kernel) rfl (by exact Nat.le_of_ble_eq_true rfl) ?_
  intro p e s m below meth c C hname hw ls hl
  obtain ⟨hx, hb, hml, hown, hts, hr, hlocks, hk⟩ := id C
  have hl : lv_has ls 2 [(0, .ref a), (1, .int p1)] := hl
  have hown : s.vm.findClass RX1 = some m.cls := hown
  unfold fX1_init at h
  refine lv_aload_n hx hb dX1_init_0 rfl (lv_at hl 0 rfl) ?_
  refine W.objInit hx hb hown (hts (.methodLink RX1 1 objectInit) (by decide +kernel)) (hts (.instanceMethod objectInit) (by decide +kernel)) (hts (.code objectInit ⟨#[0xb1]⟩ 1 none) (by decide +kernel)) rfl (hl.1.trans hml.symm) rfl dX1_init_1 (Nat.le_of_ble_eq_true rfl) (Nat.le_of_ble_eq_true rfl) ?_
  refine lv_aload_n hx hb dX1_init_4 rfl (lv_at hl 0 rfl) ?_
  refine lv_iload_n hx hb dX1_init_5 rfl (lv_at hl 1 rfl) ?_
  replace h := hbd h
  obtain ⟨f1, ef1, h⟩ := h
  refine hr_putT hx hb hts iX1_init_X0 iX1_init_X2 hown hk hw hname (hts (.fieldLink RX1 7 "SetterBench$Thing" "sort" "I") (by decide +kernel)) ef1 dX1_init_6 (fun H locs hw => ?_)
  cases h
  exact hret_v hx hb hr hlocks hw dX1_init_9
def fX0_init (f : hPl) (z : Nat) (a : Nat) : Option (Unit × hPl × Nat) := (fX1_init f z a 1).bind fun r1t => some ((), r1t.2.1, r1t.2.2)
set_option maxHeartbeats 4000000 in
set_option maxRecDepth 100000 in
theorem kX0_init (l : Launch) (g : hGb) {f : hPl} {z : Nat} {a : Nat} {r : Unit} {f' : hPl} {z' : Nat} (h : fX0_init f z a = some (r, f', z')) : hCt l g yX0_init wsX0_init 2 0 0 [.ref a] f z none f' z' := by
  refine hCt.of (cc := cX0_init) (maxL := 1) (ret := none) (by decide +kernel) rfl (by exact Nat.le_of_ble_eq_true rfl) ?_
  intro p e s m below meth c C hname hw ls hl
  obtain ⟨hx, hb, hml, hown, hts, hr, hlocks, hk⟩ := id C
  have hl : lv_has ls 1 [(0, .ref a)] := hl
  have hown : s.vm.findClass RX0 = some m.cls := hown
  unfold fX0_init at h
  refine lv_aload_n hx hb dX0_init_0 rfl (lv_at hl 0 rfl) ?_
  refine lv_iconst (v := 1) hx hb dX0_init_1 (by decide) ?_
  replace h := hbd h
  obtain ⟨⟨r1, f2, z3⟩, er1, h⟩ := h
  dsimp only at h
  refine hcallI (o := none) hx hb hml hown hts hk [.int 1] [] (kX1_init l g er1) gX0_init_X1_init rfl (hts (.initialized RX1) (by decide +kernel)) (hts (.methodLink RX0 3 yX1_init) (by decide +kernel)) (hts (.instanceMethod yX1_init) (by decide +kernel)) (n := 1) rfl (by decide +kernel) rfl ⟨Nat.le_of_ble_eq_true rfl, Nat.le_of_ble_eq_true rfl⟩ hw hl.1 rfl (Nat.le_of_ble_eq_true rfl) dX0_init_2 ⟨Nat.le_of_ble_eq_true rfl, Nat.le_of_ble_eq_true rfl⟩ (fun H locs hw => ?_)
  refine W.eq (g2 := F0 m 5 ls []) rfl ?_
  cases h
  exact hret_v hx hb hr hlocks hw dX0_init_5
theorem iX2_init_X2 : ∀ w ∈ wsX20, w ∈ wsX2_init := by decide +kernel
def fX2_init (f : hPl) (z : Nat) (a : Nat) (p1 : Int32) (p2 : Int32) : Option (Unit × hPl × Nat) := (fX1_init f z a p1).bind fun r1t => (if ¬ p2 < 0 ∧ p2.toNatClampNeg ≤ 40 then some () else none).bind fun _ => (some (hup r1t.2.1 r1t.2.2 (aJ p2.toNatClampNeg (fun _ => 0)))).bind fun f5 => (hput f5 a 1 1 (.ref r1t.2.2)).bind fun f6 => some ((), f6, (r1t.2.2 + 1))
set_option maxHeartbeats 4000000 in
set_option maxRecDepth 100000 in
theorem kX2_init (l : Launch) (g : hGb) {f : hPl} {z : Nat} {a : Nat} {p1 : Int32} {p2 : Int32} {r : Unit} {f' : hPl} {z' : Nat} (h : fX2_init f z a p1 p2 = some (r, f', z')) : hCt l g yX2_init wsX2_init 2 1 40 [.ref a, .int p1, .int p2] f z none f' z' := by
  refine hCt.of (cc := cX2_init) (maxL := 3) (ret := none) (by decide +kernel) rfl (by exact Nat.le_of_ble_eq_true rfl) ?_
  intro p e s m below meth c C hname hw ls hl
  obtain ⟨hx, hb, hml, hown, hts, hr, hlocks, hk⟩ := id C
  have hl : lv_has ls 3 [(0, .ref a), (1, .int p1), (2, .int p2)] := hl
  have hown : s.vm.findClass RX2 = some m.cls := hown
  unfold fX2_init at h
  refine lv_aload_n hx hb dX2_init_0 rfl (lv_at hl 0 rfl) ?_
  refine lv_iload_n hx hb dX2_init_1 rfl (lv_at hl 1 rfl) ?_
  replace h := hbd h
  obtain ⟨⟨r1, f2, z3⟩, er1, h⟩ := h
  dsimp only at h
  refine hcallI (o := none) hx hb hml hown hts hk [.int p1] [] (kX1_init l g er1) gX2_init_X1_init rfl (hts (.initialized RX1) (by decide +kernel)) (hts (.methodLink RX2 3 yX1_init) (by decide +kernel)) (hts (.instanceMethod yX1_init) (by decide +kernel)) (n := 1) rfl (by decide +kernel) rfl ⟨Nat.le_of_ble_eq_true rfl, Nat.le_of_ble_eq_true rfl⟩ hw hl.1 rfl (Nat.le_of_ble_eq_true rfl) dX2_init_2 ⟨Nat.le_of_ble_eq_true rfl, Nat.le_of_ble_eq_true rfl⟩ (fun H locs hw => ?_)
  refine W.eq (g2 := F0 m 5 ls []) rfl ?_
  refine lv_aload_n hx hb dX2_init_5 rfl (lv_at hl 0 rfl) ?_
  refine lv_iload_n hx hb dX2_init_6 rfl (lv_at hl 2 rfl) ?_
  replace h := hbd h
  obtain ⟨_, c4, h⟩ := h
  have c4 := (hif c4).1
  replace h := hbd h
  obtain ⟨f5, ef5, h⟩ := h
  have ef5 := Option.some.inj ef5
  refine hr_newJ (n := p2) (M := 40) hx hb hk (hts (.arrayClass .long) (by decide +kernel)) hw c4 (by decide) (Nat.le_of_ble_eq_true rfl) (Nat.le_of_ble_eq_true rfl) dX2_init_7 (fun H hw => ?_)
  rw [ef5] at hw
  replace h := hbd h
  obtain ⟨f6, ef6, h⟩ := h
  refine hr_putF (C := RX2) (T := TX2) (N := 2) (ty := .array .long) hx hb hts iX2_init_X2 tyX2 tyX2_ok nmX2 hown hk hw rfl 1 (by decide) (hts (.fieldLink RX2 9 "SetterBench$Tray" "cells" "[J") (by decide +kernel)) (fun _ h9 => h9) rfl hname rfl (by decide +kernel) rfl rfl ef6 dX2_init_9 (fun H locs hw => ?_)
  cases h
  exact hret_v hx hb hr hlocks hw dX2_init_12
theorem iX2_size_X2 : ∀ w ∈ wsX20, w ∈ wsX2_size := by decide +kernel
def fX2_size (f : hPl) (a : Nat) : Option Int32 := (hgQ f a 1 1).bind fun q1 => q1.bind fun a2 => (hln f a2).bind fun x3 => some x3
set_option maxHeartbeats 4000000 in
set_option maxRecDepth 100000 in
theorem kX2_size (l : Launch) (g : hGb) {f : hPl} {z : Nat} {a : Nat} {r : Int32} (h : fX2_size f a = some r) : hCt l g yX2_size wsX2_size 0 0 0 [.ref a] f z (some (.int r)) f z := by
  refine hCt.of (cc := cX2_size) (maxL := 1) (ret := (some .int)) (by decide +kernel) rfl (by exact Nat.le_of_ble_eq_true rfl) ?_
  intro p e s m below meth c C hname hw ls hl
  obtain ⟨hx, hb, hml, hown, hts, hr, hlocks, hk⟩ := id C
  have hl : lv_has ls 1 [(0, .ref a)] := hl
  have hown : s.vm.findClass RX2 = some m.cls := hown
  unfold fX2_size at h
  refine lv_aload_n hx hb dX2_size_0 rfl (lv_at hl 0 rfl) ?_
  replace h := hbd h
  obtain ⟨q1, eq1, h⟩ := h
  refine hr_getQ (C := RX2) (T := TX2) (N := 2) hx hb hts iX2_size_X2 hown hk hw rfl 1 (by decide) (hts (.fieldLink RX2 9 "SetterBench$Tray" "cells" "[J") (by decide +kernel)) (fun _ h9 => h9) eq1 dX2_size_1 ?_
  replace h := hbd h
  obtain ⟨a2, rfl, h⟩ := h
  replace h := hbd h
  obtain ⟨x3, ex3, h⟩ := h
  refine hr_len hx hb hk hw ex3 dX2_size_4 ?_
  cases h
  exact hret_i hx hb hr hlocks hw dX2_size_5
theorem iX2_isOfStones_X2 : ∀ w ∈ wsX20, w ∈ wsX2_isOfStones := by decide +kernel
def fX2_isOfStones (f : hPl) (a : Nat) : Option Int32 := (hgI f a 1 0).bind fun x1 => (if x1 < 6 then some 0 else some 1)
set_option maxHeartbeats 4000000 in
set_option maxRecDepth 100000 in
theorem kX2_isOfStones (l : Launch) (g : hGb) {f : hPl} {z : Nat} {a : Nat} {r : Int32} (h : fX2_isOfStones f a = some r) : hCt l g yX2_isOfStones wsX2_isOfStones 0 0 0 [.ref a] f z (some (.int r)) f z := by
  refine hCt.of (cc := cX2_isOfStones) (maxL := 1) (ret := (some .boolean)) (by decide +kernel) rfl (by exact Nat.le_of_ble_eq_true rfl) ?_
  intro p e s m below meth c C hname hw ls hl
  obtain ⟨hx, hb, hml, hown, hts, hr, hlocks, hk⟩ := id C
  have hl : lv_has ls 1 [(0, .ref a)] := hl
  have hown : s.vm.findClass RX2 = some m.cls := hown
  unfold fX2_isOfStones at h
  refine lv_aload_n hx hb dX2_isOfStones_0 rfl (lv_at hl 0 rfl) ?_
  replace h := hbd h
  obtain ⟨x1, ex1, h⟩ := h
  refine hr_getI (C := RX2) (T := TX2) (N := 2) hx hb hts iX2_isOfStones_X2 hown hk hw rfl 0 (by decide) (hts (.fieldLink RX2 15 "SetterBench$Tray" "sort" "I") (by decide +kernel)) (u_same (hts (.sameField "SetterBench$Tray" "SetterBench$Thing" "sort" "I") (by decide +kernel))) ex1 dX2_isOfStones_1 ?_
  refine lv_bipush (v := 6) hx hb dX2_isOfStones_4 (by decide) ?_
  refine lv_icmp_lt (tgt := 13) hx hb dX2_isOfStones_6 (by decide) (fun c2 => ?_) (fun c2 => ?_)
  · rw [if_pos c2] at h
    refine lv_iconst (v := 0) hx hb dX2_isOfStones_13 (by decide) ?_
    cases h
    exact hret_z hx hb hr hlocks hw (Or.inl rfl) dX2_isOfStones_14
  · rw [if_neg c2] at h
    refine lv_iconst (v := 1) hx hb dX2_isOfStones_9 (by decide) ?_
    refine lv_goto (tgt := 14) hx hb dX2_isOfStones_10 (by decide) ?_
    cases h
    exact hret_z hx hb hr hlocks hw (Or.inr rfl) dX2_isOfStones_14
theorem iX2_isLike_X2 : ∀ w ∈ wsX20, w ∈ wsX2_isLike := by decide +kernel
def fX2_isLike (f : hPl) (a : Nat) (p1 : Option Nat) : Option Int32 := (hgI f a 1 0).bind fun x1 => p1.bind fun a2 => (hgI f a2 1 0).bind fun x3 => (if x1 = x3 then some 1 else (hob f a 1).bind fun u5 => (fX2_isOfStones f a ).bind fun r6 => (if r6 = 0 then some 0 else (hob f a2 1).bind fun u8 => (fX2_isOfStones f a2 ).bind fun r9 => (if r9 = 0 then some 0 else some 1)))
set_option maxHeartbeats 4000000 in
set_option maxRecDepth 100000 in
theorem kX2_isLike (l : Launch) (g : hGb) {f : hPl} {z : Nat} {a : Nat} {p1 : Option Nat} {r : Int32} (h : fX2_isLike f a p1 = some r) : hCt l g yX2_isLike wsX2_isLike 1 0 0 [.ref a, va_rf p1] f z (some (.int r)) f z := by
  refine hCt.of (cc := cX2_isLike) (maxL := 2) (ret := (some .boolean)) (by decide +kernel) rfl (by cases p1 <;> exact Nat.le_of_ble_eq_true rfl) ?_
  intro p e s m below meth c C hname hw ls hl
  obtain ⟨hx, hb, hml, hown, hts, hr, hlocks, hk⟩ := id C
  have hl : lv_has ls 2 [(0, .ref a), (1, va_rf p1)] := by cases p1 <;> exact hl
  have hown : s.vm.findClass RX2 = some m.cls := hown
  unfold fX2_isLike at h
  refine lv_aload_n hx hb dX2_isLike_0 rfl (lv_at hl 0 rfl) ?_
  replace h := hbd h
  obtain ⟨x1, ex1, h⟩ := h
  refine hr_getI (C := RX2) (T := TX2) (N := 2) hx hb hts iX2_isLike_X2 hown hk hw rfl 0 (by decide) (hts (.fieldLink RX2 15 "SetterBench$Tray" "sort" "I") (by decide +kernel)) (u_same (hts (.sameField "SetterBench$Tray" "SetterBench$Thing" "sort" "I") (by decide +kernel))) ex1 dX2_isLike_1 ?_
  refine hv_aload_n hx hb dX2_isLike_4 rfl (lv_at hl 1 rfl) ?_
  replace h := hbd h
  obtain ⟨a2, rfl, h⟩ := h
  replace h := hbd h
  obtain ⟨x3, ex3, h⟩ := h
  refine hr_getI (C := RX2) (T := TX2) (N := 2) hx hb hts iX2_isLike_X2 hown hk hw rfl 0 (by decide) (hts (.fieldLink RX2 15 "SetterBench$Tray" "sort" "I") (by decide +kernel)) (u_same (hts (.sameField "SetterBench$Tray" "SetterBench$Thing" "sort" "I") (by decide +kernel))) ex3 dX2_isLike_5 ?_
  refine lv_icmp_eq (tgt := 25) hx hb dX2_isLike_8 (by decide) (fun c4 => ?_) (fun c4 => ?_)
  · rw [if_pos c4] at h
    refine lv_iconst (v := 1) hx hb dX2_isLike_25 (by decide) ?_
    refine lv_goto (tgt := 30) hx hb dX2_isLike_26 (by decide) ?_
    cases h
    exact hret_z hx hb hr hlocks hw (Or.inr rfl) dX2_isLike_30
  · rw [if_neg c4] at h
    refine lv_aload_n hx hb dX2_isLike_11 rfl (lv_at hl 0 rfl) ?_
    replace h := hbd h
    obtain ⟨u5, eu5, h⟩ := h
    replace h := hbd h
    obtain ⟨r6, er6, h⟩ := h
    refine hcallV (o := some (.int r6)) hx hb hml hown hts hk [] [] (kX2_isOfStones l g er6) gX2_isLike_X2_isOfStones rfl (n := 0) rfl (by decide +kernel) ⟨Nat.le_of_ble_eq_true rfl, Nat.le_of_ble_eq_true rfl⟩ (ci := 1) rfl eu5 hw hl.1 rfl (Nat.le_of_ble_eq_true rfl) dX2_isLike_12 ⟨Nat.le_of_ble_eq_true rfl, Nat.le_of_ble_eq_true rfl⟩ (fun H locs hw => ?_)
    refine W.eq (g2 := F0 m 15 ls [.int r6]) rfl ?_
    refine lv_if_eq (tgt := 29) hx hb dX2_isLike_15 (by decide) (fun c7 => ?_) (fun c7 => ?_)
    · rw [if_pos c7] at h
      refine lv_iconst (v := 0) hx hb dX2_isLike_29 (by decide) ?_
      cases h
      exact hret_z hx hb hr hlocks hw (Or.inl rfl) dX2_isLike_30
    · rw [if_neg c7] at h
      refine lv_aload_n hx hb dX2_isLike_18 rfl (lv_at hl 1 rfl) ?_
      replace h := hbd h
      obtain ⟨u8, eu8, h⟩ := h
      replace h := hbd h
      obtain ⟨r9, er9, h⟩ := h
      refine hcallV (o := some (.int r9)) hx hb hml hown hts hk [] [] (kX2_isOfStones l g er9) gX2_isLike_X2_isOfStones rfl (n := 0) rfl (by decide +kernel) ⟨Nat.le_of_ble_eq_true rfl, Nat.le_of_ble_eq_true rfl⟩ (ci := 1) rfl eu8 hw hl.1 rfl (Nat.le_of_ble_eq_true rfl) dX2_isLike_19 ⟨Nat.le_of_ble_eq_true rfl, Nat.le_of_ble_eq_true rfl⟩ (fun H locs hw => ?_)
      refine W.eq (g2 := F0 m 22 ls [.int r9]) rfl ?_
      refine lv_if_eq (tgt := 29) hx hb dX2_isLike_22 (by decide) (fun c10 => ?_) (fun c10 => ?_)
      · rw [if_pos c10] at h
        refine lv_iconst (v := 0) hx hb dX2_isLike_29 (by decide) ?_
        cases h
        exact hret_z hx hb hr hlocks hw (Or.inl rfl) dX2_isLike_30
      · rw [if_neg c10] at h
        refine lv_iconst (v := 1) hx hb dX2_isLike_25 (by decide) ?_
        refine lv_goto (tgt := 30) hx hb dX2_isLike_26 (by decide) ?_
        cases h
        exact hret_z hx hb hr hlocks hw (Or.inr rfl) dX2_isLike_30
theorem iX2_hasRun_X2 : ∀ w ∈ wsX20, w ∈ wsX2_hasRun := by decide +kernel
def fX2_hasRun (f : hPl) (a : Nat) (p1 : Int32) (p2 : Int32) : Option Int32 := (if p1 < 0 then some 0 else (if p2 < 0 then some 0 else (hgQ f a 1 1).bind fun q3 => q3.bind fun a4 => (hln f a4).bind fun x5 => (if 0 < (lg_cmp ((p1.toInt64) + (p2.toInt64)) (x5.toInt64)) then some 0 else some 1)))
set_option maxHeartbeats 4000000 in
set_option maxRecDepth 100000 in
theorem kX2_hasRun (l : Launch) (g : hGb) {f : hPl} {z : Nat} {a : Nat} {p1 : Int32} {p2 : Int32} {r : Int32} (h : fX2_hasRun f a p1 p2 = some r) : hCt l g yX2_hasRun wsX2_hasRun 0 0 0 [.ref a, .int p1, .int p2] f z (some (.int r)) f z := by
  refine hCt.of (cc := cX2_hasRun) (maxL := 3) (ret := (some .boolean)) (by decide +kernel) rfl (by exact Nat.le_of_ble_eq_true rfl) ?_
  intro p e s m below meth c C hname hw ls hl
  obtain ⟨hx, hb, hml, hown, hts, hr, hlocks, hk⟩ := id C
  have hl : lv_has ls 3 [(0, .ref a), (1, .int p1), (2, .int p2)] := hl
  have hown : s.vm.findClass RX2 = some m.cls := hown
  unfold fX2_hasRun at h
  refine lv_iload_n hx hb dX2_hasRun_0 rfl (lv_at hl 1 rfl) ?_
  refine lv_if_lt (tgt := 27) hx hb dX2_hasRun_1 (by decide) (fun c1 => ?_) (fun c1 => ?_)
  · rw [if_pos c1] at h
    refine lv_iconst (v := 0) hx hb dX2_hasRun_27 (by decide) ?_
    cases h
    exact hret_z hx hb hr hlocks hw (Or.inl rfl) dX2_hasRun_28
  · rw [if_neg c1] at h
    refine lv_iload_n hx hb dX2_hasRun_4 rfl (lv_at hl 2 rfl) ?_
    refine lv_if_lt (tgt := 27) hx hb dX2_hasRun_5 (by decide) (fun c2 => ?_) (fun c2 => ?_)
    · rw [if_pos c2] at h
      refine lv_iconst (v := 0) hx hb dX2_hasRun_27 (by decide) ?_
      cases h
      exact hret_z hx hb hr hlocks hw (Or.inl rfl) dX2_hasRun_28
    · rw [if_neg c2] at h
      refine lv_iload_n hx hb dX2_hasRun_8 rfl (lv_at hl 1 rfl) ?_
      refine lv_i2l hx hb dX2_hasRun_9 rfl ?_
      refine lv_iload_n hx hb dX2_hasRun_10 rfl (lv_at hl 2 rfl) ?_
      refine lv_i2l hx hb dX2_hasRun_11 rfl ?_
      refine lv_ladd hx hb dX2_hasRun_12 ?_
      refine lv_aload_n hx hb dX2_hasRun_13 rfl (lv_at hl 0 rfl) ?_
      replace h := hbd h
      obtain ⟨q3, eq3, h⟩ := h
      refine hr_getQ (C := RX2) (T := TX2) (N := 2) hx hb hts iX2_hasRun_X2 hown hk hw rfl 1 (by decide) (hts (.fieldLink RX2 9 "SetterBench$Tray" "cells" "[J") (by decide +kernel)) (fun _ h9 => h9) eq3 dX2_hasRun_14 ?_
      replace h := hbd h
      obtain ⟨a4, rfl, h⟩ := h
      replace h := hbd h
      obtain ⟨x5, ex5, h⟩ := h
      refine hr_len hx hb hk hw ex5 dX2_hasRun_17 ?_
      refine lv_i2l hx hb dX2_hasRun_18 rfl ?_
      refine W.lcmp hx hb dX2_hasRun_19 ?_
      refine lv_if_gt (tgt := 27) hx hb dX2_hasRun_20 (by decide) (fun c6 => ?_) (fun c6 => ?_)
      · rw [if_pos c6] at h
        refine lv_iconst (v := 0) hx hb dX2_hasRun_27 (by decide) ?_
        cases h
        exact hret_z hx hb hr hlocks hw (Or.inl rfl) dX2_hasRun_28
      · rw [if_neg c6] at h
        refine lv_iconst (v := 1) hx hb dX2_hasRun_23 (by decide) ?_
        refine lv_goto (tgt := 28) hx hb dX2_hasRun_24 (by decide) ?_
        cases h
        exact hret_z hx hb hr hlocks hw (Or.inr rfl) dX2_hasRun_28
theorem iX2_read_X2 : ∀ w ∈ wsX20, w ∈ wsX2_read := by decide +kernel
def fX2_read (f : hPl) (a : Nat) (p1 : Int32) : Option Int64 := (hob f a 1).bind fun u1 => (fX2_hasRun f a p1 1).bind fun r2 => (if r2 = 0 then some (-1 : Int64) else (hgQ f a 1 1).bind fun q4 => q4.bind fun a5 => (hlJ f a5 p1).bind fun x6 => some x6)
set_option maxHeartbeats 4000000 in
set_option maxRecDepth 100000 in
theorem kX2_read (l : Launch) (g : hGb) {f : hPl} {z : Nat} {a : Nat} {p1 : Int32} {r : Int64} (h : fX2_read f a p1 = some r) : hCt l g yX2_read wsX2_read 1 0 0 [.ref a, .int p1] f z (some (.long r)) f z := by
  refine hCt.of (cc := cX2_read) (maxL := 2) (ret := (some .long)) (by decide +kernel) rfl (by exact Nat.le_of_ble_eq_true rfl) ?_
  intro p e s m below meth c C hname hw ls hl
  obtain ⟨hx, hb, hml, hown, hts, hr, hlocks, hk⟩ := id C
  have hl : lv_has ls 2 [(0, .ref a), (1, .int p1)] := hl
  have hown : s.vm.findClass RX2 = some m.cls := hown
  unfold fX2_read at h
  refine lv_aload_n hx hb dX2_read_0 rfl (lv_at hl 0 rfl) ?_
  refine lv_iload_n hx hb dX2_read_1 rfl (lv_at hl 1 rfl) ?_
  refine lv_iconst (v := 1) hx hb dX2_read_2 (by decide) ?_
  replace h := hbd h
  obtain ⟨u1, eu1, h⟩ := h
  replace h := hbd h
  obtain ⟨r2, er2, h⟩ := h
  refine hcallV (o := some (.int r2)) hx hb hml hown hts hk [.int p1, .int 1] [] (kX2_hasRun l g er2) gX2_read_X2_hasRun rfl (n := 2) rfl (by decide +kernel) ⟨Nat.le_of_ble_eq_true rfl, Nat.le_of_ble_eq_true rfl⟩ (ci := 1) rfl eu1 hw hl.1 rfl (Nat.le_of_ble_eq_true rfl) dX2_read_3 ⟨Nat.le_of_ble_eq_true rfl, Nat.le_of_ble_eq_true rfl⟩ (fun H locs hw => ?_)
  refine W.eq (g2 := F0 m 6 ls [.int r2]) rfl ?_
  refine lv_if_eq (tgt := 18) hx hb dX2_read_6 (by decide) (fun c3 => ?_) (fun c3 => ?_)
  · rw [if_pos c3] at h
    refine lv_ldc2 (v := (-1)) hx hb hown (hts (.constantLong RX2 27 (-1)) (by decide +kernel)) dX2_read_18 ?_
    cases h
    exact hret_l hx hb hr hlocks hw dX2_read_21
  · rw [if_neg c3] at h
    refine lv_aload_n hx hb dX2_read_9 rfl (lv_at hl 0 rfl) ?_
    replace h := hbd h
    obtain ⟨q4, eq4, h⟩ := h
    refine hr_getQ (C := RX2) (T := TX2) (N := 2) hx hb hts iX2_read_X2 hown hk hw rfl 1 (by decide) (hts (.fieldLink RX2 9 "SetterBench$Tray" "cells" "[J") (by decide +kernel)) (fun _ h9 => h9) eq4 dX2_read_10 ?_
    refine lv_iload_n hx hb dX2_read_13 rfl (lv_at hl 1 rfl) ?_
    replace h := hbd h
    obtain ⟨a5, rfl, h⟩ := h
    replace h := hbd h
    obtain ⟨x6, ex6, h⟩ := h
    refine hr_lJ hx hb hk hw ex6 dX2_read_14 ?_
    refine lv_goto (tgt := 21) hx hb dX2_read_15 (by decide) ?_
    cases h
    exact hret_l hx hb hr hlocks hw dX2_read_21
theorem iX2_write_X2 : ∀ w ∈ wsX20, w ∈ wsX2_write := by decide +kernel
def fX2_write (f : hPl) (z : Nat) (a : Nat) (p1 : Int32) (p2 : Int64) : Option (Int32 × hPl × Nat) := (hob f a 1).bind fun u1 => (fX2_hasRun f a p1 1).bind fun r2 => (if r2 = 0 then some (0, f, z) else (hgQ f a 1 1).bind fun q4 => q4.bind fun a5 => (hsJ f a5 p1 p2).bind fun f6 => some (1, f6, z))
set_option maxHeartbeats 4000000 in
set_option maxRecDepth 100000 in
theorem kX2_write (l : Launch) (g : hGb) {f : hPl} {z : Nat} {a : Nat} {p1 : Int32} {p2 : Int64} {r : Int32} {f' : hPl} {z' : Nat} (h : fX2_write f z a p1 p2 = some (r, f', z')) : hCt l g yX2_write wsX2_write 1 0 0 [.ref a, .int p1, .long p2] f z (some (.int r)) f' z' := by
  refine hCt.of (cc := cX2_write) (maxL := 4) (ret := (some .boolean)) (by decide +kernel) rfl (by exact Nat.le_of_ble_eq_true rfl) ?_
  intro p e s m below meth c C hname hw ls hl
  obtain ⟨hx, hb, hml, hown, hts, hr, hlocks, hk⟩ := id C
  have hl : lv_has ls 4 [(0, .ref a), (1, .int p1), (2, .long p2)] := hl
  have hown : s.vm.findClass RX2 = some m.cls := hown
  unfold fX2_write at h
  refine lv_aload_n hx hb dX2_write_0 rfl (lv_at hl 0 rfl) ?_
  refine lv_iload_n hx hb dX2_write_1 rfl (lv_at hl 1 rfl) ?_
  refine lv_iconst (v := 1) hx hb dX2_write_2 (by decide) ?_
  replace h := hbd h
  obtain ⟨u1, eu1, h⟩ := h
  replace h := hbd h
  obtain ⟨r2, er2, h⟩ := h
  refine hcallV (o := some (.int r2)) hx hb hml hown hts hk [.int p1, .int 1] [] (kX2_hasRun l g er2) gX2_write_X2_hasRun rfl (n := 2) rfl (by decide +kernel) ⟨Nat.le_of_ble_eq_true rfl, Nat.le_of_ble_eq_true rfl⟩ (ci := 1) rfl eu1 hw hl.1 rfl (Nat.le_of_ble_eq_true rfl) dX2_write_3 ⟨Nat.le_of_ble_eq_true rfl, Nat.le_of_ble_eq_true rfl⟩ (fun H locs hw => ?_)
  refine W.eq (g2 := F0 m 6 ls [.int r2]) rfl ?_
  refine lv_if_ne (tgt := 11) hx hb dX2_write_6 (by decide) (fun c3 => ?_) (fun c3 => ?_)
  · rw [if_neg c3] at h
    refine lv_aload_n hx hb dX2_write_11 rfl (lv_at hl 0 rfl) ?_
    replace h := hbd h
    obtain ⟨q4, eq4, h⟩ := h
    refine hr_getQ (C := RX2) (T := TX2) (N := 2) hx hb hts iX2_write_X2 hown hk hw rfl 1 (by decide) (hts (.fieldLink RX2 9 "SetterBench$Tray" "cells" "[J") (by decide +kernel)) (fun _ h9 => h9) eq4 dX2_write_12 ?_
    refine lv_iload_n hx hb dX2_write_15 rfl (lv_at hl 1 rfl) ?_
    refine lv_lload_n hx hb dX2_write_16 rfl (lv_at hl 2 rfl) ?_
    replace h := hbd h
    obtain ⟨a5, rfl, h⟩ := h
    replace h := hbd h
    obtain ⟨f6, ef6, h⟩ := h
    refine hr_sJ hx hb hk hw ef6 dX2_write_17 (fun H locs hw => ?_)
    refine lv_iconst (v := 1) hx hb dX2_write_18 (by decide) ?_
    cases h
    exact hret_z hx hb hr hlocks hw (Or.inr rfl) dX2_write_19
  · rw [if_pos c3] at h
    refine lv_iconst (v := 0) hx hb dX2_write_9 (by decide) ?_
    cases h
    exact hret_z hx hb hr hlocks hw (Or.inl rfl) dX2_write_10
theorem iX2_stoneSortAt_X2 : ∀ w ∈ wsX20, w ∈ wsX2_stoneSortAt := by decide +kernel
def fX2_stoneSortAt (f : hPl) (a : Nat) (p1 : Int32) : Option Int32 := (hob f a 1).bind fun u1 => (fX2_hasRun f a p1 1).bind fun r2 => (if r2 = 0 then some 0 else (hgQ f a 1 1).bind fun q4 => q4.bind fun a5 => (hlJ f a5 p1).bind fun x6 => some ((x6 - x6 / (10 : Int64) * (10 : Int64)).toInt32))
set_option maxHeartbeats 4000000 in
set_option maxRecDepth 100000 in
theorem kX2_stoneSortAt (l : Launch) (g : hGb) {f : hPl} {z : Nat} {a : Nat} {p1 : Int32} {r : Int32} (h : fX2_stoneSortAt f a p1 = some r) : hCt l g yX2_stoneSortAt wsX2_stoneSortAt 1 0 0 [.ref a, .int p1] f z (some (.int r)) f z := by
  refine hCt.of (cc := cX2_stoneSortAt) (maxL := 2) (ret := (some .int)) (by decide +kernel) rfl (by exact Nat.le_of_ble_eq_true rfl) ?_
  intro p e s m below meth c C hname hw ls hl
  obtain ⟨hx, hb, hml, hown, hts, hr, hlocks, hk⟩ := id C
  have hl : lv_has ls 2 [(0, .ref a), (1, .int p1)] := hl
  have hown : s.vm.findClass RX2 = some m.cls := hown
  unfold fX2_stoneSortAt at h
  refine lv_aload_n hx hb dX2_stoneSortAt_0 rfl (lv_at hl 0 rfl) ?_
  refine lv_iload_n hx hb dX2_stoneSortAt_1 rfl (lv_at hl 1 rfl) ?_
  refine lv_iconst (v := 1) hx hb dX2_stoneSortAt_2 (by decide) ?_
  replace h := hbd h
  obtain ⟨u1, eu1, h⟩ := h
  replace h := hbd h
  obtain ⟨r2, er2, h⟩ := h
  refine hcallV (o := some (.int r2)) hx hb hml hown hts hk [.int p1, .int 1] [] (kX2_hasRun l g er2) gX2_stoneSortAt_X2_hasRun rfl (n := 2) rfl (by decide +kernel) ⟨Nat.le_of_ble_eq_true rfl, Nat.le_of_ble_eq_true rfl⟩ (ci := 1) rfl eu1 hw hl.1 rfl (Nat.le_of_ble_eq_true rfl) dX2_stoneSortAt_3 ⟨Nat.le_of_ble_eq_true rfl, Nat.le_of_ble_eq_true rfl⟩ (fun H locs hw => ?_)
  refine W.eq (g2 := F0 m 6 ls [.int r2]) rfl ?_
  refine lv_if_eq (tgt := 23) hx hb dX2_stoneSortAt_6 (by decide) (fun c3 => ?_) (fun c3 => ?_)
  · rw [if_pos c3] at h
    refine lv_iconst (v := 0) hx hb dX2_stoneSortAt_23 (by decide) ?_
    cases h
    exact hret_i hx hb hr hlocks hw dX2_stoneSortAt_24
  · rw [if_neg c3] at h
    refine lv_aload_n hx hb dX2_stoneSortAt_9 rfl (lv_at hl 0 rfl) ?_
    replace h := hbd h
    obtain ⟨q4, eq4, h⟩ := h
    refine hr_getQ (C := RX2) (T := TX2) (N := 2) hx hb hts iX2_stoneSortAt_X2 hown hk hw rfl 1 (by decide) (hts (.fieldLink RX2 9 "SetterBench$Tray" "cells" "[J") (by decide +kernel)) (fun _ h9 => h9) eq4 dX2_stoneSortAt_10 ?_
    refine lv_iload_n hx hb dX2_stoneSortAt_13 rfl (lv_at hl 1 rfl) ?_
    replace h := hbd h
    obtain ⟨a5, rfl, h⟩ := h
    replace h := hbd h
    obtain ⟨x6, ex6, h⟩ := h
    refine hr_lJ hx hb hk hw ex6 dX2_stoneSortAt_14 ?_
    refine lv_ldc2 (v := (10)) hx hb hown (hts (.constantLong RX2 29 (10)) (by decide +kernel)) dX2_stoneSortAt_15 ?_
    refine lv_lrem hx hb dX2_stoneSortAt_18 (by decide) ?_
    refine lv_l2i hx hb dX2_stoneSortAt_19 rfl ?_
    refine lv_goto (tgt := 24) hx hb dX2_stoneSortAt_20 (by decide) ?_
    cases h
    exact hret_i hx hb hr hlocks hw dX2_stoneSortAt_24
def fX3_isRound (f : hPl) (p1 : Int32) : Option Int32 := (if p1 = 3 then some 1 else (if p1 = 4 then some 1 else some 0))
set_option maxHeartbeats 4000000 in
set_option maxRecDepth 100000 in
theorem kX3_isRound (l : Launch) (g : hGb) {f : hPl} {z : Nat} {p1 : Int32} {r : Int32} (h : fX3_isRound f p1 = some r) : hCt l g yX3_isRound wsX3_isRound 0 0 0 [.int p1] f z (some (.int r)) f z := by
  refine hCt.of (cc := cX3_isRound) (maxL := 1) (ret := (some .boolean)) (by decide +kernel) rfl (by exact Nat.le_of_ble_eq_true rfl) ?_
  intro p e s m below meth c C hname hw ls hl
  obtain ⟨hx, hb, hml, hown, hts, hr, hlocks, hk⟩ := id C
  have hl : lv_has ls 1 [(0, .int p1)] := hl
  have hown : s.vm.findClass RX3 = some m.cls := hown
  unfold fX3_isRound at h
  refine lv_iload_n hx hb dX3_isRound_0 rfl (lv_at hl 0 rfl) ?_
  refine lv_iconst (v := 3) hx hb dX3_isRound_1 (by decide) ?_
  refine lv_icmp_eq (tgt := 10) hx hb dX3_isRound_2 (by decide) (fun c1 => ?_) (fun c1 => ?_)
  · rw [if_pos c1] at h
    refine lv_iconst (v := 1) hx hb dX3_isRound_10 (by decide) ?_
    refine lv_goto (tgt := 15) hx hb dX3_isRound_11 (by decide) ?_
    cases h
    exact hret_z hx hb hr hlocks hw (Or.inr rfl) dX3_isRound_15
  · rw [if_neg c1] at h
    refine lv_iload_n hx hb dX3_isRound_5 rfl (lv_at hl 0 rfl) ?_
    refine lv_iconst (v := 4) hx hb dX3_isRound_6 (by decide) ?_
    refine lv_icmp_ne (tgt := 14) hx hb dX3_isRound_7 (by decide) (fun c2 => ?_) (fun c2 => ?_)
    · rw [if_neg c2] at h
      refine lv_iconst (v := 0) hx hb dX3_isRound_14 (by decide) ?_
      cases h
      exact hret_z hx hb hr hlocks hw (Or.inl rfl) dX3_isRound_15
    · rw [if_pos c2] at h
      refine lv_iconst (v := 1) hx hb dX3_isRound_10 (by decide) ?_
      refine lv_goto (tgt := 15) hx hb dX3_isRound_11 (by decide) ?_
      cases h
      exact hret_z hx hb hr hlocks hw (Or.inr rfl) dX3_isRound_15
theorem iX2_takesStone_X2 : ∀ w ∈ wsX20, w ∈ wsX2_takesStone := by decide +kernel
def fX2_takesStone (f : hPl) (a : Nat) (p1 : Int32) : Option Int32 := (if p1 = 0 then some 1 else (hgI f a 1 0).bind fun x2 => (if x2.toInt < 7 ∨ 10 < x2.toInt then some 1 else if x2 = 7 then (if p1 = 2 then some 1 else (if p1 = 3 then some 1 else some 0)) else if x2 = 8 then (if p1 = 3 then some 1 else some 0) else if x2 = 9 then (if p1 = 4 then some 1 else some 0) else if x2 = 10 then (fX3_isRound f  p1).bind fun r12 => (if r12 = 0 ∨ r12 = 1 then some r12 else none) else none))
set_option maxHeartbeats 4000000 in
set_option maxRecDepth 100000 in
theorem kX2_takesStone (l : Launch) (g : hGb) {f : hPl} {z : Nat} {a : Nat} {p1 : Int32} {r : Int32} (h : fX2_takesStone f a p1 = some r) : hCt l g yX2_takesStone wsX2_takesStone 1 0 0 [.ref a, .int p1] f z (some (.int r)) f z := by
  refine hCt.of (cc := cX2_takesStone) (maxL := 2) (ret := (some .boolean)) (by decide +kernel) rfl (by exact Nat.le_of_ble_eq_true rfl) ?_
  intro p e s m below meth c C hname hw ls hl
  obtain ⟨hx, hb, hml, hown, hts, hr, hlocks, hk⟩ := id C
  have hl : lv_has ls 2 [(0, .ref a), (1, .int p1)] := hl
  have hown : s.vm.findClass RX2 = some m.cls := hown
  unfold fX2_takesStone at h
  refine lv_iload_n hx hb dX2_takesStone_0 rfl (lv_at hl 1 rfl) ?_
  refine lv_if_ne (tgt := 6) hx hb dX2_takesStone_1 (by decide) (fun c1 => ?_) (fun c1 => ?_)
  · rw [if_neg c1] at h
    refine lv_aload_n hx hb dX2_takesStone_6 rfl (lv_at hl 0 rfl) ?_
    replace h := hbd h
    obtain ⟨x2, ex2, h⟩ := h
    refine hr_getI (C := RX2) (T := TX2) (N := 2) hx hb hts iX2_takesStone_X2 hown hk hw rfl 0 (by decide) (hts (.fieldLink RX2 15 "SetterBench$Tray" "sort" "I") (by decide +kernel)) (u_same (hts (.sameField "SetterBench$Tray" "SetterBench$Thing" "sort" "I") (by decide +kernel))) ex2 dX2_takesStone_7 ?_
    by_cases c3 : x2.toInt < 7 ∨ 10 < x2.toInt
    · rw [if_pos c3] at h
      refine lv_tableOut (tgt := 83) hx hb dX2_takesStone_10 c3 (by decide) ?_
      refine lv_iconst (v := 1) hx hb dX2_takesStone_83 (by decide) ?_
      cases h
      exact hret_z hx hb hr hlocks hw (Or.inr rfl) dX2_takesStone_84
    rw [if_neg c3] at h
    by_cases c4 : x2 = 7
    · rw [if_pos c4] at h
      refine hv_arm (off := 30) (tgt := 40) hx hb c4 dX2_takesStone_10 (by decide) (by decide) (by decide) (by decide) ?_
      refine lv_iload_n hx hb dX2_takesStone_40 rfl (lv_at hl 1 rfl) ?_
      refine lv_iconst (v := 2) hx hb dX2_takesStone_41 (by decide) ?_
      refine lv_icmp_eq (tgt := 50) hx hb dX2_takesStone_42 (by decide) (fun c5 => ?_) (fun c5 => ?_)
      · rw [if_pos c5] at h
        refine lv_iconst (v := 1) hx hb dX2_takesStone_50 (by decide) ?_
        refine lv_goto (tgt := 55) hx hb dX2_takesStone_51 (by decide) ?_
        cases h
        exact hret_z hx hb hr hlocks hw (Or.inr rfl) dX2_takesStone_55
      · rw [if_neg c5] at h
        refine lv_iload_n hx hb dX2_takesStone_45 rfl (lv_at hl 1 rfl) ?_
        refine lv_iconst (v := 3) hx hb dX2_takesStone_46 (by decide) ?_
        refine lv_icmp_ne (tgt := 54) hx hb dX2_takesStone_47 (by decide) (fun c6 => ?_) (fun c6 => ?_)
        · rw [if_neg c6] at h
          refine lv_iconst (v := 0) hx hb dX2_takesStone_54 (by decide) ?_
          cases h
          exact hret_z hx hb hr hlocks hw (Or.inl rfl) dX2_takesStone_55
        · rw [if_pos c6] at h
          refine lv_iconst (v := 1) hx hb dX2_takesStone_50 (by decide) ?_
          refine lv_goto (tgt := 55) hx hb dX2_takesStone_51 (by decide) ?_
          cases h
          exact hret_z hx hb hr hlocks hw (Or.inr rfl) dX2_takesStone_55
    rw [if_neg c4] at h
    by_cases c7 : x2 = 8
    · rw [if_pos c7] at h
      refine hv_arm (off := 46) (tgt := 56) hx hb c7 dX2_takesStone_10 (by decide) (by decide) (by decide) (by decide) ?_
      refine lv_iload_n hx hb dX2_takesStone_56 rfl (lv_at hl 1 rfl) ?_
      refine lv_iconst (v := 3) hx hb dX2_takesStone_57 (by decide) ?_
      refine lv_icmp_ne (tgt := 65) hx hb dX2_takesStone_58 (by decide) (fun c8 => ?_) (fun c8 => ?_)
      · rw [if_neg c8] at h
        refine lv_iconst (v := 0) hx hb dX2_takesStone_65 (by decide) ?_
        cases h
        exact hret_z hx hb hr hlocks hw (Or.inl rfl) dX2_takesStone_66
      · rw [if_pos c8] at h
        refine lv_iconst (v := 1) hx hb dX2_takesStone_61 (by decide) ?_
        refine lv_goto (tgt := 66) hx hb dX2_takesStone_62 (by decide) ?_
        cases h
        exact hret_z hx hb hr hlocks hw (Or.inr rfl) dX2_takesStone_66
    rw [if_neg c7] at h
    by_cases c9 : x2 = 9
    · rw [if_pos c9] at h
      refine hv_arm (off := 57) (tgt := 67) hx hb c9 dX2_takesStone_10 (by decide) (by decide) (by decide) (by decide) ?_
      refine lv_iload_n hx hb dX2_takesStone_67 rfl (lv_at hl 1 rfl) ?_
      refine lv_iconst (v := 4) hx hb dX2_takesStone_68 (by decide) ?_
      refine lv_icmp_ne (tgt := 76) hx hb dX2_takesStone_69 (by decide) (fun c10 => ?_) (fun c10 => ?_)
      · rw [if_neg c10] at h
        refine lv_iconst (v := 0) hx hb dX2_takesStone_76 (by decide) ?_
        cases h
        exact hret_z hx hb hr hlocks hw (Or.inl rfl) dX2_takesStone_77
      · rw [if_pos c10] at h
        refine lv_iconst (v := 1) hx hb dX2_takesStone_72 (by decide) ?_
        refine lv_goto (tgt := 77) hx hb dX2_takesStone_73 (by decide) ?_
        cases h
        exact hret_z hx hb hr hlocks hw (Or.inr rfl) dX2_takesStone_77
    rw [if_neg c9] at h
    by_cases c11 : x2 = 10
    · rw [if_pos c11] at h
      refine hv_arm (off := 68) (tgt := 78) hx hb c11 dX2_takesStone_10 (by decide) (by decide) (by decide) (by decide) ?_
      refine lv_iload_n hx hb dX2_takesStone_78 rfl (lv_at hl 1 rfl) ?_
      replace h := hbd h
      obtain ⟨r12, er12, h⟩ := h
      refine hcallSN (o := some (.int r12)) hx hb hml hown hts hk [.int p1] [] (kX3_isRound l g er12) gX2_takesStone_X3_isRound_n39 rfl hk.2.1 (hts (.initialized RX3) (by decide +kernel)) (hts (.static yX3_isRound) (by decide +kernel)) (n := 1) rfl (by decide +kernel) ⟨Nat.le_of_ble_eq_true rfl, Nat.le_of_ble_eq_true rfl⟩ hw hl.1 rfl (Nat.le_of_ble_eq_true rfl) dX2_takesStone_79 ⟨Nat.le_of_ble_eq_true rfl, Nat.le_of_ble_eq_true rfl⟩ (fun H locs hw => ?_)
      refine W.eq (g2 := F0 m 82 ls [.int r12]) rfl ?_
      obtain ⟨c13, h⟩ := hif h
      cases h
      exact hret_z hx hb hr hlocks hw c13 dX2_takesStone_82
    rw [if_neg c11] at h
    cases h
  · rw [if_pos c1] at h
    refine lv_iconst (v := 1) hx hb dX2_takesStone_4 (by decide) ?_
    cases h
    exact hret_z hx hb hr hlocks hw (Or.inr rfl) dX2_takesStone_5
def fX2_howManyTaken_j12s (rec : hPl → Nat → Option Nat → Int32 → Int32 → Int32 → Option Int32) (f : hPl) (a : Nat) (v1 : Option Nat) (v2 : Int32) (v3 : Int32) (v4 : Int32) : Option Int32 := (if v3 ≤ v4 then some v3 else v1.bind fun a5 => (hob f a5 1).bind fun u6 => (fX2_stoneSortAt f a5 (v2 + v4)).bind fun r7 => (hob f a 1).bind fun u8 => (fX2_takesStone f a r7).bind fun r9 => (if r9 = 0 then some v4 else rec f a (some a5) v2 v3 (v4 + 1)))
set_option maxHeartbeats 4000000 in
set_option maxRecDepth 100000 in
theorem kX2_howManyTaken_j12s {g : hGb} {p : Program} {l : Launch} {e : Env} {s : State} {m : MethodId} {args : Array Value} {below : List Frame} {meth : Method} {c : Code} {A : Nat → Prop} (C : hX g p s m args meth c RX2 cX2_howManyTaken 5 wsX2_howManyTaken (some .int)) {f : hPl} {z : Nat} {r : Int32} (rec : hPl → Nat → Option Nat → Int32 → Int32 → Int32 → Option Int32) (hrec : ∀ (a : Nat) (v1 : Option Nat) (v2 : Int32) (v3 : Int32) (v4 : Int32), rec f a v1 v2 v3 v4 = some r → ∀ (H : Heap) (locs : List Loc) (ls : Array Slot), hW g A s f z H locs → lv_has ls 5 [(0, .ref a), (1, va_rf v1), (2, .int v2), (3, .int v3), (4, .int v4)] → W p l e (hRm 2 0 0) s m args below meth c H locs 0 0 (hZ g A below args s 0 0 (some (.int r)) f z) (F0 m 12 ls []))  : ∀ (a : Nat) (v1 : Option Nat) (v2 : Int32) (v3 : Int32) (v4 : Int32), fX2_howManyTaken_j12s rec f a v1 v2 v3 v4 = some r → ∀ (H : Heap) (locs : List Loc) (ls : Array Slot), hW g A s f z H locs → lv_has ls 5 [(0, .ref a), (1, va_rf v1), (2, .int v2), (3, .int v3), (4, .int v4)] → W p l e (hRm 2 0 0) s m args below meth c H locs 0 0 (hZ g A below args s 0 0 (some (.int r)) f z) (F0 m 12 ls []) := by
  obtain ⟨hx, hb, hml, hown, hts, hr, hlocks, hk⟩ := id C
  intro a v1 v2 v3 v4 h H locs ls hw hl
  unfold fX2_howManyTaken_j12s at h
  refine lv_iload hx hb dX2_howManyTaken_12 (lv_at hl 4 rfl) ?_
  refine lv_iload_n hx hb dX2_howManyTaken_14 rfl (lv_at hl 3 rfl) ?_
  refine lv_icmp_ge (tgt := 42) hx hb dX2_howManyTaken_15 (by decide) (fun c4 => ?_) (fun c4 => ?_)
  · rw [if_pos c4] at h
    refine lv_iload_n hx hb dX2_howManyTaken_42 rfl (lv_at hl 3 rfl) ?_
    cases h
    exact hret_i hx hb hr hlocks hw dX2_howManyTaken_43
  · rw [if_neg c4] at h
    refine lv_aload_n hx hb dX2_howManyTaken_18 rfl (lv_at hl 0 rfl) ?_
    refine hv_aload_n hx hb dX2_howManyTaken_19 rfl (lv_at hl 1 rfl) ?_
    refine lv_iload_n hx hb dX2_howManyTaken_20 rfl (lv_at hl 2 rfl) ?_
    refine lv_iload hx hb dX2_howManyTaken_21 (lv_at hl 4 rfl) ?_
    refine lv_iadd hx hb dX2_howManyTaken_23 ?_
    replace h := hbd h
    obtain ⟨a5, rfl, h⟩ := h
    replace h := hbd h
    obtain ⟨u6, eu6, h⟩ := h
    replace h := hbd h
    obtain ⟨r7, er7, h⟩ := h
    refine hcallV (o := some (.int r7)) hx hb hml hown hts hk [.int (v2 + v4)] [.ref a] (kX2_stoneSortAt l g er7) gX2_howManyTaken_X2_stoneSortAt rfl (n := 1) rfl (by decide +kernel) ⟨Nat.le_of_ble_eq_true rfl, Nat.le_of_ble_eq_true rfl⟩ (ci := 1) rfl eu6 hw hl.1 rfl (Nat.le_of_ble_eq_true rfl) dX2_howManyTaken_24 ⟨Nat.le_of_ble_eq_true rfl, Nat.le_of_ble_eq_true rfl⟩ (fun H locs hw => ?_)
    refine W.eq (g2 := F0 m 27 ls [.int r7, .ref a]) rfl ?_
    replace h := hbd h
    obtain ⟨u8, eu8, h⟩ := h
    replace h := hbd h
    obtain ⟨r9, er9, h⟩ := h
    refine hcallV (o := some (.int r9)) hx hb hml hown hts hk [.int r7] [] (kX2_takesStone l g er9) gX2_howManyTaken_X2_takesStone rfl (n := 1) rfl (by decide +kernel) ⟨Nat.le_of_ble_eq_true rfl, Nat.le_of_ble_eq_true rfl⟩ (ci := 1) rfl eu8 hw hl.1 rfl (Nat.le_of_ble_eq_true rfl) dX2_howManyTaken_27 ⟨Nat.le_of_ble_eq_true rfl, Nat.le_of_ble_eq_true rfl⟩ (fun H locs hw => ?_)
    refine W.eq (g2 := F0 m 30 ls [.int r9]) rfl ?_
    refine lv_if_ne (tgt := 36) hx hb dX2_howManyTaken_30 (by decide) (fun c10 => ?_) (fun c10 => ?_)
    · rw [if_neg c10] at h
      refine lv_iinc (v := (v4 + 1)) (lv' := [(4, .int (v4 + 1)), (0, .ref a), (1, .ref a5), (2, .int v2), (3, .int v3)]) hx hb dX2_howManyTaken_36 hl (k := 4) rfl rfl (by decide) rfl (fun ls hl => ?_)
      refine lv_goto (tgt := 12) hx hb dX2_howManyTaken_39 (by decide) ?_
      exact hrec _ _ _ _ _ h _ _ _ hw (lv_sub hl [1, 2, 3, 4, 0] rfl)
    · rw [if_pos c10] at h
      refine lv_iload hx hb dX2_howManyTaken_33 (lv_at hl 4 rfl) ?_
      cases h
      exact hret_i hx hb hr hlocks hw dX2_howManyTaken_35
def fX2_howManyTaken_j12 (n : Nat) : hPl → Nat → Option Nat → Int32 → Int32 → Int32 → Option Int32 := match n with
  | 0 => fun _ _ _ _ _ _ => none
  | n + 1 => fX2_howManyTaken_j12s (fX2_howManyTaken_j12 n)
theorem kX2_howManyTaken_j12 {g : hGb} {p : Program} {l : Launch} {e : Env} {s : State} {m : MethodId} {args : Array Value} {below : List Frame} {meth : Method} {c : Code} {A : Nat → Prop} (C : hX g p s m args meth c RX2 cX2_howManyTaken 5 wsX2_howManyTaken (some .int)) {f : hPl} {z : Nat} {r : Int32} (n : Nat) : ∀ (a : Nat) (v1 : Option Nat) (v2 : Int32) (v3 : Int32) (v4 : Int32), fX2_howManyTaken_j12 n f a v1 v2 v3 v4 = some r → ∀ (H : Heap) (locs : List Loc) (ls : Array Slot), hW g A s f z H locs → lv_has ls 5 [(0, .ref a), (1, va_rf v1), (2, .int v2), (3, .int v3), (4, .int v4)] → W p l e (hRm 2 0 0) s m args below meth c H locs 0 0 (hZ g A below args s 0 0 (some (.int r)) f z) (F0 m 12 ls []) := by
  induction n with
  | zero =>
    intro a v1 v2 v3 v4 h
    cases h
  | succ n ih => exact kX2_howManyTaken_j12s C (fX2_howManyTaken_j12 n) ih
def fX2_howManyTaken (f : hPl) (a : Nat) (p1 : Option Nat) (p2 : Int32) (p3 : Int32) : Option Int32 := (hob f a 1).bind fun u1 => (fX2_isOfStones f a ).bind fun r2 => (if r2 = 0 then some p3 else fX2_howManyTaken_j12 64 f a p1 p2 p3 0)
set_option maxHeartbeats 4000000 in
set_option maxRecDepth 100000 in
theorem kX2_howManyTaken (l : Launch) (g : hGb) {f : hPl} {z : Nat} {a : Nat} {p1 : Option Nat} {p2 : Int32} {p3 : Int32} {r : Int32} (h : fX2_howManyTaken f a p1 p2 p3 = some r) : hCt l g yX2_howManyTaken wsX2_howManyTaken 2 0 0 [.ref a, va_rf p1, .int p2, .int p3] f z (some (.int r)) f z := by
  refine hCt.of (cc := cX2_howManyTaken) (maxL := 5) (ret := (some .int)) (by decide +kernel) rfl (by cases p1 <;> exact Nat.le_of_ble_eq_true rfl) ?_
  intro p e s m below meth c C hname hw ls hl
  obtain ⟨hx, hb, hml, hown, hts, hr, hlocks, hk⟩ := id C
  have hl : lv_has ls 5 [(0, .ref a), (1, va_rf p1), (2, .int p2), (3, .int p3)] := by cases p1 <;> exact hl
  have hown : s.vm.findClass RX2 = some m.cls := hown
  unfold fX2_howManyTaken at h
  refine lv_aload_n hx hb dX2_howManyTaken_0 rfl (lv_at hl 0 rfl) ?_
  replace h := hbd h
  obtain ⟨u1, eu1, h⟩ := h
  replace h := hbd h
  obtain ⟨r2, er2, h⟩ := h
  refine hcallV (o := some (.int r2)) hx hb hml hown hts hk [] [] (kX2_isOfStones l g er2) gX2_howManyTaken_X2_isOfStones rfl (n := 0) rfl (by decide +kernel) ⟨Nat.le_of_ble_eq_true rfl, Nat.le_of_ble_eq_true rfl⟩ (ci := 1) rfl eu1 hw hl.1 rfl (Nat.le_of_ble_eq_true rfl) dX2_howManyTaken_1 ⟨Nat.le_of_ble_eq_true rfl, Nat.le_of_ble_eq_true rfl⟩ (fun H locs hw => ?_)
  refine W.eq (g2 := F0 m 4 ls [.int r2]) rfl ?_
  refine lv_if_ne (tgt := 9) hx hb dX2_howManyTaken_4 (by decide) (fun c3 => ?_) (fun c3 => ?_)
  · rw [if_neg c3] at h
    refine lv_iconst (v := 0) hx hb dX2_howManyTaken_9 (by decide) ?_
    refine lv_istore (lv' := [(4, .int 0), (0, .ref a), (1, va_rf p1), (2, .int p2), (3, .int p3)]) hx hb dX2_howManyTaken_10 hl (by decide) rfl (fun ls hl => ?_)
    exact kX2_howManyTaken_j12 C 64 _ _ _ _ _ h _ _ _ hw (lv_sub hl [1, 2, 3, 4, 0] rfl)
  · rw [if_pos c3] at h
    refine lv_iload_n hx hb dX2_howManyTaken_7 rfl (lv_at hl 3 rfl) ?_
    cases h
    exact hret_i hx hb hr hlocks hw dX2_howManyTaken_8
theorem iX2_copyRun_X2 : ∀ w ∈ wsX20, w ∈ wsX2_copyRun := by decide +kernel
def fX2_copyRun (f : hPl) (z : Nat) (a : Nat) (p1 : Option Nat) (p2 : Int32) (p3 : Int32) (p4 : Int32) : Option (Unit × hPl × Nat) := p1.bind fun a1 => (hob f a1 1).bind fun u2 => (fX2_hasRun f a1 p2 p4).bind fun r3 => (if r3 = 0 then some ((), f, z) else (hob f a 1).bind fun u5 => (fX2_hasRun f a p3 p4).bind fun r6 => (if r6 = 0 then some ((), f, z) else (hgQ f a1 1 1).bind fun q8 => (hgQ f a 1 1).bind fun q9 => q8.bind fun a10 => q9.bind fun a11 => (hcp f a10 p2 a11 p3 p4).bind fun f12 => some ((), f12, z)))
set_option maxHeartbeats 4000000 in
set_option maxRecDepth 100000 in
theorem kX2_copyRun (l : Launch) (g : hGb) {f : hPl} {z : Nat} {a : Nat} {p1 : Option Nat} {p2 : Int32} {p3 : Int32} {p4 : Int32} {r : Unit} {f' : hPl} {z' : Nat} (h : fX2_copyRun f z a p1 p2 p3 p4 = some (r, f', z')) : hCt l g yX2_copyRun wsX2_copyRun 1 0 0 [.ref a, va_rf p1, .int p2, .int p3, .int p4] f z none f' z' := by
  refine hCt.of (cc := cX2_copyRun) (maxL := 5) (ret := none) (by decide +kernel) rfl (by cases p1 <;> exact Nat.le_of_ble_eq_true rfl) ?_
  intro p e s m below meth c C hname hw ls hl
  obtain ⟨hx, hb, hml, hown, hts, hr, hlocks, hk⟩ := id C
  have hl : lv_has ls 5 [(0, .ref a), (1, va_rf p1), (2, .int p2), (3, .int p3), (4, .int p4)] := by cases p1 <;> exact hl
  have hown : s.vm.findClass RX2 = some m.cls := hown
  unfold fX2_copyRun at h
  refine hv_aload_n hx hb dX2_copyRun_0 rfl (lv_at hl 1 rfl) ?_
  refine lv_iload_n hx hb dX2_copyRun_1 rfl (lv_at hl 2 rfl) ?_
  refine lv_iload hx hb dX2_copyRun_2 (lv_at hl 4 rfl) ?_
  replace h := hbd h
  obtain ⟨a1, rfl, h⟩ := h
  replace h := hbd h
  obtain ⟨u2, eu2, h⟩ := h
  replace h := hbd h
  obtain ⟨r3, er3, h⟩ := h
  refine hcallV (o := some (.int r3)) hx hb hml hown hts hk [.int p2, .int p4] [] (kX2_hasRun l g er3) gX2_copyRun_X2_hasRun rfl (n := 2) rfl (by decide +kernel) ⟨Nat.le_of_ble_eq_true rfl, Nat.le_of_ble_eq_true rfl⟩ (ci := 1) rfl eu2 hw hl.1 rfl (Nat.le_of_ble_eq_true rfl) dX2_copyRun_4 ⟨Nat.le_of_ble_eq_true rfl, Nat.le_of_ble_eq_true rfl⟩ (fun H locs hw => ?_)
  refine W.eq (g2 := F0 m 7 ls [.int r3]) rfl ?_
  refine lv_if_eq (tgt := 35) hx hb dX2_copyRun_7 (by decide) (fun c4 => ?_) (fun c4 => ?_)
  · rw [if_pos c4] at h
    cases h
    exact hret_v hx hb hr hlocks hw dX2_copyRun_35
  · rw [if_neg c4] at h
    refine lv_aload_n hx hb dX2_copyRun_10 rfl (lv_at hl 0 rfl) ?_
    refine lv_iload_n hx hb dX2_copyRun_11 rfl (lv_at hl 3 rfl) ?_
    refine lv_iload hx hb dX2_copyRun_12 (lv_at hl 4 rfl) ?_
    replace h := hbd h
    obtain ⟨u5, eu5, h⟩ := h
    replace h := hbd h
    obtain ⟨r6, er6, h⟩ := h
    refine hcallV (o := some (.int r6)) hx hb hml hown hts hk [.int p3, .int p4] [] (kX2_hasRun l g er6) gX2_copyRun_X2_hasRun rfl (n := 2) rfl (by decide +kernel) ⟨Nat.le_of_ble_eq_true rfl, Nat.le_of_ble_eq_true rfl⟩ (ci := 1) rfl eu5 hw hl.1 rfl (Nat.le_of_ble_eq_true rfl) dX2_copyRun_14 ⟨Nat.le_of_ble_eq_true rfl, Nat.le_of_ble_eq_true rfl⟩ (fun H locs hw => ?_)
    refine W.eq (g2 := F0 m 17 ls [.int r6]) rfl ?_
    refine lv_if_eq (tgt := 35) hx hb dX2_copyRun_17 (by decide) (fun c7 => ?_) (fun c7 => ?_)
    · rw [if_pos c7] at h
      cases h
      exact hret_v hx hb hr hlocks hw dX2_copyRun_35
    · rw [if_neg c7] at h
      refine lv_aload_n hx hb dX2_copyRun_20 rfl (lv_at hl 1 rfl) ?_
      replace h := hbd h
      obtain ⟨q8, eq8, h⟩ := h
      refine hr_getQ (C := RX2) (T := TX2) (N := 2) hx hb hts iX2_copyRun_X2 hown hk hw rfl 1 (by decide) (hts (.fieldLink RX2 9 "SetterBench$Tray" "cells" "[J") (by decide +kernel)) (fun _ h9 => h9) eq8 dX2_copyRun_21 ?_
      refine lv_iload_n hx hb dX2_copyRun_24 rfl (lv_at hl 2 rfl) ?_
      refine lv_aload_n hx hb dX2_copyRun_25 rfl (lv_at hl 0 rfl) ?_
      replace h := hbd h
      obtain ⟨q9, eq9, h⟩ := h
      refine hr_getQ (C := RX2) (T := TX2) (N := 2) hx hb hts iX2_copyRun_X2 hown hk hw rfl 1 (by decide) (hts (.fieldLink RX2 9 "SetterBench$Tray" "cells" "[J") (by decide +kernel)) (fun _ h9 => h9) eq9 dX2_copyRun_26 ?_
      refine lv_iload_n hx hb dX2_copyRun_29 rfl (lv_at hl 3 rfl) ?_
      refine lv_iload hx hb dX2_copyRun_30 (lv_at hl 4 rfl) ?_
      replace h := hbd h
      obtain ⟨a10, rfl, h⟩ := h
      replace h := hbd h
      obtain ⟨a11, rfl, h⟩ := h
      replace h := hbd h
      obtain ⟨f12, ef12, h⟩ := h
      refine hr_cp hx hb (hml.trans hl.1.symm) hown (hts (.methodLink RX2 42 arraycopyName) (by decide +kernel)) (hts (.native arraycopyName) (by decide +kernel)) (hts (.static arraycopyName) (by decide +kernel)) (hts (.initialized "java/lang/System") (by decide +kernel)) hk hw ef12 (Nat.le_of_ble_eq_true rfl) (Nat.le_of_ble_eq_true rfl) dX2_copyRun_32 (fun H locs hw => ?_)
      cases h
      exact hret_v hx hb hr hlocks hw dX2_copyRun_35
theorem iX2_copyTo_X2 : ∀ w ∈ wsX20, w ∈ wsX2_copyTo := by decide +kernel
def fX2_copyTo (f : hPl) (z : Nat) (a : Nat) (p1 : Option Nat) : Option (Unit × hPl × Nat) := (hgQ f a 1 1).bind fun q1 => q1.bind fun a2 => (hln f a2).bind fun x3 => p1.bind fun a4 => (hln f a4).bind fun x5 => (if x5 < x3 then some ((), f, z) else (hgQ f a 1 1).bind fun q7 => (hgQ f a 1 1).bind fun q8 => q8.bind fun a9 => (hln f a9).bind fun x10 => q7.bind fun a11 => (hcp f a11 0 a4 0 x10).bind fun f12 => some ((), f12, z))
set_option maxHeartbeats 4000000 in
set_option maxRecDepth 100000 in
theorem kX2_copyTo (l : Launch) (g : hGb) {f : hPl} {z : Nat} {a : Nat} {p1 : Option Nat} {r : Unit} {f' : hPl} {z' : Nat} (h : fX2_copyTo f z a p1 = some (r, f', z')) : hCt l g yX2_copyTo wsX2_copyTo 1 0 0 [.ref a, va_rf p1] f z none f' z' := by
  refine hCt.of (cc := cX2_copyTo) (maxL := 2) (ret := none) (by decide +kernel) rfl (by cases p1 <;> exact Nat.le_of_ble_eq_true rfl) ?_
  intro p e s m below meth c C hname hw ls hl
  obtain ⟨hx, hb, hml, hown, hts, hr, hlocks, hk⟩ := id C
  have hl : lv_has ls 2 [(0, .ref a), (1, va_rf p1)] := by cases p1 <;> exact hl
  have hown : s.vm.findClass RX2 = some m.cls := hown
  unfold fX2_copyTo at h
  refine lv_aload_n hx hb dX2_copyTo_0 rfl (lv_at hl 0 rfl) ?_
  replace h := hbd h
  obtain ⟨q1, eq1, h⟩ := h
  refine hr_getQ (C := RX2) (T := TX2) (N := 2) hx hb hts iX2_copyTo_X2 hown hk hw rfl 1 (by decide) (hts (.fieldLink RX2 9 "SetterBench$Tray" "cells" "[J") (by decide +kernel)) (fun _ h9 => h9) eq1 dX2_copyTo_1 ?_
  replace h := hbd h
  obtain ⟨a2, rfl, h⟩ := h
  replace h := hbd h
  obtain ⟨x3, ex3, h⟩ := h
  refine hr_len hx hb hk hw ex3 dX2_copyTo_4 ?_
  refine hv_aload_n hx hb dX2_copyTo_5 rfl (lv_at hl 1 rfl) ?_
  replace h := hbd h
  obtain ⟨a4, rfl, h⟩ := h
  replace h := hbd h
  obtain ⟨x5, ex5, h⟩ := h
  refine hr_len hx hb hk hw ex5 dX2_copyTo_6 ?_
  refine lv_icmp_gt (tgt := 25) hx hb dX2_copyTo_7 (by decide) (fun c6 => ?_) (fun c6 => ?_)
  · rw [if_pos c6] at h
    cases h
    exact hret_v hx hb hr hlocks hw dX2_copyTo_25
  · rw [if_neg c6] at h
    refine lv_aload_n hx hb dX2_copyTo_10 rfl (lv_at hl 0 rfl) ?_
    replace h := hbd h
    obtain ⟨q7, eq7, h⟩ := h
    refine hr_getQ (C := RX2) (T := TX2) (N := 2) hx hb hts iX2_copyTo_X2 hown hk hw rfl 1 (by decide) (hts (.fieldLink RX2 9 "SetterBench$Tray" "cells" "[J") (by decide +kernel)) (fun _ h9 => h9) eq7 dX2_copyTo_11 ?_
    refine lv_iconst (v := 0) hx hb dX2_copyTo_14 (by decide) ?_
    refine lv_aload_n hx hb dX2_copyTo_15 rfl (lv_at hl 1 rfl) ?_
    refine lv_iconst (v := 0) hx hb dX2_copyTo_16 (by decide) ?_
    refine lv_aload_n hx hb dX2_copyTo_17 rfl (lv_at hl 0 rfl) ?_
    replace h := hbd h
    obtain ⟨q8, eq8, h⟩ := h
    refine hr_getQ (C := RX2) (T := TX2) (N := 2) hx hb hts iX2_copyTo_X2 hown hk hw rfl 1 (by decide) (hts (.fieldLink RX2 9 "SetterBench$Tray" "cells" "[J") (by decide +kernel)) (fun _ h9 => h9) eq8 dX2_copyTo_18 ?_
    replace h := hbd h
    obtain ⟨a9, rfl, h⟩ := h
    replace h := hbd h
    obtain ⟨x10, ex10, h⟩ := h
    refine hr_len hx hb hk hw ex10 dX2_copyTo_21 ?_
    replace h := hbd h
    obtain ⟨a11, rfl, h⟩ := h
    replace h := hbd h
    obtain ⟨f12, ef12, h⟩ := h
    refine hr_cp hx hb (hml.trans hl.1.symm) hown (hts (.methodLink RX2 42 arraycopyName) (by decide +kernel)) (hts (.native arraycopyName) (by decide +kernel)) (hts (.static arraycopyName) (by decide +kernel)) (hts (.initialized "java/lang/System") (by decide +kernel)) hk hw ef12 (Nat.le_of_ble_eq_true rfl) (Nat.le_of_ble_eq_true rfl) dX2_copyTo_22 (fun H locs hw => ?_)
    cases h
    exact hret_v hx hb hr hlocks hw dX2_copyTo_25
theorem iX2_copyFrom_X2 : ∀ w ∈ wsX20, w ∈ wsX2_copyFrom := by decide +kernel
def fX2_copyFrom (f : hPl) (z : Nat) (a : Nat) (p1 : Option Nat) : Option (Unit × hPl × Nat) := (hgQ f a 1 1).bind fun q1 => q1.bind fun a2 => (hln f a2).bind fun x3 => p1.bind fun a4 => (hln f a4).bind fun x5 => (if x5 < x3 then some ((), f, z) else (hgQ f a 1 1).bind fun q7 => (hgQ f a 1 1).bind fun q8 => q8.bind fun a9 => (hln f a9).bind fun x10 => q7.bind fun a11 => (hcp f a4 0 a11 0 x10).bind fun f12 => some ((), f12, z))
set_option maxHeartbeats 4000000 in
set_option maxRecDepth 100000 in
theorem kX2_copyFrom (l : Launch) (g : hGb) {f : hPl} {z : Nat} {a : Nat} {p1 : Option Nat} {r : Unit} {f' : hPl} {z' : Nat} (h : fX2_copyFrom f z a p1 = some (r, f', z')) : hCt l g yX2_copyFrom wsX2_copyFrom 1 0 0 [.ref a, va_rf p1] f z none f' z' := by
  refine hCt.of (cc := cX2_copyFrom) (maxL := 2) (ret := none) (by decide +kernel) rfl (by cases p1 <;> exact Nat.le_of_ble_eq_true rfl) ?_
  intro p e s m below meth c C hname hw ls hl
  obtain ⟨hx, hb, hml, hown, hts, hr, hlocks, hk⟩ := id C
  have hl : lv_has ls 2 [(0, .ref a), (1, va_rf p1)] := by cases p1 <;> exact hl
  have hown : s.vm.findClass RX2 = some m.cls := hown
  unfold fX2_copyFrom at h
  refine lv_aload_n hx hb dX2_copyFrom_0 rfl (lv_at hl 0 rfl) ?_
  replace h := hbd h
  obtain ⟨q1, eq1, h⟩ := h
  refine hr_getQ (C := RX2) (T := TX2) (N := 2) hx hb hts iX2_copyFrom_X2 hown hk hw rfl 1 (by decide) (hts (.fieldLink RX2 9 "SetterBench$Tray" "cells" "[J") (by decide +kernel)) (fun _ h9 => h9) eq1 dX2_copyFrom_1 ?_
  replace h := hbd h
  obtain ⟨a2, rfl, h⟩ := h
  replace h := hbd h
  obtain ⟨x3, ex3, h⟩ := h
  refine hr_len hx hb hk hw ex3 dX2_copyFrom_4 ?_
  refine hv_aload_n hx hb dX2_copyFrom_5 rfl (lv_at hl 1 rfl) ?_
  replace h := hbd h
  obtain ⟨a4, rfl, h⟩ := h
  replace h := hbd h
  obtain ⟨x5, ex5, h⟩ := h
  refine hr_len hx hb hk hw ex5 dX2_copyFrom_6 ?_
  refine lv_icmp_gt (tgt := 25) hx hb dX2_copyFrom_7 (by decide) (fun c6 => ?_) (fun c6 => ?_)
  · rw [if_pos c6] at h
    cases h
    exact hret_v hx hb hr hlocks hw dX2_copyFrom_25
  · rw [if_neg c6] at h
    refine lv_aload_n hx hb dX2_copyFrom_10 rfl (lv_at hl 1 rfl) ?_
    refine lv_iconst (v := 0) hx hb dX2_copyFrom_11 (by decide) ?_
    refine lv_aload_n hx hb dX2_copyFrom_12 rfl (lv_at hl 0 rfl) ?_
    replace h := hbd h
    obtain ⟨q7, eq7, h⟩ := h
    refine hr_getQ (C := RX2) (T := TX2) (N := 2) hx hb hts iX2_copyFrom_X2 hown hk hw rfl 1 (by decide) (hts (.fieldLink RX2 9 "SetterBench$Tray" "cells" "[J") (by decide +kernel)) (fun _ h9 => h9) eq7 dX2_copyFrom_13 ?_
    refine lv_iconst (v := 0) hx hb dX2_copyFrom_16 (by decide) ?_
    refine lv_aload_n hx hb dX2_copyFrom_17 rfl (lv_at hl 0 rfl) ?_
    replace h := hbd h
    obtain ⟨q8, eq8, h⟩ := h
    refine hr_getQ (C := RX2) (T := TX2) (N := 2) hx hb hts iX2_copyFrom_X2 hown hk hw rfl 1 (by decide) (hts (.fieldLink RX2 9 "SetterBench$Tray" "cells" "[J") (by decide +kernel)) (fun _ h9 => h9) eq8 dX2_copyFrom_18 ?_
    replace h := hbd h
    obtain ⟨a9, rfl, h⟩ := h
    replace h := hbd h
    obtain ⟨x10, ex10, h⟩ := h
    refine hr_len hx hb hk hw ex10 dX2_copyFrom_21 ?_
    replace h := hbd h
    obtain ⟨a11, rfl, h⟩ := h
    replace h := hbd h
    obtain ⟨f12, ef12, h⟩ := h
    refine hr_cp hx hb (hml.trans hl.1.symm) hown (hts (.methodLink RX2 42 arraycopyName) (by decide +kernel)) (hts (.native arraycopyName) (by decide +kernel)) (hts (.static arraycopyName) (by decide +kernel)) (hts (.initialized "java/lang/System") (by decide +kernel)) hk hw ef12 (Nat.le_of_ble_eq_true rfl) (Nat.le_of_ble_eq_true rfl) dX2_copyFrom_22 (fun H locs hw => ?_)
    cases h
    exact hret_v hx hb hr hlocks hw dX2_copyFrom_25
end
section
theorem iX3_init_X3 : ∀ w ∈ wsX30, w ∈ wsX3_init := by decide +kernel
theorem iX3_init_X2 : ∀ w ∈ wsX20, w ∈ wsX3_init := by decide +kernel
def fX3_init (f : hPl) (z : Nat) (a : Nat) : Option (Unit × hPl × Nat) := (if ¬ (8 : Int32) < 0 ∧ (8 : Int32).toNatClampNeg ≤ 8 then some () else none).bind fun _ => (some (hup f z (aQ (8 : Int32).toNatClampNeg (fun _ => none)))).bind fun f2 => (hput f2 a 2 0 (.ref z)).bind fun f3 => (some (hup f3 (z + 1) (oC 1 [.int 0, .null]))).bind fun f4 => (fX2_init f4 ((z + 1) + 1) (z + 1) 6 1).bind fun r5t => (hput r5t.2.1 a 2 1 (.ref (z + 1))).bind fun f8 => (if ¬ (40 : Int32) < 0 ∧ (40 : Int32).toNatClampNeg ≤ 40 then some () else none).bind fun _ => (some (hup f8 r5t.2.2 (aJ (40 : Int32).toNatClampNeg (fun _ => 0)))).bind fun f10 => (hput f10 a 2 2 (.ref r5t.2.2)).bind fun f11 => some ((), f11, (r5t.2.2 + 1))
set_option maxHeartbeats 4000000 in
set_option maxRecDepth 100000 in
theorem kX3_init (l : Launch) (g : hGb) {f : hPl} {z : Nat} {a : Nat} {r : Unit} {f' : hPl} {z' : Nat} (h : fX3_init f z a = some (r, f', z')) : hCt l g yX3_init wsX3_init 3 4 90 [.ref a] f z none f' z' := by
  refine hCt.of (cc := cX3_init) (maxL := 1) (ret := none) (by decide +kernel) rfl (by exact Nat.le_of_ble_eq_true rfl) ?_
  intro p e s m below meth c C hname hw ls hl
  obtain ⟨hx, hb, hml, hown, hts, hr, hlocks, hk⟩ := id C
  have hl : lv_has ls 1 [(0, .ref a)] := hl
  have hown : s.vm.findClass RX3 = some m.cls := hown
  unfold fX3_init at h
  refine lv_aload_n hx hb dX3_init_0 rfl (lv_at hl 0 rfl) ?_
  refine W.objInit hx hb hown (hts (.methodLink RX3 1 objectInit) (by decide +kernel)) (hts (.instanceMethod objectInit) (by decide +kernel)) (hts (.code objectInit ⟨#[0xb1]⟩ 1 none) (by decide +kernel)) rfl (hl.1.trans hml.symm) rfl dX3_init_1 (Nat.le_of_ble_eq_true rfl) (Nat.le_of_ble_eq_true rfl) ?_
  refine lv_aload_n hx hb dX3_init_4 rfl (lv_at hl 0 rfl) ?_
  refine lv_bipush (v := 8) hx hb dX3_init_5 (by decide) ?_
  replace h := hbd h
  obtain ⟨_, c1, h⟩ := h
  have c1 := (hif c1).1
  replace h := hbd h
  obtain ⟨f2, ef2, h⟩ := h
  have ef2 := Option.some.inj ef2
  refine hr_newQ (n := (8 : Int32)) (M := 8) hx hb hk hown (hts (.classLink RX3 9 RX1) (by decide +kernel)) hw c1 (by decide) (Nat.le_of_ble_eq_true rfl) (Nat.le_of_ble_eq_true rfl) dX3_init_7 (fun H hw => ?_)
  rw [ef2] at hw
  replace h := hbd h
  obtain ⟨f3, ef3, h⟩ := h
  refine hr_putF (C := RX3) (T := TX3) (N := 11) (ty := .array (.object "SetterBench$Thing")) hx hb hts iX3_init_X3 tyX3 tyX3_ok nmX3 hown hk hw rfl 0 (by decide) (hts (.fieldLink RX3 11 "SetterBench" "places" "[LSetterBench$Thing;") (by decide +kernel)) (fun _ h9 => h9) rfl hname rfl (by decide +kernel) rfl rfl ef3 dX3_init_10 (fun H locs hw => ?_)
  refine lv_aload_n hx hb dX3_init_13 rfl (lv_at hl 0 rfl) ?_
  replace h := hbd h
  obtain ⟨f4, ef4, h⟩ := h
  have ef4 := Option.some.inj ef4
  refine hr_new (C := RX2) (T := TX2) (N := 2) (ci := 1) (fs := [.int 0, .null]) hx hb hts iX3_init_X2 tyX2 tyX2_ok hown (hts (.classLink RX3 15 RX2) (by decide +kernel)) (hts (.instantiable RX2 2) (by decide +kernel)) (hts (.initialized RX2) (by decide +kernel)) hk hw rfl (fun j hj => by rcases (show j = 0 ∨ j = 1 by omega) with rfl | rfl <;> rfl) (Nat.le_of_ble_eq_true rfl) (Nat.le_of_ble_eq_true rfl) dX3_init_14 (fun H hw => ?_)
  rw [ef4] at hw
  refine lv_dup hx hb dX3_init_17 rfl ?_
  refine lv_bipush (v := 6) hx hb dX3_init_18 (by decide) ?_
  refine lv_iconst (v := 1) hx hb dX3_init_20 (by decide) ?_
  replace h := hbd h
  obtain ⟨⟨r5, f6, z7⟩, er5, h⟩ := h
  dsimp only at h
  refine hcallI (o := none) hx hb hml hown hts hk [.int 6, .int 1] [.ref (z + 1), .ref a] (kX2_init l g er5) gX3_init_X2_init rfl (hts (.initialized RX2) (by decide +kernel)) (hts (.methodLink RX3 17 yX2_init) (by decide +kernel)) (hts (.instanceMethod yX2_init) (by decide +kernel)) (n := 2) rfl (by decide +kernel) rfl ⟨Nat.le_of_ble_eq_true rfl, Nat.le_of_ble_eq_true rfl⟩ hw hl.1 rfl (Nat.le_of_ble_eq_true rfl) dX3_init_21 ⟨Nat.le_of_ble_eq_true rfl, Nat.le_of_ble_eq_true rfl⟩ (fun H locs hw => ?_)
  refine W.eq (g2 := F0 m 24 ls [.ref (z + 1), .ref a]) rfl ?_
  replace h := hbd h
  obtain ⟨f8, ef8, h⟩ := h
  refine hr_putF (C := RX3) (T := TX3) (N := 11) (ty := .object "SetterBench$Tray") hx hb hts iX3_init_X3 tyX3 tyX3_ok nmX3 hown hk hw rfl 1 (by decide) (hts (.fieldLink RX3 20 "SetterBench" "hand" "LSetterBench$Tray;") (by decide +kernel)) (fun _ h9 => h9) rfl hname rfl (by decide +kernel) rfl rfl ef8 dX3_init_24 (fun H locs hw => ?_)
  refine lv_aload_n hx hb dX3_init_27 rfl (lv_at hl 0 rfl) ?_
  refine lv_bipush (v := 40) hx hb dX3_init_28 (by decide) ?_
  replace h := hbd h
  obtain ⟨_, c9, h⟩ := h
  have c9 := (hif c9).1
  replace h := hbd h
  obtain ⟨f10, ef10, h⟩ := h
  have ef10 := Option.some.inj ef10
  refine hr_newJ (n := (40 : Int32)) (M := 40) hx hb hk (hts (.arrayClass .long) (by decide +kernel)) hw c9 (by decide) (Nat.le_of_ble_eq_true rfl) (Nat.le_of_ble_eq_true rfl) dX3_init_30 (fun H hw => ?_)
  rw [ef10] at hw
  replace h := hbd h
  obtain ⟨f11, ef11, h⟩ := h
  refine hr_putF (C := RX3) (T := TX3) (N := 11) (ty := .array .long) hx hb hts iX3_init_X3 tyX3 tyX3_ok nmX3 hown hk hw rfl 2 (by decide) (hts (.fieldLink RX3 24 "SetterBench" "kept" "[J") (by decide +kernel)) (fun _ h9 => h9) rfl hname rfl (by decide +kernel) rfl rfl ef11 dX3_init_32 (fun H locs hw => ?_)
  cases h
  exact hret_v hx hb hr hlocks hw dX3_init_35
def fX3_isPlace (f : hPl) (p1 : Int32) : Option Int32 := (if p1 < 0 then some 0 else (if 8 ≤ p1 then some 0 else some 1))
set_option maxHeartbeats 4000000 in
set_option maxRecDepth 100000 in
theorem kX3_isPlace (l : Launch) (g : hGb) {f : hPl} {z : Nat} {p1 : Int32} {r : Int32} (h : fX3_isPlace f p1 = some r) : hCt l g yX3_isPlace wsX3_isPlace 0 0 0 [.int p1] f z (some (.int r)) f z := by
  refine hCt.of (cc := cX3_isPlace) (maxL := 1) (ret := (some .boolean)) (by decide +kernel) rfl (by exact Nat.le_of_ble_eq_true rfl) ?_
  intro p e s m below meth c C hname hw ls hl
  obtain ⟨hx, hb, hml, hown, hts, hr, hlocks, hk⟩ := id C
  have hl : lv_has ls 1 [(0, .int p1)] := hl
  have hown : s.vm.findClass RX3 = some m.cls := hown
  unfold fX3_isPlace at h
  refine lv_iload_n hx hb dX3_isPlace_0 rfl (lv_at hl 0 rfl) ?_
  refine lv_if_lt (tgt := 14) hx hb dX3_isPlace_1 (by decide) (fun c1 => ?_) (fun c1 => ?_)
  · rw [if_pos c1] at h
    refine lv_iconst (v := 0) hx hb dX3_isPlace_14 (by decide) ?_
    cases h
    exact hret_z hx hb hr hlocks hw (Or.inl rfl) dX3_isPlace_15
  · rw [if_neg c1] at h
    refine lv_iload_n hx hb dX3_isPlace_4 rfl (lv_at hl 0 rfl) ?_
    refine lv_bipush (v := 8) hx hb dX3_isPlace_5 (by decide) ?_
    refine lv_icmp_ge (tgt := 14) hx hb dX3_isPlace_7 (by decide) (fun c2 => ?_) (fun c2 => ?_)
    · rw [if_pos c2] at h
      refine lv_iconst (v := 0) hx hb dX3_isPlace_14 (by decide) ?_
      cases h
      exact hret_z hx hb hr hlocks hw (Or.inl rfl) dX3_isPlace_15
    · rw [if_neg c2] at h
      refine lv_iconst (v := 1) hx hb dX3_isPlace_10 (by decide) ?_
      refine lv_goto (tgt := 15) hx hb dX3_isPlace_11 (by decide) ?_
      cases h
      exact hret_z hx hb hr hlocks hw (Or.inr rfl) dX3_isPlace_15
theorem iX3_lay_X3 : ∀ w ∈ wsX30, w ∈ wsX3_lay := by decide +kernel
theorem iX3_lay_X2 : ∀ w ∈ wsX20, w ∈ wsX3_lay := by decide +kernel
theorem iX3_lay_X0 : ∀ w ∈ wsX00, w ∈ wsX3_lay := by decide +kernel
def fX3_lay (f : hPl) (z : Nat) (a : Nat) (p1 : Int32) (p2 : Int32) (p3 : Int32) : Option (Int32 × hPl × Nat) := (fX3_isPlace f  p1).bind fun r1 => (if r1 = 0 then some (0, f, z) else (if p2 < 0 then some (0, f, z) else (if p2 ≤ 10 then (if p2 = 0 then (hgQ f a 2 0).bind fun q25 => q25.bind fun a26 => (hsQ f a26 p1 none).bind fun f27 => some (1, f27, z) else (if p2 = 1 then (hgQ f a 2 0).bind fun q17 => (some (hup f z (oC 0 [.int 0, .int 0]))).bind fun f18 => (fX0_init f18 (z + 1) z ).bind fun r19t => q17.bind fun a22 => (hth r19t.2.1 (some z)).bind fun u23 => (hsQ r19t.2.1 a22 p1 (some z)).bind fun f24 => some (1, f24, r19t.2.2) else (if p3 < 0 then some (0, f, z) else (if p3 ≤ 40 then (hgQ f a 2 0).bind fun q9 => (some (hup f z (oC 1 [.int 0, .null]))).bind fun f10 => (fX2_init f10 (z + 1) z p2 p3).bind fun r11t => q9.bind fun a14 => (hth r11t.2.1 (some z)).bind fun u15 => (hsQ r11t.2.1 a14 p1 (some z)).bind fun f16 => some (1, f16, r11t.2.2) else some (0, f, z))))) else some (0, f, z))))
set_option maxHeartbeats 4000000 in
set_option maxRecDepth 100000 in
theorem kX3_lay (l : Launch) (g : hGb) {f : hPl} {z : Nat} {a : Nat} {p1 : Int32} {p2 : Int32} {p3 : Int32} {r : Int32} {f' : hPl} {z' : Nat} (h : fX3_lay f z a p1 p2 p3 = some (r, f', z')) : hCt l g yX3_lay wsX3_lay 3 2 42 [.ref a, .int p1, .int p2, .int p3] f z (some (.int r)) f' z' := by
  refine hCt.of (cc := cX3_lay) (maxL := 4) (ret := (some .boolean)) (by decide +kernel) rfl (by exact Nat.le_of_ble_eq_true rfl) ?_
  intro p e s m below meth c C hname hw ls hl
  obtain ⟨hx, hb, hml, hown, hts, hr, hlocks, hk⟩ := id C
  have hl : lv_has ls 4 [(0, .ref a), (1, .int p1), (2, .int p2), (3, .int p3)] := hl
  have hown : s.vm.findClass RX3 = some m.cls := hown
  unfold fX3_lay at h
  refine lv_iload_n hx hb dX3_lay_0 rfl (lv_at hl 1 rfl) ?_
  replace h := hbd h
  obtain ⟨r1, er1, h⟩ := h
  refine hcallS (o := some (.int r1)) hx hb hml hown hts hk [.int p1] [] (kX3_isPlace l g er1) gX3_lay_X3_isPlace rfl (n := 1) rfl (by decide +kernel) ⟨Nat.le_of_ble_eq_true rfl, Nat.le_of_ble_eq_true rfl⟩ hw hl.1 rfl (Nat.le_of_ble_eq_true rfl) dX3_lay_1 ⟨Nat.le_of_ble_eq_true rfl, Nat.le_of_ble_eq_true rfl⟩ (fun H locs hw => ?_)
  refine W.eq (g2 := F0 m 4 ls [.int r1]) rfl ?_
  refine lv_if_eq (tgt := 17) hx hb dX3_lay_4 (by decide) (fun c2 => ?_) (fun c2 => ?_)
  · rw [if_pos c2] at h
    refine lv_iconst (v := 0) hx hb dX3_lay_17 (by decide) ?_
    refine W.widen (k := 2) (n := 42) (Nat.le_of_ble_eq_true rfl) (Nat.le_of_ble_eq_true rfl) ?_
    cases h
    exact hret_z hx hb hr hlocks hw (Or.inl rfl) dX3_lay_18
  · rw [if_neg c2] at h
    refine lv_iload_n hx hb dX3_lay_7 rfl (lv_at hl 2 rfl) ?_
    refine lv_if_lt (tgt := 17) hx hb dX3_lay_8 (by decide) (fun c3 => ?_) (fun c3 => ?_)
    · rw [if_pos c3] at h
      refine lv_iconst (v := 0) hx hb dX3_lay_17 (by decide) ?_
      refine W.widen (k := 2) (n := 42) (Nat.le_of_ble_eq_true rfl) (Nat.le_of_ble_eq_true rfl) ?_
      cases h
      exact hret_z hx hb hr hlocks hw (Or.inl rfl) dX3_lay_18
    · rw [if_neg c3] at h
      refine lv_iload_n hx hb dX3_lay_11 rfl (lv_at hl 2 rfl) ?_
      refine lv_bipush (v := 10) hx hb dX3_lay_12 (by decide) ?_
      refine lv_icmp_le (tgt := 19) hx hb dX3_lay_14 (by decide) (fun c4 => ?_) (fun c4 => ?_)
      · rw [if_pos c4] at h
        refine lv_iload_n hx hb dX3_lay_19 rfl (lv_at hl 2 rfl) ?_
        refine lv_if_ne (tgt := 32) hx hb dX3_lay_20 (by decide) (fun c5 => ?_) (fun c5 => ?_)
        · rw [if_neg c5] at h
          refine lv_iload_n hx hb dX3_lay_32 rfl (lv_at hl 2 rfl) ?_
          refine lv_iconst (v := 1) hx hb dX3_lay_33 (by decide) ?_
          refine lv_icmp_ne (tgt := 52) hx hb dX3_lay_34 (by decide) (fun c6 => ?_) (fun c6 => ?_)
          · rw [if_neg c6] at h
            refine lv_iload_n hx hb dX3_lay_52 rfl (lv_at hl 3 rfl) ?_
            refine lv_if_lt (tgt := 62) hx hb dX3_lay_53 (by decide) (fun c7 => ?_) (fun c7 => ?_)
            · rw [if_pos c7] at h
              refine lv_iconst (v := 0) hx hb dX3_lay_62 (by decide) ?_
              refine W.widen (k := 2) (n := 42) (Nat.le_of_ble_eq_true rfl) (Nat.le_of_ble_eq_true rfl) ?_
              cases h
              exact hret_z hx hb hr hlocks hw (Or.inl rfl) dX3_lay_63
            · rw [if_neg c7] at h
              refine lv_iload_n hx hb dX3_lay_56 rfl (lv_at hl 3 rfl) ?_
              refine lv_bipush (v := 40) hx hb dX3_lay_57 (by decide) ?_
              refine lv_icmp_le (tgt := 64) hx hb dX3_lay_59 (by decide) (fun c8 => ?_) (fun c8 => ?_)
              · rw [if_pos c8] at h
                refine lv_aload_n hx hb dX3_lay_64 rfl (lv_at hl 0 rfl) ?_
                replace h := hbd h
                obtain ⟨q9, eq9, h⟩ := h
                refine hr_getQ (C := RX3) (T := TX3) (N := 11) hx hb hts iX3_lay_X3 hown hk hw rfl 0 (by decide) (hts (.fieldLink RX3 11 "SetterBench" "places" "[LSetterBench$Thing;") (by decide +kernel)) (fun _ h9 => h9) eq9 dX3_lay_65 ?_
                refine lv_iload_n hx hb dX3_lay_68 rfl (lv_at hl 1 rfl) ?_
                replace h := hbd h
                obtain ⟨f10, ef10, h⟩ := h
                have ef10 := Option.some.inj ef10
                refine hr_new (C := RX2) (T := TX2) (N := 2) (ci := 1) (fs := [.int 0, .null]) hx hb hts iX3_lay_X2 tyX2 tyX2_ok hown (hts (.classLink RX3 15 RX2) (by decide +kernel)) (hts (.instantiable RX2 2) (by decide +kernel)) (hts (.initialized RX2) (by decide +kernel)) hk hw rfl (fun j hj => by rcases (show j = 0 ∨ j = 1 by omega) with rfl | rfl <;> rfl) (Nat.le_of_ble_eq_true rfl) (Nat.le_of_ble_eq_true rfl) dX3_lay_69 (fun H hw => ?_)
                rw [ef10] at hw
                refine lv_dup hx hb dX3_lay_72 rfl ?_
                refine lv_iload_n hx hb dX3_lay_73 rfl (lv_at hl 2 rfl) ?_
                refine lv_iload_n hx hb dX3_lay_74 rfl (lv_at hl 3 rfl) ?_
                replace h := hbd h
                obtain ⟨⟨r11, f12, z13⟩, er11, h⟩ := h
                dsimp only at h
                refine hcallI (o := none) hx hb hml hown hts hk [.int p2, .int p3] [.ref z, .int p1, va_rf q9] (kX2_init l g er11) gX3_lay_X2_init rfl (hts (.initialized RX2) (by decide +kernel)) (hts (.methodLink RX3 17 yX2_init) (by decide +kernel)) (hts (.instanceMethod yX2_init) (by decide +kernel)) (n := 2) rfl (by decide +kernel) rfl ⟨Nat.le_of_ble_eq_true rfl, Nat.le_of_ble_eq_true rfl⟩ hw hl.1 rfl (by cases q9 <;> exact Nat.le_of_ble_eq_true rfl) dX3_lay_75 ⟨Nat.le_of_ble_eq_true rfl, Nat.le_of_ble_eq_true rfl⟩ (fun H locs hw => ?_)
                refine W.eq (g2 := F0 m 78 ls [.ref z, .int p1, va_rf q9]) rfl ?_
                replace h := hbd h
                obtain ⟨a14, rfl, h⟩ := h
                replace h := hbd h
                obtain ⟨u15, eu15, h⟩ := h
                replace h := hbd h
                obtain ⟨f16, ef16, h⟩ := h
                refine hr_sQ (v := (some z)) hx hb hk hw eu15 ef16 dX3_lay_78 (fun H locs hw => ?_)
                refine lv_iconst (v := 1) hx hb dX3_lay_79 (by decide) ?_
                cases h
                exact hret_z hx hb hr hlocks hw (Or.inr rfl) dX3_lay_80
              · rw [if_neg c8] at h
                refine lv_iconst (v := 0) hx hb dX3_lay_62 (by decide) ?_
                refine W.widen (k := 2) (n := 42) (Nat.le_of_ble_eq_true rfl) (Nat.le_of_ble_eq_true rfl) ?_
                cases h
                exact hret_z hx hb hr hlocks hw (Or.inl rfl) dX3_lay_63
          · rw [if_pos c6] at h
            refine lv_aload_n hx hb dX3_lay_37 rfl (lv_at hl 0 rfl) ?_
            replace h := hbd h
            obtain ⟨q17, eq17, h⟩ := h
            refine hr_getQ (C := RX3) (T := TX3) (N := 11) hx hb hts iX3_lay_X3 hown hk hw rfl 0 (by decide) (hts (.fieldLink RX3 11 "SetterBench" "places" "[LSetterBench$Thing;") (by decide +kernel)) (fun _ h9 => h9) eq17 dX3_lay_38 ?_
            refine lv_iload_n hx hb dX3_lay_41 rfl (lv_at hl 1 rfl) ?_
            replace h := hbd h
            obtain ⟨f18, ef18, h⟩ := h
            have ef18 := Option.some.inj ef18
            refine hr_new (C := RX0) (T := TX0) (N := 2) (ci := 0) (fs := [.int 0, .int 0]) hx hb hts iX3_lay_X0 tyX0 tyX0_ok hown (hts (.classLink RX3 32 RX0) (by decide +kernel)) (hts (.instantiable RX0 2) (by decide +kernel)) (hts (.initialized RX0) (by decide +kernel)) hk hw rfl (fun j hj => by rcases (show j = 0 ∨ j = 1 by omega) with rfl | rfl <;> rfl) (Nat.le_of_ble_eq_true rfl) (Nat.le_of_ble_eq_true rfl) dX3_lay_42 (fun H hw => ?_)
            rw [ef18] at hw
            refine lv_dup hx hb dX3_lay_45 rfl ?_
            replace h := hbd h
            obtain ⟨⟨r19, f20, z21⟩, er19, h⟩ := h
            dsimp only at h
            refine hcallI (o := none) hx hb hml hown hts hk [] [.ref z, .int p1, va_rf q17] (kX0_init l g er19) gX3_lay_X0_init rfl (hts (.initialized RX0) (by decide +kernel)) (hts (.methodLink RX3 34 yX0_init) (by decide +kernel)) (hts (.instanceMethod yX0_init) (by decide +kernel)) (n := 0) rfl (by decide +kernel) rfl ⟨Nat.le_of_ble_eq_true rfl, Nat.le_of_ble_eq_true rfl⟩ hw hl.1 rfl (by cases q17 <;> exact Nat.le_of_ble_eq_true rfl) dX3_lay_46 ⟨Nat.le_of_ble_eq_true rfl, Nat.le_of_ble_eq_true rfl⟩ (fun H locs hw => ?_)
            refine W.eq (g2 := F0 m 49 ls [.ref z, .int p1, va_rf q17]) rfl ?_
            replace h := hbd h
            obtain ⟨a22, rfl, h⟩ := h
            replace h := hbd h
            obtain ⟨u23, eu23, h⟩ := h
            replace h := hbd h
            obtain ⟨f24, ef24, h⟩ := h
            refine hr_sQ (v := (some z)) hx hb hk hw eu23 ef24 dX3_lay_49 (fun H locs hw => ?_)
            refine lv_iconst (v := 1) hx hb dX3_lay_50 (by decide) ?_
            refine W.widen (k := 2) (n := 42) (Nat.le_of_ble_eq_true rfl) (Nat.le_of_ble_eq_true rfl) ?_
            cases h
            exact hret_z hx hb hr hlocks hw (Or.inr rfl) dX3_lay_51
        · rw [if_pos c5] at h
          refine lv_aload_n hx hb dX3_lay_23 rfl (lv_at hl 0 rfl) ?_
          replace h := hbd h
          obtain ⟨q25, eq25, h⟩ := h
          refine hr_getQ (C := RX3) (T := TX3) (N := 11) hx hb hts iX3_lay_X3 hown hk hw rfl 0 (by decide) (hts (.fieldLink RX3 11 "SetterBench" "places" "[LSetterBench$Thing;") (by decide +kernel)) (fun _ h9 => h9) eq25 dX3_lay_24 ?_
          refine lv_iload_n hx hb dX3_lay_27 rfl (lv_at hl 1 rfl) ?_
          refine lv_null hx hb dX3_lay_28 ?_
          replace h := hbd h
          obtain ⟨a26, rfl, h⟩ := h
          replace h := hbd h
          obtain ⟨f27, ef27, h⟩ := h
          refine hr_sN hx hb hk hw ef27 dX3_lay_29 (fun H locs hw => ?_)
          refine lv_iconst (v := 1) hx hb dX3_lay_30 (by decide) ?_
          refine W.widen (k := 2) (n := 42) (Nat.le_of_ble_eq_true rfl) (Nat.le_of_ble_eq_true rfl) ?_
          cases h
          exact hret_z hx hb hr hlocks hw (Or.inr rfl) dX3_lay_31
      · rw [if_neg c4] at h
        refine lv_iconst (v := 0) hx hb dX3_lay_17 (by decide) ?_
        refine W.widen (k := 2) (n := 42) (Nat.le_of_ble_eq_true rfl) (Nat.le_of_ble_eq_true rfl) ?_
        cases h
        exact hret_z hx hb hr hlocks hw (Or.inl rfl) dX3_lay_18
theorem iX3_share_X3 : ∀ w ∈ wsX30, w ∈ wsX3_share := by decide +kernel
def fX3_share (f : hPl) (z : Nat) (a : Nat) (p1 : Int32) (p2 : Int32) : Option (Int32 × hPl × Nat) := (fX3_isPlace f  p1).bind fun r1 => (if r1 = 0 then some (0, f, z) else (fX3_isPlace f  p2).bind fun r3 => (if r3 = 0 then some (0, f, z) else (hgQ f a 2 0).bind fun q5 => (hgQ f a 2 0).bind fun q6 => q6.bind fun a7 => (hlQ f a7 p1).bind fun q8 => q5.bind fun a9 => (hth f q8).bind fun u10 => (hsQ f a9 p2 q8).bind fun f11 => some (1, f11, z)))
set_option maxHeartbeats 4000000 in
set_option maxRecDepth 100000 in
theorem kX3_share (l : Launch) (g : hGb) {f : hPl} {z : Nat} {a : Nat} {p1 : Int32} {p2 : Int32} {r : Int32} {f' : hPl} {z' : Nat} (h : fX3_share f z a p1 p2 = some (r, f', z')) : hCt l g yX3_share wsX3_share 1 0 0 [.ref a, .int p1, .int p2] f z (some (.int r)) f' z' := by
  refine hCt.of (cc := cX3_share) (maxL := 3) (ret := (some .boolean)) (by decide +kernel) rfl (by exact Nat.le_of_ble_eq_true rfl) ?_
  intro p e s m below meth c C hname hw ls hl
  obtain ⟨hx, hb, hml, hown, hts, hr, hlocks, hk⟩ := id C
  have hl : lv_has ls 3 [(0, .ref a), (1, .int p1), (2, .int p2)] := hl
  have hown : s.vm.findClass RX3 = some m.cls := hown
  unfold fX3_share at h
  refine lv_iload_n hx hb dX3_share_0 rfl (lv_at hl 1 rfl) ?_
  replace h := hbd h
  obtain ⟨r1, er1, h⟩ := h
  refine hcallS (o := some (.int r1)) hx hb hml hown hts hk [.int p1] [] (kX3_isPlace l g er1) gX3_share_X3_isPlace rfl (n := 1) rfl (by decide +kernel) ⟨Nat.le_of_ble_eq_true rfl, Nat.le_of_ble_eq_true rfl⟩ hw hl.1 rfl (Nat.le_of_ble_eq_true rfl) dX3_share_1 ⟨Nat.le_of_ble_eq_true rfl, Nat.le_of_ble_eq_true rfl⟩ (fun H locs hw => ?_)
  refine W.eq (g2 := F0 m 4 ls [.int r1]) rfl ?_
  refine lv_if_eq (tgt := 14) hx hb dX3_share_4 (by decide) (fun c2 => ?_) (fun c2 => ?_)
  · rw [if_pos c2] at h
    refine lv_iconst (v := 0) hx hb dX3_share_14 (by decide) ?_
    cases h
    exact hret_z hx hb hr hlocks hw (Or.inl rfl) dX3_share_15
  · rw [if_neg c2] at h
    refine lv_iload_n hx hb dX3_share_7 rfl (lv_at hl 2 rfl) ?_
    replace h := hbd h
    obtain ⟨r3, er3, h⟩ := h
    refine hcallS (o := some (.int r3)) hx hb hml hown hts hk [.int p2] [] (kX3_isPlace l g er3) gX3_share_X3_isPlace rfl (n := 1) rfl (by decide +kernel) ⟨Nat.le_of_ble_eq_true rfl, Nat.le_of_ble_eq_true rfl⟩ hw hl.1 rfl (Nat.le_of_ble_eq_true rfl) dX3_share_8 ⟨Nat.le_of_ble_eq_true rfl, Nat.le_of_ble_eq_true rfl⟩ (fun H locs hw => ?_)
    refine W.eq (g2 := F0 m 11 ls [.int r3]) rfl ?_
    refine lv_if_ne (tgt := 16) hx hb dX3_share_11 (by decide) (fun c4 => ?_) (fun c4 => ?_)
    · rw [if_neg c4] at h
      refine lv_aload_n hx hb dX3_share_16 rfl (lv_at hl 0 rfl) ?_
      replace h := hbd h
      obtain ⟨q5, eq5, h⟩ := h
      refine hr_getQ (C := RX3) (T := TX3) (N := 11) hx hb hts iX3_share_X3 hown hk hw rfl 0 (by decide) (hts (.fieldLink RX3 11 "SetterBench" "places" "[LSetterBench$Thing;") (by decide +kernel)) (fun _ h9 => h9) eq5 dX3_share_17 ?_
      refine lv_iload_n hx hb dX3_share_20 rfl (lv_at hl 2 rfl) ?_
      refine lv_aload_n hx hb dX3_share_21 rfl (lv_at hl 0 rfl) ?_
      replace h := hbd h
      obtain ⟨q6, eq6, h⟩ := h
      refine hr_getQ (C := RX3) (T := TX3) (N := 11) hx hb hts iX3_share_X3 hown hk hw rfl 0 (by decide) (hts (.fieldLink RX3 11 "SetterBench" "places" "[LSetterBench$Thing;") (by decide +kernel)) (fun _ h9 => h9) eq6 dX3_share_22 ?_
      refine lv_iload_n hx hb dX3_share_25 rfl (lv_at hl 1 rfl) ?_
      replace h := hbd h
      obtain ⟨a7, rfl, h⟩ := h
      replace h := hbd h
      obtain ⟨q8, eq8, h⟩ := h
      refine hr_lQ hx hb hk hw eq8 dX3_share_26 ?_
      replace h := hbd h
      obtain ⟨a9, rfl, h⟩ := h
      replace h := hbd h
      obtain ⟨u10, eu10, h⟩ := h
      replace h := hbd h
      obtain ⟨f11, ef11, h⟩ := h
      refine hr_sQ (v := q8) hx hb hk hw eu10 ef11 dX3_share_27 (fun H locs hw => ?_)
      refine lv_iconst (v := 1) hx hb dX3_share_28 (by decide) ?_
      cases h
      exact hret_z hx hb hr hlocks hw (Or.inr rfl) dX3_share_29
    · rw [if_pos c4] at h
      refine lv_iconst (v := 0) hx hb dX3_share_14 (by decide) ?_
      cases h
      exact hret_z hx hb hr hlocks hw (Or.inl rfl) dX3_share_15
def fX3_asTray (f : hPl) (p1 : Option Nat) : Option (Option Nat) := (hii f p1 1).bind fun x1 => (if x1 = 0 then some none else p1.bind fun a3 => (hob f a3 1).bind fun u4 => some (some a3))
set_option maxHeartbeats 4000000 in
set_option maxRecDepth 100000 in
theorem kX3_asTray (l : Launch) (g : hGb) {f : hPl} {z : Nat} {p1 : Option Nat} {r : Option Nat} (h : fX3_asTray f p1 = some r) : hCt l g yX3_asTray wsX3_asTray 0 0 0 [va_rf p1] f z (some (va_rf r)) f z := by
  refine hCt.of (cc := cX3_asTray) (maxL := 2) (ret := (some (.object "SetterBench$Tray"))) (by decide +kernel) rfl (by cases p1 <;> exact Nat.le_of_ble_eq_true rfl) ?_
  intro p e s m below meth c C hname hw ls hl
  obtain ⟨hx, hb, hml, hown, hts, hr, hlocks, hk⟩ := id C
  have hl : lv_has ls 2 [(0, va_rf p1)] := by cases p1 <;> exact hl
  have hown : s.vm.findClass RX3 = some m.cls := hown
  unfold fX3_asTray at h
  refine hv_aload_n hx hb dX3_asTray_0 rfl (lv_at hl 0 rfl) ?_
  replace h := hbd h
  obtain ⟨x1, ex1, h⟩ := h
  refine hr_instT (q := p1) hx hb hown (hts (.classLink RX3 15 RX2) (by decide +kernel)) hk hw ex1 dX3_asTray_1 ?_
  refine lv_if_eq (tgt := 16) hx hb dX3_asTray_4 (by decide) (fun c2 => ?_) (fun c2 => ?_)
  · rw [if_pos c2] at h
    refine lv_null hx hb dX3_asTray_16 ?_
    cases h
    exact hret_a hx hb hr hlocks hw dX3_asTray_17
  · rw [if_neg c2] at h
    refine hv_aload_n hx hb dX3_asTray_7 rfl (lv_at hl 0 rfl) ?_
    replace h := hbd h
    obtain ⟨a3, rfl, h⟩ := h
    replace h := hbd h
    obtain ⟨u4, eu4, h⟩ := h
    refine hr_castT hx hb hown (hts (.classLink RX3 15 RX2) (by decide +kernel)) hk hw eu4 dX3_asTray_8 ?_
    refine lv_astore_n (lv' := [(1, .ref a3), (0, .ref a3)]) hx hb dX3_asTray_11 rfl hl (by decide) rfl (fun ls hl => ?_)
    refine lv_aload_n hx hb dX3_asTray_12 rfl (lv_at hl 0 rfl) ?_
    refine lv_goto (tgt := 17) hx hb dX3_asTray_13 (by decide) ?_
    cases h
    exact hret_a hx hb hr hlocks hw dX3_asTray_17
def fX3_numberFor (f : hPl) (p1 : Int32) (p2 : Int32) : Option Int64 := (if p1.toInt < 3 ∨ 5 < p1.toInt then some (p2.toInt64) else if p1 = 3 then some ((p2.toInt64) * (1000003 : Int64)) else if p1 = 4 then some ((p2.toInt8.toInt32).toInt64) else if p1 = 5 then some ((p2 &&& 1).toInt64) else none)
set_option maxHeartbeats 4000000 in
set_option maxRecDepth 100000 in
theorem kX3_numberFor (l : Launch) (g : hGb) {f : hPl} {z : Nat} {p1 : Int32} {p2 : Int32} {r : Int64} (h : fX3_numberFor f p1 p2 = some r) : hCt l g yX3_numberFor wsX3_numberFor 0 0 0 [.int p1, .int p2] f z (some (.long r)) f z := by
  refine hCt.of (cc := cX3_numberFor) (maxL := 2) (ret := (some .long)) (by decide +kernel) rfl (by exact Nat.le_of_ble_eq_true rfl) ?_
  intro p e s m below meth c C hname hw ls hl
  obtain ⟨hx, hb, hml, hown, hts, hr, hlocks, hk⟩ := id C
  have hl : lv_has ls 2 [(0, .int p1), (1, .int p2)] := hl
  have hown : s.vm.findClass RX3 = some m.cls := hown
  unfold fX3_numberFor at h
  refine lv_iload_n hx hb dX3_numberFor_0 rfl (lv_at hl 0 rfl) ?_
  by_cases c1 : p1.toInt < 3 ∨ 5 < p1.toInt
  · rw [if_pos c1] at h
    refine lv_tableOut (tgt := 44) hx hb dX3_numberFor_1 c1 (by decide) ?_
    refine lv_iload_n hx hb dX3_numberFor_44 rfl (lv_at hl 1 rfl) ?_
    refine lv_i2l hx hb dX3_numberFor_45 rfl ?_
    cases h
    exact hret_l hx hb hr hlocks hw dX3_numberFor_46
  rw [if_neg c1] at h
  by_cases c2 : p1 = 3
  · rw [if_pos c2] at h
    refine hv_arm (off := 27) (tgt := 28) hx hb c2 dX3_numberFor_1 (by decide) (by decide) (by decide) (by decide) ?_
    refine lv_iload_n hx hb dX3_numberFor_28 rfl (lv_at hl 1 rfl) ?_
    refine lv_i2l hx hb dX3_numberFor_29 rfl ?_
    refine lv_ldc2 (v := (1000003)) hx hb hown (hts (.constantLong RX3 125 (1000003)) (by decide +kernel)) dX3_numberFor_30 ?_
    refine lv_lmul hx hb dX3_numberFor_33 ?_
    cases h
    exact hret_l hx hb hr hlocks hw dX3_numberFor_34
  rw [if_neg c2] at h
  by_cases c3 : p1 = 4
  · rw [if_pos c3] at h
    refine hv_arm (off := 34) (tgt := 35) hx hb c3 dX3_numberFor_1 (by decide) (by decide) (by decide) (by decide) ?_
    refine lv_iload_n hx hb dX3_numberFor_35 rfl (lv_at hl 1 rfl) ?_
    refine lv_i2b hx hb dX3_numberFor_36 rfl ?_
    refine lv_i2l hx hb dX3_numberFor_37 rfl ?_
    cases h
    exact hret_l hx hb hr hlocks hw dX3_numberFor_38
  rw [if_neg c3] at h
  by_cases c4 : p1 = 5
  · rw [if_pos c4] at h
    refine hv_arm (off := 38) (tgt := 39) hx hb c4 dX3_numberFor_1 (by decide) (by decide) (by decide) (by decide) ?_
    refine lv_iload_n hx hb dX3_numberFor_39 rfl (lv_at hl 1 rfl) ?_
    refine lv_iconst (v := 1) hx hb dX3_numberFor_40 (by decide) ?_
    refine lv_iand hx hb dX3_numberFor_41 ?_
    refine lv_i2l hx hb dX3_numberFor_42 rfl ?_
    cases h
    exact hret_l hx hb hr hlocks hw dX3_numberFor_43
  rw [if_neg c4] at h
  cases h
theorem iX3_set_X3 : ∀ w ∈ wsX30, w ∈ wsX3_set := by decide +kernel
theorem iX3_set_X2 : ∀ w ∈ wsX20, w ∈ wsX3_set := by decide +kernel
def fX3_set (f : hPl) (z : Nat) (a : Nat) (p1 : Int32) (p2 : Int32) (p3 : Int32) : Option (Int32 × hPl × Nat) := (fX3_isPlace f  p1).bind fun r1 => (if r1 = 0 then some ((-1), f, z) else (hgQ f a 2 0).bind fun q3 => q3.bind fun a4 => (hlQ f a4 p1).bind fun q5 => (if q5 = none then some (1, f, z) else (hgQ f a 2 0).bind fun q7 => q7.bind fun a8 => (hlQ f a8 p1).bind fun q9 => (fX3_asTray f  q9).bind fun r10 => (if r10 = none then some (2, f, z) else r10.bind fun a12 => (hob f a12 1).bind fun u13 => (fX2_isOfStones f a12 ).bind fun r14 => (if r14 = 0 then (hgI f a12 1 0).bind fun x16 => (fX3_numberFor f  x16 p3).bind fun r17 => (hob f a12 1).bind fun u18 => (fX2_write f z a12 p2 r17).bind fun r19t => (if r19t.1 = 0 then some (3, r19t.2.1, r19t.2.2) else some (0, r19t.2.1, r19t.2.2)) else some (2, f, z)))))
set_option maxHeartbeats 4000000 in
set_option maxRecDepth 100000 in
theorem kX3_set (l : Launch) (g : hGb) {f : hPl} {z : Nat} {a : Nat} {p1 : Int32} {p2 : Int32} {p3 : Int32} {r : Int32} {f' : hPl} {z' : Nat} (h : fX3_set f z a p1 p2 p3 = some (r, f', z')) : hCt l g yX3_set wsX3_set 2 0 0 [.ref a, .int p1, .int p2, .int p3] f z (some (.int r)) f' z' := by
  refine hCt.of (cc := cX3_set) (maxL := 5) (ret := (some .int)) (by decide +kernel) rfl (by exact Nat.le_of_ble_eq_true rfl) ?_
  intro p e s m below meth c C hname hw ls hl
  obtain ⟨hx, hb, hml, hown, hts, hr, hlocks, hk⟩ := id C
  have hl : lv_has ls 5 [(0, .ref a), (1, .int p1), (2, .int p2), (3, .int p3)] := hl
  have hown : s.vm.findClass RX3 = some m.cls := hown
  unfold fX3_set at h
  refine lv_iload_n hx hb dX3_set_0 rfl (lv_at hl 1 rfl) ?_
  replace h := hbd h
  obtain ⟨r1, er1, h⟩ := h
  refine hcallS (o := some (.int r1)) hx hb hml hown hts hk [.int p1] [] (kX3_isPlace l g er1) gX3_set_X3_isPlace rfl (n := 1) rfl (by decide +kernel) ⟨Nat.le_of_ble_eq_true rfl, Nat.le_of_ble_eq_true rfl⟩ hw hl.1 rfl (Nat.le_of_ble_eq_true rfl) dX3_set_1 ⟨Nat.le_of_ble_eq_true rfl, Nat.le_of_ble_eq_true rfl⟩ (fun H locs hw => ?_)
  refine W.eq (g2 := F0 m 4 ls [.int r1]) rfl ?_
  refine lv_if_ne (tgt := 9) hx hb dX3_set_4 (by decide) (fun c2 => ?_) (fun c2 => ?_)
  · rw [if_neg c2] at h
    refine lv_aload_n hx hb dX3_set_9 rfl (lv_at hl 0 rfl) ?_
    replace h := hbd h
    obtain ⟨q3, eq3, h⟩ := h
    refine hr_getQ (C := RX3) (T := TX3) (N := 11) hx hb hts iX3_set_X3 hown hk hw rfl 0 (by decide) (hts (.fieldLink RX3 11 "SetterBench" "places" "[LSetterBench$Thing;") (by decide +kernel)) (fun _ h9 => h9) eq3 dX3_set_10 ?_
    refine lv_iload_n hx hb dX3_set_13 rfl (lv_at hl 1 rfl) ?_
    replace h := hbd h
    obtain ⟨a4, rfl, h⟩ := h
    replace h := hbd h
    obtain ⟨q5, eq5, h⟩ := h
    refine hr_lQ hx hb hk hw eq5 dX3_set_14 ?_
    refine hv_ifnonnull (q := q5) (tgt := 20) hx hb dX3_set_15 (by decide) (fun c6 => ?_) (fun c6 => ?_)
    · rw [if_neg c6] at h
      refine lv_aload_n hx hb dX3_set_20 rfl (lv_at hl 0 rfl) ?_
      replace h := hbd h
      obtain ⟨q7, eq7, h⟩ := h
      refine hr_getQ (C := RX3) (T := TX3) (N := 11) hx hb hts iX3_set_X3 hown hk hw rfl 0 (by decide) (hts (.fieldLink RX3 11 "SetterBench" "places" "[LSetterBench$Thing;") (by decide +kernel)) (fun _ h9 => h9) eq7 dX3_set_21 ?_
      refine lv_iload_n hx hb dX3_set_24 rfl (lv_at hl 1 rfl) ?_
      replace h := hbd h
      obtain ⟨a8, rfl, h⟩ := h
      replace h := hbd h
      obtain ⟨q9, eq9, h⟩ := h
      refine hr_lQ hx hb hk hw eq9 dX3_set_25 ?_
      replace h := hbd h
      obtain ⟨r10, er10, h⟩ := h
      refine hcallS (o := some (va_rf r10)) hx hb hml hown hts hk [va_rf q9] [] (kX3_asTray l g er10) gX3_set_X3_asTray rfl (n := 1) rfl (by decide +kernel) ⟨Nat.le_of_ble_eq_true rfl, Nat.le_of_ble_eq_true rfl⟩ hw hl.1 rfl (Nat.le_of_ble_eq_true rfl) dX3_set_26 ⟨Nat.le_of_ble_eq_true rfl, Nat.le_of_ble_eq_true rfl⟩ (fun H locs hw => ?_)
      refine W.eq (g2 := F0 m 29 ls [va_rf r10]) rfl ?_
      refine hv_astore (q := r10) (lv' := [(4, va_rf r10), (0, .ref a), (1, .int p1), (2, .int p2), (3, .int p3)]) hx hb dX3_set_29 hl (by decide) rfl (fun ls hl => ?_)
      refine hv_aload hx hb dX3_set_31 (lv_at hl 0 rfl) ?_
      refine hv_ifnull (q := r10) (tgt := 44) hx hb dX3_set_33 (by decide) (fun c11 => ?_) (fun c11 => ?_)
      · rw [if_pos c11] at h
        refine lv_iconst (v := 2) hx hb dX3_set_44 (by decide) ?_
        cases h
        exact hret_i hx hb hr hlocks hw dX3_set_45
      · rw [if_neg c11] at h
        refine hv_aload hx hb dX3_set_36 (lv_at hl 0 rfl) ?_
        replace h := hbd h
        obtain ⟨a12, rfl, h⟩ := h
        replace h := hbd h
        obtain ⟨u13, eu13, h⟩ := h
        replace h := hbd h
        obtain ⟨r14, er14, h⟩ := h
        refine hcallV (o := some (.int r14)) hx hb hml hown hts hk [] [] (kX2_isOfStones l g er14) gX3_set_X2_isOfStones rfl (n := 0) rfl (by decide +kernel) ⟨Nat.le_of_ble_eq_true rfl, Nat.le_of_ble_eq_true rfl⟩ (ci := 1) rfl eu13 hw hl.1 rfl (Nat.le_of_ble_eq_true rfl) dX3_set_38 ⟨Nat.le_of_ble_eq_true rfl, Nat.le_of_ble_eq_true rfl⟩ (fun H locs hw => ?_)
        refine W.eq (g2 := F0 m 41 ls [.int r14]) rfl ?_
        refine lv_if_eq (tgt := 46) hx hb dX3_set_41 (by decide) (fun c15 => ?_) (fun c15 => ?_)
        · rw [if_pos c15] at h
          refine lv_aload hx hb dX3_set_46 (lv_at hl 0 rfl) ?_
          refine lv_iload_n hx hb dX3_set_48 rfl (lv_at hl 3 rfl) ?_
          refine lv_aload hx hb dX3_set_49 (lv_at hl 0 rfl) ?_
          replace h := hbd h
          obtain ⟨x16, ex16, h⟩ := h
          refine hr_getI (C := RX2) (T := TX2) (N := 2) hx hb hts iX3_set_X2 hown hk hw rfl 0 (by decide) (hts (.fieldLink RX3 43 "SetterBench$Tray" "sort" "I") (by decide +kernel)) (u_same (hts (.sameField "SetterBench$Tray" "SetterBench$Thing" "sort" "I") (by decide +kernel))) ex16 dX3_set_51 ?_
          refine lv_iload_n hx hb dX3_set_54 rfl (lv_at hl 4 rfl) ?_
          replace h := hbd h
          obtain ⟨r17, er17, h⟩ := h
          refine hcallS (o := some (.long r17)) hx hb hml hown hts hk [.int x16, .int p3] [.int p2, .ref a12] (kX3_numberFor l g er17) gX3_set_X3_numberFor rfl (n := 2) rfl (by decide +kernel) ⟨Nat.le_of_ble_eq_true rfl, Nat.le_of_ble_eq_true rfl⟩ hw hl.1 rfl (Nat.le_of_ble_eq_true rfl) dX3_set_55 ⟨Nat.le_of_ble_eq_true rfl, Nat.le_of_ble_eq_true rfl⟩ (fun H locs hw => ?_)
          refine W.eq (g2 := F0 m 58 ls [.long r17, .int p2, .ref a12]) rfl ?_
          replace h := hbd h
          obtain ⟨u18, eu18, h⟩ := h
          replace h := hbd h
          obtain ⟨⟨r19, f20, z21⟩, er19, h⟩ := h
          dsimp only at h
          refine hcallV (o := some (.int r19)) hx hb hml hown hts hk [.int p2, .long r17] [] (kX2_write l g er19) gX3_set_X2_write rfl (n := 2) rfl (by decide +kernel) ⟨Nat.le_of_ble_eq_true rfl, Nat.le_of_ble_eq_true rfl⟩ (ci := 1) rfl eu18 hw hl.1 rfl (Nat.le_of_ble_eq_true rfl) dX3_set_58 ⟨Nat.le_of_ble_eq_true rfl, Nat.le_of_ble_eq_true rfl⟩ (fun H locs hw => ?_)
          refine W.eq (g2 := F0 m 61 ls [.int r19]) rfl ?_
          refine lv_if_eq (tgt := 68) hx hb dX3_set_61 (by decide) (fun c22 => ?_) (fun c22 => ?_)
          · rw [if_pos c22] at h
            refine lv_iconst (v := 3) hx hb dX3_set_68 (by decide) ?_
            cases h
            exact hret_i hx hb hr hlocks hw dX3_set_69
          · rw [if_neg c22] at h
            refine lv_iconst (v := 0) hx hb dX3_set_64 (by decide) ?_
            refine lv_goto (tgt := 69) hx hb dX3_set_65 (by decide) ?_
            cases h
            exact hret_i hx hb hr hlocks hw dX3_set_69
        · rw [if_neg c15] at h
          refine lv_iconst (v := 2) hx hb dX3_set_44 (by decide) ?_
          cases h
          exact hret_i hx hb hr hlocks hw dX3_set_45
    · rw [if_pos c6] at h
      refine lv_iconst (v := 1) hx hb dX3_set_18 (by decide) ?_
      cases h
      exact hret_i hx hb hr hlocks hw dX3_set_19
  · rw [if_pos c2] at h
    refine lv_iconst (v := (-1)) hx hb dX3_set_7 (by decide) ?_
    cases h
    exact hret_i hx hb hr hlocks hw dX3_set_8
theorem iX3_newStone_X3 : ∀ w ∈ wsX30, w ∈ wsX3_newStone := by decide +kernel
def fX3_newStone (f : hPl) (z : Nat) (a : Nat) (p1 : Int32) : Option (Int64 × hPl × Nat) := (if p1 = 0 then some ((0 : Int64), f, z) else (hgI f a 2 4).bind fun x2 => (hput f a 2 4 (.int (x2 + 1))).bind fun f3 => (hgI f3 a 2 4).bind fun x4 => some ((((10 : Int64) * (x4.toInt64)) + (p1.toInt64)), f3, z))
set_option maxHeartbeats 4000000 in
set_option maxRecDepth 100000 in
theorem kX3_newStone (l : Launch) (g : hGb) {f : hPl} {z : Nat} {a : Nat} {p1 : Int32} {r : Int64} {f' : hPl} {z' : Nat} (h : fX3_newStone f z a p1 = some (r, f', z')) : hCt l g yX3_newStone wsX3_newStone 0 0 0 [.ref a, .int p1] f z (some (.long r)) f' z' := by
  refine hCt.of (cc := cX3_newStone) (maxL := 2) (ret := (some .long)) (by decide +kernel) rfl (by exact Nat.le_of_ble_eq_true rfl) ?_
  intro p e s m below meth c C hname hw ls hl
  obtain ⟨hx, hb, hml, hown, hts, hr, hlocks, hk⟩ := id C
  have hl : lv_has ls 2 [(0, .ref a), (1, .int p1)] := hl
  have hown : s.vm.findClass RX3 = some m.cls := hown
  unfold fX3_newStone at h
  refine lv_iload_n hx hb dX3_newStone_0 rfl (lv_at hl 1 rfl) ?_
  refine lv_if_ne (tgt := 6) hx hb dX3_newStone_1 (by decide) (fun c1 => ?_) (fun c1 => ?_)
  · rw [if_neg c1] at h
    refine lv_aload_n hx hb dX3_newStone_6 rfl (lv_at hl 0 rfl) ?_
    refine lv_dup hx hb dX3_newStone_7 rfl ?_
    replace h := hbd h
    obtain ⟨x2, ex2, h⟩ := h
    refine hr_getI (C := RX3) (T := TX3) (N := 11) hx hb hts iX3_newStone_X3 hown hk hw rfl 4 (by decide) (hts (.fieldLink RX3 104 "SetterBench" "stonesMade" "I") (by decide +kernel)) (fun _ h9 => h9) ex2 dX3_newStone_8 ?_
    refine lv_iconst (v := 1) hx hb dX3_newStone_11 (by decide) ?_
    refine lv_iadd hx hb dX3_newStone_12 ?_
    replace h := hbd h
    obtain ⟨f3, ef3, h⟩ := h
    refine hr_put (C := RX3) (T := TX3) (N := 11) (ty := .int) hx hb hts iX3_newStone_X3 tyX3 tyX3_ok nmX3 hown hk hw rfl 4 (by decide) (hts (.fieldLink RX3 104 "SetterBench" "stonesMade" "I") (by decide +kernel)) (fun _ h9 => h9) rfl (by decide +kernel) rfl rfl ef3 dX3_newStone_13 (fun H locs hw => ?_)
    refine lv_ldc2 (v := (10)) hx hb hown (hts (.constantLong RX3 127 (10)) (by decide +kernel)) dX3_newStone_16 ?_
    refine lv_aload_n hx hb dX3_newStone_19 rfl (lv_at hl 0 rfl) ?_
    replace h := hbd h
    obtain ⟨x4, ex4, h⟩ := h
    refine hr_getI (C := RX3) (T := TX3) (N := 11) hx hb hts iX3_newStone_X3 hown hk hw rfl 4 (by decide) (hts (.fieldLink RX3 104 "SetterBench" "stonesMade" "I") (by decide +kernel)) (fun _ h9 => h9) ex4 dX3_newStone_20 ?_
    refine lv_i2l hx hb dX3_newStone_23 rfl ?_
    refine lv_lmul hx hb dX3_newStone_24 ?_
    refine lv_iload_n hx hb dX3_newStone_25 rfl (lv_at hl 1 rfl) ?_
    refine lv_i2l hx hb dX3_newStone_26 rfl ?_
    refine lv_ladd hx hb dX3_newStone_27 ?_
    cases h
    exact hret_l hx hb hr hlocks hw dX3_newStone_28
  · rw [if_pos c1] at h
    refine lv_lconst (v := 0) hx hb dX3_newStone_4 (by decide) ?_
    cases h
    exact hret_l hx hb hr hlocks hw dX3_newStone_5
theorem iX3_keep_X3 : ∀ w ∈ wsX30, w ∈ wsX3_keep := by decide +kernel
def fX3_keep (f : hPl) (z : Nat) (a : Nat) (p1 : Option Nat) : Option (Unit × hPl × Nat) := (hgQ f a 2 2).bind fun q1 => p1.bind fun a2 => (hob f a2 1).bind fun u3 => (fX2_copyTo f z a2 q1).bind fun r4t => (hput r4t.2.1 a 2 3 (.ref a2)).bind fun f7 => some ((), f7, r4t.2.2)
set_option maxHeartbeats 4000000 in
set_option maxRecDepth 100000 in
theorem kX3_keep (l : Launch) (g : hGb) {f : hPl} {z : Nat} {a : Nat} {p1 : Option Nat} {r : Unit} {f' : hPl} {z' : Nat} (h : fX3_keep f z a p1 = some (r, f', z')) : hCt l g yX3_keep wsX3_keep 2 0 0 [.ref a, va_rf p1] f z none f' z' := by
  refine hCt.of (cc := cX3_keep) (maxL := 2) (ret := none) (by decide +kernel) rfl (by cases p1 <;> exact Nat.le_of_ble_eq_true rfl) ?_
  intro p e s m below meth c C hname hw ls hl
  obtain ⟨hx, hb, hml, hown, hts, hr, hlocks, hk⟩ := id C
  have hl : lv_has ls 2 [(0, .ref a), (1, va_rf p1)] := by cases p1 <;> exact hl
  have hown : s.vm.findClass RX3 = some m.cls := hown
  unfold fX3_keep at h
  refine hv_aload_n hx hb dX3_keep_0 rfl (lv_at hl 1 rfl) ?_
  refine lv_aload_n hx hb dX3_keep_1 rfl (lv_at hl 0 rfl) ?_
  replace h := hbd h
  obtain ⟨q1, eq1, h⟩ := h
  refine hr_getQ (C := RX3) (T := TX3) (N := 11) hx hb hts iX3_keep_X3 hown hk hw rfl 2 (by decide) (hts (.fieldLink RX3 24 "SetterBench" "kept" "[J") (by decide +kernel)) (fun _ h9 => h9) eq1 dX3_keep_2 ?_
  replace h := hbd h
  obtain ⟨a2, rfl, h⟩ := h
  replace h := hbd h
  obtain ⟨u3, eu3, h⟩ := h
  replace h := hbd h
  obtain ⟨⟨r4, f5, z6⟩, er4, h⟩ := h
  dsimp only at h
  refine hcallV (o := none) hx hb hml hown hts hk [va_rf q1] [] (kX2_copyTo l g er4) gX3_keep_X2_copyTo rfl (n := 1) rfl (by decide +kernel) ⟨Nat.le_of_ble_eq_true rfl, Nat.le_of_ble_eq_true rfl⟩ (ci := 1) rfl eu3 hw hl.1 rfl (Nat.le_of_ble_eq_true rfl) dX3_keep_5 ⟨Nat.le_of_ble_eq_true rfl, Nat.le_of_ble_eq_true rfl⟩ (fun H locs hw => ?_)
  refine W.eq (g2 := F0 m 8 ls []) rfl ?_
  refine lv_aload_n hx hb dX3_keep_8 rfl (lv_at hl 0 rfl) ?_
  refine lv_aload_n hx hb dX3_keep_9 rfl (lv_at hl 1 rfl) ?_
  replace h := hbd h
  obtain ⟨f7, ef7, h⟩ := h
  refine hr_put (C := RX3) (T := TX3) (N := 11) (ty := .object "SetterBench$Tray") hx hb hts iX3_keep_X3 tyX3 tyX3_ok nmX3 hown hk hw rfl 3 (by decide) (hts (.fieldLink RX3 63 "SetterBench" "keptTray" "LSetterBench$Tray;") (by decide +kernel)) (fun _ h9 => h9) rfl (by decide +kernel) rfl rfl ef7 dX3_keep_10 (fun H locs hw => ?_)
  cases h
  exact hret_v hx hb hr hlocks hw dX3_keep_13
theorem iX3_sweepOrRefuse_X3 : ∀ w ∈ wsX30, w ∈ wsX3_sweepOrRefuse := by decide +kernel
def fX3_sweepOrRefuse_j80 (f : hPl) (z : Nat) (a : Nat) (v2 : Int32) (v4 : Int32) (v5 : Int32) (v7 : Option Nat) (v8 : Option Nat) : Option (Int32 × hPl × Nat) := v8.bind fun a19 => (hob f a19 1).bind fun u20 => (fX2_howManyTaken f a19 v7 v2 v5).bind fun r21 => (hob f a19 1).bind fun u22 => (fX2_copyRun f z a19 v7 v2 v4 r21).bind fun r23t => (hgI r23t.2.1 a 2 10).bind fun x26 => (hput r23t.2.1 a 2 10 (.int (x26 + r21))).bind fun f27 => (if r21 = v5 then some (0, f27, r23t.2.2) else some ((10 + r21), f27, r23t.2.2))
set_option maxHeartbeats 4000000 in
set_option maxRecDepth 100000 in
theorem kX3_sweepOrRefuse_j80 {g : hGb} {p : Program} {l : Launch} {e : Env} {s : State} {m : MethodId} {args : Array Value} {below : List Frame} {meth : Method} {c : Code} {A : Nat → Prop} (C : hX g p s m args meth c RX3 cX3_sweepOrRefuse 10 wsX3_sweepOrRefuse (some .int)) {r : Int32} {f' : hPl} {z' : Nat}  : ∀ (f : hPl) (z : Nat) (a : Nat) (v2 : Int32) (v4 : Int32) (v5 : Int32) (v7 : Option Nat) (v8 : Option Nat), fX3_sweepOrRefuse_j80 f z a v2 v4 v5 v7 v8 = some (r, f', z') → ∀ (H : Heap) (locs : List Loc) (ls : Array Slot), hW g A s f z H locs → lv_has ls 10 [(0, .ref a), (2, .int v2), (4, .int v4), (5, .int v5), (7, va_rf v7), (8, va_rf v8)] → W p l e (hRm 3 0 0) s m args below meth c H locs 0 0 (hZ g A below args s 0 0 (some (.int r)) f' z') (F0 m 80 ls []) := by
  obtain ⟨hx, hb, hml, hown, hts, hr, hlocks, hk⟩ := id C
  intro f z a v2 v4 v5 v7 v8 h H locs ls hw hl
  unfold fX3_sweepOrRefuse_j80 at h
  refine hv_aload hx hb dX3_sweepOrRefuse_80 (lv_at hl 5 rfl) ?_
  refine hv_aload hx hb dX3_sweepOrRefuse_82 (lv_at hl 4 rfl) ?_
  refine lv_iload_n hx hb dX3_sweepOrRefuse_84 rfl (lv_at hl 1 rfl) ?_
  refine lv_iload hx hb dX3_sweepOrRefuse_85 (lv_at hl 3 rfl) ?_
  replace h := hbd h
  obtain ⟨a19, rfl, h⟩ := h
  replace h := hbd h
  obtain ⟨u20, eu20, h⟩ := h
  replace h := hbd h
  obtain ⟨r21, er21, h⟩ := h
  refine hcallV (o := some (.int r21)) hx hb hml hown hts hk [va_rf v7, .int v2, .int v5] [] (kX2_howManyTaken l g er21) gX3_sweepOrRefuse_X2_howManyTaken rfl (n := 3) rfl (by decide +kernel) ⟨Nat.le_of_ble_eq_true rfl, Nat.le_of_ble_eq_true rfl⟩ (ci := 1) rfl eu20 hw hl.1 rfl (Nat.le_of_ble_eq_true rfl) dX3_sweepOrRefuse_87 ⟨Nat.le_of_ble_eq_true rfl, Nat.le_of_ble_eq_true rfl⟩ (fun H locs hw => ?_)
  refine W.eq (g2 := F0 m 90 ls [.int r21]) rfl ?_
  refine lv_istore (lv' := [(9, .int r21), (0, .ref a), (2, .int v2), (4, .int v4), (5, .int v5), (7, va_rf v7), (8, .ref a19)]) hx hb dX3_sweepOrRefuse_90 hl (by decide) rfl (fun ls hl => ?_)
  refine lv_aload hx hb dX3_sweepOrRefuse_92 (lv_at hl 6 rfl) ?_
  refine hv_aload hx hb dX3_sweepOrRefuse_94 (lv_at hl 5 rfl) ?_
  refine lv_iload_n hx hb dX3_sweepOrRefuse_96 rfl (lv_at hl 2 rfl) ?_
  refine lv_iload hx hb dX3_sweepOrRefuse_97 (lv_at hl 3 rfl) ?_
  refine lv_iload hx hb dX3_sweepOrRefuse_99 (lv_at hl 0 rfl) ?_
  replace h := hbd h
  obtain ⟨u22, eu22, h⟩ := h
  replace h := hbd h
  obtain ⟨⟨r23, f24, z25⟩, er23, h⟩ := h
  dsimp only at h
  refine hcallV (o := none) hx hb hml hown hts hk [va_rf v7, .int v2, .int v4, .int r21] [] (kX2_copyRun l g er23) gX3_sweepOrRefuse_X2_copyRun rfl (n := 4) rfl (by decide +kernel) ⟨Nat.le_of_ble_eq_true rfl, Nat.le_of_ble_eq_true rfl⟩ (ci := 1) rfl eu22 hw hl.1 rfl (Nat.le_of_ble_eq_true rfl) dX3_sweepOrRefuse_101 ⟨Nat.le_of_ble_eq_true rfl, Nat.le_of_ble_eq_true rfl⟩ (fun H locs hw => ?_)
  refine W.eq (g2 := F0 m 104 ls []) rfl ?_
  refine lv_aload_n hx hb dX3_sweepOrRefuse_104 rfl (lv_at hl 1 rfl) ?_
  refine lv_dup hx hb dX3_sweepOrRefuse_105 rfl ?_
  replace h := hbd h
  obtain ⟨x26, ex26, h⟩ := h
  refine hr_getI (C := RX3) (T := TX3) (N := 11) hx hb hts iX3_sweepOrRefuse_X3 hown hk hw rfl 10 (by decide) (hts (.fieldLink RX3 122 "SetterBench" "carriedMembers" "I") (by decide +kernel)) (fun _ h9 => h9) ex26 dX3_sweepOrRefuse_106 ?_
  refine lv_iload hx hb dX3_sweepOrRefuse_109 (lv_at hl 0 rfl) ?_
  refine lv_iadd hx hb dX3_sweepOrRefuse_111 ?_
  replace h := hbd h
  obtain ⟨f27, ef27, h⟩ := h
  refine hr_put (C := RX3) (T := TX3) (N := 11) (ty := .int) hx hb hts iX3_sweepOrRefuse_X3 tyX3 tyX3_ok nmX3 hown hk hw rfl 10 (by decide) (hts (.fieldLink RX3 122 "SetterBench" "carriedMembers" "I") (by decide +kernel)) (fun _ h9 => h9) rfl (by decide +kernel) rfl rfl ef27 dX3_sweepOrRefuse_112 (fun H locs hw => ?_)
  refine lv_iload hx hb dX3_sweepOrRefuse_115 (lv_at hl 0 rfl) ?_
  refine lv_iload hx hb dX3_sweepOrRefuse_117 (lv_at hl 4 rfl) ?_
  refine lv_icmp_ne (tgt := 126) hx hb dX3_sweepOrRefuse_119 (by decide) (fun c28 => ?_) (fun c28 => ?_)
  · rw [if_neg c28] at h
    refine lv_bipush (v := 10) hx hb dX3_sweepOrRefuse_126 (by decide) ?_
    refine lv_iload hx hb dX3_sweepOrRefuse_128 (lv_at hl 0 rfl) ?_
    refine lv_iadd hx hb dX3_sweepOrRefuse_130 ?_
    cases h
    exact hret_i hx hb hr hlocks hw dX3_sweepOrRefuse_131
  · rw [if_pos c28] at h
    refine lv_iconst (v := 0) hx hb dX3_sweepOrRefuse_122 (by decide) ?_
    refine lv_goto (tgt := 131) hx hb dX3_sweepOrRefuse_123 (by decide) ?_
    cases h
    exact hret_i hx hb hr hlocks hw dX3_sweepOrRefuse_131
def fX3_sweepOrRefuse (f : hPl) (z : Nat) (a : Nat) (p1 : Option Nat) (p2 : Int32) (p3 : Option Nat) (p4 : Int32) (p5 : Int32) (p6 : Int32) : Option (Int32 × hPl × Nat) := (if p1 = none then some (1, f, z) else (if p3 = none then some (1, f, z) else (fX3_asTray f  p1).bind fun r3 => (fX3_asTray f  p3).bind fun r4 => (if r3 = none then some (2, f, z) else (if r4 = none then some (2, f, z) else r3.bind fun a7 => (hob f a7 1).bind fun u8 => (fX2_isLike f a7 r4).bind fun r9 => (if r9 = 0 then some (2, f, z) else (hob f a7 1).bind fun u11 => (fX2_hasRun f a7 p2 p5).bind fun r12 => (if r12 = 0 then some (3, f, z) else r4.bind fun a14 => (hob f a14 1).bind fun u15 => (fX2_hasRun f a14 p4 p5).bind fun r16 => (if r16 = 0 then some (3, f, z) else (if p6 = 0 then fX3_sweepOrRefuse_j80 f z a p2 p4 p5 (some a7) (some a14) else (hob f a 2).bind fun u29 => (fX3_keep f z a (some a14)).bind fun r30t => fX3_sweepOrRefuse_j80 r30t.2.1 r30t.2.2 a p2 p4 p5 (some a7) (some a14)))))))))
set_option maxHeartbeats 4000000 in
set_option maxRecDepth 100000 in
theorem kX3_sweepOrRefuse (l : Launch) (g : hGb) {f : hPl} {z : Nat} {a : Nat} {p1 : Option Nat} {p2 : Int32} {p3 : Option Nat} {p4 : Int32} {p5 : Int32} {p6 : Int32} {r : Int32} {f' : hPl} {z' : Nat} (h : fX3_sweepOrRefuse f z a p1 p2 p3 p4 p5 p6 = some (r, f', z')) : hCt l g yX3_sweepOrRefuse wsX3_sweepOrRefuse 3 0 0 [.ref a, va_rf p1, .int p2, va_rf p3, .int p4, .int p5, .int p6] f z (some (.int r)) f' z' := by
  refine hCt.of (cc := cX3_sweepOrRefuse) (maxL := 10) (ret := (some .int)) (by decide +kernel) rfl (by cases p1 <;> cases p3 <;> exact Nat.le_of_ble_eq_true rfl) ?_
  intro p e s m below meth c C hname hw ls hl
  obtain ⟨hx, hb, hml, hown, hts, hr, hlocks, hk⟩ := id C
  have hl : lv_has ls 10 [(0, .ref a), (1, va_rf p1), (2, .int p2), (3, va_rf p3), (4, .int p4), (5, .int p5), (6, .int p6)] := by cases p1 <;> cases p3 <;> exact hl
  have hown : s.vm.findClass RX3 = some m.cls := hown
  unfold fX3_sweepOrRefuse at h
  refine hv_aload_n hx hb dX3_sweepOrRefuse_0 rfl (lv_at hl 1 rfl) ?_
  refine hv_ifnull (q := p1) (tgt := 8) hx hb dX3_sweepOrRefuse_1 (by decide) (fun c1 => ?_) (fun c1 => ?_)
  · rw [if_pos c1] at h
    refine lv_iconst (v := 1) hx hb dX3_sweepOrRefuse_8 (by decide) ?_
    cases h
    exact hret_i hx hb hr hlocks hw dX3_sweepOrRefuse_9
  · rw [if_neg c1] at h
    refine hv_aload_n hx hb dX3_sweepOrRefuse_4 rfl (lv_at hl 3 rfl) ?_
    refine hv_ifnonnull (q := p3) (tgt := 10) hx hb dX3_sweepOrRefuse_5 (by decide) (fun c2 => ?_) (fun c2 => ?_)
    · rw [if_neg c2] at h
      refine hv_aload_n hx hb dX3_sweepOrRefuse_10 rfl (lv_at hl 1 rfl) ?_
      replace h := hbd h
      obtain ⟨r3, er3, h⟩ := h
      refine hcallS (o := some (va_rf r3)) hx hb hml hown hts hk [va_rf p1] [] (kX3_asTray l g er3) gX3_sweepOrRefuse_X3_asTray rfl (n := 1) rfl (by decide +kernel) ⟨Nat.le_of_ble_eq_true rfl, Nat.le_of_ble_eq_true rfl⟩ hw hl.1 rfl (Nat.le_of_ble_eq_true rfl) dX3_sweepOrRefuse_11 ⟨Nat.le_of_ble_eq_true rfl, Nat.le_of_ble_eq_true rfl⟩ (fun H locs hw => ?_)
      refine W.eq (g2 := F0 m 14 ls [va_rf r3]) rfl ?_
      refine hv_astore (q := r3) (lv' := [(7, va_rf r3), (0, .ref a), (1, va_rf p1), (2, .int p2), (3, va_rf p3), (4, .int p4), (5, .int p5), (6, .int p6)]) hx hb dX3_sweepOrRefuse_14 hl (by decide) rfl (fun ls hl => ?_)
      refine hv_aload_n hx hb dX3_sweepOrRefuse_16 rfl (lv_at hl 4 rfl) ?_
      replace h := hbd h
      obtain ⟨r4, er4, h⟩ := h
      refine hcallS (o := some (va_rf r4)) hx hb hml hown hts hk [va_rf p3] [] (kX3_asTray l g er4) gX3_sweepOrRefuse_X3_asTray rfl (n := 1) rfl (by decide +kernel) ⟨Nat.le_of_ble_eq_true rfl, Nat.le_of_ble_eq_true rfl⟩ hw hl.1 rfl (Nat.le_of_ble_eq_true rfl) dX3_sweepOrRefuse_17 ⟨Nat.le_of_ble_eq_true rfl, Nat.le_of_ble_eq_true rfl⟩ (fun H locs hw => ?_)
      refine W.eq (g2 := F0 m 20 ls [va_rf r4]) rfl ?_
      refine hv_astore (q := r4) (lv' := [(8, va_rf r4), (7, va_rf r3), (0, .ref a), (1, va_rf p1), (2, .int p2), (3, va_rf p3), (4, .int p4), (5, .int p5), (6, .int p6)]) hx hb dX3_sweepOrRefuse_20 hl (by decide) (by cases r3 <;> rfl) (fun ls hl => ?_)
      refine hv_aload hx hb dX3_sweepOrRefuse_22 (lv_at hl 1 rfl) ?_
      refine hv_ifnull (q := r3) (tgt := 42) hx hb dX3_sweepOrRefuse_24 (by decide) (fun c5 => ?_) (fun c5 => ?_)
      · rw [if_pos c5] at h
        refine lv_iconst (v := 2) hx hb dX3_sweepOrRefuse_42 (by decide) ?_
        cases h
        exact hret_i hx hb hr hlocks hw dX3_sweepOrRefuse_43
      · rw [if_neg c5] at h
        refine hv_aload hx hb dX3_sweepOrRefuse_27 (lv_at hl 0 rfl) ?_
        refine hv_ifnull (q := r4) (tgt := 42) hx hb dX3_sweepOrRefuse_29 (by decide) (fun c6 => ?_) (fun c6 => ?_)
        · rw [if_pos c6] at h
          refine lv_iconst (v := 2) hx hb dX3_sweepOrRefuse_42 (by decide) ?_
          cases h
          exact hret_i hx hb hr hlocks hw dX3_sweepOrRefuse_43
        · rw [if_neg c6] at h
          refine hv_aload hx hb dX3_sweepOrRefuse_32 (lv_at hl 1 rfl) ?_
          refine hv_aload hx hb dX3_sweepOrRefuse_34 (lv_at hl 0 rfl) ?_
          replace h := hbd h
          obtain ⟨a7, rfl, h⟩ := h
          replace h := hbd h
          obtain ⟨u8, eu8, h⟩ := h
          replace h := hbd h
          obtain ⟨r9, er9, h⟩ := h
          refine hcallV (o := some (.int r9)) hx hb hml hown hts hk [va_rf r4] [] (kX2_isLike l g er9) gX3_sweepOrRefuse_X2_isLike rfl (n := 1) rfl (by decide +kernel) ⟨Nat.le_of_ble_eq_true rfl, Nat.le_of_ble_eq_true rfl⟩ (ci := 1) rfl eu8 hw hl.1 rfl (Nat.le_of_ble_eq_true rfl) dX3_sweepOrRefuse_36 ⟨Nat.le_of_ble_eq_true rfl, Nat.le_of_ble_eq_true rfl⟩ (fun H locs hw => ?_)
          refine W.eq (g2 := F0 m 39 ls [.int r9]) rfl ?_
          refine lv_if_ne (tgt := 44) hx hb dX3_sweepOrRefuse_39 (by decide) (fun c10 => ?_) (fun c10 => ?_)
          · rw [if_neg c10] at h
            refine lv_aload hx hb dX3_sweepOrRefuse_44 (lv_at hl 1 rfl) ?_
            refine lv_iload_n hx hb dX3_sweepOrRefuse_46 rfl (lv_at hl 4 rfl) ?_
            refine lv_iload hx hb dX3_sweepOrRefuse_47 (lv_at hl 7 rfl) ?_
            replace h := hbd h
            obtain ⟨u11, eu11, h⟩ := h
            replace h := hbd h
            obtain ⟨r12, er12, h⟩ := h
            refine hcallV (o := some (.int r12)) hx hb hml hown hts hk [.int p2, .int p5] [] (kX2_hasRun l g er12) gX3_sweepOrRefuse_X2_hasRun rfl (n := 2) rfl (by decide +kernel) ⟨Nat.le_of_ble_eq_true rfl, Nat.le_of_ble_eq_true rfl⟩ (ci := 1) rfl eu11 hw hl.1 rfl (Nat.le_of_ble_eq_true rfl) dX3_sweepOrRefuse_49 ⟨Nat.le_of_ble_eq_true rfl, Nat.le_of_ble_eq_true rfl⟩ (fun H locs hw => ?_)
            refine W.eq (g2 := F0 m 52 ls [.int r12]) rfl ?_
            refine lv_if_eq (tgt := 67) hx hb dX3_sweepOrRefuse_52 (by decide) (fun c13 => ?_) (fun c13 => ?_)
            · rw [if_pos c13] at h
              refine lv_iconst (v := 3) hx hb dX3_sweepOrRefuse_67 (by decide) ?_
              cases h
              exact hret_i hx hb hr hlocks hw dX3_sweepOrRefuse_68
            · rw [if_neg c13] at h
              refine hv_aload hx hb dX3_sweepOrRefuse_55 (lv_at hl 0 rfl) ?_
              refine lv_iload hx hb dX3_sweepOrRefuse_57 (lv_at hl 6 rfl) ?_
              refine lv_iload hx hb dX3_sweepOrRefuse_59 (lv_at hl 7 rfl) ?_
              replace h := hbd h
              obtain ⟨a14, rfl, h⟩ := h
              replace h := hbd h
              obtain ⟨u15, eu15, h⟩ := h
              replace h := hbd h
              obtain ⟨r16, er16, h⟩ := h
              refine hcallV (o := some (.int r16)) hx hb hml hown hts hk [.int p4, .int p5] [] (kX2_hasRun l g er16) gX3_sweepOrRefuse_X2_hasRun rfl (n := 2) rfl (by decide +kernel) ⟨Nat.le_of_ble_eq_true rfl, Nat.le_of_ble_eq_true rfl⟩ (ci := 1) rfl eu15 hw hl.1 rfl (Nat.le_of_ble_eq_true rfl) dX3_sweepOrRefuse_61 ⟨Nat.le_of_ble_eq_true rfl, Nat.le_of_ble_eq_true rfl⟩ (fun H locs hw => ?_)
              refine W.eq (g2 := F0 m 64 ls [.int r16]) rfl ?_
              refine lv_if_ne (tgt := 69) hx hb dX3_sweepOrRefuse_64 (by decide) (fun c17 => ?_) (fun c17 => ?_)
              · rw [if_neg c17] at h
                refine lv_iload hx hb dX3_sweepOrRefuse_69 (lv_at hl 8 rfl) ?_
                refine lv_if_eq (tgt := 80) hx hb dX3_sweepOrRefuse_71 (by decide) (fun c18 => ?_) (fun c18 => ?_)
                · rw [if_pos c18] at h
                  exact kX3_sweepOrRefuse_j80 C _ _ _ _ _ _ _ _ h _ _ _ hw (lv_sub hl [2, 4, 6, 7, 1, 0] rfl)
                · rw [if_neg c18] at h
                  refine lv_aload_n hx hb dX3_sweepOrRefuse_74 rfl (lv_at hl 2 rfl) ?_
                  refine lv_aload hx hb dX3_sweepOrRefuse_75 (lv_at hl 0 rfl) ?_
                  replace h := hbd h
                  obtain ⟨u29, eu29, h⟩ := h
                  replace h := hbd h
                  obtain ⟨⟨r30, f31, z32⟩, er30, h⟩ := h
                  dsimp only at h
                  refine hcallV (o := none) hx hb hml hown hts hk [va_rf (some a14)] [] (kX3_keep l g er30) gX3_sweepOrRefuse_X3_keep rfl (n := 1) rfl (by decide +kernel) ⟨Nat.le_of_ble_eq_true rfl, Nat.le_of_ble_eq_true rfl⟩ (ci := 2) rfl eu29 hw hl.1 rfl (Nat.le_of_ble_eq_true rfl) dX3_sweepOrRefuse_77 ⟨Nat.le_of_ble_eq_true rfl, Nat.le_of_ble_eq_true rfl⟩ (fun H locs hw => ?_)
                  refine W.eq (g2 := F0 m 80 ls []) rfl ?_
                  exact kX3_sweepOrRefuse_j80 C _ _ _ _ _ _ _ _ h _ _ _ hw (lv_sub hl [2, 4, 6, 7, 1, 0] rfl)
              · rw [if_pos c17] at h
                refine lv_iconst (v := 3) hx hb dX3_sweepOrRefuse_67 (by decide) ?_
                cases h
                exact hret_i hx hb hr hlocks hw dX3_sweepOrRefuse_68
          · rw [if_pos c10] at h
            refine lv_iconst (v := 2) hx hb dX3_sweepOrRefuse_42 (by decide) ?_
            cases h
            exact hret_i hx hb hr hlocks hw dX3_sweepOrRefuse_43
    · rw [if_pos c2] at h
      refine lv_iconst (v := 1) hx hb dX3_sweepOrRefuse_8 (by decide) ?_
      cases h
      exact hret_i hx hb hr hlocks hw dX3_sweepOrRefuse_9
theorem iX3_tally_X3 : ∀ w ∈ wsX30, w ∈ wsX3_tally := by decide +kernel
def fX3_tally (f : hPl) (z : Nat) (a : Nat) (p1 : Int32) : Option (Unit × hPl × Nat) := (if p1.toInt < 0 ∨ 3 < p1.toInt then (hgI f a 2 9).bind fun x2 => (hput f a 2 9 (.int (x2 + 1))).bind fun f3 => some ((), f3, z) else if p1 = 0 then (hgI f a 2 5).bind fun x5 => (hput f a 2 5 (.int (x5 + 1))).bind fun f6 => some ((), f6, z) else if p1 = 1 then (hgI f a 2 6).bind fun x8 => (hput f a 2 6 (.int (x8 + 1))).bind fun f9 => some ((), f9, z) else if p1 = 2 then (hgI f a 2 7).bind fun x11 => (hput f a 2 7 (.int (x11 + 1))).bind fun f12 => some ((), f12, z) else if p1 = 3 then (hgI f a 2 8).bind fun x14 => (hput f a 2 8 (.int (x14 + 1))).bind fun f15 => some ((), f15, z) else none)
set_option maxHeartbeats 4000000 in
set_option maxRecDepth 100000 in
theorem kX3_tally (l : Launch) (g : hGb) {f : hPl} {z : Nat} {a : Nat} {p1 : Int32} {r : Unit} {f' : hPl} {z' : Nat} (h : fX3_tally f z a p1 = some (r, f', z')) : hCt l g yX3_tally wsX3_tally 0 0 0 [.ref a, .int p1] f z none f' z' := by
  refine hCt.of (cc := cX3_tally) (maxL := 2) (ret := none) (by decide +kernel) rfl (by exact Nat.le_of_ble_eq_true rfl) ?_
  intro p e s m below meth c C hname hw ls hl
  obtain ⟨hx, hb, hml, hown, hts, hr, hlocks, hk⟩ := id C
  have hl : lv_has ls 2 [(0, .ref a), (1, .int p1)] := hl
  have hown : s.vm.findClass RX3 = some m.cls := hown
  unfold fX3_tally at h
  refine lv_iload_n hx hb dX3_tally_0 rfl (lv_at hl 1 rfl) ?_
  by_cases c1 : p1.toInt < 0 ∨ 3 < p1.toInt
  · rw [if_pos c1] at h
    refine lv_tableOut (tgt := 84) hx hb dX3_tally_1 c1 (by decide) ?_
    refine lv_aload_n hx hb dX3_tally_84 rfl (lv_at hl 0 rfl) ?_
    refine lv_dup hx hb dX3_tally_85 rfl ?_
    replace h := hbd h
    obtain ⟨x2, ex2, h⟩ := h
    refine hr_getI (C := RX3) (T := TX3) (N := 11) hx hb hts iX3_tally_X3 hown hk hw rfl 9 (by decide) (hts (.fieldLink RX3 119 "SetterBench" "stoppedSweeps" "I") (by decide +kernel)) (fun _ h9 => h9) ex2 dX3_tally_86 ?_
    refine lv_iconst (v := 1) hx hb dX3_tally_89 (by decide) ?_
    refine lv_iadd hx hb dX3_tally_90 ?_
    replace h := hbd h
    obtain ⟨f3, ef3, h⟩ := h
    refine hr_put (C := RX3) (T := TX3) (N := 11) (ty := .int) hx hb hts iX3_tally_X3 tyX3 tyX3_ok nmX3 hown hk hw rfl 9 (by decide) (hts (.fieldLink RX3 119 "SetterBench" "stoppedSweeps" "I") (by decide +kernel)) (fun _ h9 => h9) rfl (by decide +kernel) rfl rfl ef3 dX3_tally_91 (fun H locs hw => ?_)
    cases h
    exact hret_v hx hb hr hlocks hw dX3_tally_94
  rw [if_neg c1] at h
  by_cases c4 : p1 = 0
  · rw [if_pos c4] at h
    refine hv_arm (off := 31) (tgt := 32) hx hb c4 dX3_tally_1 (by decide) (by decide) (by decide) (by decide) ?_
    refine lv_aload_n hx hb dX3_tally_32 rfl (lv_at hl 0 rfl) ?_
    refine lv_dup hx hb dX3_tally_33 rfl ?_
    replace h := hbd h
    obtain ⟨x5, ex5, h⟩ := h
    refine hr_getI (C := RX3) (T := TX3) (N := 11) hx hb hts iX3_tally_X3 hown hk hw rfl 5 (by decide) (hts (.fieldLink RX3 107 "SetterBench" "doneSweeps" "I") (by decide +kernel)) (fun _ h9 => h9) ex5 dX3_tally_34 ?_
    refine lv_iconst (v := 1) hx hb dX3_tally_37 (by decide) ?_
    refine lv_iadd hx hb dX3_tally_38 ?_
    replace h := hbd h
    obtain ⟨f6, ef6, h⟩ := h
    refine hr_put (C := RX3) (T := TX3) (N := 11) (ty := .int) hx hb hts iX3_tally_X3 tyX3 tyX3_ok nmX3 hown hk hw rfl 5 (by decide) (hts (.fieldLink RX3 107 "SetterBench" "doneSweeps" "I") (by decide +kernel)) (fun _ h9 => h9) rfl (by decide +kernel) rfl rfl ef6 dX3_tally_39 (fun H locs hw => ?_)
    refine lv_goto (tgt := 94) hx hb dX3_tally_42 (by decide) ?_
    cases h
    exact hret_v hx hb hr hlocks hw dX3_tally_94
  rw [if_neg c4] at h
  by_cases c7 : p1 = 1
  · rw [if_pos c7] at h
    refine hv_arm (off := 44) (tgt := 45) hx hb c7 dX3_tally_1 (by decide) (by decide) (by decide) (by decide) ?_
    refine lv_aload_n hx hb dX3_tally_45 rfl (lv_at hl 0 rfl) ?_
    refine lv_dup hx hb dX3_tally_46 rfl ?_
    replace h := hbd h
    obtain ⟨x8, ex8, h⟩ := h
    refine hr_getI (C := RX3) (T := TX3) (N := 11) hx hb hts iX3_tally_X3 hown hk hw rfl 6 (by decide) (hts (.fieldLink RX3 110 "SetterBench" "emptySweeps" "I") (by decide +kernel)) (fun _ h9 => h9) ex8 dX3_tally_47 ?_
    refine lv_iconst (v := 1) hx hb dX3_tally_50 (by decide) ?_
    refine lv_iadd hx hb dX3_tally_51 ?_
    replace h := hbd h
    obtain ⟨f9, ef9, h⟩ := h
    refine hr_put (C := RX3) (T := TX3) (N := 11) (ty := .int) hx hb hts iX3_tally_X3 tyX3 tyX3_ok nmX3 hown hk hw rfl 6 (by decide) (hts (.fieldLink RX3 110 "SetterBench" "emptySweeps" "I") (by decide +kernel)) (fun _ h9 => h9) rfl (by decide +kernel) rfl rfl ef9 dX3_tally_52 (fun H locs hw => ?_)
    refine lv_goto (tgt := 94) hx hb dX3_tally_55 (by decide) ?_
    cases h
    exact hret_v hx hb hr hlocks hw dX3_tally_94
  rw [if_neg c7] at h
  by_cases c10 : p1 = 2
  · rw [if_pos c10] at h
    refine hv_arm (off := 57) (tgt := 58) hx hb c10 dX3_tally_1 (by decide) (by decide) (by decide) (by decide) ?_
    refine lv_aload_n hx hb dX3_tally_58 rfl (lv_at hl 0 rfl) ?_
    refine lv_dup hx hb dX3_tally_59 rfl ?_
    replace h := hbd h
    obtain ⟨x11, ex11, h⟩ := h
    refine hr_getI (C := RX3) (T := TX3) (N := 11) hx hb hts iX3_tally_X3 hown hk hw rfl 7 (by decide) (hts (.fieldLink RX3 113 "SetterBench" "unlikeSweeps" "I") (by decide +kernel)) (fun _ h9 => h9) ex11 dX3_tally_60 ?_
    refine lv_iconst (v := 1) hx hb dX3_tally_63 (by decide) ?_
    refine lv_iadd hx hb dX3_tally_64 ?_
    replace h := hbd h
    obtain ⟨f12, ef12, h⟩ := h
    refine hr_put (C := RX3) (T := TX3) (N := 11) (ty := .int) hx hb hts iX3_tally_X3 tyX3 tyX3_ok nmX3 hown hk hw rfl 7 (by decide) (hts (.fieldLink RX3 113 "SetterBench" "unlikeSweeps" "I") (by decide +kernel)) (fun _ h9 => h9) rfl (by decide +kernel) rfl rfl ef12 dX3_tally_65 (fun H locs hw => ?_)
    refine lv_goto (tgt := 94) hx hb dX3_tally_68 (by decide) ?_
    cases h
    exact hret_v hx hb hr hlocks hw dX3_tally_94
  rw [if_neg c10] at h
  by_cases c13 : p1 = 3
  · rw [if_pos c13] at h
    refine hv_arm (off := 70) (tgt := 71) hx hb c13 dX3_tally_1 (by decide) (by decide) (by decide) (by decide) ?_
    refine lv_aload_n hx hb dX3_tally_71 rfl (lv_at hl 0 rfl) ?_
    refine lv_dup hx hb dX3_tally_72 rfl ?_
    replace h := hbd h
    obtain ⟨x14, ex14, h⟩ := h
    refine hr_getI (C := RX3) (T := TX3) (N := 11) hx hb hts iX3_tally_X3 hown hk hw rfl 8 (by decide) (hts (.fieldLink RX3 116 "SetterBench" "beyondSweeps" "I") (by decide +kernel)) (fun _ h9 => h9) ex14 dX3_tally_73 ?_
    refine lv_iconst (v := 1) hx hb dX3_tally_76 (by decide) ?_
    refine lv_iadd hx hb dX3_tally_77 ?_
    replace h := hbd h
    obtain ⟨f15, ef15, h⟩ := h
    refine hr_put (C := RX3) (T := TX3) (N := 11) (ty := .int) hx hb hts iX3_tally_X3 tyX3 tyX3_ok nmX3 hown hk hw rfl 8 (by decide) (hts (.fieldLink RX3 116 "SetterBench" "beyondSweeps" "I") (by decide +kernel)) (fun _ h9 => h9) rfl (by decide +kernel) rfl rfl ef15 dX3_tally_78 (fun H locs hw => ?_)
    refine lv_goto (tgt := 94) hx hb dX3_tally_81 (by decide) ?_
    cases h
    exact hret_v hx hb hr hlocks hw dX3_tally_94
  rw [if_neg c13] at h
  cases h
def fX3_sweepThings (f : hPl) (z : Nat) (a : Nat) (p1 : Option Nat) (p2 : Int32) (p3 : Option Nat) (p4 : Int32) (p5 : Int32) (p6 : Int32) : Option (Int32 × hPl × Nat) := (hob f a 2).bind fun u1 => (fX3_sweepOrRefuse f z a p1 p2 p3 p4 p5 p6).bind fun r2t => (hob r2t.2.1 a 2).bind fun u5 => (fX3_tally r2t.2.1 r2t.2.2 a r2t.1).bind fun r6t => some (r2t.1, r6t.2.1, r6t.2.2)
set_option maxHeartbeats 4000000 in
set_option maxRecDepth 100000 in
theorem kX3_sweepThings (l : Launch) (g : hGb) {f : hPl} {z : Nat} {a : Nat} {p1 : Option Nat} {p2 : Int32} {p3 : Option Nat} {p4 : Int32} {p5 : Int32} {p6 : Int32} {r : Int32} {f' : hPl} {z' : Nat} (h : fX3_sweepThings f z a p1 p2 p3 p4 p5 p6 = some (r, f', z')) : hCt l g yX3_sweepThings wsX3_sweepThings 4 0 0 [.ref a, va_rf p1, .int p2, va_rf p3, .int p4, .int p5, .int p6] f z (some (.int r)) f' z' := by
  refine hCt.of (cc := cX3_sweepThings) (maxL := 8) (ret := (some .int)) (by decide +kernel) rfl (by cases p1 <;> cases p3 <;> exact Nat.le_of_ble_eq_true rfl) ?_
  intro p e s m below meth c C hname hw ls hl
  obtain ⟨hx, hb, hml, hown, hts, hr, hlocks, hk⟩ := id C
  have hl : lv_has ls 8 [(0, .ref a), (1, va_rf p1), (2, .int p2), (3, va_rf p3), (4, .int p4), (5, .int p5), (6, .int p6)] := by cases p1 <;> cases p3 <;> exact hl
  have hown : s.vm.findClass RX3 = some m.cls := hown
  unfold fX3_sweepThings at h
  refine lv_aload_n hx hb dX3_sweepThings_0 rfl (lv_at hl 0 rfl) ?_
  refine hv_aload_n hx hb dX3_sweepThings_1 rfl (lv_at hl 1 rfl) ?_
  refine lv_iload_n hx hb dX3_sweepThings_2 rfl (lv_at hl 2 rfl) ?_
  refine hv_aload_n hx hb dX3_sweepThings_3 rfl (lv_at hl 3 rfl) ?_
  refine lv_iload hx hb dX3_sweepThings_4 (lv_at hl 4 rfl) ?_
  refine lv_iload hx hb dX3_sweepThings_6 (lv_at hl 5 rfl) ?_
  refine lv_iload hx hb dX3_sweepThings_8 (lv_at hl 6 rfl) ?_
  replace h := hbd h
  obtain ⟨u1, eu1, h⟩ := h
  replace h := hbd h
  obtain ⟨⟨r2, f3, z4⟩, er2, h⟩ := h
  dsimp only at h
  refine hcallV (o := some (.int r2)) hx hb hml hown hts hk [va_rf p1, .int p2, va_rf p3, .int p4, .int p5, .int p6] [] (kX3_sweepOrRefuse l g er2) gX3_sweepThings_X3_sweepOrRefuse rfl (n := 6) rfl (by decide +kernel) ⟨Nat.le_of_ble_eq_true rfl, Nat.le_of_ble_eq_true rfl⟩ (ci := 2) rfl eu1 hw hl.1 rfl (Nat.le_of_ble_eq_true rfl) dX3_sweepThings_10 ⟨Nat.le_of_ble_eq_true rfl, Nat.le_of_ble_eq_true rfl⟩ (fun H locs hw => ?_)
  refine W.eq (g2 := F0 m 13 ls [.int r2]) rfl ?_
  refine lv_istore (lv' := [(7, .int r2), (0, .ref a), (1, va_rf p1), (2, .int p2), (3, va_rf p3), (4, .int p4), (5, .int p5), (6, .int p6)]) hx hb dX3_sweepThings_13 hl (by decide) rfl (fun ls hl => ?_)
  refine lv_aload_n hx hb dX3_sweepThings_15 rfl (lv_at hl 1 rfl) ?_
  refine lv_iload hx hb dX3_sweepThings_16 (lv_at hl 0 rfl) ?_
  replace h := hbd h
  obtain ⟨u5, eu5, h⟩ := h
  replace h := hbd h
  obtain ⟨⟨r6, f7, z8⟩, er6, h⟩ := h
  dsimp only at h
  refine hcallV (o := none) hx hb hml hown hts hk [.int r2] [] (kX3_tally l g er6) gX3_sweepThings_X3_tally rfl (n := 1) rfl (by decide +kernel) ⟨Nat.le_of_ble_eq_true rfl, Nat.le_of_ble_eq_true rfl⟩ (ci := 2) rfl eu5 hw hl.1 rfl (Nat.le_of_ble_eq_true rfl) dX3_sweepThings_18 ⟨Nat.le_of_ble_eq_true rfl, Nat.le_of_ble_eq_true rfl⟩ (fun H locs hw => ?_)
  refine W.eq (g2 := F0 m 21 ls []) rfl ?_
  refine lv_iload hx hb dX3_sweepThings_21 (lv_at hl 0 rfl) ?_
  cases h
  exact hret_i hx hb hr hlocks hw dX3_sweepThings_23
theorem iX3_put_X3 : ∀ w ∈ wsX30, w ∈ wsX3_put := by decide +kernel
def fX3_put (f : hPl) (z : Nat) (a : Nat) (p1 : Int32) (p2 : Int32) (p3 : Int32) : Option (Int32 × hPl × Nat) := (fX3_isPlace f  p1).bind fun r1 => (if r1 = 0 then some ((-1), f, z) else (if p3 < 0 then some ((-1), f, z) else (if p3 ≤ 4 then (hgQ f a 2 1).bind fun q5 => (hob f a 2).bind fun u6 => (fX3_newStone f z a p3).bind fun r7t => q5.bind fun a10 => (hob r7t.2.1 a10 1).bind fun u11 => (fX2_write r7t.2.1 r7t.2.2 a10 0 r7t.1).bind fun r12t => (hgQ r12t.2.1 a 2 1).bind fun q15 => (hgQ r12t.2.1 a 2 0).bind fun q16 => q16.bind fun a17 => (hlQ r12t.2.1 a17 p1).bind fun q18 => (hob r12t.2.1 a 2).bind fun u19 => (fX3_sweepThings r12t.2.1 r12t.2.2 a q15 0 q18 p2 1 0).bind fun r20t => some (r20t.1, r20t.2.1, r20t.2.2) else some ((-1), f, z))))
set_option maxHeartbeats 4000000 in
set_option maxRecDepth 100000 in
theorem kX3_put (l : Launch) (g : hGb) {f : hPl} {z : Nat} {a : Nat} {p1 : Int32} {p2 : Int32} {p3 : Int32} {r : Int32} {f' : hPl} {z' : Nat} (h : fX3_put f z a p1 p2 p3 = some (r, f', z')) : hCt l g yX3_put wsX3_put 5 0 0 [.ref a, .int p1, .int p2, .int p3] f z (some (.int r)) f' z' := by
  refine hCt.of (cc := cX3_put) (maxL := 4) (ret := (some .int)) (by decide +kernel) rfl (by exact Nat.le_of_ble_eq_true rfl) ?_
  intro p e s m below meth c C hname hw ls hl
  obtain ⟨hx, hb, hml, hown, hts, hr, hlocks, hk⟩ := id C
  have hl : lv_has ls 4 [(0, .ref a), (1, .int p1), (2, .int p2), (3, .int p3)] := hl
  have hown : s.vm.findClass RX3 = some m.cls := hown
  unfold fX3_put at h
  refine lv_iload_n hx hb dX3_put_0 rfl (lv_at hl 1 rfl) ?_
  replace h := hbd h
  obtain ⟨r1, er1, h⟩ := h
  refine hcallS (o := some (.int r1)) hx hb hml hown hts hk [.int p1] [] (kX3_isPlace l g er1) gX3_put_X3_isPlace rfl (n := 1) rfl (by decide +kernel) ⟨Nat.le_of_ble_eq_true rfl, Nat.le_of_ble_eq_true rfl⟩ hw hl.1 rfl (Nat.le_of_ble_eq_true rfl) dX3_put_1 ⟨Nat.le_of_ble_eq_true rfl, Nat.le_of_ble_eq_true rfl⟩ (fun H locs hw => ?_)
  refine W.eq (g2 := F0 m 4 ls [.int r1]) rfl ?_
  refine lv_if_eq (tgt := 16) hx hb dX3_put_4 (by decide) (fun c2 => ?_) (fun c2 => ?_)
  · rw [if_pos c2] at h
    refine lv_iconst (v := (-1)) hx hb dX3_put_16 (by decide) ?_
    cases h
    exact hret_i hx hb hr hlocks hw dX3_put_17
  · rw [if_neg c2] at h
    refine lv_iload_n hx hb dX3_put_7 rfl (lv_at hl 3 rfl) ?_
    refine lv_if_lt (tgt := 16) hx hb dX3_put_8 (by decide) (fun c3 => ?_) (fun c3 => ?_)
    · rw [if_pos c3] at h
      refine lv_iconst (v := (-1)) hx hb dX3_put_16 (by decide) ?_
      cases h
      exact hret_i hx hb hr hlocks hw dX3_put_17
    · rw [if_neg c3] at h
      refine lv_iload_n hx hb dX3_put_11 rfl (lv_at hl 3 rfl) ?_
      refine lv_iconst (v := 4) hx hb dX3_put_12 (by decide) ?_
      refine lv_icmp_le (tgt := 18) hx hb dX3_put_13 (by decide) (fun c4 => ?_) (fun c4 => ?_)
      · rw [if_pos c4] at h
        refine lv_aload_n hx hb dX3_put_18 rfl (lv_at hl 0 rfl) ?_
        replace h := hbd h
        obtain ⟨q5, eq5, h⟩ := h
        refine hr_getQ (C := RX3) (T := TX3) (N := 11) hx hb hts iX3_put_X3 hown hk hw rfl 1 (by decide) (hts (.fieldLink RX3 20 "SetterBench" "hand" "LSetterBench$Tray;") (by decide +kernel)) (fun _ h9 => h9) eq5 dX3_put_19 ?_
        refine lv_iconst (v := 0) hx hb dX3_put_22 (by decide) ?_
        refine lv_aload_n hx hb dX3_put_23 rfl (lv_at hl 0 rfl) ?_
        refine lv_iload_n hx hb dX3_put_24 rfl (lv_at hl 3 rfl) ?_
        replace h := hbd h
        obtain ⟨u6, eu6, h⟩ := h
        replace h := hbd h
        obtain ⟨⟨r7, f8, z9⟩, er7, h⟩ := h
        dsimp only at h
        refine hcallV (o := some (.long r7)) hx hb hml hown hts hk [.int p3] [.int 0, va_rf q5] (kX3_newStone l g er7) gX3_put_X3_newStone rfl (n := 1) rfl (by decide +kernel) ⟨Nat.le_of_ble_eq_true rfl, Nat.le_of_ble_eq_true rfl⟩ (ci := 2) rfl eu6 hw hl.1 rfl (by cases q5 <;> exact Nat.le_of_ble_eq_true rfl) dX3_put_25 ⟨Nat.le_of_ble_eq_true rfl, Nat.le_of_ble_eq_true rfl⟩ (fun H locs hw => ?_)
        refine W.eq (g2 := F0 m 28 ls [.long r7, .int 0, va_rf q5]) rfl ?_
        replace h := hbd h
        obtain ⟨a10, rfl, h⟩ := h
        replace h := hbd h
        obtain ⟨u11, eu11, h⟩ := h
        replace h := hbd h
        obtain ⟨⟨r12, f13, z14⟩, er12, h⟩ := h
        dsimp only at h
        refine hcallV (o := some (.int r12)) hx hb hml hown hts hk [.int 0, .long r7] [] (kX2_write l g er12) gX3_put_X2_write rfl (n := 2) rfl (by decide +kernel) ⟨Nat.le_of_ble_eq_true rfl, Nat.le_of_ble_eq_true rfl⟩ (ci := 1) rfl eu11 hw hl.1 rfl (Nat.le_of_ble_eq_true rfl) dX3_put_28 ⟨Nat.le_of_ble_eq_true rfl, Nat.le_of_ble_eq_true rfl⟩ (fun H locs hw => ?_)
        refine W.eq (g2 := F0 m 31 ls [.int r12]) rfl ?_
        refine lv_pop hx hb dX3_put_31 rfl ?_
        refine lv_aload_n hx hb dX3_put_32 rfl (lv_at hl 0 rfl) ?_
        refine lv_aload_n hx hb dX3_put_33 rfl (lv_at hl 0 rfl) ?_
        replace h := hbd h
        obtain ⟨q15, eq15, h⟩ := h
        refine hr_getQ (C := RX3) (T := TX3) (N := 11) hx hb hts iX3_put_X3 hown hk hw rfl 1 (by decide) (hts (.fieldLink RX3 20 "SetterBench" "hand" "LSetterBench$Tray;") (by decide +kernel)) (fun _ h9 => h9) eq15 dX3_put_34 ?_
        refine lv_iconst (v := 0) hx hb dX3_put_37 (by decide) ?_
        refine lv_aload_n hx hb dX3_put_38 rfl (lv_at hl 0 rfl) ?_
        replace h := hbd h
        obtain ⟨q16, eq16, h⟩ := h
        refine hr_getQ (C := RX3) (T := TX3) (N := 11) hx hb hts iX3_put_X3 hown hk hw rfl 0 (by decide) (hts (.fieldLink RX3 11 "SetterBench" "places" "[LSetterBench$Thing;") (by decide +kernel)) (fun _ h9 => h9) eq16 dX3_put_39 ?_
        refine lv_iload_n hx hb dX3_put_42 rfl (lv_at hl 1 rfl) ?_
        replace h := hbd h
        obtain ⟨a17, rfl, h⟩ := h
        replace h := hbd h
        obtain ⟨q18, eq18, h⟩ := h
        refine hr_lQ hx hb hk hw eq18 dX3_put_43 ?_
        refine lv_iload_n hx hb dX3_put_44 rfl (lv_at hl 2 rfl) ?_
        refine lv_iconst (v := 1) hx hb dX3_put_45 (by decide) ?_
        refine lv_iconst (v := 0) hx hb dX3_put_46 (by decide) ?_
        replace h := hbd h
        obtain ⟨u19, eu19, h⟩ := h
        replace h := hbd h
        obtain ⟨⟨r20, f21, z22⟩, er20, h⟩ := h
        dsimp only at h
        refine hcallV (o := some (.int r20)) hx hb hml hown hts hk [va_rf q15, .int 0, va_rf q18, .int p2, .int 1, .int 0] [] (kX3_sweepThings l g er20) gX3_put_X3_sweepThings rfl (n := 6) rfl (by decide +kernel) ⟨Nat.le_of_ble_eq_true rfl, Nat.le_of_ble_eq_true rfl⟩ (ci := 2) rfl eu19 hw hl.1 rfl (Nat.le_of_ble_eq_true rfl) dX3_put_47 ⟨Nat.le_of_ble_eq_true rfl, Nat.le_of_ble_eq_true rfl⟩ (fun H locs hw => ?_)
        refine W.eq (g2 := F0 m 50 ls [.int r20]) rfl ?_
        cases h
        exact hret_i hx hb hr hlocks hw dX3_put_50
      · rw [if_neg c4] at h
        refine lv_iconst (v := (-1)) hx hb dX3_put_16 (by decide) ?_
        cases h
        exact hret_i hx hb hr hlocks hw dX3_put_17
theorem iX3_sweep_X3 : ∀ w ∈ wsX30, w ∈ wsX3_sweep := by decide +kernel
def fX3_sweep (f : hPl) (z : Nat) (a : Nat) (p1 : Int32) (p2 : Int32) (p3 : Int32) (p4 : Int32) (p5 : Int32) : Option (Int32 × hPl × Nat) := (fX3_isPlace f  p1).bind fun r1 => (if r1 = 0 then some ((-1), f, z) else (fX3_isPlace f  p3).bind fun r3 => (if r3 = 0 then some ((-1), f, z) else (hgQ f a 2 0).bind fun q5 => q5.bind fun a6 => (hlQ f a6 p1).bind fun q7 => (hgQ f a 2 0).bind fun q8 => q8.bind fun a9 => (hlQ f a9 p3).bind fun q10 => (hob f a 2).bind fun u11 => (fX3_sweepThings f z a q7 p2 q10 p4 p5 1).bind fun r12t => some (r12t.1, r12t.2.1, r12t.2.2)))
set_option maxHeartbeats 4000000 in
set_option maxRecDepth 100000 in
theorem kX3_sweep (l : Launch) (g : hGb) {f : hPl} {z : Nat} {a : Nat} {p1 : Int32} {p2 : Int32} {p3 : Int32} {p4 : Int32} {p5 : Int32} {r : Int32} {f' : hPl} {z' : Nat} (h : fX3_sweep f z a p1 p2 p3 p4 p5 = some (r, f', z')) : hCt l g yX3_sweep wsX3_sweep 5 0 0 [.ref a, .int p1, .int p2, .int p3, .int p4, .int p5] f z (some (.int r)) f' z' := by
  refine hCt.of (cc := cX3_sweep) (maxL := 6) (ret := (some .int)) (by decide +kernel) rfl (by exact Nat.le_of_ble_eq_true rfl) ?_
  intro p e s m below meth c C hname hw ls hl
  obtain ⟨hx, hb, hml, hown, hts, hr, hlocks, hk⟩ := id C
  have hl : lv_has ls 6 [(0, .ref a), (1, .int p1), (2, .int p2), (3, .int p3), (4, .int p4), (5, .int p5)] := hl
  have hown : s.vm.findClass RX3 = some m.cls := hown
  unfold fX3_sweep at h
  refine lv_iload_n hx hb dX3_sweep_0 rfl (lv_at hl 1 rfl) ?_
  replace h := hbd h
  obtain ⟨r1, er1, h⟩ := h
  refine hcallS (o := some (.int r1)) hx hb hml hown hts hk [.int p1] [] (kX3_isPlace l g er1) gX3_sweep_X3_isPlace rfl (n := 1) rfl (by decide +kernel) ⟨Nat.le_of_ble_eq_true rfl, Nat.le_of_ble_eq_true rfl⟩ hw hl.1 rfl (Nat.le_of_ble_eq_true rfl) dX3_sweep_1 ⟨Nat.le_of_ble_eq_true rfl, Nat.le_of_ble_eq_true rfl⟩ (fun H locs hw => ?_)
  refine W.eq (g2 := F0 m 4 ls [.int r1]) rfl ?_
  refine lv_if_eq (tgt := 14) hx hb dX3_sweep_4 (by decide) (fun c2 => ?_) (fun c2 => ?_)
  · rw [if_pos c2] at h
    refine lv_iconst (v := (-1)) hx hb dX3_sweep_14 (by decide) ?_
    cases h
    exact hret_i hx hb hr hlocks hw dX3_sweep_15
  · rw [if_neg c2] at h
    refine lv_iload_n hx hb dX3_sweep_7 rfl (lv_at hl 3 rfl) ?_
    replace h := hbd h
    obtain ⟨r3, er3, h⟩ := h
    refine hcallS (o := some (.int r3)) hx hb hml hown hts hk [.int p3] [] (kX3_isPlace l g er3) gX3_sweep_X3_isPlace rfl (n := 1) rfl (by decide +kernel) ⟨Nat.le_of_ble_eq_true rfl, Nat.le_of_ble_eq_true rfl⟩ hw hl.1 rfl (Nat.le_of_ble_eq_true rfl) dX3_sweep_8 ⟨Nat.le_of_ble_eq_true rfl, Nat.le_of_ble_eq_true rfl⟩ (fun H locs hw => ?_)
    refine W.eq (g2 := F0 m 11 ls [.int r3]) rfl ?_
    refine lv_if_ne (tgt := 16) hx hb dX3_sweep_11 (by decide) (fun c4 => ?_) (fun c4 => ?_)
    · rw [if_neg c4] at h
      refine lv_aload_n hx hb dX3_sweep_16 rfl (lv_at hl 0 rfl) ?_
      refine lv_aload_n hx hb dX3_sweep_17 rfl (lv_at hl 0 rfl) ?_
      replace h := hbd h
      obtain ⟨q5, eq5, h⟩ := h
      refine hr_getQ (C := RX3) (T := TX3) (N := 11) hx hb hts iX3_sweep_X3 hown hk hw rfl 0 (by decide) (hts (.fieldLink RX3 11 "SetterBench" "places" "[LSetterBench$Thing;") (by decide +kernel)) (fun _ h9 => h9) eq5 dX3_sweep_18 ?_
      refine lv_iload_n hx hb dX3_sweep_21 rfl (lv_at hl 1 rfl) ?_
      replace h := hbd h
      obtain ⟨a6, rfl, h⟩ := h
      replace h := hbd h
      obtain ⟨q7, eq7, h⟩ := h
      refine hr_lQ hx hb hk hw eq7 dX3_sweep_22 ?_
      refine lv_iload_n hx hb dX3_sweep_23 rfl (lv_at hl 2 rfl) ?_
      refine lv_aload_n hx hb dX3_sweep_24 rfl (lv_at hl 0 rfl) ?_
      replace h := hbd h
      obtain ⟨q8, eq8, h⟩ := h
      refine hr_getQ (C := RX3) (T := TX3) (N := 11) hx hb hts iX3_sweep_X3 hown hk hw rfl 0 (by decide) (hts (.fieldLink RX3 11 "SetterBench" "places" "[LSetterBench$Thing;") (by decide +kernel)) (fun _ h9 => h9) eq8 dX3_sweep_25 ?_
      refine lv_iload_n hx hb dX3_sweep_28 rfl (lv_at hl 3 rfl) ?_
      replace h := hbd h
      obtain ⟨a9, rfl, h⟩ := h
      replace h := hbd h
      obtain ⟨q10, eq10, h⟩ := h
      refine hr_lQ hx hb hk hw eq10 dX3_sweep_29 ?_
      refine lv_iload hx hb dX3_sweep_30 (lv_at hl 4 rfl) ?_
      refine lv_iload hx hb dX3_sweep_32 (lv_at hl 5 rfl) ?_
      refine lv_iconst (v := 1) hx hb dX3_sweep_34 (by decide) ?_
      replace h := hbd h
      obtain ⟨u11, eu11, h⟩ := h
      replace h := hbd h
      obtain ⟨⟨r12, f13, z14⟩, er12, h⟩ := h
      dsimp only at h
      refine hcallV (o := some (.int r12)) hx hb hml hown hts hk [va_rf q7, .int p2, va_rf q10, .int p4, .int p5, .int 1] [] (kX3_sweepThings l g er12) gX3_sweep_X3_sweepThings rfl (n := 6) rfl (by decide +kernel) ⟨Nat.le_of_ble_eq_true rfl, Nat.le_of_ble_eq_true rfl⟩ (ci := 2) rfl eu11 hw hl.1 rfl (Nat.le_of_ble_eq_true rfl) dX3_sweep_35 ⟨Nat.le_of_ble_eq_true rfl, Nat.le_of_ble_eq_true rfl⟩ (fun H locs hw => ?_)
      refine W.eq (g2 := F0 m 38 ls [.int r12]) rfl ?_
      cases h
      exact hret_i hx hb hr hlocks hw dX3_sweep_38
    · rw [if_pos c4] at h
      refine lv_iconst (v := (-1)) hx hb dX3_sweep_14 (by decide) ?_
      cases h
      exact hret_i hx hb hr hlocks hw dX3_sweep_15
theorem iX3_back_X3 : ∀ w ∈ wsX30, w ∈ wsX3_back := by decide +kernel
def fX3_back (f : hPl) (z : Nat) (a : Nat) : Option (Int32 × hPl × Nat) := (hgQ f a 2 3).bind fun q1 => (if q1 = none then some ((-1), f, z) else (hgQ f a 2 3).bind fun q3 => (hput f a 2 3 (.null)).bind fun f4 => (hgQ f4 a 2 2).bind fun q5 => q3.bind fun a6 => (hob f4 a6 1).bind fun u7 => (fX2_copyFrom f4 z a6 q5).bind fun r8t => (hob r8t.2.1 a6 1).bind fun u11 => (fX2_size r8t.2.1 a6 ).bind fun r12 => some (r12, r8t.2.1, r8t.2.2))
set_option maxHeartbeats 4000000 in
set_option maxRecDepth 100000 in
theorem kX3_back (l : Launch) (g : hGb) {f : hPl} {z : Nat} {a : Nat} {r : Int32} {f' : hPl} {z' : Nat} (h : fX3_back f z a = some (r, f', z')) : hCt l g yX3_back wsX3_back 2 0 0 [.ref a] f z (some (.int r)) f' z' := by
  refine hCt.of (cc := cX3_back) (maxL := 2) (ret := (some .int)) (by decide +kernel) rfl (by exact Nat.le_of_ble_eq_true rfl) ?_
  intro p e s m below meth c C hname hw ls hl
  obtain ⟨hx, hb, hml, hown, hts, hr, hlocks, hk⟩ := id C
  have hl : lv_has ls 2 [(0, .ref a)] := hl
  have hown : s.vm.findClass RX3 = some m.cls := hown
  unfold fX3_back at h
  refine lv_aload_n hx hb dX3_back_0 rfl (lv_at hl 0 rfl) ?_
  replace h := hbd h
  obtain ⟨q1, eq1, h⟩ := h
  refine hr_getQ (C := RX3) (T := TX3) (N := 11) hx hb hts iX3_back_X3 hown hk hw rfl 3 (by decide) (hts (.fieldLink RX3 63 "SetterBench" "keptTray" "LSetterBench$Tray;") (by decide +kernel)) (fun _ h9 => h9) eq1 dX3_back_1 ?_
  refine hv_ifnonnull (q := q1) (tgt := 9) hx hb dX3_back_4 (by decide) (fun c2 => ?_) (fun c2 => ?_)
  · rw [if_neg c2] at h
    refine lv_aload_n hx hb dX3_back_9 rfl (lv_at hl 0 rfl) ?_
    replace h := hbd h
    obtain ⟨q3, eq3, h⟩ := h
    refine hr_getQ (C := RX3) (T := TX3) (N := 11) hx hb hts iX3_back_X3 hown hk hw rfl 3 (by decide) (hts (.fieldLink RX3 63 "SetterBench" "keptTray" "LSetterBench$Tray;") (by decide +kernel)) (fun _ h9 => h9) eq3 dX3_back_10 ?_
    refine hv_astore_n (q := q3) (lv' := [(1, va_rf q3), (0, .ref a)]) hx hb dX3_back_13 rfl hl (by decide) rfl (fun ls hl => ?_)
    refine lv_aload_n hx hb dX3_back_14 rfl (lv_at hl 1 rfl) ?_
    refine lv_null hx hb dX3_back_15 ?_
    replace h := hbd h
    obtain ⟨f4, ef4, h⟩ := h
    refine hr_put (C := RX3) (T := TX3) (N := 11) (ty := .object "SetterBench$Tray") hx hb hts iX3_back_X3 tyX3 tyX3_ok nmX3 hown hk hw rfl 3 (by decide) (hts (.fieldLink RX3 63 "SetterBench" "keptTray" "LSetterBench$Tray;") (by decide +kernel)) (fun _ h9 => h9) rfl (by decide +kernel) rfl rfl ef4 dX3_back_16 (fun H locs hw => ?_)
    refine hv_aload_n hx hb dX3_back_19 rfl (lv_at hl 0 rfl) ?_
    refine lv_aload_n hx hb dX3_back_20 rfl (lv_at hl 1 rfl) ?_
    replace h := hbd h
    obtain ⟨q5, eq5, h⟩ := h
    refine hr_getQ (C := RX3) (T := TX3) (N := 11) hx hb hts iX3_back_X3 hown hk hw rfl 2 (by decide) (hts (.fieldLink RX3 24 "SetterBench" "kept" "[J") (by decide +kernel)) (fun _ h9 => h9) eq5 dX3_back_21 ?_
    replace h := hbd h
    obtain ⟨a6, rfl, h⟩ := h
    replace h := hbd h
    obtain ⟨u7, eu7, h⟩ := h
    replace h := hbd h
    obtain ⟨⟨r8, f9, z10⟩, er8, h⟩ := h
    dsimp only at h
    refine hcallV (o := none) hx hb hml hown hts hk [va_rf q5] [] (kX2_copyFrom l g er8) gX3_back_X2_copyFrom rfl (n := 1) rfl (by decide +kernel) ⟨Nat.le_of_ble_eq_true rfl, Nat.le_of_ble_eq_true rfl⟩ (ci := 1) rfl eu7 hw hl.1 rfl (Nat.le_of_ble_eq_true rfl) dX3_back_24 ⟨Nat.le_of_ble_eq_true rfl, Nat.le_of_ble_eq_true rfl⟩ (fun H locs hw => ?_)
    refine W.eq (g2 := F0 m 27 ls []) rfl ?_
    refine lv_aload_n hx hb dX3_back_27 rfl (lv_at hl 0 rfl) ?_
    replace h := hbd h
    obtain ⟨u11, eu11, h⟩ := h
    replace h := hbd h
    obtain ⟨r12, er12, h⟩ := h
    refine hcallV (o := some (.int r12)) hx hb hml hown hts hk [] [] (kX2_size l g er12) gX3_back_X2_size rfl (n := 0) rfl (by decide +kernel) ⟨Nat.le_of_ble_eq_true rfl, Nat.le_of_ble_eq_true rfl⟩ (ci := 1) rfl eu11 hw hl.1 rfl (Nat.le_of_ble_eq_true rfl) dX3_back_28 ⟨Nat.le_of_ble_eq_true rfl, Nat.le_of_ble_eq_true rfl⟩ (fun H locs hw => ?_)
    refine W.eq (g2 := F0 m 31 ls [.int r12]) rfl ?_
    cases h
    exact hret_i hx hb hr hlocks hw dX3_back_31
  · rw [if_pos c2] at h
    refine lv_iconst (v := (-1)) hx hb dX3_back_7 (by decide) ?_
    cases h
    exact hret_i hx hb hr hlocks hw dX3_back_8
theorem iX3_light_X3 : ∀ w ∈ wsX30, w ∈ wsX3_light := by decide +kernel
theorem iX3_light_X0 : ∀ w ∈ wsX00, w ∈ wsX3_light := by decide +kernel
def fX3_light (f : hPl) (z : Nat) (a : Nat) (p1 : Int32) : Option (Int32 × hPl × Nat) := (fX3_isPlace f  p1).bind fun r1 => (if r1 = 0 then some ((-1), f, z) else (hgQ f a 2 0).bind fun q3 => q3.bind fun a4 => (hlQ f a4 p1).bind fun q5 => (hii f q5 0).bind fun x6 => (if x6 = 0 then some ((-1), f, z) else q5.bind fun a8 => (hob f a8 0).bind fun u9 => (hgI f a8 0 1).bind fun x10 => (hput f a8 0 1 (.int (x10 + 1))).bind fun f11 => (hgI f11 a8 0 1).bind fun x12 => some (x12, f11, z)))
set_option maxHeartbeats 4000000 in
set_option maxRecDepth 100000 in
theorem kX3_light (l : Launch) (g : hGb) {f : hPl} {z : Nat} {a : Nat} {p1 : Int32} {r : Int32} {f' : hPl} {z' : Nat} (h : fX3_light f z a p1 = some (r, f', z')) : hCt l g yX3_light wsX3_light 1 0 0 [.ref a, .int p1] f z (some (.int r)) f' z' := by
  refine hCt.of (cc := cX3_light) (maxL := 4) (ret := (some .int)) (by decide +kernel) rfl (by exact Nat.le_of_ble_eq_true rfl) ?_
  intro p e s m below meth c C hname hw ls hl
  obtain ⟨hx, hb, hml, hown, hts, hr, hlocks, hk⟩ := id C
  have hl : lv_has ls 4 [(0, .ref a), (1, .int p1)] := hl
  have hown : s.vm.findClass RX3 = some m.cls := hown
  unfold fX3_light at h
  refine lv_iload_n hx hb dX3_light_0 rfl (lv_at hl 1 rfl) ?_
  replace h := hbd h
  obtain ⟨r1, er1, h⟩ := h
  refine hcallS (o := some (.int r1)) hx hb hml hown hts hk [.int p1] [] (kX3_isPlace l g er1) gX3_light_X3_isPlace rfl (n := 1) rfl (by decide +kernel) ⟨Nat.le_of_ble_eq_true rfl, Nat.le_of_ble_eq_true rfl⟩ hw hl.1 rfl (Nat.le_of_ble_eq_true rfl) dX3_light_1 ⟨Nat.le_of_ble_eq_true rfl, Nat.le_of_ble_eq_true rfl⟩ (fun H locs hw => ?_)
  refine W.eq (g2 := F0 m 4 ls [.int r1]) rfl ?_
  refine lv_if_eq (tgt := 41) hx hb dX3_light_4 (by decide) (fun c2 => ?_) (fun c2 => ?_)
  · rw [if_pos c2] at h
    refine lv_iconst (v := (-1)) hx hb dX3_light_41 (by decide) ?_
    cases h
    exact hret_i hx hb hr hlocks hw dX3_light_42
  · rw [if_neg c2] at h
    refine lv_aload_n hx hb dX3_light_7 rfl (lv_at hl 0 rfl) ?_
    replace h := hbd h
    obtain ⟨q3, eq3, h⟩ := h
    refine hr_getQ (C := RX3) (T := TX3) (N := 11) hx hb hts iX3_light_X3 hown hk hw rfl 0 (by decide) (hts (.fieldLink RX3 11 "SetterBench" "places" "[LSetterBench$Thing;") (by decide +kernel)) (fun _ h9 => h9) eq3 dX3_light_8 ?_
    refine lv_iload_n hx hb dX3_light_11 rfl (lv_at hl 1 rfl) ?_
    replace h := hbd h
    obtain ⟨a4, rfl, h⟩ := h
    replace h := hbd h
    obtain ⟨q5, eq5, h⟩ := h
    refine hr_lQ hx hb hk hw eq5 dX3_light_12 ?_
    refine hv_astore_n (q := q5) (lv' := [(3, va_rf q5), (0, .ref a), (1, .int p1)]) hx hb dX3_light_13 rfl hl (by decide) rfl (fun ls hl => ?_)
    refine hv_aload_n hx hb dX3_light_14 rfl (lv_at hl 0 rfl) ?_
    replace h := hbd h
    obtain ⟨x6, ex6, h⟩ := h
    refine hr_instL (q := q5) hx hb hown (hts (.classLink RX3 32 RX0) (by decide +kernel)) hk hw ex6 dX3_light_15 ?_
    refine lv_if_eq (tgt := 41) hx hb dX3_light_18 (by decide) (fun c7 => ?_) (fun c7 => ?_)
    · rw [if_pos c7] at h
      refine lv_iconst (v := (-1)) hx hb dX3_light_41 (by decide) ?_
      cases h
      exact hret_i hx hb hr hlocks hw dX3_light_42
    · rw [if_neg c7] at h
      refine hv_aload_n hx hb dX3_light_21 rfl (lv_at hl 0 rfl) ?_
      replace h := hbd h
      obtain ⟨a8, rfl, h⟩ := h
      replace h := hbd h
      obtain ⟨u9, eu9, h⟩ := h
      refine hr_castL hx hb hown (hts (.classLink RX3 32 RX0) (by decide +kernel)) hk hw eu9 dX3_light_22 ?_
      refine lv_astore_n (lv' := [(2, .ref a8), (3, .ref a8), (0, .ref a), (1, .int p1)]) hx hb dX3_light_25 rfl hl (by decide) rfl (fun ls hl => ?_)
      refine lv_aload_n hx hb dX3_light_26 rfl (lv_at hl 0 rfl) ?_
      refine lv_dup hx hb dX3_light_27 rfl ?_
      replace h := hbd h
      obtain ⟨x10, ex10, h⟩ := h
      refine hr_getI (C := RX0) (T := TX0) (N := 2) hx hb hts iX3_light_X0 hown hk hw rfl 1 (by decide) (hts (.fieldLink RX3 74 "SetterBench$Lamp" "timesLit" "I") (by decide +kernel)) (fun _ h9 => h9) ex10 dX3_light_28 ?_
      refine lv_iconst (v := 1) hx hb dX3_light_31 (by decide) ?_
      refine lv_iadd hx hb dX3_light_32 ?_
      replace h := hbd h
      obtain ⟨f11, ef11, h⟩ := h
      refine hr_put (C := RX0) (T := TX0) (N := 2) (ty := .int) hx hb hts iX3_light_X0 tyX0 tyX0_ok nmX0 hown hk hw rfl 1 (by decide) (hts (.fieldLink RX3 74 "SetterBench$Lamp" "timesLit" "I") (by decide +kernel)) (fun _ h9 => h9) rfl (by decide +kernel) rfl rfl ef11 dX3_light_33 (fun H locs hw => ?_)
      refine lv_aload_n hx hb dX3_light_36 rfl (lv_at hl 0 rfl) ?_
      replace h := hbd h
      obtain ⟨x12, ex12, h⟩ := h
      refine hr_getI (C := RX0) (T := TX0) (N := 2) hx hb hts iX3_light_X0 hown hk hw rfl 1 (by decide) (hts (.fieldLink RX3 74 "SetterBench$Lamp" "timesLit" "I") (by decide +kernel)) (fun _ h9 => h9) ex12 dX3_light_37 ?_
      cases h
      exact hret_i hx hb hr hlocks hw dX3_light_40
theorem iX3_trayOn_X3 : ∀ w ∈ wsX30, w ∈ wsX3_trayOn := by decide +kernel
def fX3_trayOn (f : hPl) (a : Nat) (p1 : Int32) : Option (Option Nat) := (fX3_isPlace f  p1).bind fun r1 => (if r1 = 0 then some none else (hgQ f a 2 0).bind fun q3 => q3.bind fun a4 => (hlQ f a4 p1).bind fun q5 => (fX3_asTray f  q5).bind fun r6 => some r6)
set_option maxHeartbeats 4000000 in
set_option maxRecDepth 100000 in
theorem kX3_trayOn (l : Launch) (g : hGb) {f : hPl} {z : Nat} {a : Nat} {p1 : Int32} {r : Option Nat} (h : fX3_trayOn f a p1 = some r) : hCt l g yX3_trayOn wsX3_trayOn 1 0 0 [.ref a, .int p1] f z (some (va_rf r)) f z := by
  refine hCt.of (cc := cX3_trayOn) (maxL := 2) (ret := (some (.object "SetterBench$Tray"))) (by decide +kernel) rfl (by exact Nat.le_of_ble_eq_true rfl) ?_
  intro p e s m below meth c C hname hw ls hl
  obtain ⟨hx, hb, hml, hown, hts, hr, hlocks, hk⟩ := id C
  have hl : lv_has ls 2 [(0, .ref a), (1, .int p1)] := hl
  have hown : s.vm.findClass RX3 = some m.cls := hown
  unfold fX3_trayOn at h
  refine lv_iload_n hx hb dX3_trayOn_0 rfl (lv_at hl 1 rfl) ?_
  replace h := hbd h
  obtain ⟨r1, er1, h⟩ := h
  refine hcallS (o := some (.int r1)) hx hb hml hown hts hk [.int p1] [] (kX3_isPlace l g er1) gX3_trayOn_X3_isPlace rfl (n := 1) rfl (by decide +kernel) ⟨Nat.le_of_ble_eq_true rfl, Nat.le_of_ble_eq_true rfl⟩ hw hl.1 rfl (Nat.le_of_ble_eq_true rfl) dX3_trayOn_1 ⟨Nat.le_of_ble_eq_true rfl, Nat.le_of_ble_eq_true rfl⟩ (fun H locs hw => ?_)
  refine W.eq (g2 := F0 m 4 ls [.int r1]) rfl ?_
  refine lv_if_eq (tgt := 19) hx hb dX3_trayOn_4 (by decide) (fun c2 => ?_) (fun c2 => ?_)
  · rw [if_pos c2] at h
    refine lv_null hx hb dX3_trayOn_19 ?_
    cases h
    exact hret_a hx hb hr hlocks hw dX3_trayOn_20
  · rw [if_neg c2] at h
    refine lv_aload_n hx hb dX3_trayOn_7 rfl (lv_at hl 0 rfl) ?_
    replace h := hbd h
    obtain ⟨q3, eq3, h⟩ := h
    refine hr_getQ (C := RX3) (T := TX3) (N := 11) hx hb hts iX3_trayOn_X3 hown hk hw rfl 0 (by decide) (hts (.fieldLink RX3 11 "SetterBench" "places" "[LSetterBench$Thing;") (by decide +kernel)) (fun _ h9 => h9) eq3 dX3_trayOn_8 ?_
    refine lv_iload_n hx hb dX3_trayOn_11 rfl (lv_at hl 1 rfl) ?_
    replace h := hbd h
    obtain ⟨a4, rfl, h⟩ := h
    replace h := hbd h
    obtain ⟨q5, eq5, h⟩ := h
    refine hr_lQ hx hb hk hw eq5 dX3_trayOn_12 ?_
    replace h := hbd h
    obtain ⟨r6, er6, h⟩ := h
    refine hcallS (o := some (va_rf r6)) hx hb hml hown hts hk [va_rf q5] [] (kX3_asTray l g er6) gX3_trayOn_X3_asTray rfl (n := 1) rfl (by decide +kernel) ⟨Nat.le_of_ble_eq_true rfl, Nat.le_of_ble_eq_true rfl⟩ hw hl.1 rfl (Nat.le_of_ble_eq_true rfl) dX3_trayOn_13 ⟨Nat.le_of_ble_eq_true rfl, Nat.le_of_ble_eq_true rfl⟩ (fun H locs hw => ?_)
    refine W.eq (g2 := F0 m 16 ls [va_rf r6]) rfl ?_
    refine lv_goto (tgt := 20) hx hb dX3_trayOn_16 (by decide) ?_
    cases h
    exact hret_a hx hb hr hlocks hw dX3_trayOn_20
def fX3_member (f : hPl) (a : Nat) (p1 : Int32) (p2 : Int32) : Option Int64 := (hob f a 2).bind fun u1 => (fX3_trayOn f a p1).bind fun r2 => (if r2 = none then some (-1 : Int64) else r2.bind fun a4 => (hob f a4 1).bind fun u5 => (fX2_read f a4 p2).bind fun r6 => some r6)
set_option maxHeartbeats 4000000 in
set_option maxRecDepth 100000 in
theorem kX3_member (l : Launch) (g : hGb) {f : hPl} {z : Nat} {a : Nat} {p1 : Int32} {p2 : Int32} {r : Int64} (h : fX3_member f a p1 p2 = some r) : hCt l g yX3_member wsX3_member 2 0 0 [.ref a, .int p1, .int p2] f z (some (.long r)) f z := by
  refine hCt.of (cc := cX3_member) (maxL := 4) (ret := (some .long)) (by decide +kernel) rfl (by exact Nat.le_of_ble_eq_true rfl) ?_
  intro p e s m below meth c C hname hw ls hl
  obtain ⟨hx, hb, hml, hown, hts, hr, hlocks, hk⟩ := id C
  have hl : lv_has ls 4 [(0, .ref a), (1, .int p1), (2, .int p2)] := hl
  have hown : s.vm.findClass RX3 = some m.cls := hown
  unfold fX3_member at h
  refine lv_aload_n hx hb dX3_member_0 rfl (lv_at hl 0 rfl) ?_
  refine lv_iload_n hx hb dX3_member_1 rfl (lv_at hl 1 rfl) ?_
  replace h := hbd h
  obtain ⟨u1, eu1, h⟩ := h
  replace h := hbd h
  obtain ⟨r2, er2, h⟩ := h
  refine hcallV (o := some (va_rf r2)) hx hb hml hown hts hk [.int p1] [] (kX3_trayOn l g er2) gX3_member_X3_trayOn rfl (n := 1) rfl (by decide +kernel) ⟨Nat.le_of_ble_eq_true rfl, Nat.le_of_ble_eq_true rfl⟩ (ci := 2) rfl eu1 hw hl.1 rfl (Nat.le_of_ble_eq_true rfl) dX3_member_2 ⟨Nat.le_of_ble_eq_true rfl, Nat.le_of_ble_eq_true rfl⟩ (fun H locs hw => ?_)
  refine W.eq (g2 := F0 m 5 ls [va_rf r2]) rfl ?_
  refine hv_astore_n (q := r2) (lv' := [(3, va_rf r2), (0, .ref a), (1, .int p1), (2, .int p2)]) hx hb dX3_member_5 rfl hl (by decide) rfl (fun ls hl => ?_)
  refine hv_aload_n hx hb dX3_member_6 rfl (lv_at hl 0 rfl) ?_
  refine hv_ifnonnull (q := r2) (tgt := 16) hx hb dX3_member_7 (by decide) (fun c3 => ?_) (fun c3 => ?_)
  · rw [if_neg c3] at h
    refine hv_aload_n hx hb dX3_member_16 rfl (lv_at hl 0 rfl) ?_
    refine lv_iload_n hx hb dX3_member_17 rfl (lv_at hl 3 rfl) ?_
    replace h := hbd h
    obtain ⟨a4, rfl, h⟩ := h
    replace h := hbd h
    obtain ⟨u5, eu5, h⟩ := h
    replace h := hbd h
    obtain ⟨r6, er6, h⟩ := h
    refine hcallV (o := some (.long r6)) hx hb hml hown hts hk [.int p2] [] (kX2_read l g er6) gX3_member_X2_read rfl (n := 1) rfl (by decide +kernel) ⟨Nat.le_of_ble_eq_true rfl, Nat.le_of_ble_eq_true rfl⟩ (ci := 1) rfl eu5 hw hl.1 rfl (Nat.le_of_ble_eq_true rfl) dX3_member_18 ⟨Nat.le_of_ble_eq_true rfl, Nat.le_of_ble_eq_true rfl⟩ (fun H locs hw => ?_)
    refine W.eq (g2 := F0 m 21 ls [.long r6]) rfl ?_
    cases h
    exact hret_l hx hb hr hlocks hw dX3_member_21
  · rw [if_pos c3] at h
    refine lv_ldc2 (v := (-1)) hx hb hown (hts (.constantLong RX3 81 (-1)) (by decide +kernel)) dX3_member_10 ?_
    refine lv_goto (tgt := 21) hx hb dX3_member_13 (by decide) ?_
    cases h
    exact hret_l hx hb hr hlocks hw dX3_member_21
def fX3_sizeOf (f : hPl) (p1 : Option Nat) : Option Int32 := (fX3_asTray f  p1).bind fun r1 => (if r1 = none then some 0 else r1.bind fun a3 => (hob f a3 1).bind fun u4 => (fX2_size f a3 ).bind fun r5 => some r5)
set_option maxHeartbeats 4000000 in
set_option maxRecDepth 100000 in
theorem kX3_sizeOf (l : Launch) (g : hGb) {f : hPl} {z : Nat} {p1 : Option Nat} {r : Int32} (h : fX3_sizeOf f p1 = some r) : hCt l g yX3_sizeOf wsX3_sizeOf 1 0 0 [va_rf p1] f z (some (.int r)) f z := by
  refine hCt.of (cc := cX3_sizeOf) (maxL := 2) (ret := (some .int)) (by decide +kernel) rfl (by cases p1 <;> exact Nat.le_of_ble_eq_true rfl) ?_
  intro p e s m below meth c C hname hw ls hl
  obtain ⟨hx, hb, hml, hown, hts, hr, hlocks, hk⟩ := id C
  have hl : lv_has ls 2 [(0, va_rf p1)] := by cases p1 <;> exact hl
  have hown : s.vm.findClass RX3 = some m.cls := hown
  unfold fX3_sizeOf at h
  refine hv_aload_n hx hb dX3_sizeOf_0 rfl (lv_at hl 0 rfl) ?_
  replace h := hbd h
  obtain ⟨r1, er1, h⟩ := h
  refine hcallS (o := some (va_rf r1)) hx hb hml hown hts hk [va_rf p1] [] (kX3_asTray l g er1) gX3_sizeOf_X3_asTray rfl (n := 1) rfl (by decide +kernel) ⟨Nat.le_of_ble_eq_true rfl, Nat.le_of_ble_eq_true rfl⟩ hw hl.1 rfl (Nat.le_of_ble_eq_true rfl) dX3_sizeOf_1 ⟨Nat.le_of_ble_eq_true rfl, Nat.le_of_ble_eq_true rfl⟩ (fun H locs hw => ?_)
  refine W.eq (g2 := F0 m 4 ls [va_rf r1]) rfl ?_
  refine hv_astore_n (q := r1) (lv' := [(1, va_rf r1), (0, va_rf p1)]) hx hb dX3_sizeOf_4 rfl hl (by decide) (by cases p1 <;> rfl) (fun ls hl => ?_)
  refine hv_aload_n hx hb dX3_sizeOf_5 rfl (lv_at hl 0 rfl) ?_
  refine hv_ifnonnull (q := r1) (tgt := 13) hx hb dX3_sizeOf_6 (by decide) (fun c2 => ?_) (fun c2 => ?_)
  · rw [if_neg c2] at h
    refine hv_aload_n hx hb dX3_sizeOf_13 rfl (lv_at hl 0 rfl) ?_
    replace h := hbd h
    obtain ⟨a3, rfl, h⟩ := h
    replace h := hbd h
    obtain ⟨u4, eu4, h⟩ := h
    replace h := hbd h
    obtain ⟨r5, er5, h⟩ := h
    refine hcallV (o := some (.int r5)) hx hb hml hown hts hk [] [] (kX2_size l g er5) gX3_sizeOf_X2_size rfl (n := 0) rfl (by decide +kernel) ⟨Nat.le_of_ble_eq_true rfl, Nat.le_of_ble_eq_true rfl⟩ (ci := 1) rfl eu4 hw hl.1 rfl (Nat.le_of_ble_eq_true rfl) dX3_sizeOf_14 ⟨Nat.le_of_ble_eq_true rfl, Nat.le_of_ble_eq_true rfl⟩ (fun H locs hw => ?_)
    refine W.eq (g2 := F0 m 17 ls [.int r5]) rfl ?_
    cases h
    exact hret_i hx hb hr hlocks hw dX3_sizeOf_17
  · rw [if_pos c2] at h
    refine lv_iconst (v := 0) hx hb dX3_sizeOf_9 (by decide) ?_
    refine lv_goto (tgt := 17) hx hb dX3_sizeOf_10 (by decide) ?_
    cases h
    exact hret_i hx hb hr hlocks hw dX3_sizeOf_17
theorem iX3_leastPlaceOf_X3 : ∀ w ∈ wsX30, w ∈ wsX3_leastPlaceOf := by decide +kernel
def fX3_leastPlaceOf_j2s (rec : hPl → Nat → Option Nat → Int32 → Option Int32) (f : hPl) (a : Nat) (v1 : Option Nat) (v2 : Int32) : Option Int32 := (if 8 ≤ v2 then some (-1) else (hgQ f a 2 0).bind fun q2 => q2.bind fun a3 => (hlQ f a3 v2).bind fun q4 => (if q4 = v1 then some v2 else rec f a v1 (v2 + 1)))
set_option maxHeartbeats 4000000 in
set_option maxRecDepth 100000 in
theorem kX3_leastPlaceOf_j2s {g : hGb} {p : Program} {l : Launch} {e : Env} {s : State} {m : MethodId} {args : Array Value} {below : List Frame} {meth : Method} {c : Code} {A : Nat → Prop} (C : hX g p s m args meth c RX3 cX3_leastPlaceOf 3 wsX3_leastPlaceOf (some .int)) {f : hPl} {z : Nat} {r : Int32} (rec : hPl → Nat → Option Nat → Int32 → Option Int32) (hrec : ∀ (a : Nat) (v1 : Option Nat) (v2 : Int32), rec f a v1 v2 = some r → ∀ (H : Heap) (locs : List Loc) (ls : Array Slot), hW g A s f z H locs → lv_has ls 3 [(0, .ref a), (1, va_rf v1), (2, .int v2)] → W p l e (hRm 0 0 0) s m args below meth c H locs 0 0 (hZ g A below args s 0 0 (some (.int r)) f z) (F0 m 2 ls []))  : ∀ (a : Nat) (v1 : Option Nat) (v2 : Int32), fX3_leastPlaceOf_j2s rec f a v1 v2 = some r → ∀ (H : Heap) (locs : List Loc) (ls : Array Slot), hW g A s f z H locs → lv_has ls 3 [(0, .ref a), (1, va_rf v1), (2, .int v2)] → W p l e (hRm 0 0 0) s m args below meth c H locs 0 0 (hZ g A below args s 0 0 (some (.int r)) f z) (F0 m 2 ls []) := by
  obtain ⟨hx, hb, hml, hown, hts, hr, hlocks, hk⟩ := id C
  intro a v1 v2 h H locs ls hw hl
  unfold fX3_leastPlaceOf_j2s at h
  refine lv_iload_n hx hb dX3_leastPlaceOf_2 rfl (lv_at hl 2 rfl) ?_
  refine lv_bipush (v := 8) hx hb dX3_leastPlaceOf_3 (by decide) ?_
  refine lv_icmp_ge (tgt := 26) hx hb dX3_leastPlaceOf_5 (by decide) (fun c1 => ?_) (fun c1 => ?_)
  · rw [if_pos c1] at h
    refine lv_iconst (v := (-1)) hx hb dX3_leastPlaceOf_26 (by decide) ?_
    cases h
    exact hret_i hx hb hr hlocks hw dX3_leastPlaceOf_27
  · rw [if_neg c1] at h
    refine lv_aload_n hx hb dX3_leastPlaceOf_8 rfl (lv_at hl 0 rfl) ?_
    replace h := hbd h
    obtain ⟨q2, eq2, h⟩ := h
    refine hr_getQ (C := RX3) (T := TX3) (N := 11) hx hb hts iX3_leastPlaceOf_X3 hown hk hw rfl 0 (by decide) (hts (.fieldLink RX3 11 "SetterBench" "places" "[LSetterBench$Thing;") (by decide +kernel)) (fun _ h9 => h9) eq2 dX3_leastPlaceOf_9 ?_
    refine lv_iload_n hx hb dX3_leastPlaceOf_12 rfl (lv_at hl 2 rfl) ?_
    replace h := hbd h
    obtain ⟨a3, rfl, h⟩ := h
    replace h := hbd h
    obtain ⟨q4, eq4, h⟩ := h
    refine hr_lQ hx hb hk hw eq4 dX3_leastPlaceOf_13 ?_
    refine hv_aload_n hx hb dX3_leastPlaceOf_14 rfl (lv_at hl 1 rfl) ?_
    refine lv_acmp_ne (rx := q4) (ry := v1) (tgt := 20) hx hb dX3_leastPlaceOf_15 (by decide) (fun c5 => ?_) (fun c5 => ?_)
    · rw [if_neg c5] at h
      refine lv_iinc (v := (v2 + 1)) (lv' := [(2, .int (v2 + 1)), (0, .ref a), (1, va_rf v1)]) hx hb dX3_leastPlaceOf_20 hl (k := 2) rfl rfl (by decide) (by cases v1 <;> rfl) (fun ls hl => ?_)
      refine lv_goto (tgt := 2) hx hb dX3_leastPlaceOf_23 (by decide) ?_
      exact hrec _ _ _ h _ _ _ hw (lv_sub hl [1, 2, 0] rfl)
    · rw [if_pos c5] at h
      refine lv_iload_n hx hb dX3_leastPlaceOf_18 rfl (lv_at hl 2 rfl) ?_
      cases h
      exact hret_i hx hb hr hlocks hw dX3_leastPlaceOf_19
def fX3_leastPlaceOf_j2 (n : Nat) : hPl → Nat → Option Nat → Int32 → Option Int32 := match n with
  | 0 => fun _ _ _ _ => none
  | n + 1 => fX3_leastPlaceOf_j2s (fX3_leastPlaceOf_j2 n)
theorem kX3_leastPlaceOf_j2 {g : hGb} {p : Program} {l : Launch} {e : Env} {s : State} {m : MethodId} {args : Array Value} {below : List Frame} {meth : Method} {c : Code} {A : Nat → Prop} (C : hX g p s m args meth c RX3 cX3_leastPlaceOf 3 wsX3_leastPlaceOf (some .int)) {f : hPl} {z : Nat} {r : Int32} (n : Nat) : ∀ (a : Nat) (v1 : Option Nat) (v2 : Int32), fX3_leastPlaceOf_j2 n f a v1 v2 = some r → ∀ (H : Heap) (locs : List Loc) (ls : Array Slot), hW g A s f z H locs → lv_has ls 3 [(0, .ref a), (1, va_rf v1), (2, .int v2)] → W p l e (hRm 0 0 0) s m args below meth c H locs 0 0 (hZ g A below args s 0 0 (some (.int r)) f z) (F0 m 2 ls []) := by
  induction n with
  | zero =>
    intro a v1 v2 h
    cases h
  | succ n ih => exact kX3_leastPlaceOf_j2s C (fX3_leastPlaceOf_j2 n) ih
def fX3_leastPlaceOf (f : hPl) (a : Nat) (p1 : Option Nat) : Option Int32 := fX3_leastPlaceOf_j2 64 f a p1 0
set_option maxHeartbeats 4000000 in
set_option maxRecDepth 100000 in
theorem kX3_leastPlaceOf (l : Launch) (g : hGb) {f : hPl} {z : Nat} {a : Nat} {p1 : Option Nat} {r : Int32} (h : fX3_leastPlaceOf f a p1 = some r) : hCt l g yX3_leastPlaceOf wsX3_leastPlaceOf 0 0 0 [.ref a, va_rf p1] f z (some (.int r)) f z := by
  refine hCt.of (cc := cX3_leastPlaceOf) (maxL := 3) (ret := (some .int)) (by decide +kernel) rfl (by cases p1 <;> exact Nat.le_of_ble_eq_true rfl) ?_
  intro p e s m below meth c C hname hw ls hl
  obtain ⟨hx, hb, hml, hown, hts, hr, hlocks, hk⟩ := id C
  have hl : lv_has ls 3 [(0, .ref a), (1, va_rf p1)] := by cases p1 <;> exact hl
  have hown : s.vm.findClass RX3 = some m.cls := hown
  unfold fX3_leastPlaceOf at h
  refine lv_iconst (v := 0) hx hb dX3_leastPlaceOf_0 (by decide) ?_
  refine lv_istore_n (lv' := [(2, .int 0), (0, .ref a), (1, va_rf p1)]) hx hb dX3_leastPlaceOf_1 rfl hl (by decide) (by cases p1 <;> rfl) (fun ls hl => ?_)
  exact kX3_leastPlaceOf_j2 C 64 _ _ _ h _ _ _ hw (lv_sub hl [1, 2, 0] rfl)
theorem iX3_thing_X3 : ∀ w ∈ wsX30, w ∈ wsX3_thing := by decide +kernel
theorem iX3_thing_X0 : ∀ w ∈ wsX00, w ∈ wsX3_thing := by decide +kernel
theorem iX3_thing_X2 : ∀ w ∈ wsX20, w ∈ wsX3_thing := by decide +kernel
def fX3_thing (f : hPl) (a : Nat) (p1 : Int32) (p2 : Int32) : Option Int32 := (fX3_isPlace f  p1).bind fun r1 => (if r1 = 0 then some (-1) else (hgQ f a 2 0).bind fun q3 => q3.bind fun a4 => (hlQ f a4 p1).bind fun q5 => (if p2.toInt < 0 ∨ 2 < p2.toInt then some (-1) else if p2 = 0 then (if q5 = none then some 0 else q5.bind fun a9 => (hgT f a9).bind fun x10 => some x10) else if p2 = 1 then (fX3_sizeOf f  q5).bind fun r12 => some r12 else if p2 = 2 then (if q5 = none then some p1 else (hob f a 2).bind fun u15 => (fX3_leastPlaceOf f a q5).bind fun r16 => some r16) else none))
set_option maxHeartbeats 4000000 in
set_option maxRecDepth 100000 in
theorem kX3_thing (l : Launch) (g : hGb) {f : hPl} {z : Nat} {a : Nat} {p1 : Int32} {p2 : Int32} {r : Int32} (h : fX3_thing f a p1 p2 = some r) : hCt l g yX3_thing wsX3_thing 2 0 0 [.ref a, .int p1, .int p2] f z (some (.int r)) f z := by
  refine hCt.of (cc := cX3_thing) (maxL := 4) (ret := (some .int)) (by decide +kernel) rfl (by exact Nat.le_of_ble_eq_true rfl) ?_
  intro p e s m below meth c C hname hw ls hl
  obtain ⟨hx, hb, hml, hown, hts, hr, hlocks, hk⟩ := id C
  have hl : lv_has ls 4 [(0, .ref a), (1, .int p1), (2, .int p2)] := hl
  have hown : s.vm.findClass RX3 = some m.cls := hown
  unfold fX3_thing at h
  refine lv_iload_n hx hb dX3_thing_0 rfl (lv_at hl 1 rfl) ?_
  replace h := hbd h
  obtain ⟨r1, er1, h⟩ := h
  refine hcallS (o := some (.int r1)) hx hb hml hown hts hk [.int p1] [] (kX3_isPlace l g er1) gX3_thing_X3_isPlace rfl (n := 1) rfl (by decide +kernel) ⟨Nat.le_of_ble_eq_true rfl, Nat.le_of_ble_eq_true rfl⟩ hw hl.1 rfl (Nat.le_of_ble_eq_true rfl) dX3_thing_1 ⟨Nat.le_of_ble_eq_true rfl, Nat.le_of_ble_eq_true rfl⟩ (fun H locs hw => ?_)
  refine W.eq (g2 := F0 m 4 ls [.int r1]) rfl ?_
  refine lv_if_ne (tgt := 9) hx hb dX3_thing_4 (by decide) (fun c2 => ?_) (fun c2 => ?_)
  · rw [if_neg c2] at h
    refine lv_aload_n hx hb dX3_thing_9 rfl (lv_at hl 0 rfl) ?_
    replace h := hbd h
    obtain ⟨q3, eq3, h⟩ := h
    refine hr_getQ (C := RX3) (T := TX3) (N := 11) hx hb hts iX3_thing_X3 hown hk hw rfl 0 (by decide) (hts (.fieldLink RX3 11 "SetterBench" "places" "[LSetterBench$Thing;") (by decide +kernel)) (fun _ h9 => h9) eq3 dX3_thing_10 ?_
    refine lv_iload_n hx hb dX3_thing_13 rfl (lv_at hl 1 rfl) ?_
    replace h := hbd h
    obtain ⟨a4, rfl, h⟩ := h
    replace h := hbd h
    obtain ⟨q5, eq5, h⟩ := h
    refine hr_lQ hx hb hk hw eq5 dX3_thing_14 ?_
    refine hv_astore_n (q := q5) (lv' := [(3, va_rf q5), (0, .ref a), (1, .int p1), (2, .int p2)]) hx hb dX3_thing_15 rfl hl (by decide) rfl (fun ls hl => ?_)
    refine lv_iload_n hx hb dX3_thing_16 rfl (lv_at hl 3 rfl) ?_
    by_cases c6 : p2.toInt < 0 ∨ 2 < p2.toInt
    · rw [if_pos c6] at h
      refine lv_tableOut (tgt := 76) hx hb dX3_thing_17 c6 (by decide) ?_
      refine lv_iconst (v := (-1)) hx hb dX3_thing_76 (by decide) ?_
      cases h
      exact hret_i hx hb hr hlocks hw dX3_thing_77
    rw [if_neg c6] at h
    by_cases c7 : p2 = 0
    · rw [if_pos c7] at h
      refine hv_arm (off := 27) (tgt := 44) hx hb c7 dX3_thing_17 (by decide) (by decide) (by decide) (by decide) ?_
      refine hv_aload_n hx hb dX3_thing_44 rfl (lv_at hl 0 rfl) ?_
      refine hv_ifnonnull (q := q5) (tgt := 52) hx hb dX3_thing_45 (by decide) (fun c8 => ?_) (fun c8 => ?_)
      · rw [if_neg c8] at h
        refine hv_aload_n hx hb dX3_thing_52 rfl (lv_at hl 0 rfl) ?_
        replace h := hbd h
        obtain ⟨a9, rfl, h⟩ := h
        replace h := hbd h
        obtain ⟨x10, ex10, h⟩ := h
        refine hr_getT hx hb hts iX3_thing_X0 iX3_thing_X2 hown hk hw (hts (.fieldLink RX3 86 "SetterBench$Thing" "sort" "I") (by decide +kernel)) ex10 dX3_thing_53 ?_
        cases h
        exact hret_i hx hb hr hlocks hw dX3_thing_56
      · rw [if_pos c8] at h
        refine lv_iconst (v := 0) hx hb dX3_thing_48 (by decide) ?_
        refine lv_goto (tgt := 56) hx hb dX3_thing_49 (by decide) ?_
        cases h
        exact hret_i hx hb hr hlocks hw dX3_thing_56
    rw [if_neg c7] at h
    by_cases c11 : p2 = 1
    · rw [if_pos c11] at h
      refine hv_arm (off := 40) (tgt := 57) hx hb c11 dX3_thing_17 (by decide) (by decide) (by decide) (by decide) ?_
      refine hv_aload_n hx hb dX3_thing_57 rfl (lv_at hl 0 rfl) ?_
      replace h := hbd h
      obtain ⟨r12, er12, h⟩ := h
      refine hcallS (o := some (.int r12)) hx hb hml hown hts hk [va_rf q5] [] (kX3_sizeOf l g er12) gX3_thing_X3_sizeOf rfl (n := 1) rfl (by decide +kernel) ⟨Nat.le_of_ble_eq_true rfl, Nat.le_of_ble_eq_true rfl⟩ hw hl.1 rfl (Nat.le_of_ble_eq_true rfl) dX3_thing_58 ⟨Nat.le_of_ble_eq_true rfl, Nat.le_of_ble_eq_true rfl⟩ (fun H locs hw => ?_)
      refine W.eq (g2 := F0 m 61 ls [.int r12]) rfl ?_
      cases h
      exact hret_i hx hb hr hlocks hw dX3_thing_61
    rw [if_neg c11] at h
    by_cases c13 : p2 = 2
    · rw [if_pos c13] at h
      refine hv_arm (off := 45) (tgt := 62) hx hb c13 dX3_thing_17 (by decide) (by decide) (by decide) (by decide) ?_
      refine hv_aload_n hx hb dX3_thing_62 rfl (lv_at hl 0 rfl) ?_
      refine hv_ifnonnull (q := q5) (tgt := 70) hx hb dX3_thing_63 (by decide) (fun c14 => ?_) (fun c14 => ?_)
      · rw [if_neg c14] at h
        refine lv_aload_n hx hb dX3_thing_70 rfl (lv_at hl 1 rfl) ?_
        refine hv_aload_n hx hb dX3_thing_71 rfl (lv_at hl 0 rfl) ?_
        replace h := hbd h
        obtain ⟨u15, eu15, h⟩ := h
        replace h := hbd h
        obtain ⟨r16, er16, h⟩ := h
        refine hcallV (o := some (.int r16)) hx hb hml hown hts hk [va_rf q5] [] (kX3_leastPlaceOf l g er16) gX3_thing_X3_leastPlaceOf rfl (n := 1) rfl (by decide +kernel) ⟨Nat.le_of_ble_eq_true rfl, Nat.le_of_ble_eq_true rfl⟩ (ci := 2) rfl eu15 hw hl.1 rfl (Nat.le_of_ble_eq_true rfl) dX3_thing_72 ⟨Nat.le_of_ble_eq_true rfl, Nat.le_of_ble_eq_true rfl⟩ (fun H locs hw => ?_)
        refine W.eq (g2 := F0 m 75 ls [.int r16]) rfl ?_
        cases h
        exact hret_i hx hb hr hlocks hw dX3_thing_75
      · rw [if_pos c14] at h
        refine lv_iload_n hx hb dX3_thing_66 rfl (lv_at hl 2 rfl) ?_
        refine lv_goto (tgt := 75) hx hb dX3_thing_67 (by decide) ?_
        cases h
        exact hret_i hx hb hr hlocks hw dX3_thing_75
    rw [if_neg c13] at h
    cases h
  · rw [if_pos c2] at h
    refine lv_iconst (v := (-1)) hx hb dX3_thing_7 (by decide) ?_
    cases h
    exact hret_i hx hb hr hlocks hw dX3_thing_8
def fX3_worthOfStone (f : hPl) (p1 : Int32) : Option Int32 := (if p1.toInt < 1 ∨ 4 < p1.toInt then some 0 else if p1 = 1 then some 1 else if p1 = 2 then some 4 else if p1 = 3 then some 20 else if p1 = 4 then some 15 else none)
set_option maxHeartbeats 4000000 in
set_option maxRecDepth 100000 in
theorem kX3_worthOfStone (l : Launch) (g : hGb) {f : hPl} {z : Nat} {p1 : Int32} {r : Int32} (h : fX3_worthOfStone f p1 = some r) : hCt l g yX3_worthOfStone wsX3_worthOfStone 0 0 0 [.int p1] f z (some (.int r)) f z := by
  refine hCt.of (cc := cX3_worthOfStone) (maxL := 1) (ret := (some .int)) (by decide +kernel) rfl (by exact Nat.le_of_ble_eq_true rfl) ?_
  intro p e s m below meth c C hname hw ls hl
  obtain ⟨hx, hb, hml, hown, hts, hr, hlocks, hk⟩ := id C
  have hl : lv_has ls 1 [(0, .int p1)] := hl
  have hown : s.vm.findClass RX3 = some m.cls := hown
  unfold fX3_worthOfStone at h
  refine lv_iload_n hx hb dX3_worthOfStone_0 rfl (lv_at hl 0 rfl) ?_
  by_cases c1 : p1.toInt < 1 ∨ 4 < p1.toInt
  · rw [if_pos c1] at h
    refine lv_tableOut (tgt := 42) hx hb dX3_worthOfStone_1 c1 (by decide) ?_
    refine lv_iconst (v := 0) hx hb dX3_worthOfStone_42 (by decide) ?_
    cases h
    exact hret_i hx hb hr hlocks hw dX3_worthOfStone_43
  rw [if_neg c1] at h
  by_cases c2 : p1 = 1
  · rw [if_pos c2] at h
    refine hv_arm (off := 31) (tgt := 32) hx hb c2 dX3_worthOfStone_1 (by decide) (by decide) (by decide) (by decide) ?_
    refine lv_iconst (v := 1) hx hb dX3_worthOfStone_32 (by decide) ?_
    cases h
    exact hret_i hx hb hr hlocks hw dX3_worthOfStone_33
  rw [if_neg c2] at h
  by_cases c3 : p1 = 2
  · rw [if_pos c3] at h
    refine hv_arm (off := 33) (tgt := 34) hx hb c3 dX3_worthOfStone_1 (by decide) (by decide) (by decide) (by decide) ?_
    refine lv_iconst (v := 4) hx hb dX3_worthOfStone_34 (by decide) ?_
    cases h
    exact hret_i hx hb hr hlocks hw dX3_worthOfStone_35
  rw [if_neg c3] at h
  by_cases c4 : p1 = 3
  · rw [if_pos c4] at h
    refine hv_arm (off := 35) (tgt := 36) hx hb c4 dX3_worthOfStone_1 (by decide) (by decide) (by decide) (by decide) ?_
    refine lv_bipush (v := 20) hx hb dX3_worthOfStone_36 (by decide) ?_
    cases h
    exact hret_i hx hb hr hlocks hw dX3_worthOfStone_38
  rw [if_neg c4] at h
  by_cases c5 : p1 = 4
  · rw [if_pos c5] at h
    refine hv_arm (off := 38) (tgt := 39) hx hb c5 dX3_worthOfStone_1 (by decide) (by decide) (by decide) (by decide) ?_
    refine lv_bipush (v := 15) hx hb dX3_worthOfStone_39 (by decide) ?_
    cases h
    exact hret_i hx hb hr hlocks hw dX3_worthOfStone_41
  rw [if_neg c5] at h
  cases h
def fX3_worth_j27s (rec : hPl → Option Nat → Int32 → Int32 → Int32 → Option Int32) (f : hPl) (v2 : Option Nat) (v3 : Int32) (v4 : Int32) (v5 : Int32) : Option Int32 := v2.bind fun a8 => (hob f a8 1).bind fun u9 => (fX2_size f a8 ).bind fun r10 => (if r10 ≤ v5 then some v3 else (hob f a8 1).bind fun u12 => (fX2_stoneSortAt f a8 v5).bind fun r13 => (fX3_worthOfStone f  r13).bind fun r14 => (if r13 = v4 then (fX3_isRound f  r13).bind fun r16 => (if r16 = 0 then rec f (some a8) (v3 + r14) r13 (v5 + 1) else rec f (some a8) ((v3 + r14) + 5) r13 (v5 + 1)) else rec f (some a8) (v3 + r14) r13 (v5 + 1)))
set_option maxHeartbeats 4000000 in
set_option maxRecDepth 100000 in
theorem kX3_worth_j27s {g : hGb} {p : Program} {l : Launch} {e : Env} {s : State} {m : MethodId} {args : Array Value} {below : List Frame} {meth : Method} {c : Code} {A : Nat → Prop} (C : hX g p s m args meth c RX3 cX3_worth 7 wsX3_worth (some .int)) {f : hPl} {z : Nat} {r : Int32} (rec : hPl → Option Nat → Int32 → Int32 → Int32 → Option Int32) (hrec : ∀ (v2 : Option Nat) (v3 : Int32) (v4 : Int32) (v5 : Int32), rec f v2 v3 v4 v5 = some r → ∀ (H : Heap) (locs : List Loc) (ls : Array Slot), hW g A s f z H locs → lv_has ls 7 [(2, va_rf v2), (3, .int v3), (4, .int v4), (5, .int v5)] → W p l e (hRm 2 0 0) s m args below meth c H locs 0 0 (hZ g A below args s 0 0 (some (.int r)) f z) (F0 m 27 ls []))  : ∀ (v2 : Option Nat) (v3 : Int32) (v4 : Int32) (v5 : Int32), fX3_worth_j27s rec f v2 v3 v4 v5 = some r → ∀ (H : Heap) (locs : List Loc) (ls : Array Slot), hW g A s f z H locs → lv_has ls 7 [(2, va_rf v2), (3, .int v3), (4, .int v4), (5, .int v5)] → W p l e (hRm 2 0 0) s m args below meth c H locs 0 0 (hZ g A below args s 0 0 (some (.int r)) f z) (F0 m 27 ls []) := by
  obtain ⟨hx, hb, hml, hown, hts, hr, hlocks, hk⟩ := id C
  intro v2 v3 v4 v5 h H locs ls hw hl
  unfold fX3_worth_j27s at h
  refine lv_iload hx hb dX3_worth_27 (lv_at hl 3 rfl) ?_
  refine hv_aload_n hx hb dX3_worth_29 rfl (lv_at hl 0 rfl) ?_
  replace h := hbd h
  obtain ⟨a8, rfl, h⟩ := h
  replace h := hbd h
  obtain ⟨u9, eu9, h⟩ := h
  replace h := hbd h
  obtain ⟨r10, er10, h⟩ := h
  refine hcallV (o := some (.int r10)) hx hb hml hown hts hk [] [.int v5] (kX2_size l g er10) gX3_worth_X2_size rfl (n := 0) rfl (by decide +kernel) ⟨Nat.le_of_ble_eq_true rfl, Nat.le_of_ble_eq_true rfl⟩ (ci := 1) rfl eu9 hw hl.1 rfl (Nat.le_of_ble_eq_true rfl) dX3_worth_30 ⟨Nat.le_of_ble_eq_true rfl, Nat.le_of_ble_eq_true rfl⟩ (fun H locs hw => ?_)
  refine W.eq (g2 := F0 m 33 ls [.int r10, .int v5]) rfl ?_
  refine lv_icmp_ge (tgt := 80) hx hb dX3_worth_33 (by decide) (fun c11 => ?_) (fun c11 => ?_)
  · rw [if_pos c11] at h
    refine lv_iload_n hx hb dX3_worth_80 rfl (lv_at hl 1 rfl) ?_
    cases h
    exact hret_i hx hb hr hlocks hw dX3_worth_81
  · rw [if_neg c11] at h
    refine lv_aload_n hx hb dX3_worth_36 rfl (lv_at hl 0 rfl) ?_
    refine lv_iload hx hb dX3_worth_37 (lv_at hl 3 rfl) ?_
    replace h := hbd h
    obtain ⟨u12, eu12, h⟩ := h
    replace h := hbd h
    obtain ⟨r13, er13, h⟩ := h
    refine hcallV (o := some (.int r13)) hx hb hml hown hts hk [.int v5] [] (kX2_stoneSortAt l g er13) gX3_worth_X2_stoneSortAt rfl (n := 1) rfl (by decide +kernel) ⟨Nat.le_of_ble_eq_true rfl, Nat.le_of_ble_eq_true rfl⟩ (ci := 1) rfl eu12 hw hl.1 rfl (Nat.le_of_ble_eq_true rfl) dX3_worth_39 ⟨Nat.le_of_ble_eq_true rfl, Nat.le_of_ble_eq_true rfl⟩ (fun H locs hw => ?_)
    refine W.eq (g2 := F0 m 42 ls [.int r13]) rfl ?_
    refine lv_istore (lv' := [(6, .int r13), (2, .ref a8), (3, .int v3), (4, .int v4), (5, .int v5)]) hx hb dX3_worth_42 hl (by decide) rfl (fun ls hl => ?_)
    refine lv_iload_n hx hb dX3_worth_44 rfl (lv_at hl 2 rfl) ?_
    refine lv_iload hx hb dX3_worth_45 (lv_at hl 0 rfl) ?_
    replace h := hbd h
    obtain ⟨r14, er14, h⟩ := h
    refine hcallS (o := some (.int r14)) hx hb hml hown hts hk [.int r13] [.int v3] (kX3_worthOfStone l g er14) gX3_worth_X3_worthOfStone rfl (n := 1) rfl (by decide +kernel) ⟨Nat.le_of_ble_eq_true rfl, Nat.le_of_ble_eq_true rfl⟩ hw hl.1 rfl (Nat.le_of_ble_eq_true rfl) dX3_worth_47 ⟨Nat.le_of_ble_eq_true rfl, Nat.le_of_ble_eq_true rfl⟩ (fun H locs hw => ?_)
    refine W.eq (g2 := F0 m 50 ls [.int r14, .int v3]) rfl ?_
    refine lv_iadd hx hb dX3_worth_50 ?_
    refine lv_istore_n (lv' := [(3, .int (v3 + r14)), (6, .int r13), (2, .ref a8), (4, .int v4), (5, .int v5)]) hx hb dX3_worth_51 rfl hl (by decide) rfl (fun ls hl => ?_)
    refine lv_iload hx hb dX3_worth_52 (lv_at hl 1 rfl) ?_
    refine lv_iload hx hb dX3_worth_54 (lv_at hl 3 rfl) ?_
    refine lv_icmp_ne (tgt := 70) hx hb dX3_worth_56 (by decide) (fun c15 => ?_) (fun c15 => ?_)
    · rw [if_neg c15] at h
      refine lv_iload hx hb dX3_worth_70 (lv_at hl 1 rfl) ?_
      refine lv_istore (lv' := [(4, .int r13), (3, .int (v3 + r14)), (6, .int r13), (2, .ref a8), (5, .int v5)]) hx hb dX3_worth_72 hl (by decide) rfl (fun ls hl => ?_)
      refine lv_iinc (v := (v5 + 1)) (lv' := [(5, .int (v5 + 1)), (4, .int r13), (3, .int (v3 + r14)), (6, .int r13), (2, .ref a8)]) hx hb dX3_worth_74 hl (k := 4) rfl rfl (by decide) rfl (fun ls hl => ?_)
      refine lv_goto (tgt := 27) hx hb dX3_worth_77 (by decide) ?_
      exact hrec _ _ _ _ h _ _ _ hw (lv_sub hl [4, 2, 1, 0] rfl)
    · rw [if_pos c15] at h
      refine lv_iload hx hb dX3_worth_59 (lv_at hl 1 rfl) ?_
      replace h := hbd h
      obtain ⟨r16, er16, h⟩ := h
      refine hcallS (o := some (.int r16)) hx hb hml hown hts hk [.int r13] [] (kX3_isRound l g er16) gX3_worth_X3_isRound rfl (n := 1) rfl (by decide +kernel) ⟨Nat.le_of_ble_eq_true rfl, Nat.le_of_ble_eq_true rfl⟩ hw hl.1 rfl (Nat.le_of_ble_eq_true rfl) dX3_worth_61 ⟨Nat.le_of_ble_eq_true rfl, Nat.le_of_ble_eq_true rfl⟩ (fun H locs hw => ?_)
      refine W.eq (g2 := F0 m 64 ls [.int r16]) rfl ?_
      refine lv_if_eq (tgt := 70) hx hb dX3_worth_64 (by decide) (fun c17 => ?_) (fun c17 => ?_)
      · rw [if_pos c17] at h
        refine lv_iload hx hb dX3_worth_70 (lv_at hl 1 rfl) ?_
        refine lv_istore (lv' := [(4, .int r13), (3, .int (v3 + r14)), (6, .int r13), (2, .ref a8), (5, .int v5)]) hx hb dX3_worth_72 hl (by decide) rfl (fun ls hl => ?_)
        refine lv_iinc (v := (v5 + 1)) (lv' := [(5, .int (v5 + 1)), (4, .int r13), (3, .int (v3 + r14)), (6, .int r13), (2, .ref a8)]) hx hb dX3_worth_74 hl (k := 4) rfl rfl (by decide) rfl (fun ls hl => ?_)
        refine lv_goto (tgt := 27) hx hb dX3_worth_77 (by decide) ?_
        exact hrec _ _ _ _ h _ _ _ hw (lv_sub hl [4, 2, 1, 0] rfl)
      · rw [if_neg c17] at h
        refine lv_iinc (v := ((v3 + r14) + 5)) (lv' := [(3, .int ((v3 + r14) + 5)), (6, .int r13), (2, .ref a8), (4, .int v4), (5, .int v5)]) hx hb dX3_worth_67 hl (k := 0) rfl rfl (by decide) rfl (fun ls hl => ?_)
        refine lv_iload hx hb dX3_worth_70 (lv_at hl 1 rfl) ?_
        refine lv_istore (lv' := [(4, .int r13), (3, .int ((v3 + r14) + 5)), (6, .int r13), (2, .ref a8), (5, .int v5)]) hx hb dX3_worth_72 hl (by decide) rfl (fun ls hl => ?_)
        refine lv_iinc (v := (v5 + 1)) (lv' := [(5, .int (v5 + 1)), (4, .int r13), (3, .int ((v3 + r14) + 5)), (6, .int r13), (2, .ref a8)]) hx hb dX3_worth_74 hl (k := 4) rfl rfl (by decide) rfl (fun ls hl => ?_)
        refine lv_goto (tgt := 27) hx hb dX3_worth_77 (by decide) ?_
        exact hrec _ _ _ _ h _ _ _ hw (lv_sub hl [4, 2, 1, 0] rfl)
def fX3_worth_j27 (n : Nat) : hPl → Option Nat → Int32 → Int32 → Int32 → Option Int32 := match n with
  | 0 => fun _ _ _ _ _ => none
  | n + 1 => fX3_worth_j27s (fX3_worth_j27 n)
theorem kX3_worth_j27 {g : hGb} {p : Program} {l : Launch} {e : Env} {s : State} {m : MethodId} {args : Array Value} {below : List Frame} {meth : Method} {c : Code} {A : Nat → Prop} (C : hX g p s m args meth c RX3 cX3_worth 7 wsX3_worth (some .int)) {f : hPl} {z : Nat} {r : Int32} (n : Nat) : ∀ (v2 : Option Nat) (v3 : Int32) (v4 : Int32) (v5 : Int32), fX3_worth_j27 n f v2 v3 v4 v5 = some r → ∀ (H : Heap) (locs : List Loc) (ls : Array Slot), hW g A s f z H locs → lv_has ls 7 [(2, va_rf v2), (3, .int v3), (4, .int v4), (5, .int v5)] → W p l e (hRm 2 0 0) s m args below meth c H locs 0 0 (hZ g A below args s 0 0 (some (.int r)) f z) (F0 m 27 ls []) := by
  induction n with
  | zero =>
    intro v2 v3 v4 v5 h
    cases h
  | succ n ih => exact kX3_worth_j27s C (fX3_worth_j27 n) ih
def fX3_worth (f : hPl) (a : Nat) (p1 : Int32) : Option Int32 := (hob f a 2).bind fun u1 => (fX3_trayOn f a p1).bind fun r2 => (if r2 = none then some (-1) else r2.bind fun a4 => (hob f a4 1).bind fun u5 => (fX2_isOfStones f a4 ).bind fun r6 => (if r6 = 0 then some (-1) else fX3_worth_j27 64 f (some a4) 0 0 0))
set_option maxHeartbeats 4000000 in
set_option maxRecDepth 100000 in
theorem kX3_worth (l : Launch) (g : hGb) {f : hPl} {z : Nat} {a : Nat} {p1 : Int32} {r : Int32} (h : fX3_worth f a p1 = some r) : hCt l g yX3_worth wsX3_worth 2 0 0 [.ref a, .int p1] f z (some (.int r)) f z := by
  refine hCt.of (cc := cX3_worth) (maxL := 7) (ret := (some .int)) (by decide +kernel) rfl (by exact Nat.le_of_ble_eq_true rfl) ?_
  intro p e s m below meth c C hname hw ls hl
  obtain ⟨hx, hb, hml, hown, hts, hr, hlocks, hk⟩ := id C
  have hl : lv_has ls 7 [(0, .ref a), (1, .int p1)] := hl
  have hown : s.vm.findClass RX3 = some m.cls := hown
  unfold fX3_worth at h
  refine lv_aload_n hx hb dX3_worth_0 rfl (lv_at hl 0 rfl) ?_
  refine lv_iload_n hx hb dX3_worth_1 rfl (lv_at hl 1 rfl) ?_
  replace h := hbd h
  obtain ⟨u1, eu1, h⟩ := h
  replace h := hbd h
  obtain ⟨r2, er2, h⟩ := h
  refine hcallV (o := some (va_rf r2)) hx hb hml hown hts hk [.int p1] [] (kX3_trayOn l g er2) gX3_worth_X3_trayOn rfl (n := 1) rfl (by decide +kernel) ⟨Nat.le_of_ble_eq_true rfl, Nat.le_of_ble_eq_true rfl⟩ (ci := 2) rfl eu1 hw hl.1 rfl (Nat.le_of_ble_eq_true rfl) dX3_worth_2 ⟨Nat.le_of_ble_eq_true rfl, Nat.le_of_ble_eq_true rfl⟩ (fun H locs hw => ?_)
  refine W.eq (g2 := F0 m 5 ls [va_rf r2]) rfl ?_
  refine hv_astore_n (q := r2) (lv' := [(2, va_rf r2), (0, .ref a), (1, .int p1)]) hx hb dX3_worth_5 rfl hl (by decide) rfl (fun ls hl => ?_)
  refine hv_aload_n hx hb dX3_worth_6 rfl (lv_at hl 0 rfl) ?_
  refine hv_ifnull (q := r2) (tgt := 17) hx hb dX3_worth_7 (by decide) (fun c3 => ?_) (fun c3 => ?_)
  · rw [if_pos c3] at h
    refine lv_iconst (v := (-1)) hx hb dX3_worth_17 (by decide) ?_
    cases h
    exact hret_i hx hb hr hlocks hw dX3_worth_18
  · rw [if_neg c3] at h
    refine hv_aload_n hx hb dX3_worth_10 rfl (lv_at hl 0 rfl) ?_
    replace h := hbd h
    obtain ⟨a4, rfl, h⟩ := h
    replace h := hbd h
    obtain ⟨u5, eu5, h⟩ := h
    replace h := hbd h
    obtain ⟨r6, er6, h⟩ := h
    refine hcallV (o := some (.int r6)) hx hb hml hown hts hk [] [] (kX2_isOfStones l g er6) gX3_worth_X2_isOfStones rfl (n := 0) rfl (by decide +kernel) ⟨Nat.le_of_ble_eq_true rfl, Nat.le_of_ble_eq_true rfl⟩ (ci := 1) rfl eu5 hw hl.1 rfl (Nat.le_of_ble_eq_true rfl) dX3_worth_11 ⟨Nat.le_of_ble_eq_true rfl, Nat.le_of_ble_eq_true rfl⟩ (fun H locs hw => ?_)
    refine W.eq (g2 := F0 m 14 ls [.int r6]) rfl ?_
    refine lv_if_ne (tgt := 19) hx hb dX3_worth_14 (by decide) (fun c7 => ?_) (fun c7 => ?_)
    · rw [if_neg c7] at h
      refine lv_iconst (v := 0) hx hb dX3_worth_19 (by decide) ?_
      refine lv_istore_n (lv' := [(3, .int 0), (2, .ref a4), (0, .ref a), (1, .int p1)]) hx hb dX3_worth_20 rfl hl (by decide) rfl (fun ls hl => ?_)
      refine lv_iconst (v := 0) hx hb dX3_worth_21 (by decide) ?_
      refine lv_istore (lv' := [(4, .int 0), (3, .int 0), (2, .ref a4), (0, .ref a), (1, .int p1)]) hx hb dX3_worth_22 hl (by decide) rfl (fun ls hl => ?_)
      refine lv_iconst (v := 0) hx hb dX3_worth_24 (by decide) ?_
      refine lv_istore (lv' := [(5, .int 0), (4, .int 0), (3, .int 0), (2, .ref a4), (0, .ref a), (1, .int p1)]) hx hb dX3_worth_25 hl (by decide) rfl (fun ls hl => ?_)
      exact kX3_worth_j27 C 64 _ _ _ _ h _ _ _ hw (lv_sub hl [3, 2, 1, 0] rfl)
    · rw [if_pos c7] at h
      refine lv_iconst (v := (-1)) hx hb dX3_worth_17 (by decide) ?_
      cases h
      exact hret_i hx hb hr hlocks hw dX3_worth_18
def fX3_mirror_j60s (rec : hPl → Option Nat → Option Nat → Int32 → Int32 → Option Int32) (f : hPl) (v3 : Option Nat) (v4 : Option Nat) (v5 : Int32) (v6 : Int32) : Option Int32 := (if v5 ≤ v6 then some 1 else v3.bind fun a21 => (hob f a21 1).bind fun u22 => (fX2_stoneSortAt f a21 v6).bind fun r23 => v4.bind fun a24 => (hob f a24 1).bind fun u25 => (fX2_stoneSortAt f a24 ((v5 - 1) - v6)).bind fun r26 => (if r23 = r26 then rec f (some a21) (some a24) v5 (v6 + 1) else some 0))
set_option maxHeartbeats 4000000 in
set_option maxRecDepth 100000 in
theorem kX3_mirror_j60s {g : hGb} {p : Program} {l : Launch} {e : Env} {s : State} {m : MethodId} {args : Array Value} {below : List Frame} {meth : Method} {c : Code} {A : Nat → Prop} (C : hX g p s m args meth c RX3 cX3_mirror 7 wsX3_mirror (some .boolean)) {f : hPl} {z : Nat} {r : Int32} (rec : hPl → Option Nat → Option Nat → Int32 → Int32 → Option Int32) (hrec : ∀ (v3 : Option Nat) (v4 : Option Nat) (v5 : Int32) (v6 : Int32), rec f v3 v4 v5 v6 = some r → ∀ (H : Heap) (locs : List Loc) (ls : Array Slot), hW g A s f z H locs → lv_has ls 7 [(3, va_rf v3), (4, va_rf v4), (5, .int v5), (6, .int v6)] → W p l e (hRm 2 0 0) s m args below meth c H locs 0 0 (hZ g A below args s 0 0 (some (.int r)) f z) (F0 m 60 ls []))  : ∀ (v3 : Option Nat) (v4 : Option Nat) (v5 : Int32) (v6 : Int32), fX3_mirror_j60s rec f v3 v4 v5 v6 = some r → ∀ (H : Heap) (locs : List Loc) (ls : Array Slot), hW g A s f z H locs → lv_has ls 7 [(3, va_rf v3), (4, va_rf v4), (5, .int v5), (6, .int v6)] → W p l e (hRm 2 0 0) s m args below meth c H locs 0 0 (hZ g A below args s 0 0 (some (.int r)) f z) (F0 m 60 ls []) := by
  obtain ⟨hx, hb, hml, hown, hts, hr, hlocks, hk⟩ := id C
  intro v3 v4 v5 v6 h H locs ls hw hl
  unfold fX3_mirror_j60s at h
  refine lv_iload hx hb dX3_mirror_60 (lv_at hl 3 rfl) ?_
  refine lv_iload hx hb dX3_mirror_62 (lv_at hl 2 rfl) ?_
  refine lv_icmp_ge (tgt := 96) hx hb dX3_mirror_64 (by decide) (fun c20 => ?_) (fun c20 => ?_)
  · rw [if_pos c20] at h
    refine lv_iconst (v := 1) hx hb dX3_mirror_96 (by decide) ?_
    cases h
    exact hret_z hx hb hr hlocks hw (Or.inr rfl) dX3_mirror_97
  · rw [if_neg c20] at h
    refine hv_aload_n hx hb dX3_mirror_67 rfl (lv_at hl 0 rfl) ?_
    refine lv_iload hx hb dX3_mirror_68 (lv_at hl 3 rfl) ?_
    replace h := hbd h
    obtain ⟨a21, rfl, h⟩ := h
    replace h := hbd h
    obtain ⟨u22, eu22, h⟩ := h
    replace h := hbd h
    obtain ⟨r23, er23, h⟩ := h
    refine hcallV (o := some (.int r23)) hx hb hml hown hts hk [.int v6] [] (kX2_stoneSortAt l g er23) gX3_mirror_X2_stoneSortAt rfl (n := 1) rfl (by decide +kernel) ⟨Nat.le_of_ble_eq_true rfl, Nat.le_of_ble_eq_true rfl⟩ (ci := 1) rfl eu22 hw hl.1 rfl (Nat.le_of_ble_eq_true rfl) dX3_mirror_70 ⟨Nat.le_of_ble_eq_true rfl, Nat.le_of_ble_eq_true rfl⟩ (fun H locs hw => ?_)
    refine W.eq (g2 := F0 m 73 ls [.int r23]) rfl ?_
    refine hv_aload hx hb dX3_mirror_73 (lv_at hl 1 rfl) ?_
    refine lv_iload hx hb dX3_mirror_75 (lv_at hl 2 rfl) ?_
    refine lv_iconst (v := 1) hx hb dX3_mirror_77 (by decide) ?_
    refine lv_isub hx hb dX3_mirror_78 ?_
    refine lv_iload hx hb dX3_mirror_79 (lv_at hl 3 rfl) ?_
    refine lv_isub hx hb dX3_mirror_81 ?_
    replace h := hbd h
    obtain ⟨a24, rfl, h⟩ := h
    replace h := hbd h
    obtain ⟨u25, eu25, h⟩ := h
    replace h := hbd h
    obtain ⟨r26, er26, h⟩ := h
    refine hcallV (o := some (.int r26)) hx hb hml hown hts hk [.int ((v5 - 1) - v6)] [.int r23] (kX2_stoneSortAt l g er26) gX3_mirror_X2_stoneSortAt rfl (n := 1) rfl (by decide +kernel) ⟨Nat.le_of_ble_eq_true rfl, Nat.le_of_ble_eq_true rfl⟩ (ci := 1) rfl eu25 hw hl.1 rfl (Nat.le_of_ble_eq_true rfl) dX3_mirror_82 ⟨Nat.le_of_ble_eq_true rfl, Nat.le_of_ble_eq_true rfl⟩ (fun H locs hw => ?_)
    refine W.eq (g2 := F0 m 85 ls [.int r26, .int r23]) rfl ?_
    refine lv_icmp_eq (tgt := 90) hx hb dX3_mirror_85 (by decide) (fun c27 => ?_) (fun c27 => ?_)
    · rw [if_pos c27] at h
      refine lv_iinc (v := (v6 + 1)) (lv' := [(6, .int (v6 + 1)), (3, .ref a21), (4, .ref a24), (5, .int v5)]) hx hb dX3_mirror_90 hl (k := 3) rfl rfl (by decide) rfl (fun ls hl => ?_)
      refine lv_goto (tgt := 60) hx hb dX3_mirror_93 (by decide) ?_
      exact hrec _ _ _ _ h _ _ _ hw (lv_sub hl [1, 2, 3, 0] rfl)
    · rw [if_neg c27] at h
      refine lv_iconst (v := 0) hx hb dX3_mirror_88 (by decide) ?_
      cases h
      exact hret_z hx hb hr hlocks hw (Or.inl rfl) dX3_mirror_89
def fX3_mirror_j60 (n : Nat) : hPl → Option Nat → Option Nat → Int32 → Int32 → Option Int32 := match n with
  | 0 => fun _ _ _ _ _ => none
  | n + 1 => fX3_mirror_j60s (fX3_mirror_j60 n)
theorem kX3_mirror_j60 {g : hGb} {p : Program} {l : Launch} {e : Env} {s : State} {m : MethodId} {args : Array Value} {below : List Frame} {meth : Method} {c : Code} {A : Nat → Prop} (C : hX g p s m args meth c RX3 cX3_mirror 7 wsX3_mirror (some .boolean)) {f : hPl} {z : Nat} {r : Int32} (n : Nat) : ∀ (v3 : Option Nat) (v4 : Option Nat) (v5 : Int32) (v6 : Int32), fX3_mirror_j60 n f v3 v4 v5 v6 = some r → ∀ (H : Heap) (locs : List Loc) (ls : Array Slot), hW g A s f z H locs → lv_has ls 7 [(3, va_rf v3), (4, va_rf v4), (5, .int v5), (6, .int v6)] → W p l e (hRm 2 0 0) s m args below meth c H locs 0 0 (hZ g A below args s 0 0 (some (.int r)) f z) (F0 m 60 ls []) := by
  induction n with
  | zero =>
    intro v3 v4 v5 v6 h
    cases h
  | succ n ih => exact kX3_mirror_j60s C (fX3_mirror_j60 n) ih
def fX3_mirror (f : hPl) (a : Nat) (p1 : Int32) (p2 : Int32) : Option Int32 := (hob f a 2).bind fun u1 => (fX3_trayOn f a p1).bind fun r2 => (hob f a 2).bind fun u3 => (fX3_trayOn f a p2).bind fun r4 => (if r2 = none then some 0 else (if r4 = none then some 0 else r2.bind fun a7 => (hob f a7 1).bind fun u8 => (fX2_isOfStones f a7 ).bind fun r9 => (if r9 = 0 then some 0 else r4.bind fun a11 => (hob f a11 1).bind fun u12 => (fX2_isOfStones f a11 ).bind fun r13 => (if r13 = 0 then some 0 else (hob f a7 1).bind fun u15 => (fX2_size f a7 ).bind fun r16 => (hob f a11 1).bind fun u17 => (fX2_size f a11 ).bind fun r18 => (if r18 = r16 then fX3_mirror_j60 64 f (some a7) (some a11) r16 0 else some 0)))))
set_option maxHeartbeats 4000000 in
set_option maxRecDepth 100000 in
theorem kX3_mirror (l : Launch) (g : hGb) {f : hPl} {z : Nat} {a : Nat} {p1 : Int32} {p2 : Int32} {r : Int32} (h : fX3_mirror f a p1 p2 = some r) : hCt l g yX3_mirror wsX3_mirror 2 0 0 [.ref a, .int p1, .int p2] f z (some (.int r)) f z := by
  refine hCt.of (cc := cX3_mirror) (maxL := 7) (ret := (some .boolean)) (by decide +kernel) rfl (by exact Nat.le_of_ble_eq_true rfl) ?_
  intro p e s m below meth c C hname hw ls hl
  obtain ⟨hx, hb, hml, hown, hts, hr, hlocks, hk⟩ := id C
  have hl : lv_has ls 7 [(0, .ref a), (1, .int p1), (2, .int p2)] := hl
  have hown : s.vm.findClass RX3 = some m.cls := hown
  unfold fX3_mirror at h
  refine lv_aload_n hx hb dX3_mirror_0 rfl (lv_at hl 0 rfl) ?_
  refine lv_iload_n hx hb dX3_mirror_1 rfl (lv_at hl 1 rfl) ?_
  replace h := hbd h
  obtain ⟨u1, eu1, h⟩ := h
  replace h := hbd h
  obtain ⟨r2, er2, h⟩ := h
  refine hcallV (o := some (va_rf r2)) hx hb hml hown hts hk [.int p1] [] (kX3_trayOn l g er2) gX3_mirror_X3_trayOn rfl (n := 1) rfl (by decide +kernel) ⟨Nat.le_of_ble_eq_true rfl, Nat.le_of_ble_eq_true rfl⟩ (ci := 2) rfl eu1 hw hl.1 rfl (Nat.le_of_ble_eq_true rfl) dX3_mirror_2 ⟨Nat.le_of_ble_eq_true rfl, Nat.le_of_ble_eq_true rfl⟩ (fun H locs hw => ?_)
  refine W.eq (g2 := F0 m 5 ls [va_rf r2]) rfl ?_
  refine hv_astore_n (q := r2) (lv' := [(3, va_rf r2), (0, .ref a), (1, .int p1), (2, .int p2)]) hx hb dX3_mirror_5 rfl hl (by decide) rfl (fun ls hl => ?_)
  refine lv_aload_n hx hb dX3_mirror_6 rfl (lv_at hl 1 rfl) ?_
  refine lv_iload_n hx hb dX3_mirror_7 rfl (lv_at hl 3 rfl) ?_
  replace h := hbd h
  obtain ⟨u3, eu3, h⟩ := h
  replace h := hbd h
  obtain ⟨r4, er4, h⟩ := h
  refine hcallV (o := some (va_rf r4)) hx hb hml hown hts hk [.int p2] [] (kX3_trayOn l g er4) gX3_mirror_X3_trayOn rfl (n := 1) rfl (by decide +kernel) ⟨Nat.le_of_ble_eq_true rfl, Nat.le_of_ble_eq_true rfl⟩ (ci := 2) rfl eu3 hw hl.1 rfl (Nat.le_of_ble_eq_true rfl) dX3_mirror_8 ⟨Nat.le_of_ble_eq_true rfl, Nat.le_of_ble_eq_true rfl⟩ (fun H locs hw => ?_)
  refine W.eq (g2 := F0 m 11 ls [va_rf r4]) rfl ?_
  refine hv_astore (q := r4) (lv' := [(4, va_rf r4), (3, va_rf r2), (0, .ref a), (1, .int p1), (2, .int p2)]) hx hb dX3_mirror_11 hl (by decide) (by cases r2 <;> rfl) (fun ls hl => ?_)
  refine hv_aload_n hx hb dX3_mirror_13 rfl (lv_at hl 1 rfl) ?_
  refine hv_ifnull (q := r2) (tgt := 37) hx hb dX3_mirror_14 (by decide) (fun c5 => ?_) (fun c5 => ?_)
  · rw [if_pos c5] at h
    refine lv_iconst (v := 0) hx hb dX3_mirror_37 (by decide) ?_
    cases h
    exact hret_z hx hb hr hlocks hw (Or.inl rfl) dX3_mirror_38
  · rw [if_neg c5] at h
    refine hv_aload hx hb dX3_mirror_17 (lv_at hl 0 rfl) ?_
    refine hv_ifnull (q := r4) (tgt := 37) hx hb dX3_mirror_19 (by decide) (fun c6 => ?_) (fun c6 => ?_)
    · rw [if_pos c6] at h
      refine lv_iconst (v := 0) hx hb dX3_mirror_37 (by decide) ?_
      cases h
      exact hret_z hx hb hr hlocks hw (Or.inl rfl) dX3_mirror_38
    · rw [if_neg c6] at h
      refine hv_aload_n hx hb dX3_mirror_22 rfl (lv_at hl 1 rfl) ?_
      replace h := hbd h
      obtain ⟨a7, rfl, h⟩ := h
      replace h := hbd h
      obtain ⟨u8, eu8, h⟩ := h
      replace h := hbd h
      obtain ⟨r9, er9, h⟩ := h
      refine hcallV (o := some (.int r9)) hx hb hml hown hts hk [] [] (kX2_isOfStones l g er9) gX3_mirror_X2_isOfStones rfl (n := 0) rfl (by decide +kernel) ⟨Nat.le_of_ble_eq_true rfl, Nat.le_of_ble_eq_true rfl⟩ (ci := 1) rfl eu8 hw hl.1 rfl (Nat.le_of_ble_eq_true rfl) dX3_mirror_23 ⟨Nat.le_of_ble_eq_true rfl, Nat.le_of_ble_eq_true rfl⟩ (fun H locs hw => ?_)
      refine W.eq (g2 := F0 m 26 ls [.int r9]) rfl ?_
      refine lv_if_eq (tgt := 37) hx hb dX3_mirror_26 (by decide) (fun c10 => ?_) (fun c10 => ?_)
      · rw [if_pos c10] at h
        refine lv_iconst (v := 0) hx hb dX3_mirror_37 (by decide) ?_
        cases h
        exact hret_z hx hb hr hlocks hw (Or.inl rfl) dX3_mirror_38
      · rw [if_neg c10] at h
        refine hv_aload hx hb dX3_mirror_29 (lv_at hl 0 rfl) ?_
        replace h := hbd h
        obtain ⟨a11, rfl, h⟩ := h
        replace h := hbd h
        obtain ⟨u12, eu12, h⟩ := h
        replace h := hbd h
        obtain ⟨r13, er13, h⟩ := h
        refine hcallV (o := some (.int r13)) hx hb hml hown hts hk [] [] (kX2_isOfStones l g er13) gX3_mirror_X2_isOfStones rfl (n := 0) rfl (by decide +kernel) ⟨Nat.le_of_ble_eq_true rfl, Nat.le_of_ble_eq_true rfl⟩ (ci := 1) rfl eu12 hw hl.1 rfl (Nat.le_of_ble_eq_true rfl) dX3_mirror_31 ⟨Nat.le_of_ble_eq_true rfl, Nat.le_of_ble_eq_true rfl⟩ (fun H locs hw => ?_)
        refine W.eq (g2 := F0 m 34 ls [.int r13]) rfl ?_
        refine lv_if_ne (tgt := 39) hx hb dX3_mirror_34 (by decide) (fun c14 => ?_) (fun c14 => ?_)
        · rw [if_neg c14] at h
          refine lv_aload_n hx hb dX3_mirror_39 rfl (lv_at hl 1 rfl) ?_
          replace h := hbd h
          obtain ⟨u15, eu15, h⟩ := h
          replace h := hbd h
          obtain ⟨r16, er16, h⟩ := h
          refine hcallV (o := some (.int r16)) hx hb hml hown hts hk [] [] (kX2_size l g er16) gX3_mirror_X2_size rfl (n := 0) rfl (by decide +kernel) ⟨Nat.le_of_ble_eq_true rfl, Nat.le_of_ble_eq_true rfl⟩ (ci := 1) rfl eu15 hw hl.1 rfl (Nat.le_of_ble_eq_true rfl) dX3_mirror_40 ⟨Nat.le_of_ble_eq_true rfl, Nat.le_of_ble_eq_true rfl⟩ (fun H locs hw => ?_)
          refine W.eq (g2 := F0 m 43 ls [.int r16]) rfl ?_
          refine lv_istore (lv' := [(5, .int r16), (4, .ref a11), (3, .ref a7), (0, .ref a), (1, .int p1), (2, .int p2)]) hx hb dX3_mirror_43 hl (by decide) rfl (fun ls hl => ?_)
          refine lv_aload hx hb dX3_mirror_45 (lv_at hl 1 rfl) ?_
          replace h := hbd h
          obtain ⟨u17, eu17, h⟩ := h
          replace h := hbd h
          obtain ⟨r18, er18, h⟩ := h
          refine hcallV (o := some (.int r18)) hx hb hml hown hts hk [] [] (kX2_size l g er18) gX3_mirror_X2_size rfl (n := 0) rfl (by decide +kernel) ⟨Nat.le_of_ble_eq_true rfl, Nat.le_of_ble_eq_true rfl⟩ (ci := 1) rfl eu17 hw hl.1 rfl (Nat.le_of_ble_eq_true rfl) dX3_mirror_47 ⟨Nat.le_of_ble_eq_true rfl, Nat.le_of_ble_eq_true rfl⟩ (fun H locs hw => ?_)
          refine W.eq (g2 := F0 m 50 ls [.int r18]) rfl ?_
          refine lv_iload hx hb dX3_mirror_50 (lv_at hl 0 rfl) ?_
          refine lv_icmp_eq (tgt := 57) hx hb dX3_mirror_52 (by decide) (fun c19 => ?_) (fun c19 => ?_)
          · rw [if_pos c19] at h
            refine lv_iconst (v := 0) hx hb dX3_mirror_57 (by decide) ?_
            refine lv_istore (lv' := [(6, .int 0), (5, .int r16), (4, .ref a11), (3, .ref a7), (0, .ref a), (1, .int p1), (2, .int p2)]) hx hb dX3_mirror_58 hl (by decide) rfl (fun ls hl => ?_)
            exact kX3_mirror_j60 C 64 _ _ _ _ h _ _ _ hw (lv_sub hl [3, 2, 1, 0] rfl)
          · rw [if_neg c19] at h
            refine lv_iconst (v := 0) hx hb dX3_mirror_55 (by decide) ?_
            cases h
            exact hret_z hx hb hr hlocks hw (Or.inl rfl) dX3_mirror_56
        · rw [if_pos c14] at h
          refine lv_iconst (v := 0) hx hb dX3_mirror_37 (by decide) ?_
          cases h
          exact hret_z hx hb hr hlocks hw (Or.inl rfl) dX3_mirror_38
theorem iX3_count_X3 : ∀ w ∈ wsX30, w ∈ wsX3_count := by decide +kernel
def fX3_count (f : hPl) (a : Nat) (p1 : Int32) : Option Int32 := (if p1.toInt < 0 ∨ 6 < p1.toInt then some (-1) else if p1 = 0 then (hgI f a 2 4).bind fun x3 => some x3 else if p1 = 1 then (hgI f a 2 5).bind fun x5 => some x5 else if p1 = 2 then (hgI f a 2 6).bind fun x7 => some x7 else if p1 = 3 then (hgI f a 2 7).bind fun x9 => some x9 else if p1 = 4 then (hgI f a 2 8).bind fun x11 => some x11 else if p1 = 5 then (hgI f a 2 9).bind fun x13 => some x13 else if p1 = 6 then (hgI f a 2 10).bind fun x15 => some x15 else none)
set_option maxHeartbeats 4000000 in
set_option maxRecDepth 100000 in
theorem kX3_count (l : Launch) (g : hGb) {f : hPl} {z : Nat} {a : Nat} {p1 : Int32} {r : Int32} (h : fX3_count f a p1 = some r) : hCt l g yX3_count wsX3_count 0 0 0 [.ref a, .int p1] f z (some (.int r)) f z := by
  refine hCt.of (cc := cX3_count) (maxL := 2) (ret := (some .int)) (by decide +kernel) rfl (by exact Nat.le_of_ble_eq_true rfl) ?_
  intro p e s m below meth c C hname hw ls hl
  obtain ⟨hx, hb, hml, hown, hts, hr, hlocks, hk⟩ := id C
  have hl : lv_has ls 2 [(0, .ref a), (1, .int p1)] := hl
  have hown : s.vm.findClass RX3 = some m.cls := hown
  unfold fX3_count at h
  refine lv_iload_n hx hb dX3_count_0 rfl (lv_at hl 1 rfl) ?_
  by_cases c1 : p1.toInt < 0 ∨ 6 < p1.toInt
  · rw [if_pos c1] at h
    refine lv_tableOut (tgt := 79) hx hb dX3_count_1 c1 (by decide) ?_
    refine lv_iconst (v := (-1)) hx hb dX3_count_79 (by decide) ?_
    cases h
    exact hret_i hx hb hr hlocks hw dX3_count_80
  rw [if_neg c1] at h
  by_cases c2 : p1 = 0
  · rw [if_pos c2] at h
    refine hv_arm (off := 43) (tgt := 44) hx hb c2 dX3_count_1 (by decide) (by decide) (by decide) (by decide) ?_
    refine lv_aload_n hx hb dX3_count_44 rfl (lv_at hl 0 rfl) ?_
    replace h := hbd h
    obtain ⟨x3, ex3, h⟩ := h
    refine hr_getI (C := RX3) (T := TX3) (N := 11) hx hb hts iX3_count_X3 hown hk hw rfl 4 (by decide) (hts (.fieldLink RX3 104 "SetterBench" "stonesMade" "I") (by decide +kernel)) (fun _ h9 => h9) ex3 dX3_count_45 ?_
    cases h
    exact hret_i hx hb hr hlocks hw dX3_count_48
  rw [if_neg c2] at h
  by_cases c4 : p1 = 1
  · rw [if_pos c4] at h
    refine hv_arm (off := 48) (tgt := 49) hx hb c4 dX3_count_1 (by decide) (by decide) (by decide) (by decide) ?_
    refine lv_aload_n hx hb dX3_count_49 rfl (lv_at hl 0 rfl) ?_
    replace h := hbd h
    obtain ⟨x5, ex5, h⟩ := h
    refine hr_getI (C := RX3) (T := TX3) (N := 11) hx hb hts iX3_count_X3 hown hk hw rfl 5 (by decide) (hts (.fieldLink RX3 107 "SetterBench" "doneSweeps" "I") (by decide +kernel)) (fun _ h9 => h9) ex5 dX3_count_50 ?_
    cases h
    exact hret_i hx hb hr hlocks hw dX3_count_53
  rw [if_neg c4] at h
  by_cases c6 : p1 = 2
  · rw [if_pos c6] at h
    refine hv_arm (off := 53) (tgt := 54) hx hb c6 dX3_count_1 (by decide) (by decide) (by decide) (by decide) ?_
    refine lv_aload_n hx hb dX3_count_54 rfl (lv_at hl 0 rfl) ?_
    replace h := hbd h
    obtain ⟨x7, ex7, h⟩ := h
    refine hr_getI (C := RX3) (T := TX3) (N := 11) hx hb hts iX3_count_X3 hown hk hw rfl 6 (by decide) (hts (.fieldLink RX3 110 "SetterBench" "emptySweeps" "I") (by decide +kernel)) (fun _ h9 => h9) ex7 dX3_count_55 ?_
    cases h
    exact hret_i hx hb hr hlocks hw dX3_count_58
  rw [if_neg c6] at h
  by_cases c8 : p1 = 3
  · rw [if_pos c8] at h
    refine hv_arm (off := 58) (tgt := 59) hx hb c8 dX3_count_1 (by decide) (by decide) (by decide) (by decide) ?_
    refine lv_aload_n hx hb dX3_count_59 rfl (lv_at hl 0 rfl) ?_
    replace h := hbd h
    obtain ⟨x9, ex9, h⟩ := h
    refine hr_getI (C := RX3) (T := TX3) (N := 11) hx hb hts iX3_count_X3 hown hk hw rfl 7 (by decide) (hts (.fieldLink RX3 113 "SetterBench" "unlikeSweeps" "I") (by decide +kernel)) (fun _ h9 => h9) ex9 dX3_count_60 ?_
    cases h
    exact hret_i hx hb hr hlocks hw dX3_count_63
  rw [if_neg c8] at h
  by_cases c10 : p1 = 4
  · rw [if_pos c10] at h
    refine hv_arm (off := 63) (tgt := 64) hx hb c10 dX3_count_1 (by decide) (by decide) (by decide) (by decide) ?_
    refine lv_aload_n hx hb dX3_count_64 rfl (lv_at hl 0 rfl) ?_
    replace h := hbd h
    obtain ⟨x11, ex11, h⟩ := h
    refine hr_getI (C := RX3) (T := TX3) (N := 11) hx hb hts iX3_count_X3 hown hk hw rfl 8 (by decide) (hts (.fieldLink RX3 116 "SetterBench" "beyondSweeps" "I") (by decide +kernel)) (fun _ h9 => h9) ex11 dX3_count_65 ?_
    cases h
    exact hret_i hx hb hr hlocks hw dX3_count_68
  rw [if_neg c10] at h
  by_cases c12 : p1 = 5
  · rw [if_pos c12] at h
    refine hv_arm (off := 68) (tgt := 69) hx hb c12 dX3_count_1 (by decide) (by decide) (by decide) (by decide) ?_
    refine lv_aload_n hx hb dX3_count_69 rfl (lv_at hl 0 rfl) ?_
    replace h := hbd h
    obtain ⟨x13, ex13, h⟩ := h
    refine hr_getI (C := RX3) (T := TX3) (N := 11) hx hb hts iX3_count_X3 hown hk hw rfl 9 (by decide) (hts (.fieldLink RX3 119 "SetterBench" "stoppedSweeps" "I") (by decide +kernel)) (fun _ h9 => h9) ex13 dX3_count_70 ?_
    cases h
    exact hret_i hx hb hr hlocks hw dX3_count_73
  rw [if_neg c12] at h
  by_cases c14 : p1 = 6
  · rw [if_pos c14] at h
    refine hv_arm (off := 73) (tgt := 74) hx hb c14 dX3_count_1 (by decide) (by decide) (by decide) (by decide) ?_
    refine lv_aload_n hx hb dX3_count_74 rfl (lv_at hl 0 rfl) ?_
    replace h := hbd h
    obtain ⟨x15, ex15, h⟩ := h
    refine hr_getI (C := RX3) (T := TX3) (N := 11) hx hb hts iX3_count_X3 hown hk hw rfl 10 (by decide) (hts (.fieldLink RX3 122 "SetterBench" "carriedMembers" "I") (by decide +kernel)) (fun _ h9 => h9) ex15 dX3_count_75 ?_
    cases h
    exact hret_i hx hb hr hlocks hw dX3_count_78
  rw [if_neg c14] at h
  cases h
end
section
theorem iX4_init_X4 : ∀ w ∈ wsX40, w ∈ wsX4_init := by decide +kernel
def fX4_init (f : hPl) (z : Nat) (a : Nat) : Option (Unit × hPl × Nat) := (if ¬ (8 : Int32) < 0 ∧ (8 : Int32).toNatClampNeg ≤ 8 then some () else none).bind fun _ => (some (hup f z (aI (8 : Int32).toNatClampNeg (fun _ => 0)))).bind fun f2 => (hsI f2 z 0 (-1)).bind fun f3 => (hsI f3 z 1 (-1)).bind fun f4 => (hsI f4 z 2 (-1)).bind fun f5 => (hsI f5 z 3 (-1)).bind fun f6 => (hsI f6 z 4 (-1)).bind fun f7 => (hsI f7 z 5 (-1)).bind fun f8 => (hsI f8 z 6 (-1)).bind fun f9 => (hsI f9 z 7 (-1)).bind fun f10 => (hput f10 a 3 0 (.ref z)).bind fun f11 => (if ¬ (10 : Int32) < 0 ∧ (10 : Int32).toNatClampNeg ≤ 10 then some () else none).bind fun _ => (some (hup f11 (z + 1) (aI (10 : Int32).toNatClampNeg (fun _ => 0)))).bind fun f13 => (hput f13 a 3 1 (.ref (z + 1))).bind fun f14 => (if ¬ (10 : Int32) < 0 ∧ (10 : Int32).toNatClampNeg ≤ 10 then some () else none).bind fun _ => (some (hup f14 ((z + 1) + 1) (aI (10 : Int32).toNatClampNeg (fun _ => 0)))).bind fun f16 => (hput f16 a 3 2 (.ref ((z + 1) + 1))).bind fun f17 => (if ¬ (10 : Int32) < 0 ∧ (10 : Int32).toNatClampNeg ≤ 10 then some () else none).bind fun _ => (some (hup f17 (((z + 1) + 1) + 1) (aI (10 : Int32).toNatClampNeg (fun _ => 0)))).bind fun f19 => (hput f19 a 3 3 (.ref (((z + 1) + 1) + 1))).bind fun f20 => (if ¬ (400 : Int32) < 0 ∧ (400 : Int32).toNatClampNeg ≤ 400 then some () else none).bind fun _ => (some (hup f20 ((((z + 1) + 1) + 1) + 1) (aJ (400 : Int32).toNatClampNeg (fun _ => 0)))).bind fun f22 => (hput f22 a 3 4 (.ref ((((z + 1) + 1) + 1) + 1))).bind fun f23 => (if ¬ (40 : Int32) < 0 ∧ (40 : Int32).toNatClampNeg ≤ 40 then some () else none).bind fun _ => (some (hup f23 (((((z + 1) + 1) + 1) + 1) + 1) (aJ (40 : Int32).toNatClampNeg (fun _ => 0)))).bind fun f25 => (hput f25 a 3 5 (.ref (((((z + 1) + 1) + 1) + 1) + 1))).bind fun f26 => (if ¬ (40 : Int32) < 0 ∧ (40 : Int32).toNatClampNeg ≤ 40 then some () else none).bind fun _ => (some (hup f26 ((((((z + 1) + 1) + 1) + 1) + 1) + 1) (aJ (40 : Int32).toNatClampNeg (fun _ => 0)))).bind fun f28 => (hput f28 a 3 6 (.ref ((((((z + 1) + 1) + 1) + 1) + 1) + 1))).bind fun f29 => (hput f29 a 3 7 (.int (-1))).bind fun f30 => (if ¬ (7 : Int32) < 0 ∧ (7 : Int32).toNatClampNeg ≤ 7 then some () else none).bind fun _ => (some (hup f30 (((((((z + 1) + 1) + 1) + 1) + 1) + 1) + 1) (aI (7 : Int32).toNatClampNeg (fun _ => 0)))).bind fun f32 => (hput f32 a 3 8 (.ref (((((((z + 1) + 1) + 1) + 1) + 1) + 1) + 1))).bind fun f33 => some ((), f33, ((((((((z + 1) + 1) + 1) + 1) + 1) + 1) + 1) + 1))
set_option maxHeartbeats 4000000 in
set_option maxRecDepth 100000 in
theorem kX4_init (l : Launch) (g : hGb) {f : hPl} {z : Nat} {a : Nat} {r : Unit} {f' : hPl} {z' : Nat} (h : fX4_init f z a = some (r, f', z')) : hCt l g yX4_init wsX4_init 1 8 525 [.ref a] f z none f' z' := by
  refine hCt.of (cc := cX4_init) (maxL := 1) (ret := none) (by decide +kernel) rfl (by exact Nat.le_of_ble_eq_true rfl) ?_
  intro p e s m below meth c C hname hw ls hl
  obtain ⟨hx, hb, hml, hown, hts, hr, hlocks, hk⟩ := id C
  have hl : lv_has ls 1 [(0, .ref a)] := hl
  have hown : s.vm.findClass RX4 = some m.cls := hown
  unfold fX4_init at h
  refine lv_aload_n hx hb dX4_init_0 rfl (lv_at hl 0 rfl) ?_
  refine W.objInit hx hb hown (hts (.methodLink RX4 1 objectInit) (by decide +kernel)) (hts (.instanceMethod objectInit) (by decide +kernel)) (hts (.code objectInit ⟨#[0xb1]⟩ 1 none) (by decide +kernel)) rfl (hl.1.trans hml.symm) rfl dX4_init_1 (Nat.le_of_ble_eq_true rfl) (Nat.le_of_ble_eq_true rfl) ?_
  refine lv_aload_n hx hb dX4_init_4 rfl (lv_at hl 0 rfl) ?_
  refine lv_bipush (v := 8) hx hb dX4_init_5 (by decide) ?_
  replace h := hbd h
  obtain ⟨_, c1, h⟩ := h
  have c1 := (hif c1).1
  replace h := hbd h
  obtain ⟨f2, ef2, h⟩ := h
  have ef2 := Option.some.inj ef2
  refine hr_newI (n := (8 : Int32)) (M := 8) hx hb hk (hts (.arrayClass .int) (by decide +kernel)) hw c1 (by decide) (Nat.le_of_ble_eq_true rfl) (Nat.le_of_ble_eq_true rfl) dX4_init_7 (fun H hw => ?_)
  rw [ef2] at hw
  refine lv_dup hx hb dX4_init_9 rfl ?_
  refine lv_iconst (v := 0) hx hb dX4_init_10 (by decide) ?_
  refine lv_iconst (v := (-1)) hx hb dX4_init_11 (by decide) ?_
  replace h := hbd h
  obtain ⟨f3, ef3, h⟩ := h
  refine hr_sI hx hb hk hw ef3 dX4_init_12 (fun H locs hw => ?_)
  refine lv_dup hx hb dX4_init_13 rfl ?_
  refine lv_iconst (v := 1) hx hb dX4_init_14 (by decide) ?_
  refine lv_iconst (v := (-1)) hx hb dX4_init_15 (by decide) ?_
  replace h := hbd h
  obtain ⟨f4, ef4, h⟩ := h
  refine hr_sI hx hb hk hw ef4 dX4_init_16 (fun H locs hw => ?_)
  refine lv_dup hx hb dX4_init_17 rfl ?_
  refine lv_iconst (v := 2) hx hb dX4_init_18 (by decide) ?_
  refine lv_iconst (v := (-1)) hx hb dX4_init_19 (by decide) ?_
  replace h := hbd h
  obtain ⟨f5, ef5, h⟩ := h
  refine hr_sI hx hb hk hw ef5 dX4_init_20 (fun H locs hw => ?_)
  refine lv_dup hx hb dX4_init_21 rfl ?_
  refine lv_iconst (v := 3) hx hb dX4_init_22 (by decide) ?_
  refine lv_iconst (v := (-1)) hx hb dX4_init_23 (by decide) ?_
  replace h := hbd h
  obtain ⟨f6, ef6, h⟩ := h
  refine hr_sI hx hb hk hw ef6 dX4_init_24 (fun H locs hw => ?_)
  refine lv_dup hx hb dX4_init_25 rfl ?_
  refine lv_iconst (v := 4) hx hb dX4_init_26 (by decide) ?_
  refine lv_iconst (v := (-1)) hx hb dX4_init_27 (by decide) ?_
  replace h := hbd h
  obtain ⟨f7, ef7, h⟩ := h
  refine hr_sI hx hb hk hw ef7 dX4_init_28 (fun H locs hw => ?_)
  refine lv_dup hx hb dX4_init_29 rfl ?_
  refine lv_iconst (v := 5) hx hb dX4_init_30 (by decide) ?_
  refine lv_iconst (v := (-1)) hx hb dX4_init_31 (by decide) ?_
  replace h := hbd h
  obtain ⟨f8, ef8, h⟩ := h
  refine hr_sI hx hb hk hw ef8 dX4_init_32 (fun H locs hw => ?_)
  refine lv_dup hx hb dX4_init_33 rfl ?_
  refine lv_bipush (v := 6) hx hb dX4_init_34 (by decide) ?_
  refine lv_iconst (v := (-1)) hx hb dX4_init_36 (by decide) ?_
  replace h := hbd h
  obtain ⟨f9, ef9, h⟩ := h
  refine hr_sI hx hb hk hw ef9 dX4_init_37 (fun H locs hw => ?_)
  refine lv_dup hx hb dX4_init_38 rfl ?_
  refine lv_bipush (v := 7) hx hb dX4_init_39 (by decide) ?_
  refine lv_iconst (v := (-1)) hx hb dX4_init_41 (by decide) ?_
  replace h := hbd h
  obtain ⟨f10, ef10, h⟩ := h
  refine hr_sI hx hb hk hw ef10 dX4_init_42 (fun H locs hw => ?_)
  replace h := hbd h
  obtain ⟨f11, ef11, h⟩ := h
  refine hr_putF (C := RX4) (T := TX4) (N := 9) (ty := .array .int) hx hb hts iX4_init_X4 tyX4 tyX4_ok nmX4 hown hk hw rfl 0 (by decide) (hts (.fieldLink RX4 9 "SetterBenchModel" "lies" "[I") (by decide +kernel)) (fun _ h9 => h9) rfl hname rfl (by decide +kernel) rfl rfl ef11 dX4_init_43 (fun H locs hw => ?_)
  refine lv_aload_n hx hb dX4_init_46 rfl (lv_at hl 0 rfl) ?_
  refine lv_bipush (v := 10) hx hb dX4_init_47 (by decide) ?_
  replace h := hbd h
  obtain ⟨_, c12, h⟩ := h
  have c12 := (hif c12).1
  replace h := hbd h
  obtain ⟨f13, ef13, h⟩ := h
  have ef13 := Option.some.inj ef13
  refine hr_newI (n := (10 : Int32)) (M := 10) hx hb hk (hts (.arrayClass .int) (by decide +kernel)) hw c12 (by decide) (Nat.le_of_ble_eq_true rfl) (Nat.le_of_ble_eq_true rfl) dX4_init_49 (fun H hw => ?_)
  rw [ef13] at hw
  replace h := hbd h
  obtain ⟨f14, ef14, h⟩ := h
  refine hr_putF (C := RX4) (T := TX4) (N := 9) (ty := .array .int) hx hb hts iX4_init_X4 tyX4 tyX4_ok nmX4 hown hk hw rfl 1 (by decide) (hts (.fieldLink RX4 13 "SetterBenchModel" "sort" "[I") (by decide +kernel)) (fun _ h9 => h9) rfl hname rfl (by decide +kernel) rfl rfl ef14 dX4_init_51 (fun H locs hw => ?_)
  refine lv_aload_n hx hb dX4_init_54 rfl (lv_at hl 0 rfl) ?_
  refine lv_bipush (v := 10) hx hb dX4_init_55 (by decide) ?_
  replace h := hbd h
  obtain ⟨_, c15, h⟩ := h
  have c15 := (hif c15).1
  replace h := hbd h
  obtain ⟨f16, ef16, h⟩ := h
  have ef16 := Option.some.inj ef16
  refine hr_newI (n := (10 : Int32)) (M := 10) hx hb hk (hts (.arrayClass .int) (by decide +kernel)) hw c15 (by decide) (Nat.le_of_ble_eq_true rfl) (Nat.le_of_ble_eq_true rfl) dX4_init_57 (fun H hw => ?_)
  rw [ef16] at hw
  replace h := hbd h
  obtain ⟨f17, ef17, h⟩ := h
  refine hr_putF (C := RX4) (T := TX4) (N := 9) (ty := .array .int) hx hb hts iX4_init_X4 tyX4 tyX4_ok nmX4 hown hk hw rfl 2 (by decide) (hts (.fieldLink RX4 16 "SetterBenchModel" "many" "[I") (by decide +kernel)) (fun _ h9 => h9) rfl hname rfl (by decide +kernel) rfl rfl ef17 dX4_init_59 (fun H locs hw => ?_)
  refine lv_aload_n hx hb dX4_init_62 rfl (lv_at hl 0 rfl) ?_
  refine lv_bipush (v := 10) hx hb dX4_init_63 (by decide) ?_
  replace h := hbd h
  obtain ⟨_, c18, h⟩ := h
  have c18 := (hif c18).1
  replace h := hbd h
  obtain ⟨f19, ef19, h⟩ := h
  have ef19 := Option.some.inj ef19
  refine hr_newI (n := (10 : Int32)) (M := 10) hx hb hk (hts (.arrayClass .int) (by decide +kernel)) hw c18 (by decide) (Nat.le_of_ble_eq_true rfl) (Nat.le_of_ble_eq_true rfl) dX4_init_65 (fun H hw => ?_)
  rw [ef19] at hw
  replace h := hbd h
  obtain ⟨f20, ef20, h⟩ := h
  refine hr_putF (C := RX4) (T := TX4) (N := 9) (ty := .array .int) hx hb hts iX4_init_X4 tyX4 tyX4_ok nmX4 hown hk hw rfl 3 (by decide) (hts (.fieldLink RX4 19 "SetterBenchModel" "lit" "[I") (by decide +kernel)) (fun _ h9 => h9) rfl hname rfl (by decide +kernel) rfl rfl ef20 dX4_init_67 (fun H locs hw => ?_)
  refine lv_aload_n hx hb dX4_init_70 rfl (lv_at hl 0 rfl) ?_
  refine lv_sipush (v := 400) hx hb dX4_init_71 (by decide) ?_
  replace h := hbd h
  obtain ⟨_, c21, h⟩ := h
  have c21 := (hif c21).1
  replace h := hbd h
  obtain ⟨f22, ef22, h⟩ := h
  have ef22 := Option.some.inj ef22
  refine hr_newJ (n := (400 : Int32)) (M := 400) hx hb hk (hts (.arrayClass .long) (by decide +kernel)) hw c21 (by decide) (Nat.le_of_ble_eq_true rfl) (Nat.le_of_ble_eq_true rfl) dX4_init_74 (fun H hw => ?_)
  rw [ef22] at hw
  replace h := hbd h
  obtain ⟨f23, ef23, h⟩ := h
  refine hr_putF (C := RX4) (T := TX4) (N := 9) (ty := .array .long) hx hb hts iX4_init_X4 tyX4 tyX4_ok nmX4 hown hk hw rfl 4 (by decide) (hts (.fieldLink RX4 22 "SetterBenchModel" "members" "[J") (by decide +kernel)) (fun _ h9 => h9) rfl hname rfl (by decide +kernel) rfl rfl ef23 dX4_init_76 (fun H locs hw => ?_)
  refine lv_aload_n hx hb dX4_init_79 rfl (lv_at hl 0 rfl) ?_
  refine lv_bipush (v := 40) hx hb dX4_init_80 (by decide) ?_
  replace h := hbd h
  obtain ⟨_, c24, h⟩ := h
  have c24 := (hif c24).1
  replace h := hbd h
  obtain ⟨f25, ef25, h⟩ := h
  have ef25 := Option.some.inj ef25
  refine hr_newJ (n := (40 : Int32)) (M := 40) hx hb hk (hts (.arrayClass .long) (by decide +kernel)) hw c24 (by decide) (Nat.le_of_ble_eq_true rfl) (Nat.le_of_ble_eq_true rfl) dX4_init_82 (fun H hw => ?_)
  rw [ef25] at hw
  replace h := hbd h
  obtain ⟨f26, ef26, h⟩ := h
  refine hr_putF (C := RX4) (T := TX4) (N := 9) (ty := .array .long) hx hb hts iX4_init_X4 tyX4 tyX4_ok nmX4 hown hk hw rfl 5 (by decide) (hts (.fieldLink RX4 26 "SetterBenchModel" "carried" "[J") (by decide +kernel)) (fun _ h9 => h9) rfl hname rfl (by decide +kernel) rfl rfl ef26 dX4_init_84 (fun H locs hw => ?_)
  refine lv_aload_n hx hb dX4_init_87 rfl (lv_at hl 0 rfl) ?_
  refine lv_bipush (v := 40) hx hb dX4_init_88 (by decide) ?_
  replace h := hbd h
  obtain ⟨_, c27, h⟩ := h
  have c27 := (hif c27).1
  replace h := hbd h
  obtain ⟨f28, ef28, h⟩ := h
  have ef28 := Option.some.inj ef28
  refine hr_newJ (n := (40 : Int32)) (M := 40) hx hb hk (hts (.arrayClass .long) (by decide +kernel)) hw c27 (by decide) (Nat.le_of_ble_eq_true rfl) (Nat.le_of_ble_eq_true rfl) dX4_init_90 (fun H hw => ?_)
  rw [ef28] at hw
  replace h := hbd h
  obtain ⟨f29, ef29, h⟩ := h
  refine hr_putF (C := RX4) (T := TX4) (N := 9) (ty := .array .long) hx hb hts iX4_init_X4 tyX4 tyX4_ok nmX4 hown hk hw rfl 6 (by decide) (hts (.fieldLink RX4 29 "SetterBenchModel" "kept" "[J") (by decide +kernel)) (fun _ h9 => h9) rfl hname rfl (by decide +kernel) rfl rfl ef29 dX4_init_92 (fun H locs hw => ?_)
  refine lv_aload_n hx hb dX4_init_95 rfl (lv_at hl 0 rfl) ?_
  refine lv_iconst (v := (-1)) hx hb dX4_init_96 (by decide) ?_
  replace h := hbd h
  obtain ⟨f30, ef30, h⟩ := h
  refine hr_put (C := RX4) (T := TX4) (N := 9) (ty := .int) hx hb hts iX4_init_X4 tyX4 tyX4_ok nmX4 hown hk hw rfl 7 (by decide) (hts (.fieldLink RX4 32 "SetterBenchModel" "keeper" "I") (by decide +kernel)) (fun _ h9 => h9) rfl (by decide +kernel) rfl rfl ef30 dX4_init_97 (fun H locs hw => ?_)
  refine lv_aload_n hx hb dX4_init_100 rfl (lv_at hl 0 rfl) ?_
  refine lv_bipush (v := 7) hx hb dX4_init_101 (by decide) ?_
  replace h := hbd h
  obtain ⟨_, c31, h⟩ := h
  have c31 := (hif c31).1
  replace h := hbd h
  obtain ⟨f32, ef32, h⟩ := h
  have ef32 := Option.some.inj ef32
  refine hr_newI (n := (7 : Int32)) (M := 7) hx hb hk (hts (.arrayClass .int) (by decide +kernel)) hw c31 (by decide) (Nat.le_of_ble_eq_true rfl) (Nat.le_of_ble_eq_true rfl) dX4_init_103 (fun H hw => ?_)
  rw [ef32] at hw
  replace h := hbd h
  obtain ⟨f33, ef33, h⟩ := h
  refine hr_putF (C := RX4) (T := TX4) (N := 9) (ty := .array .int) hx hb hts iX4_init_X4 tyX4 tyX4_ok nmX4 hown hk hw rfl 8 (by decide) (hts (.fieldLink RX4 36 "SetterBenchModel" "counts" "[I") (by decide +kernel)) (fun _ h9 => h9) rfl hname rfl (by decide +kernel) rfl rfl ef33 dX4_init_105 (fun H locs hw => ?_)
  cases h
  exact hret_v hx hb hr hlocks hw dX4_init_108
def fX4_isPlace (f : hPl) (p1 : Int32) : Option Int32 := (if p1 < 0 then some 0 else (if 8 ≤ p1 then some 0 else some 1))
set_option maxHeartbeats 4000000 in
set_option maxRecDepth 100000 in
theorem kX4_isPlace (l : Launch) (g : hGb) {f : hPl} {z : Nat} {p1 : Int32} {r : Int32} (h : fX4_isPlace f p1 = some r) : hCt l g yX4_isPlace wsX4_isPlace 0 0 0 [.int p1] f z (some (.int r)) f z := by
  refine hCt.of (cc := cX4_isPlace) (maxL := 1) (ret := (some .boolean)) (by decide +kernel) rfl (by exact Nat.le_of_ble_eq_true rfl) ?_
  intro p e s m below meth c C hname hw ls hl
  obtain ⟨hx, hb, hml, hown, hts, hr, hlocks, hk⟩ := id C
  have hl : lv_has ls 1 [(0, .int p1)] := hl
  have hown : s.vm.findClass RX4 = some m.cls := hown
  unfold fX4_isPlace at h
  refine lv_iload_n hx hb dX4_isPlace_0 rfl (lv_at hl 0 rfl) ?_
  refine lv_if_lt (tgt := 14) hx hb dX4_isPlace_1 (by decide) (fun c1 => ?_) (fun c1 => ?_)
  · rw [if_pos c1] at h
    refine lv_iconst (v := 0) hx hb dX4_isPlace_14 (by decide) ?_
    cases h
    exact hret_z hx hb hr hlocks hw (Or.inl rfl) dX4_isPlace_15
  · rw [if_neg c1] at h
    refine lv_iload_n hx hb dX4_isPlace_4 rfl (lv_at hl 0 rfl) ?_
    refine lv_bipush (v := 8) hx hb dX4_isPlace_5 (by decide) ?_
    refine lv_icmp_ge (tgt := 14) hx hb dX4_isPlace_7 (by decide) (fun c2 => ?_) (fun c2 => ?_)
    · rw [if_pos c2] at h
      refine lv_iconst (v := 0) hx hb dX4_isPlace_14 (by decide) ?_
      cases h
      exact hret_z hx hb hr hlocks hw (Or.inl rfl) dX4_isPlace_15
    · rw [if_neg c2] at h
      refine lv_iconst (v := 1) hx hb dX4_isPlace_10 (by decide) ?_
      refine lv_goto (tgt := 15) hx hb dX4_isPlace_11 (by decide) ?_
      cases h
      exact hret_z hx hb hr hlocks hw (Or.inr rfl) dX4_isPlace_15
def fX4_isTray (f : hPl) (p1 : Int32) : Option Int32 := (if p1 < 2 then some 0 else (if 10 < p1 then some 0 else some 1))
set_option maxHeartbeats 4000000 in
set_option maxRecDepth 100000 in
theorem kX4_isTray (l : Launch) (g : hGb) {f : hPl} {z : Nat} {p1 : Int32} {r : Int32} (h : fX4_isTray f p1 = some r) : hCt l g yX4_isTray wsX4_isTray 0 0 0 [.int p1] f z (some (.int r)) f z := by
  refine hCt.of (cc := cX4_isTray) (maxL := 1) (ret := (some .boolean)) (by decide +kernel) rfl (by exact Nat.le_of_ble_eq_true rfl) ?_
  intro p e s m below meth c C hname hw ls hl
  obtain ⟨hx, hb, hml, hown, hts, hr, hlocks, hk⟩ := id C
  have hl : lv_has ls 1 [(0, .int p1)] := hl
  have hown : s.vm.findClass RX4 = some m.cls := hown
  unfold fX4_isTray at h
  refine lv_iload_n hx hb dX4_isTray_0 rfl (lv_at hl 0 rfl) ?_
  refine lv_iconst (v := 2) hx hb dX4_isTray_1 (by decide) ?_
  refine lv_icmp_lt (tgt := 15) hx hb dX4_isTray_2 (by decide) (fun c1 => ?_) (fun c1 => ?_)
  · rw [if_pos c1] at h
    refine lv_iconst (v := 0) hx hb dX4_isTray_15 (by decide) ?_
    cases h
    exact hret_z hx hb hr hlocks hw (Or.inl rfl) dX4_isTray_16
  · rw [if_neg c1] at h
    refine lv_iload_n hx hb dX4_isTray_5 rfl (lv_at hl 0 rfl) ?_
    refine lv_bipush (v := 10) hx hb dX4_isTray_6 (by decide) ?_
    refine lv_icmp_gt (tgt := 15) hx hb dX4_isTray_8 (by decide) (fun c2 => ?_) (fun c2 => ?_)
    · rw [if_pos c2] at h
      refine lv_iconst (v := 0) hx hb dX4_isTray_15 (by decide) ?_
      cases h
      exact hret_z hx hb hr hlocks hw (Or.inl rfl) dX4_isTray_16
    · rw [if_neg c2] at h
      refine lv_iconst (v := 1) hx hb dX4_isTray_11 (by decide) ?_
      refine lv_goto (tgt := 16) hx hb dX4_isTray_12 (by decide) ?_
      cases h
      exact hret_z hx hb hr hlocks hw (Or.inr rfl) dX4_isTray_16
def fX4_isOfNumbers (f : hPl) (p1 : Int32) : Option Int32 := (if p1 < 2 then some 0 else (if 5 < p1 then some 0 else some 1))
set_option maxHeartbeats 4000000 in
set_option maxRecDepth 100000 in
theorem kX4_isOfNumbers (l : Launch) (g : hGb) {f : hPl} {z : Nat} {p1 : Int32} {r : Int32} (h : fX4_isOfNumbers f p1 = some r) : hCt l g yX4_isOfNumbers wsX4_isOfNumbers 0 0 0 [.int p1] f z (some (.int r)) f z := by
  refine hCt.of (cc := cX4_isOfNumbers) (maxL := 1) (ret := (some .boolean)) (by decide +kernel) rfl (by exact Nat.le_of_ble_eq_true rfl) ?_
  intro p e s m below meth c C hname hw ls hl
  obtain ⟨hx, hb, hml, hown, hts, hr, hlocks, hk⟩ := id C
  have hl : lv_has ls 1 [(0, .int p1)] := hl
  have hown : s.vm.findClass RX4 = some m.cls := hown
  unfold fX4_isOfNumbers at h
  refine lv_iload_n hx hb dX4_isOfNumbers_0 rfl (lv_at hl 0 rfl) ?_
  refine lv_iconst (v := 2) hx hb dX4_isOfNumbers_1 (by decide) ?_
  refine lv_icmp_lt (tgt := 14) hx hb dX4_isOfNumbers_2 (by decide) (fun c1 => ?_) (fun c1 => ?_)
  · rw [if_pos c1] at h
    refine lv_iconst (v := 0) hx hb dX4_isOfNumbers_14 (by decide) ?_
    cases h
    exact hret_z hx hb hr hlocks hw (Or.inl rfl) dX4_isOfNumbers_15
  · rw [if_neg c1] at h
    refine lv_iload_n hx hb dX4_isOfNumbers_5 rfl (lv_at hl 0 rfl) ?_
    refine lv_iconst (v := 5) hx hb dX4_isOfNumbers_6 (by decide) ?_
    refine lv_icmp_gt (tgt := 14) hx hb dX4_isOfNumbers_7 (by decide) (fun c2 => ?_) (fun c2 => ?_)
    · rw [if_pos c2] at h
      refine lv_iconst (v := 0) hx hb dX4_isOfNumbers_14 (by decide) ?_
      cases h
      exact hret_z hx hb hr hlocks hw (Or.inl rfl) dX4_isOfNumbers_15
    · rw [if_neg c2] at h
      refine lv_iconst (v := 1) hx hb dX4_isOfNumbers_10 (by decide) ?_
      refine lv_goto (tgt := 15) hx hb dX4_isOfNumbers_11 (by decide) ?_
      cases h
      exact hret_z hx hb hr hlocks hw (Or.inr rfl) dX4_isOfNumbers_15
def fX4_isOfStones (f : hPl) (p1 : Int32) : Option Int32 := (if p1 < 6 then some 0 else (if 10 < p1 then some 0 else some 1))
set_option maxHeartbeats 4000000 in
set_option maxRecDepth 100000 in
theorem kX4_isOfStones (l : Launch) (g : hGb) {f : hPl} {z : Nat} {p1 : Int32} {r : Int32} (h : fX4_isOfStones f p1 = some r) : hCt l g yX4_isOfStones wsX4_isOfStones 0 0 0 [.int p1] f z (some (.int r)) f z := by
  refine hCt.of (cc := cX4_isOfStones) (maxL := 1) (ret := (some .boolean)) (by decide +kernel) rfl (by exact Nat.le_of_ble_eq_true rfl) ?_
  intro p e s m below meth c C hname hw ls hl
  obtain ⟨hx, hb, hml, hown, hts, hr, hlocks, hk⟩ := id C
  have hl : lv_has ls 1 [(0, .int p1)] := hl
  have hown : s.vm.findClass RX4 = some m.cls := hown
  unfold fX4_isOfStones at h
  refine lv_iload_n hx hb dX4_isOfStones_0 rfl (lv_at hl 0 rfl) ?_
  refine lv_bipush (v := 6) hx hb dX4_isOfStones_1 (by decide) ?_
  refine lv_icmp_lt (tgt := 16) hx hb dX4_isOfStones_3 (by decide) (fun c1 => ?_) (fun c1 => ?_)
  · rw [if_pos c1] at h
    refine lv_iconst (v := 0) hx hb dX4_isOfStones_16 (by decide) ?_
    cases h
    exact hret_z hx hb hr hlocks hw (Or.inl rfl) dX4_isOfStones_17
  · rw [if_neg c1] at h
    refine lv_iload_n hx hb dX4_isOfStones_6 rfl (lv_at hl 0 rfl) ?_
    refine lv_bipush (v := 10) hx hb dX4_isOfStones_7 (by decide) ?_
    refine lv_icmp_gt (tgt := 16) hx hb dX4_isOfStones_9 (by decide) (fun c2 => ?_) (fun c2 => ?_)
    · rw [if_pos c2] at h
      refine lv_iconst (v := 0) hx hb dX4_isOfStones_16 (by decide) ?_
      cases h
      exact hret_z hx hb hr hlocks hw (Or.inl rfl) dX4_isOfStones_17
    · rw [if_neg c2] at h
      refine lv_iconst (v := 1) hx hb dX4_isOfStones_12 (by decide) ?_
      refine lv_goto (tgt := 17) hx hb dX4_isOfStones_13 (by decide) ?_
      cases h
      exact hret_z hx hb hr hlocks hw (Or.inr rfl) dX4_isOfStones_17
theorem iX4_sortOn_X4 : ∀ w ∈ wsX40, w ∈ wsX4_sortOn := by decide +kernel
def fX4_sortOn (f : hPl) (a : Nat) (p1 : Int32) : Option Int32 := (hgQ f a 3 0).bind fun q1 => q1.bind fun a2 => (hlI f a2 p1).bind fun x3 => (if x3 = (-1) then some 0 else (hgQ f a 3 1).bind fun q5 => (hgQ f a 3 0).bind fun q6 => q6.bind fun a7 => (hlI f a7 p1).bind fun x8 => q5.bind fun a9 => (hlI f a9 x8).bind fun x10 => some x10)
set_option maxHeartbeats 4000000 in
set_option maxRecDepth 100000 in
theorem kX4_sortOn (l : Launch) (g : hGb) {f : hPl} {z : Nat} {a : Nat} {p1 : Int32} {r : Int32} (h : fX4_sortOn f a p1 = some r) : hCt l g yX4_sortOn wsX4_sortOn 0 0 0 [.ref a, .int p1] f z (some (.int r)) f z := by
  refine hCt.of (cc := cX4_sortOn) (maxL := 2) (ret := (some .int)) (by decide +kernel) rfl (by exact Nat.le_of_ble_eq_true rfl) ?_
  intro p e s m below meth c C hname hw ls hl
  obtain ⟨hx, hb, hml, hown, hts, hr, hlocks, hk⟩ := id C
  have hl : lv_has ls 2 [(0, .ref a), (1, .int p1)] := hl
  have hown : s.vm.findClass RX4 = some m.cls := hown
  unfold fX4_sortOn at h
  refine lv_aload_n hx hb dX4_sortOn_0 rfl (lv_at hl 0 rfl) ?_
  replace h := hbd h
  obtain ⟨q1, eq1, h⟩ := h
  refine hr_getQ (C := RX4) (T := TX4) (N := 9) hx hb hts iX4_sortOn_X4 hown hk hw rfl 0 (by decide) (hts (.fieldLink RX4 9 "SetterBenchModel" "lies" "[I") (by decide +kernel)) (fun _ h9 => h9) eq1 dX4_sortOn_1 ?_
  refine lv_iload_n hx hb dX4_sortOn_4 rfl (lv_at hl 1 rfl) ?_
  replace h := hbd h
  obtain ⟨a2, rfl, h⟩ := h
  replace h := hbd h
  obtain ⟨x3, ex3, h⟩ := h
  refine hr_lI hx hb hk hw ex3 dX4_sortOn_5 ?_
  refine lv_iconst (v := (-1)) hx hb dX4_sortOn_6 (by decide) ?_
  refine lv_icmp_ne (tgt := 14) hx hb dX4_sortOn_7 (by decide) (fun c4 => ?_) (fun c4 => ?_)
  · rw [if_neg c4] at h
    refine lv_aload_n hx hb dX4_sortOn_14 rfl (lv_at hl 0 rfl) ?_
    replace h := hbd h
    obtain ⟨q5, eq5, h⟩ := h
    refine hr_getQ (C := RX4) (T := TX4) (N := 9) hx hb hts iX4_sortOn_X4 hown hk hw rfl 1 (by decide) (hts (.fieldLink RX4 13 "SetterBenchModel" "sort" "[I") (by decide +kernel)) (fun _ h9 => h9) eq5 dX4_sortOn_15 ?_
    refine lv_aload_n hx hb dX4_sortOn_18 rfl (lv_at hl 0 rfl) ?_
    replace h := hbd h
    obtain ⟨q6, eq6, h⟩ := h
    refine hr_getQ (C := RX4) (T := TX4) (N := 9) hx hb hts iX4_sortOn_X4 hown hk hw rfl 0 (by decide) (hts (.fieldLink RX4 9 "SetterBenchModel" "lies" "[I") (by decide +kernel)) (fun _ h9 => h9) eq6 dX4_sortOn_19 ?_
    refine lv_iload_n hx hb dX4_sortOn_22 rfl (lv_at hl 1 rfl) ?_
    replace h := hbd h
    obtain ⟨a7, rfl, h⟩ := h
    replace h := hbd h
    obtain ⟨x8, ex8, h⟩ := h
    refine hr_lI hx hb hk hw ex8 dX4_sortOn_23 ?_
    replace h := hbd h
    obtain ⟨a9, rfl, h⟩ := h
    replace h := hbd h
    obtain ⟨x10, ex10, h⟩ := h
    refine hr_lI hx hb hk hw ex10 dX4_sortOn_24 ?_
    cases h
    exact hret_i hx hb hr hlocks hw dX4_sortOn_25
  · rw [if_pos c4] at h
    refine lv_iconst (v := 0) hx hb dX4_sortOn_10 (by decide) ?_
    refine lv_goto (tgt := 25) hx hb dX4_sortOn_11 (by decide) ?_
    cases h
    exact hret_i hx hb hr hlocks hw dX4_sortOn_25
theorem iX4_manyOn_X4 : ∀ w ∈ wsX40, w ∈ wsX4_manyOn := by decide +kernel
def fX4_manyOn (f : hPl) (a : Nat) (p1 : Int32) : Option Int32 := (hgQ f a 3 0).bind fun q1 => q1.bind fun a2 => (hlI f a2 p1).bind fun x3 => (if x3 = (-1) then some 0 else (hgQ f a 3 2).bind fun q5 => (hgQ f a 3 0).bind fun q6 => q6.bind fun a7 => (hlI f a7 p1).bind fun x8 => q5.bind fun a9 => (hlI f a9 x8).bind fun x10 => some x10)
set_option maxHeartbeats 4000000 in
set_option maxRecDepth 100000 in
theorem kX4_manyOn (l : Launch) (g : hGb) {f : hPl} {z : Nat} {a : Nat} {p1 : Int32} {r : Int32} (h : fX4_manyOn f a p1 = some r) : hCt l g yX4_manyOn wsX4_manyOn 0 0 0 [.ref a, .int p1] f z (some (.int r)) f z := by
  refine hCt.of (cc := cX4_manyOn) (maxL := 2) (ret := (some .int)) (by decide +kernel) rfl (by exact Nat.le_of_ble_eq_true rfl) ?_
  intro p e s m below meth c C hname hw ls hl
  obtain ⟨hx, hb, hml, hown, hts, hr, hlocks, hk⟩ := id C
  have hl : lv_has ls 2 [(0, .ref a), (1, .int p1)] := hl
  have hown : s.vm.findClass RX4 = some m.cls := hown
  unfold fX4_manyOn at h
  refine lv_aload_n hx hb dX4_manyOn_0 rfl (lv_at hl 0 rfl) ?_
  replace h := hbd h
  obtain ⟨q1, eq1, h⟩ := h
  refine hr_getQ (C := RX4) (T := TX4) (N := 9) hx hb hts iX4_manyOn_X4 hown hk hw rfl 0 (by decide) (hts (.fieldLink RX4 9 "SetterBenchModel" "lies" "[I") (by decide +kernel)) (fun _ h9 => h9) eq1 dX4_manyOn_1 ?_
  refine lv_iload_n hx hb dX4_manyOn_4 rfl (lv_at hl 1 rfl) ?_
  replace h := hbd h
  obtain ⟨a2, rfl, h⟩ := h
  replace h := hbd h
  obtain ⟨x3, ex3, h⟩ := h
  refine hr_lI hx hb hk hw ex3 dX4_manyOn_5 ?_
  refine lv_iconst (v := (-1)) hx hb dX4_manyOn_6 (by decide) ?_
  refine lv_icmp_ne (tgt := 14) hx hb dX4_manyOn_7 (by decide) (fun c4 => ?_) (fun c4 => ?_)
  · rw [if_neg c4] at h
    refine lv_aload_n hx hb dX4_manyOn_14 rfl (lv_at hl 0 rfl) ?_
    replace h := hbd h
    obtain ⟨q5, eq5, h⟩ := h
    refine hr_getQ (C := RX4) (T := TX4) (N := 9) hx hb hts iX4_manyOn_X4 hown hk hw rfl 2 (by decide) (hts (.fieldLink RX4 16 "SetterBenchModel" "many" "[I") (by decide +kernel)) (fun _ h9 => h9) eq5 dX4_manyOn_15 ?_
    refine lv_aload_n hx hb dX4_manyOn_18 rfl (lv_at hl 0 rfl) ?_
    replace h := hbd h
    obtain ⟨q6, eq6, h⟩ := h
    refine hr_getQ (C := RX4) (T := TX4) (N := 9) hx hb hts iX4_manyOn_X4 hown hk hw rfl 0 (by decide) (hts (.fieldLink RX4 9 "SetterBenchModel" "lies" "[I") (by decide +kernel)) (fun _ h9 => h9) eq6 dX4_manyOn_19 ?_
    refine lv_iload_n hx hb dX4_manyOn_22 rfl (lv_at hl 1 rfl) ?_
    replace h := hbd h
    obtain ⟨a7, rfl, h⟩ := h
    replace h := hbd h
    obtain ⟨x8, ex8, h⟩ := h
    refine hr_lI hx hb hk hw ex8 dX4_manyOn_23 ?_
    replace h := hbd h
    obtain ⟨a9, rfl, h⟩ := h
    replace h := hbd h
    obtain ⟨x10, ex10, h⟩ := h
    refine hr_lI hx hb hk hw ex10 dX4_manyOn_24 ?_
    cases h
    exact hret_i hx hb hr hlocks hw dX4_manyOn_25
  · rw [if_pos c4] at h
    refine lv_iconst (v := 0) hx hb dX4_manyOn_10 (by decide) ?_
    refine lv_goto (tgt := 25) hx hb dX4_manyOn_11 (by decide) ?_
    cases h
    exact hret_i hx hb hr hlocks hw dX4_manyOn_25
theorem iX4_isUsed_X4 : ∀ w ∈ wsX40, w ∈ wsX4_isUsed := by decide +kernel
def fX4_isUsed_j16s (rec : hPl → Nat → Int32 → Int32 → Int32 → Option Int32) (f : hPl) (a : Nat) (v1 : Int32) (v2 : Int32) (v3 : Int32) : Option Int32 := (if 8 ≤ v3 then (if v2 = 0 ∨ v2 = 1 then some v2 else none) else (if v2 = 0 then (hgQ f a 3 0).bind fun q6 => q6.bind fun a7 => (hlI f a7 v3).bind fun x8 => (if x8 = v1 then rec f a v1 1 (v3 + 1) else rec f a v1 0 (v3 + 1)) else rec f a v1 1 (v3 + 1)))
set_option maxHeartbeats 4000000 in
set_option maxRecDepth 100000 in
theorem kX4_isUsed_j16s {g : hGb} {p : Program} {l : Launch} {e : Env} {s : State} {m : MethodId} {args : Array Value} {below : List Frame} {meth : Method} {c : Code} {A : Nat → Prop} (C : hX g p s m args meth c RX4 cX4_isUsed 4 wsX4_isUsed (some .boolean)) {f : hPl} {z : Nat} {r : Int32} (rec : hPl → Nat → Int32 → Int32 → Int32 → Option Int32) (hrec : ∀ (a : Nat) (v1 : Int32) (v2 : Int32) (v3 : Int32), rec f a v1 v2 v3 = some r → ∀ (H : Heap) (locs : List Loc) (ls : Array Slot), hW g A s f z H locs → lv_has ls 4 [(0, .ref a), (1, .int v1), (2, .int v2), (3, .int v3)] → W p l e (hRm 0 0 0) s m args below meth c H locs 0 0 (hZ g A below args s 0 0 (some (.int r)) f z) (F0 m 16 ls []))  : ∀ (a : Nat) (v1 : Int32) (v2 : Int32) (v3 : Int32), fX4_isUsed_j16s rec f a v1 v2 v3 = some r → ∀ (H : Heap) (locs : List Loc) (ls : Array Slot), hW g A s f z H locs → lv_has ls 4 [(0, .ref a), (1, .int v1), (2, .int v2), (3, .int v3)] → W p l e (hRm 0 0 0) s m args below meth c H locs 0 0 (hZ g A below args s 0 0 (some (.int r)) f z) (F0 m 16 ls []) := by
  obtain ⟨hx, hb, hml, hown, hts, hr, hlocks, hk⟩ := id C
  intro a v1 v2 v3 h H locs ls hw hl
  unfold fX4_isUsed_j16s at h
  refine lv_iload_n hx hb dX4_isUsed_16 rfl (lv_at hl 3 rfl) ?_
  refine lv_bipush (v := 8) hx hb dX4_isUsed_17 (by decide) ?_
  refine lv_icmp_ge (tgt := 48) hx hb dX4_isUsed_19 (by decide) (fun c3 => ?_) (fun c3 => ?_)
  · rw [if_pos c3] at h
    refine lv_iload_n hx hb dX4_isUsed_48 rfl (lv_at hl 2 rfl) ?_
    obtain ⟨c4, h⟩ := hif h
    cases h
    exact hret_z hx hb hr hlocks hw c4 dX4_isUsed_49
  · rw [if_neg c3] at h
    refine lv_iload_n hx hb dX4_isUsed_22 rfl (lv_at hl 2 rfl) ?_
    refine lv_if_ne (tgt := 36) hx hb dX4_isUsed_23 (by decide) (fun c5 => ?_) (fun c5 => ?_)
    · rw [if_neg c5] at h
      refine lv_iconst (v := 1) hx hb dX4_isUsed_36 (by decide) ?_
      refine lv_goto (tgt := 41) hx hb dX4_isUsed_37 (by decide) ?_
      refine lv_istore_n (lv' := [(2, .int 1), (0, .ref a), (1, .int v1), (3, .int v3)]) hx hb dX4_isUsed_41 rfl hl (by decide) rfl (fun ls hl => ?_)
      refine lv_iinc (v := (v3 + 1)) (lv' := [(3, .int (v3 + 1)), (2, .int 1), (0, .ref a), (1, .int v1)]) hx hb dX4_isUsed_42 hl (k := 3) rfl rfl (by decide) rfl (fun ls hl => ?_)
      refine lv_goto (tgt := 16) hx hb dX4_isUsed_45 (by decide) ?_
      exact hrec _ _ _ _ h _ _ _ hw (lv_sub hl [2, 3, 1, 0] rfl)
    · rw [if_pos c5] at h
      refine lv_aload_n hx hb dX4_isUsed_26 rfl (lv_at hl 0 rfl) ?_
      replace h := hbd h
      obtain ⟨q6, eq6, h⟩ := h
      refine hr_getQ (C := RX4) (T := TX4) (N := 9) hx hb hts iX4_isUsed_X4 hown hk hw rfl 0 (by decide) (hts (.fieldLink RX4 9 "SetterBenchModel" "lies" "[I") (by decide +kernel)) (fun _ h9 => h9) eq6 dX4_isUsed_27 ?_
      refine lv_iload_n hx hb dX4_isUsed_30 rfl (lv_at hl 3 rfl) ?_
      replace h := hbd h
      obtain ⟨a7, rfl, h⟩ := h
      replace h := hbd h
      obtain ⟨x8, ex8, h⟩ := h
      refine hr_lI hx hb hk hw ex8 dX4_isUsed_31 ?_
      refine lv_iload_n hx hb dX4_isUsed_32 rfl (lv_at hl 1 rfl) ?_
      refine lv_icmp_ne (tgt := 40) hx hb dX4_isUsed_33 (by decide) (fun c9 => ?_) (fun c9 => ?_)
      · rw [if_neg c9] at h
        refine lv_iconst (v := 0) hx hb dX4_isUsed_40 (by decide) ?_
        refine lv_istore_n (lv' := [(2, .int 0), (0, .ref a), (1, .int v1), (3, .int v3)]) hx hb dX4_isUsed_41 rfl hl (by decide) rfl (fun ls hl => ?_)
        refine lv_iinc (v := (v3 + 1)) (lv' := [(3, .int (v3 + 1)), (2, .int 0), (0, .ref a), (1, .int v1)]) hx hb dX4_isUsed_42 hl (k := 3) rfl rfl (by decide) rfl (fun ls hl => ?_)
        refine lv_goto (tgt := 16) hx hb dX4_isUsed_45 (by decide) ?_
        exact hrec _ _ _ _ h _ _ _ hw (lv_sub hl [2, 3, 1, 0] rfl)
      · rw [if_pos c9] at h
        refine lv_iconst (v := 1) hx hb dX4_isUsed_36 (by decide) ?_
        refine lv_goto (tgt := 41) hx hb dX4_isUsed_37 (by decide) ?_
        refine lv_istore_n (lv' := [(2, .int 1), (0, .ref a), (1, .int v1), (3, .int v3)]) hx hb dX4_isUsed_41 rfl hl (by decide) rfl (fun ls hl => ?_)
        refine lv_iinc (v := (v3 + 1)) (lv' := [(3, .int (v3 + 1)), (2, .int 1), (0, .ref a), (1, .int v1)]) hx hb dX4_isUsed_42 hl (k := 3) rfl rfl (by decide) rfl (fun ls hl => ?_)
        refine lv_goto (tgt := 16) hx hb dX4_isUsed_45 (by decide) ?_
        exact hrec _ _ _ _ h _ _ _ hw (lv_sub hl [2, 3, 1, 0] rfl)
def fX4_isUsed_j16 (n : Nat) : hPl → Nat → Int32 → Int32 → Int32 → Option Int32 := match n with
  | 0 => fun _ _ _ _ _ => none
  | n + 1 => fX4_isUsed_j16s (fX4_isUsed_j16 n)
theorem kX4_isUsed_j16 {g : hGb} {p : Program} {l : Launch} {e : Env} {s : State} {m : MethodId} {args : Array Value} {below : List Frame} {meth : Method} {c : Code} {A : Nat → Prop} (C : hX g p s m args meth c RX4 cX4_isUsed 4 wsX4_isUsed (some .boolean)) {f : hPl} {z : Nat} {r : Int32} (n : Nat) : ∀ (a : Nat) (v1 : Int32) (v2 : Int32) (v3 : Int32), fX4_isUsed_j16 n f a v1 v2 v3 = some r → ∀ (H : Heap) (locs : List Loc) (ls : Array Slot), hW g A s f z H locs → lv_has ls 4 [(0, .ref a), (1, .int v1), (2, .int v2), (3, .int v3)] → W p l e (hRm 0 0 0) s m args below meth c H locs 0 0 (hZ g A below args s 0 0 (some (.int r)) f z) (F0 m 16 ls []) := by
  induction n with
  | zero =>
    intro a v1 v2 v3 h
    cases h
  | succ n ih => exact kX4_isUsed_j16s C (fX4_isUsed_j16 n) ih
def fX4_isUsed (f : hPl) (a : Nat) (p1 : Int32) : Option Int32 := (hgI f a 3 7).bind fun x1 => (if p1 = x1 then fX4_isUsed_j16 64 f a p1 1 0 else fX4_isUsed_j16 64 f a p1 0 0)
set_option maxHeartbeats 4000000 in
set_option maxRecDepth 100000 in
theorem kX4_isUsed (l : Launch) (g : hGb) {f : hPl} {z : Nat} {a : Nat} {p1 : Int32} {r : Int32} (h : fX4_isUsed f a p1 = some r) : hCt l g yX4_isUsed wsX4_isUsed 0 0 0 [.ref a, .int p1] f z (some (.int r)) f z := by
  refine hCt.of (cc := cX4_isUsed) (maxL := 4) (ret := (some .boolean)) (by decide +kernel) rfl (by exact Nat.le_of_ble_eq_true rfl) ?_
  intro p e s m below meth c C hname hw ls hl
  obtain ⟨hx, hb, hml, hown, hts, hr, hlocks, hk⟩ := id C
  have hl : lv_has ls 4 [(0, .ref a), (1, .int p1)] := hl
  have hown : s.vm.findClass RX4 = some m.cls := hown
  unfold fX4_isUsed at h
  refine lv_iload_n hx hb dX4_isUsed_0 rfl (lv_at hl 1 rfl) ?_
  refine lv_aload_n hx hb dX4_isUsed_1 rfl (lv_at hl 0 rfl) ?_
  replace h := hbd h
  obtain ⟨x1, ex1, h⟩ := h
  refine hr_getI (C := RX4) (T := TX4) (N := 9) hx hb hts iX4_isUsed_X4 hown hk hw rfl 7 (by decide) (hts (.fieldLink RX4 32 "SetterBenchModel" "keeper" "I") (by decide +kernel)) (fun _ h9 => h9) ex1 dX4_isUsed_2 ?_
  refine lv_icmp_ne (tgt := 12) hx hb dX4_isUsed_5 (by decide) (fun c2 => ?_) (fun c2 => ?_)
  · rw [if_neg c2] at h
    refine lv_iconst (v := 0) hx hb dX4_isUsed_12 (by decide) ?_
    refine lv_istore_n (lv' := [(2, .int 0), (0, .ref a), (1, .int p1)]) hx hb dX4_isUsed_13 rfl hl (by decide) rfl (fun ls hl => ?_)
    refine lv_iconst (v := 0) hx hb dX4_isUsed_14 (by decide) ?_
    refine lv_istore_n (lv' := [(3, .int 0), (2, .int 0), (0, .ref a), (1, .int p1)]) hx hb dX4_isUsed_15 rfl hl (by decide) rfl (fun ls hl => ?_)
    exact kX4_isUsed_j16 C 64 _ _ _ _ h _ _ _ hw (lv_sub hl [2, 3, 1, 0] rfl)
  · rw [if_pos c2] at h
    refine lv_iconst (v := 1) hx hb dX4_isUsed_8 (by decide) ?_
    refine lv_goto (tgt := 13) hx hb dX4_isUsed_9 (by decide) ?_
    refine lv_istore_n (lv' := [(2, .int 1), (0, .ref a), (1, .int p1)]) hx hb dX4_isUsed_13 rfl hl (by decide) rfl (fun ls hl => ?_)
    refine lv_iconst (v := 0) hx hb dX4_isUsed_14 (by decide) ?_
    refine lv_istore_n (lv' := [(3, .int 0), (2, .int 1), (0, .ref a), (1, .int p1)]) hx hb dX4_isUsed_15 rfl hl (by decide) rfl (fun ls hl => ?_)
    exact kX4_isUsed_j16 C 64 _ _ _ _ h _ _ _ hw (lv_sub hl [2, 3, 1, 0] rfl)
theorem iX4_lay_X4 : ∀ w ∈ wsX40, w ∈ wsX4_lay := by decide +kernel
def fX4_lay_j112s (rec : hPl → Nat → Nat → Int32 → Int32 → Int32 → Option (Int32 × hPl × Nat)) (f : hPl) (z : Nat) (a : Nat) (v1 : Int32) (v4 : Int32) (v5 : Int32) : Option (Int32 × hPl × Nat) := (if 40 ≤ v5 then (hgQ f a 3 0).bind fun q24 => q24.bind fun a25 => (hsI f a25 v1 v4).bind fun f26 => some (1, f26, z) else (hgQ f a 3 4).bind fun q27 => q27.bind fun a28 => (hsJ f a28 ((40 * v4) + v5) (0 : Int64)).bind fun f29 => rec f29 z a v1 v4 (v5 + 1))
set_option maxHeartbeats 4000000 in
set_option maxRecDepth 100000 in
theorem kX4_lay_j112s {g : hGb} {p : Program} {l : Launch} {e : Env} {s : State} {m : MethodId} {args : Array Value} {below : List Frame} {meth : Method} {c : Code} {A : Nat → Prop} (C : hX g p s m args meth c RX4 cX4_lay 6 wsX4_lay (some .boolean)) {r : Int32} {f' : hPl} {z' : Nat} (rec : hPl → Nat → Nat → Int32 → Int32 → Int32 → Option (Int32 × hPl × Nat)) (hrec : ∀ (f : hPl) (z : Nat) (a : Nat) (v1 : Int32) (v4 : Int32) (v5 : Int32), rec f z a v1 v4 v5 = some (r, f', z') → ∀ (H : Heap) (locs : List Loc) (ls : Array Slot), hW g A s f z H locs → lv_has ls 6 [(0, .ref a), (1, .int v1), (4, .int v4), (5, .int v5)] → W p l e (hRm 1 0 0) s m args below meth c H locs 0 0 (hZ g A below args s 0 0 (some (.int r)) f' z') (F0 m 112 ls []))  : ∀ (f : hPl) (z : Nat) (a : Nat) (v1 : Int32) (v4 : Int32) (v5 : Int32), fX4_lay_j112s rec f z a v1 v4 v5 = some (r, f', z') → ∀ (H : Heap) (locs : List Loc) (ls : Array Slot), hW g A s f z H locs → lv_has ls 6 [(0, .ref a), (1, .int v1), (4, .int v4), (5, .int v5)] → W p l e (hRm 1 0 0) s m args below meth c H locs 0 0 (hZ g A below args s 0 0 (some (.int r)) f' z') (F0 m 112 ls []) := by
  obtain ⟨hx, hb, hml, hown, hts, hr, hlocks, hk⟩ := id C
  intro f z a v1 v4 v5 h H locs ls hw hl
  unfold fX4_lay_j112s at h
  refine lv_iload hx hb dX4_lay_112 (lv_at hl 3 rfl) ?_
  refine lv_bipush (v := 40) hx hb dX4_lay_114 (by decide) ?_
  refine lv_icmp_ge (tgt := 139) hx hb dX4_lay_116 (by decide) (fun c23 => ?_) (fun c23 => ?_)
  · rw [if_pos c23] at h
    refine lv_aload_n hx hb dX4_lay_139 rfl (lv_at hl 0 rfl) ?_
    replace h := hbd h
    obtain ⟨q24, eq24, h⟩ := h
    refine hr_getQ (C := RX4) (T := TX4) (N := 9) hx hb hts iX4_lay_X4 hown hk hw rfl 0 (by decide) (hts (.fieldLink RX4 9 "SetterBenchModel" "lies" "[I") (by decide +kernel)) (fun _ h9 => h9) eq24 dX4_lay_140 ?_
    refine lv_iload_n hx hb dX4_lay_143 rfl (lv_at hl 1 rfl) ?_
    refine lv_iload hx hb dX4_lay_144 (lv_at hl 2 rfl) ?_
    replace h := hbd h
    obtain ⟨a25, rfl, h⟩ := h
    replace h := hbd h
    obtain ⟨f26, ef26, h⟩ := h
    refine hr_sI hx hb hk hw ef26 dX4_lay_146 (fun H locs hw => ?_)
    refine lv_iconst (v := 1) hx hb dX4_lay_147 (by decide) ?_
    cases h
    exact hret_z hx hb hr hlocks hw (Or.inr rfl) dX4_lay_148
  · rw [if_neg c23] at h
    refine lv_aload_n hx hb dX4_lay_119 rfl (lv_at hl 0 rfl) ?_
    replace h := hbd h
    obtain ⟨q27, eq27, h⟩ := h
    refine hr_getQ (C := RX4) (T := TX4) (N := 9) hx hb hts iX4_lay_X4 hown hk hw rfl 4 (by decide) (hts (.fieldLink RX4 22 "SetterBenchModel" "members" "[J") (by decide +kernel)) (fun _ h9 => h9) eq27 dX4_lay_120 ?_
    refine lv_bipush (v := 40) hx hb dX4_lay_123 (by decide) ?_
    refine lv_iload hx hb dX4_lay_125 (lv_at hl 2 rfl) ?_
    refine lv_imul hx hb dX4_lay_127 ?_
    refine lv_iload hx hb dX4_lay_128 (lv_at hl 3 rfl) ?_
    refine lv_iadd hx hb dX4_lay_130 ?_
    refine lv_lconst (v := 0) hx hb dX4_lay_131 (by decide) ?_
    replace h := hbd h
    obtain ⟨a28, rfl, h⟩ := h
    replace h := hbd h
    obtain ⟨f29, ef29, h⟩ := h
    refine hr_sJ hx hb hk hw ef29 dX4_lay_132 (fun H locs hw => ?_)
    refine lv_iinc (v := (v5 + 1)) (lv' := [(5, .int (v5 + 1)), (0, .ref a), (1, .int v1), (4, .int v4)]) hx hb dX4_lay_133 hl (k := 3) rfl rfl (by decide) rfl (fun ls hl => ?_)
    refine lv_goto (tgt := 112) hx hb dX4_lay_136 (by decide) ?_
    exact hrec _ _ _ _ _ _ h _ _ _ hw (lv_sub hl [1, 2, 3, 0] rfl)
def fX4_lay_j112 (n : Nat) : hPl → Nat → Nat → Int32 → Int32 → Int32 → Option (Int32 × hPl × Nat) := match n with
  | 0 => fun _ _ _ _ _ _ => none
  | n + 1 => fX4_lay_j112s (fX4_lay_j112 n)
theorem kX4_lay_j112 {g : hGb} {p : Program} {l : Launch} {e : Env} {s : State} {m : MethodId} {args : Array Value} {below : List Frame} {meth : Method} {c : Code} {A : Nat → Prop} (C : hX g p s m args meth c RX4 cX4_lay 6 wsX4_lay (some .boolean)) {r : Int32} {f' : hPl} {z' : Nat} (n : Nat) : ∀ (f : hPl) (z : Nat) (a : Nat) (v1 : Int32) (v4 : Int32) (v5 : Int32), fX4_lay_j112 n f z a v1 v4 v5 = some (r, f', z') → ∀ (H : Heap) (locs : List Loc) (ls : Array Slot), hW g A s f z H locs → lv_has ls 6 [(0, .ref a), (1, .int v1), (4, .int v4), (5, .int v5)] → W p l e (hRm 1 0 0) s m args below meth c H locs 0 0 (hZ g A below args s 0 0 (some (.int r)) f' z') (F0 m 112 ls []) := by
  induction n with
  | zero =>
    intro f z a v1 v4 v5 h
    cases h
  | succ n ih => exact kX4_lay_j112s C (fX4_lay_j112 n) ih
def fX4_lay_j100 (f : hPl) (z : Nat) (a : Nat) (v1 : Int32) (v4 : Int32) (s0 : Int32) (s1 : Int32) (s2 : Option Nat) : Option (Int32 × hPl × Nat) := s2.bind fun a18 => (hsI f a18 s1 s0).bind fun f19 => (hgQ f19 a 3 3).bind fun q20 => q20.bind fun a21 => (hsI f19 a21 v4 0).bind fun f22 => fX4_lay_j112 64 f22 z a v1 v4 0
set_option maxHeartbeats 4000000 in
set_option maxRecDepth 100000 in
theorem kX4_lay_j100 {g : hGb} {p : Program} {l : Launch} {e : Env} {s : State} {m : MethodId} {args : Array Value} {below : List Frame} {meth : Method} {c : Code} {A : Nat → Prop} (C : hX g p s m args meth c RX4 cX4_lay 6 wsX4_lay (some .boolean)) {r : Int32} {f' : hPl} {z' : Nat}  : ∀ (f : hPl) (z : Nat) (a : Nat) (v1 : Int32) (v4 : Int32) (s0 : Int32) (s1 : Int32) (s2 : Option Nat), fX4_lay_j100 f z a v1 v4 s0 s1 s2 = some (r, f', z') → ∀ (H : Heap) (locs : List Loc) (ls : Array Slot), hW g A s f z H locs → lv_has ls 6 [(0, .ref a), (1, .int v1), (4, .int v4)] → W p l e (hRm 1 0 0) s m args below meth c H locs 0 0 (hZ g A below args s 0 0 (some (.int r)) f' z') (F0 m 100 ls [.int s0, .int s1, va_rf s2]) := by
  obtain ⟨hx, hb, hml, hown, hts, hr, hlocks, hk⟩ := id C
  intro f z a v1 v4 s0 s1 s2 h H locs ls hw hl
  unfold fX4_lay_j100 at h
  replace h := hbd h
  obtain ⟨a18, rfl, h⟩ := h
  replace h := hbd h
  obtain ⟨f19, ef19, h⟩ := h
  refine hr_sI hx hb hk hw ef19 dX4_lay_100 (fun H locs hw => ?_)
  refine lv_aload_n hx hb dX4_lay_101 rfl (lv_at hl 0 rfl) ?_
  replace h := hbd h
  obtain ⟨q20, eq20, h⟩ := h
  refine hr_getQ (C := RX4) (T := TX4) (N := 9) hx hb hts iX4_lay_X4 hown hk hw rfl 3 (by decide) (hts (.fieldLink RX4 19 "SetterBenchModel" "lit" "[I") (by decide +kernel)) (fun _ h9 => h9) eq20 dX4_lay_102 ?_
  refine lv_iload hx hb dX4_lay_105 (lv_at hl 2 rfl) ?_
  refine lv_iconst (v := 0) hx hb dX4_lay_107 (by decide) ?_
  replace h := hbd h
  obtain ⟨a21, rfl, h⟩ := h
  replace h := hbd h
  obtain ⟨f22, ef22, h⟩ := h
  refine hr_sI hx hb hk hw ef22 dX4_lay_108 (fun H locs hw => ?_)
  refine lv_iconst (v := 0) hx hb dX4_lay_109 (by decide) ?_
  refine lv_istore (lv' := [(5, .int 0), (0, .ref a), (1, .int v1), (4, .int v4)]) hx hb dX4_lay_110 hl (by decide) rfl (fun ls hl => ?_)
  exact kX4_lay_j112 C 64 _ _ _ _ _ _ h _ _ _ hw (lv_sub hl [1, 2, 3, 0] rfl)
def fX4_lay_j74 (f : hPl) (z : Nat) (a : Nat) (v1 : Int32) (v2 : Int32) (v3 : Int32) (v4 : Int32) : Option (Int32 × hPl × Nat) := (hgQ f a 3 1).bind fun q12 => q12.bind fun a13 => (hsI f a13 v4 v2).bind fun f14 => (hgQ f14 a 3 2).bind fun q15 => (fX4_isTray f14  v2).bind fun r16 => (if r16 = 0 then fX4_lay_j100 f14 z a v1 v4 0 v4 q15 else fX4_lay_j100 f14 z a v1 v4 v3 v4 q15)
set_option maxHeartbeats 4000000 in
set_option maxRecDepth 100000 in
theorem kX4_lay_j74 {g : hGb} {p : Program} {l : Launch} {e : Env} {s : State} {m : MethodId} {args : Array Value} {below : List Frame} {meth : Method} {c : Code} {A : Nat → Prop} (C : hX g p s m args meth c RX4 cX4_lay 6 wsX4_lay (some .boolean)) {r : Int32} {f' : hPl} {z' : Nat}  : ∀ (f : hPl) (z : Nat) (a : Nat) (v1 : Int32) (v2 : Int32) (v3 : Int32) (v4 : Int32), fX4_lay_j74 f z a v1 v2 v3 v4 = some (r, f', z') → ∀ (H : Heap) (locs : List Loc) (ls : Array Slot), hW g A s f z H locs → lv_has ls 6 [(0, .ref a), (1, .int v1), (2, .int v2), (3, .int v3), (4, .int v4)] → W p l e (hRm 1 0 0) s m args below meth c H locs 0 0 (hZ g A below args s 0 0 (some (.int r)) f' z') (F0 m 74 ls []) := by
  obtain ⟨hx, hb, hml, hown, hts, hr, hlocks, hk⟩ := id C
  intro f z a v1 v2 v3 v4 h H locs ls hw hl
  unfold fX4_lay_j74 at h
  refine lv_aload_n hx hb dX4_lay_74 rfl (lv_at hl 0 rfl) ?_
  replace h := hbd h
  obtain ⟨q12, eq12, h⟩ := h
  refine hr_getQ (C := RX4) (T := TX4) (N := 9) hx hb hts iX4_lay_X4 hown hk hw rfl 1 (by decide) (hts (.fieldLink RX4 13 "SetterBenchModel" "sort" "[I") (by decide +kernel)) (fun _ h9 => h9) eq12 dX4_lay_75 ?_
  refine lv_iload hx hb dX4_lay_78 (lv_at hl 4 rfl) ?_
  refine lv_iload_n hx hb dX4_lay_80 rfl (lv_at hl 2 rfl) ?_
  replace h := hbd h
  obtain ⟨a13, rfl, h⟩ := h
  replace h := hbd h
  obtain ⟨f14, ef14, h⟩ := h
  refine hr_sI hx hb hk hw ef14 dX4_lay_81 (fun H locs hw => ?_)
  refine lv_aload_n hx hb dX4_lay_82 rfl (lv_at hl 0 rfl) ?_
  replace h := hbd h
  obtain ⟨q15, eq15, h⟩ := h
  refine hr_getQ (C := RX4) (T := TX4) (N := 9) hx hb hts iX4_lay_X4 hown hk hw rfl 2 (by decide) (hts (.fieldLink RX4 16 "SetterBenchModel" "many" "[I") (by decide +kernel)) (fun _ h9 => h9) eq15 dX4_lay_83 ?_
  refine lv_iload hx hb dX4_lay_86 (lv_at hl 4 rfl) ?_
  refine lv_iload_n hx hb dX4_lay_88 rfl (lv_at hl 2 rfl) ?_
  replace h := hbd h
  obtain ⟨r16, er16, h⟩ := h
  refine hcallS (o := some (.int r16)) hx hb hml hown hts hk [.int v2] [.int v4, va_rf q15] (kX4_isTray l g er16) gX4_lay_X4_isTray rfl (n := 1) rfl (by decide +kernel) ⟨Nat.le_of_ble_eq_true rfl, Nat.le_of_ble_eq_true rfl⟩ hw hl.1 rfl (by cases q15 <;> exact Nat.le_of_ble_eq_true rfl) dX4_lay_89 ⟨Nat.le_of_ble_eq_true rfl, Nat.le_of_ble_eq_true rfl⟩ (fun H locs hw => ?_)
  refine W.eq (g2 := F0 m 92 ls [.int r16, .int v4, va_rf q15]) rfl ?_
  refine lv_if_eq (tgt := 99) hx hb dX4_lay_92 (by decide) (fun c17 => ?_) (fun c17 => ?_)
  · rw [if_pos c17] at h
    refine lv_iconst (v := 0) hx hb dX4_lay_99 (by decide) ?_
    exact kX4_lay_j100 C _ _ _ _ _ _ _ _ h _ _ _ hw (lv_sub hl [0, 1, 4] rfl)
  · rw [if_neg c17] at h
    refine lv_iload_n hx hb dX4_lay_95 rfl (lv_at hl 3 rfl) ?_
    refine lv_goto (tgt := 100) hx hb dX4_lay_96 (by decide) ?_
    exact kX4_lay_j100 C _ _ _ _ _ _ _ _ h _ _ _ hw (lv_sub hl [0, 1, 4] rfl)
def fX4_lay_j52s (rec : hPl → Nat → Nat → Int32 → Int32 → Int32 → Int32 → Option (Int32 × hPl × Nat)) (f : hPl) (z : Nat) (a : Nat) (v1 : Int32) (v2 : Int32) (v3 : Int32) (v4 : Int32) : Option (Int32 × hPl × Nat) := (if 9 ≤ v4 then fX4_lay_j74 f z a v1 v2 v3 v4 else (hob f a 3).bind fun u30 => (fX4_isUsed f a v4).bind fun r31 => (if r31 = 0 then fX4_lay_j74 f z a v1 v2 v3 v4 else rec f z a v1 v2 v3 (v4 + 1)))
set_option maxHeartbeats 4000000 in
set_option maxRecDepth 100000 in
theorem kX4_lay_j52s {g : hGb} {p : Program} {l : Launch} {e : Env} {s : State} {m : MethodId} {args : Array Value} {below : List Frame} {meth : Method} {c : Code} {A : Nat → Prop} (C : hX g p s m args meth c RX4 cX4_lay 6 wsX4_lay (some .boolean)) {r : Int32} {f' : hPl} {z' : Nat} (rec : hPl → Nat → Nat → Int32 → Int32 → Int32 → Int32 → Option (Int32 × hPl × Nat)) (hrec : ∀ (f : hPl) (z : Nat) (a : Nat) (v1 : Int32) (v2 : Int32) (v3 : Int32) (v4 : Int32), rec f z a v1 v2 v3 v4 = some (r, f', z') → ∀ (H : Heap) (locs : List Loc) (ls : Array Slot), hW g A s f z H locs → lv_has ls 6 [(0, .ref a), (1, .int v1), (2, .int v2), (3, .int v3), (4, .int v4)] → W p l e (hRm 1 0 0) s m args below meth c H locs 0 0 (hZ g A below args s 0 0 (some (.int r)) f' z') (F0 m 52 ls []))  : ∀ (f : hPl) (z : Nat) (a : Nat) (v1 : Int32) (v2 : Int32) (v3 : Int32) (v4 : Int32), fX4_lay_j52s rec f z a v1 v2 v3 v4 = some (r, f', z') → ∀ (H : Heap) (locs : List Loc) (ls : Array Slot), hW g A s f z H locs → lv_has ls 6 [(0, .ref a), (1, .int v1), (2, .int v2), (3, .int v3), (4, .int v4)] → W p l e (hRm 1 0 0) s m args below meth c H locs 0 0 (hZ g A below args s 0 0 (some (.int r)) f' z') (F0 m 52 ls []) := by
  obtain ⟨hx, hb, hml, hown, hts, hr, hlocks, hk⟩ := id C
  intro f z a v1 v2 v3 v4 h H locs ls hw hl
  unfold fX4_lay_j52s at h
  refine lv_iload hx hb dX4_lay_52 (lv_at hl 4 rfl) ?_
  refine lv_bipush (v := 9) hx hb dX4_lay_54 (by decide) ?_
  refine lv_icmp_ge (tgt := 74) hx hb dX4_lay_56 (by decide) (fun c11 => ?_) (fun c11 => ?_)
  · rw [if_pos c11] at h
    exact kX4_lay_j74 C _ _ _ _ _ _ _ h _ _ _ hw (lv_sub hl [0, 1, 2, 3, 4] rfl)
  · rw [if_neg c11] at h
    refine lv_aload_n hx hb dX4_lay_59 rfl (lv_at hl 0 rfl) ?_
    refine lv_iload hx hb dX4_lay_60 (lv_at hl 4 rfl) ?_
    replace h := hbd h
    obtain ⟨u30, eu30, h⟩ := h
    replace h := hbd h
    obtain ⟨r31, er31, h⟩ := h
    refine hcallV (o := some (.int r31)) hx hb hml hown hts hk [.int v4] [] (kX4_isUsed l g er31) gX4_lay_X4_isUsed rfl (n := 1) rfl (by decide +kernel) ⟨Nat.le_of_ble_eq_true rfl, Nat.le_of_ble_eq_true rfl⟩ (ci := 3) rfl eu30 hw hl.1 rfl (Nat.le_of_ble_eq_true rfl) dX4_lay_62 ⟨Nat.le_of_ble_eq_true rfl, Nat.le_of_ble_eq_true rfl⟩ (fun H locs hw => ?_)
    refine W.eq (g2 := F0 m 65 ls [.int r31]) rfl ?_
    refine lv_if_eq (tgt := 74) hx hb dX4_lay_65 (by decide) (fun c32 => ?_) (fun c32 => ?_)
    · rw [if_pos c32] at h
      exact kX4_lay_j74 C _ _ _ _ _ _ _ h _ _ _ hw (lv_sub hl [0, 1, 2, 3, 4] rfl)
    · rw [if_neg c32] at h
      refine lv_iinc (v := (v4 + 1)) (lv' := [(4, .int (v4 + 1)), (0, .ref a), (1, .int v1), (2, .int v2), (3, .int v3)]) hx hb dX4_lay_68 hl (k := 4) rfl rfl (by decide) rfl (fun ls hl => ?_)
      refine lv_goto (tgt := 52) hx hb dX4_lay_71 (by decide) ?_
      exact hrec _ _ _ _ _ _ _ h _ _ _ hw (lv_sub hl [1, 2, 3, 4, 0] rfl)
def fX4_lay_j52 (n : Nat) : hPl → Nat → Nat → Int32 → Int32 → Int32 → Int32 → Option (Int32 × hPl × Nat) := match n with
  | 0 => fun _ _ _ _ _ _ _ => none
  | n + 1 => fX4_lay_j52s (fX4_lay_j52 n)
theorem kX4_lay_j52 {g : hGb} {p : Program} {l : Launch} {e : Env} {s : State} {m : MethodId} {args : Array Value} {below : List Frame} {meth : Method} {c : Code} {A : Nat → Prop} (C : hX g p s m args meth c RX4 cX4_lay 6 wsX4_lay (some .boolean)) {r : Int32} {f' : hPl} {z' : Nat} (n : Nat) : ∀ (f : hPl) (z : Nat) (a : Nat) (v1 : Int32) (v2 : Int32) (v3 : Int32) (v4 : Int32), fX4_lay_j52 n f z a v1 v2 v3 v4 = some (r, f', z') → ∀ (H : Heap) (locs : List Loc) (ls : Array Slot), hW g A s f z H locs → lv_has ls 6 [(0, .ref a), (1, .int v1), (2, .int v2), (3, .int v3), (4, .int v4)] → W p l e (hRm 1 0 0) s m args below meth c H locs 0 0 (hZ g A below args s 0 0 (some (.int r)) f' z') (F0 m 52 ls []) := by
  induction n with
  | zero =>
    intro f z a v1 v2 v3 v4 h
    cases h
  | succ n ih => exact kX4_lay_j52s C (fX4_lay_j52 n) ih
def fX4_lay_j36 (f : hPl) (z : Nat) (a : Nat) (v1 : Int32) (v2 : Int32) (v3 : Int32) : Option (Int32 × hPl × Nat) := (hgQ f a 3 0).bind fun q7 => q7.bind fun a8 => (hsI f a8 v1 (-1)).bind fun f9 => (if v2 = 0 then some (1, f9, z) else fX4_lay_j52 64 f9 z a v1 v2 v3 0)
set_option maxHeartbeats 4000000 in
set_option maxRecDepth 100000 in
theorem kX4_lay_j36 {g : hGb} {p : Program} {l : Launch} {e : Env} {s : State} {m : MethodId} {args : Array Value} {below : List Frame} {meth : Method} {c : Code} {A : Nat → Prop} (C : hX g p s m args meth c RX4 cX4_lay 6 wsX4_lay (some .boolean)) {r : Int32} {f' : hPl} {z' : Nat}  : ∀ (f : hPl) (z : Nat) (a : Nat) (v1 : Int32) (v2 : Int32) (v3 : Int32), fX4_lay_j36 f z a v1 v2 v3 = some (r, f', z') → ∀ (H : Heap) (locs : List Loc) (ls : Array Slot), hW g A s f z H locs → lv_has ls 6 [(0, .ref a), (1, .int v1), (2, .int v2), (3, .int v3)] → W p l e (hRm 1 0 0) s m args below meth c H locs 0 0 (hZ g A below args s 0 0 (some (.int r)) f' z') (F0 m 36 ls []) := by
  obtain ⟨hx, hb, hml, hown, hts, hr, hlocks, hk⟩ := id C
  intro f z a v1 v2 v3 h H locs ls hw hl
  unfold fX4_lay_j36 at h
  refine lv_aload_n hx hb dX4_lay_36 rfl (lv_at hl 0 rfl) ?_
  replace h := hbd h
  obtain ⟨q7, eq7, h⟩ := h
  refine hr_getQ (C := RX4) (T := TX4) (N := 9) hx hb hts iX4_lay_X4 hown hk hw rfl 0 (by decide) (hts (.fieldLink RX4 9 "SetterBenchModel" "lies" "[I") (by decide +kernel)) (fun _ h9 => h9) eq7 dX4_lay_37 ?_
  refine lv_iload_n hx hb dX4_lay_40 rfl (lv_at hl 1 rfl) ?_
  refine lv_iconst (v := (-1)) hx hb dX4_lay_41 (by decide) ?_
  replace h := hbd h
  obtain ⟨a8, rfl, h⟩ := h
  replace h := hbd h
  obtain ⟨f9, ef9, h⟩ := h
  refine hr_sI hx hb hk hw ef9 dX4_lay_42 (fun H locs hw => ?_)
  refine lv_iload_n hx hb dX4_lay_43 rfl (lv_at hl 2 rfl) ?_
  refine lv_if_ne (tgt := 49) hx hb dX4_lay_44 (by decide) (fun c10 => ?_) (fun c10 => ?_)
  · rw [if_neg c10] at h
    refine lv_iconst (v := 0) hx hb dX4_lay_49 (by decide) ?_
    refine lv_istore (lv' := [(4, .int 0), (0, .ref a), (1, .int v1), (2, .int v2), (3, .int v3)]) hx hb dX4_lay_50 hl (by decide) rfl (fun ls hl => ?_)
    exact kX4_lay_j52 C 64 _ _ _ _ _ _ _ h _ _ _ hw (lv_sub hl [1, 2, 3, 4, 0] rfl)
  · rw [if_pos c10] at h
    refine lv_iconst (v := 1) hx hb dX4_lay_47 (by decide) ?_
    cases h
    exact hret_z hx hb hr hlocks hw (Or.inr rfl) dX4_lay_48
def fX4_lay (f : hPl) (z : Nat) (a : Nat) (p1 : Int32) (p2 : Int32) (p3 : Int32) : Option (Int32 × hPl × Nat) := (fX4_isPlace f  p1).bind fun r1 => (if r1 = 0 then some (0, f, z) else (if p2 < 0 then some (0, f, z) else (if 10 < p2 then some (0, f, z) else (fX4_isTray f  p2).bind fun r5 => (if r5 = 0 then fX4_lay_j36 f z a p1 p2 p3 else (if p3 < 0 then some (0, f, z) else (if p3 ≤ 40 then fX4_lay_j36 f z a p1 p2 p3 else some (0, f, z)))))))
set_option maxHeartbeats 4000000 in
set_option maxRecDepth 100000 in
theorem kX4_lay (l : Launch) (g : hGb) {f : hPl} {z : Nat} {a : Nat} {p1 : Int32} {p2 : Int32} {p3 : Int32} {r : Int32} {f' : hPl} {z' : Nat} (h : fX4_lay f z a p1 p2 p3 = some (r, f', z')) : hCt l g yX4_lay wsX4_lay 1 0 0 [.ref a, .int p1, .int p2, .int p3] f z (some (.int r)) f' z' := by
  refine hCt.of (cc := cX4_lay) (maxL := 6) (ret := (some .boolean)) (by decide +kernel) rfl (by exact Nat.le_of_ble_eq_true rfl) ?_
  intro p e s m below meth c C hname hw ls hl
  obtain ⟨hx, hb, hml, hown, hts, hr, hlocks, hk⟩ := id C
  have hl : lv_has ls 6 [(0, .ref a), (1, .int p1), (2, .int p2), (3, .int p3)] := hl
  have hown : s.vm.findClass RX4 = some m.cls := hown
  unfold fX4_lay at h
  refine lv_iload_n hx hb dX4_lay_0 rfl (lv_at hl 1 rfl) ?_
  replace h := hbd h
  obtain ⟨r1, er1, h⟩ := h
  refine hcallS (o := some (.int r1)) hx hb hml hown hts hk [.int p1] [] (kX4_isPlace l g er1) gX4_lay_X4_isPlace rfl (n := 1) rfl (by decide +kernel) ⟨Nat.le_of_ble_eq_true rfl, Nat.le_of_ble_eq_true rfl⟩ hw hl.1 rfl (Nat.le_of_ble_eq_true rfl) dX4_lay_1 ⟨Nat.le_of_ble_eq_true rfl, Nat.le_of_ble_eq_true rfl⟩ (fun H locs hw => ?_)
  refine W.eq (g2 := F0 m 4 ls [.int r1]) rfl ?_
  refine lv_if_eq (tgt := 34) hx hb dX4_lay_4 (by decide) (fun c2 => ?_) (fun c2 => ?_)
  · rw [if_pos c2] at h
    refine lv_iconst (v := 0) hx hb dX4_lay_34 (by decide) ?_
    cases h
    exact hret_z hx hb hr hlocks hw (Or.inl rfl) dX4_lay_35
  · rw [if_neg c2] at h
    refine lv_iload_n hx hb dX4_lay_7 rfl (lv_at hl 2 rfl) ?_
    refine lv_if_lt (tgt := 34) hx hb dX4_lay_8 (by decide) (fun c3 => ?_) (fun c3 => ?_)
    · rw [if_pos c3] at h
      refine lv_iconst (v := 0) hx hb dX4_lay_34 (by decide) ?_
      cases h
      exact hret_z hx hb hr hlocks hw (Or.inl rfl) dX4_lay_35
    · rw [if_neg c3] at h
      refine lv_iload_n hx hb dX4_lay_11 rfl (lv_at hl 2 rfl) ?_
      refine lv_bipush (v := 10) hx hb dX4_lay_12 (by decide) ?_
      refine lv_icmp_gt (tgt := 34) hx hb dX4_lay_14 (by decide) (fun c4 => ?_) (fun c4 => ?_)
      · rw [if_pos c4] at h
        refine lv_iconst (v := 0) hx hb dX4_lay_34 (by decide) ?_
        cases h
        exact hret_z hx hb hr hlocks hw (Or.inl rfl) dX4_lay_35
      · rw [if_neg c4] at h
        refine lv_iload_n hx hb dX4_lay_17 rfl (lv_at hl 2 rfl) ?_
        replace h := hbd h
        obtain ⟨r5, er5, h⟩ := h
        refine hcallS (o := some (.int r5)) hx hb hml hown hts hk [.int p2] [] (kX4_isTray l g er5) gX4_lay_X4_isTray rfl (n := 1) rfl (by decide +kernel) ⟨Nat.le_of_ble_eq_true rfl, Nat.le_of_ble_eq_true rfl⟩ hw hl.1 rfl (Nat.le_of_ble_eq_true rfl) dX4_lay_18 ⟨Nat.le_of_ble_eq_true rfl, Nat.le_of_ble_eq_true rfl⟩ (fun H locs hw => ?_)
        refine W.eq (g2 := F0 m 21 ls [.int r5]) rfl ?_
        refine lv_if_eq (tgt := 36) hx hb dX4_lay_21 (by decide) (fun c6 => ?_) (fun c6 => ?_)
        · rw [if_pos c6] at h
          exact kX4_lay_j36 C _ _ _ _ _ _ h _ _ _ hw (lv_sub hl [0, 1, 2, 3] rfl)
        · rw [if_neg c6] at h
          refine lv_iload_n hx hb dX4_lay_24 rfl (lv_at hl 3 rfl) ?_
          refine lv_if_lt (tgt := 34) hx hb dX4_lay_25 (by decide) (fun c33 => ?_) (fun c33 => ?_)
          · rw [if_pos c33] at h
            refine lv_iconst (v := 0) hx hb dX4_lay_34 (by decide) ?_
            cases h
            exact hret_z hx hb hr hlocks hw (Or.inl rfl) dX4_lay_35
          · rw [if_neg c33] at h
            refine lv_iload_n hx hb dX4_lay_28 rfl (lv_at hl 3 rfl) ?_
            refine lv_bipush (v := 40) hx hb dX4_lay_29 (by decide) ?_
            refine lv_icmp_le (tgt := 36) hx hb dX4_lay_31 (by decide) (fun c34 => ?_) (fun c34 => ?_)
            · rw [if_pos c34] at h
              exact kX4_lay_j36 C _ _ _ _ _ _ h _ _ _ hw (lv_sub hl [0, 1, 2, 3] rfl)
            · rw [if_neg c34] at h
              refine lv_iconst (v := 0) hx hb dX4_lay_34 (by decide) ?_
              cases h
              exact hret_z hx hb hr hlocks hw (Or.inl rfl) dX4_lay_35
theorem iX4_share_X4 : ∀ w ∈ wsX40, w ∈ wsX4_share := by decide +kernel
def fX4_share (f : hPl) (z : Nat) (a : Nat) (p1 : Int32) (p2 : Int32) : Option (Int32 × hPl × Nat) := (fX4_isPlace f  p1).bind fun r1 => (if r1 = 0 then some (0, f, z) else (fX4_isPlace f  p2).bind fun r3 => (if r3 = 0 then some (0, f, z) else (hgQ f a 3 0).bind fun q5 => (hgQ f a 3 0).bind fun q6 => q6.bind fun a7 => (hlI f a7 p1).bind fun x8 => q5.bind fun a9 => (hsI f a9 p2 x8).bind fun f10 => some (1, f10, z)))
set_option maxHeartbeats 4000000 in
set_option maxRecDepth 100000 in
theorem kX4_share (l : Launch) (g : hGb) {f : hPl} {z : Nat} {a : Nat} {p1 : Int32} {p2 : Int32} {r : Int32} {f' : hPl} {z' : Nat} (h : fX4_share f z a p1 p2 = some (r, f', z')) : hCt l g yX4_share wsX4_share 1 0 0 [.ref a, .int p1, .int p2] f z (some (.int r)) f' z' := by
  refine hCt.of (cc := cX4_share) (maxL := 3) (ret := (some .boolean)) (by decide +kernel) rfl (by exact Nat.le_of_ble_eq_true rfl) ?_
  intro p e s m below meth c C hname hw ls hl
  obtain ⟨hx, hb, hml, hown, hts, hr, hlocks, hk⟩ := id C
  have hl : lv_has ls 3 [(0, .ref a), (1, .int p1), (2, .int p2)] := hl
  have hown : s.vm.findClass RX4 = some m.cls := hown
  unfold fX4_share at h
  refine lv_iload_n hx hb dX4_share_0 rfl (lv_at hl 1 rfl) ?_
  replace h := hbd h
  obtain ⟨r1, er1, h⟩ := h
  refine hcallS (o := some (.int r1)) hx hb hml hown hts hk [.int p1] [] (kX4_isPlace l g er1) gX4_share_X4_isPlace rfl (n := 1) rfl (by decide +kernel) ⟨Nat.le_of_ble_eq_true rfl, Nat.le_of_ble_eq_true rfl⟩ hw hl.1 rfl (Nat.le_of_ble_eq_true rfl) dX4_share_1 ⟨Nat.le_of_ble_eq_true rfl, Nat.le_of_ble_eq_true rfl⟩ (fun H locs hw => ?_)
  refine W.eq (g2 := F0 m 4 ls [.int r1]) rfl ?_
  refine lv_if_eq (tgt := 14) hx hb dX4_share_4 (by decide) (fun c2 => ?_) (fun c2 => ?_)
  · rw [if_pos c2] at h
    refine lv_iconst (v := 0) hx hb dX4_share_14 (by decide) ?_
    cases h
    exact hret_z hx hb hr hlocks hw (Or.inl rfl) dX4_share_15
  · rw [if_neg c2] at h
    refine lv_iload_n hx hb dX4_share_7 rfl (lv_at hl 2 rfl) ?_
    replace h := hbd h
    obtain ⟨r3, er3, h⟩ := h
    refine hcallS (o := some (.int r3)) hx hb hml hown hts hk [.int p2] [] (kX4_isPlace l g er3) gX4_share_X4_isPlace rfl (n := 1) rfl (by decide +kernel) ⟨Nat.le_of_ble_eq_true rfl, Nat.le_of_ble_eq_true rfl⟩ hw hl.1 rfl (Nat.le_of_ble_eq_true rfl) dX4_share_8 ⟨Nat.le_of_ble_eq_true rfl, Nat.le_of_ble_eq_true rfl⟩ (fun H locs hw => ?_)
    refine W.eq (g2 := F0 m 11 ls [.int r3]) rfl ?_
    refine lv_if_ne (tgt := 16) hx hb dX4_share_11 (by decide) (fun c4 => ?_) (fun c4 => ?_)
    · rw [if_neg c4] at h
      refine lv_aload_n hx hb dX4_share_16 rfl (lv_at hl 0 rfl) ?_
      replace h := hbd h
      obtain ⟨q5, eq5, h⟩ := h
      refine hr_getQ (C := RX4) (T := TX4) (N := 9) hx hb hts iX4_share_X4 hown hk hw rfl 0 (by decide) (hts (.fieldLink RX4 9 "SetterBenchModel" "lies" "[I") (by decide +kernel)) (fun _ h9 => h9) eq5 dX4_share_17 ?_
      refine lv_iload_n hx hb dX4_share_20 rfl (lv_at hl 2 rfl) ?_
      refine lv_aload_n hx hb dX4_share_21 rfl (lv_at hl 0 rfl) ?_
      replace h := hbd h
      obtain ⟨q6, eq6, h⟩ := h
      refine hr_getQ (C := RX4) (T := TX4) (N := 9) hx hb hts iX4_share_X4 hown hk hw rfl 0 (by decide) (hts (.fieldLink RX4 9 "SetterBenchModel" "lies" "[I") (by decide +kernel)) (fun _ h9 => h9) eq6 dX4_share_22 ?_
      refine lv_iload_n hx hb dX4_share_25 rfl (lv_at hl 1 rfl) ?_
      replace h := hbd h
      obtain ⟨a7, rfl, h⟩ := h
      replace h := hbd h
      obtain ⟨x8, ex8, h⟩ := h
      refine hr_lI hx hb hk hw ex8 dX4_share_26 ?_
      replace h := hbd h
      obtain ⟨a9, rfl, h⟩ := h
      replace h := hbd h
      obtain ⟨f10, ef10, h⟩ := h
      refine hr_sI hx hb hk hw ef10 dX4_share_27 (fun H locs hw => ?_)
      refine lv_iconst (v := 1) hx hb dX4_share_28 (by decide) ?_
      cases h
      exact hret_z hx hb hr hlocks hw (Or.inr rfl) dX4_share_29
    · rw [if_pos c4] at h
      refine lv_iconst (v := 0) hx hb dX4_share_14 (by decide) ?_
      cases h
      exact hret_z hx hb hr hlocks hw (Or.inl rfl) dX4_share_15
theorem iX4_set_X4 : ∀ w ∈ wsX40, w ∈ wsX4_set := by decide +kernel
def fX4_set_j102 (f : hPl) (z : Nat) (a : Nat) (v1 : Int32) (v2 : Int32) (v5 : Int64) : Option (Int32 × hPl × Nat) := (hgQ f a 3 4).bind fun q18 => (hgQ f a 3 0).bind fun q19 => q19.bind fun a20 => (hlI f a20 v1).bind fun x21 => q18.bind fun a22 => (hsJ f a22 ((40 * x21) + v2) v5).bind fun f23 => some (0, f23, z)
set_option maxHeartbeats 4000000 in
set_option maxRecDepth 100000 in
theorem kX4_set_j102 {g : hGb} {p : Program} {l : Launch} {e : Env} {s : State} {m : MethodId} {args : Array Value} {below : List Frame} {meth : Method} {c : Code} {A : Nat → Prop} (C : hX g p s m args meth c RX4 cX4_set 7 wsX4_set (some .int)) {r : Int32} {f' : hPl} {z' : Nat}  : ∀ (f : hPl) (z : Nat) (a : Nat) (v1 : Int32) (v2 : Int32) (v5 : Int64), fX4_set_j102 f z a v1 v2 v5 = some (r, f', z') → ∀ (H : Heap) (locs : List Loc) (ls : Array Slot), hW g A s f z H locs → lv_has ls 7 [(0, .ref a), (1, .int v1), (2, .int v2), (5, .long v5)] → W p l e (hRm 1 0 0) s m args below meth c H locs 0 0 (hZ g A below args s 0 0 (some (.int r)) f' z') (F0 m 102 ls []) := by
  obtain ⟨hx, hb, hml, hown, hts, hr, hlocks, hk⟩ := id C
  intro f z a v1 v2 v5 h H locs ls hw hl
  unfold fX4_set_j102 at h
  refine lv_aload_n hx hb dX4_set_102 rfl (lv_at hl 0 rfl) ?_
  replace h := hbd h
  obtain ⟨q18, eq18, h⟩ := h
  refine hr_getQ (C := RX4) (T := TX4) (N := 9) hx hb hts iX4_set_X4 hown hk hw rfl 4 (by decide) (hts (.fieldLink RX4 22 "SetterBenchModel" "members" "[J") (by decide +kernel)) (fun _ h9 => h9) eq18 dX4_set_103 ?_
  refine lv_bipush (v := 40) hx hb dX4_set_106 (by decide) ?_
  refine lv_aload_n hx hb dX4_set_108 rfl (lv_at hl 0 rfl) ?_
  replace h := hbd h
  obtain ⟨q19, eq19, h⟩ := h
  refine hr_getQ (C := RX4) (T := TX4) (N := 9) hx hb hts iX4_set_X4 hown hk hw rfl 0 (by decide) (hts (.fieldLink RX4 9 "SetterBenchModel" "lies" "[I") (by decide +kernel)) (fun _ h9 => h9) eq19 dX4_set_109 ?_
  refine lv_iload_n hx hb dX4_set_112 rfl (lv_at hl 1 rfl) ?_
  replace h := hbd h
  obtain ⟨a20, rfl, h⟩ := h
  replace h := hbd h
  obtain ⟨x21, ex21, h⟩ := h
  refine hr_lI hx hb hk hw ex21 dX4_set_113 ?_
  refine lv_imul hx hb dX4_set_114 ?_
  refine lv_iload_n hx hb dX4_set_115 rfl (lv_at hl 2 rfl) ?_
  refine lv_iadd hx hb dX4_set_116 ?_
  refine lv_lload hx hb dX4_set_117 (lv_at hl 3 rfl) ?_
  replace h := hbd h
  obtain ⟨a22, rfl, h⟩ := h
  replace h := hbd h
  obtain ⟨f23, ef23, h⟩ := h
  refine hr_sJ hx hb hk hw ef23 dX4_set_119 (fun H locs hw => ?_)
  refine lv_iconst (v := 0) hx hb dX4_set_120 (by decide) ?_
  cases h
  exact hret_i hx hb hr hlocks hw dX4_set_121
def fX4_set_j90 (f : hPl) (z : Nat) (a : Nat) (v1 : Int32) (v2 : Int32) (v3 : Int32) (v4 : Int32) (v5 : Int64) : Option (Int32 × hPl × Nat) := (if v4 = 5 then fX4_set_j102 f z a v1 v2 ((v3 &&& 1).toInt64) else fX4_set_j102 f z a v1 v2 v5)
set_option maxHeartbeats 4000000 in
set_option maxRecDepth 100000 in
theorem kX4_set_j90 {g : hGb} {p : Program} {l : Launch} {e : Env} {s : State} {m : MethodId} {args : Array Value} {below : List Frame} {meth : Method} {c : Code} {A : Nat → Prop} (C : hX g p s m args meth c RX4 cX4_set 7 wsX4_set (some .int)) {r : Int32} {f' : hPl} {z' : Nat}  : ∀ (f : hPl) (z : Nat) (a : Nat) (v1 : Int32) (v2 : Int32) (v3 : Int32) (v4 : Int32) (v5 : Int64), fX4_set_j90 f z a v1 v2 v3 v4 v5 = some (r, f', z') → ∀ (H : Heap) (locs : List Loc) (ls : Array Slot), hW g A s f z H locs → lv_has ls 7 [(0, .ref a), (1, .int v1), (2, .int v2), (3, .int v3), (4, .int v4), (5, .long v5)] → W p l e (hRm 1 0 0) s m args below meth c H locs 0 0 (hZ g A below args s 0 0 (some (.int r)) f' z') (F0 m 90 ls []) := by
  obtain ⟨hx, hb, hml, hown, hts, hr, hlocks, hk⟩ := id C
  intro f z a v1 v2 v3 v4 v5 h H locs ls hw hl
  unfold fX4_set_j90 at h
  refine lv_iload hx hb dX4_set_90 (lv_at hl 4 rfl) ?_
  refine lv_iconst (v := 5) hx hb dX4_set_92 (by decide) ?_
  refine lv_icmp_ne (tgt := 102) hx hb dX4_set_93 (by decide) (fun c17 => ?_) (fun c17 => ?_)
  · rw [if_neg c17] at h
    exact kX4_set_j102 C _ _ _ _ _ _ h _ _ _ hw (lv_sub hl [0, 1, 2, 5] rfl)
  · rw [if_pos c17] at h
    refine lv_iload_n hx hb dX4_set_96 rfl (lv_at hl 3 rfl) ?_
    refine lv_iconst (v := 1) hx hb dX4_set_97 (by decide) ?_
    refine lv_iand hx hb dX4_set_98 ?_
    refine lv_i2l hx hb dX4_set_99 rfl ?_
    refine lv_lstore (lv' := [(5, .long ((v3 &&& 1).toInt64)), (0, .ref a), (1, .int v1), (2, .int v2), (3, .int v3), (4, .int v4)]) hx hb dX4_set_100 hl (by decide) rfl (fun ls hl => ?_)
    exact kX4_set_j102 C _ _ _ _ _ _ h _ _ _ hw (lv_sub hl [1, 2, 3, 0] rfl)
def fX4_set_j71 (f : hPl) (z : Nat) (a : Nat) (v1 : Int32) (v2 : Int32) (v3 : Int32) (v4 : Int32) (v5 : Int64) : Option (Int32 × hPl × Nat) := (if v4 = 4 then fX4_set_j90 f z a v1 v2 v3 v4 (((v3 &&& 127) - (v3 &&& 128)).toInt64) else fX4_set_j90 f z a v1 v2 v3 v4 v5)
set_option maxHeartbeats 4000000 in
set_option maxRecDepth 100000 in
theorem kX4_set_j71 {g : hGb} {p : Program} {l : Launch} {e : Env} {s : State} {m : MethodId} {args : Array Value} {below : List Frame} {meth : Method} {c : Code} {A : Nat → Prop} (C : hX g p s m args meth c RX4 cX4_set 7 wsX4_set (some .int)) {r : Int32} {f' : hPl} {z' : Nat}  : ∀ (f : hPl) (z : Nat) (a : Nat) (v1 : Int32) (v2 : Int32) (v3 : Int32) (v4 : Int32) (v5 : Int64), fX4_set_j71 f z a v1 v2 v3 v4 v5 = some (r, f', z') → ∀ (H : Heap) (locs : List Loc) (ls : Array Slot), hW g A s f z H locs → lv_has ls 7 [(0, .ref a), (1, .int v1), (2, .int v2), (3, .int v3), (4, .int v4), (5, .long v5)] → W p l e (hRm 1 0 0) s m args below meth c H locs 0 0 (hZ g A below args s 0 0 (some (.int r)) f' z') (F0 m 71 ls []) := by
  obtain ⟨hx, hb, hml, hown, hts, hr, hlocks, hk⟩ := id C
  intro f z a v1 v2 v3 v4 v5 h H locs ls hw hl
  unfold fX4_set_j71 at h
  refine lv_iload hx hb dX4_set_71 (lv_at hl 4 rfl) ?_
  refine lv_iconst (v := 4) hx hb dX4_set_73 (by decide) ?_
  refine lv_icmp_ne (tgt := 90) hx hb dX4_set_74 (by decide) (fun c16 => ?_) (fun c16 => ?_)
  · rw [if_neg c16] at h
    exact kX4_set_j90 C _ _ _ _ _ _ _ _ h _ _ _ hw (lv_sub hl [0, 1, 2, 3, 4, 5] rfl)
  · rw [if_pos c16] at h
    refine lv_iload_n hx hb dX4_set_77 rfl (lv_at hl 3 rfl) ?_
    refine lv_bipush (v := 127) hx hb dX4_set_78 (by decide) ?_
    refine lv_iand hx hb dX4_set_80 ?_
    refine lv_iload_n hx hb dX4_set_81 rfl (lv_at hl 3 rfl) ?_
    refine lv_sipush (v := 128) hx hb dX4_set_82 (by decide) ?_
    refine lv_iand hx hb dX4_set_85 ?_
    refine lv_isub hx hb dX4_set_86 ?_
    refine lv_i2l hx hb dX4_set_87 rfl ?_
    refine lv_lstore (lv' := [(5, .long (((v3 &&& 127) - (v3 &&& 128)).toInt64)), (0, .ref a), (1, .int v1), (2, .int v2), (3, .int v3), (4, .int v4)]) hx hb dX4_set_88 hl (by decide) rfl (fun ls hl => ?_)
    exact kX4_set_j90 C _ _ _ _ _ _ _ _ h _ _ _ hw (lv_sub hl [1, 2, 3, 4, 5, 0] rfl)
def fX4_set (f : hPl) (z : Nat) (a : Nat) (p1 : Int32) (p2 : Int32) (p3 : Int32) : Option (Int32 × hPl × Nat) := (fX4_isPlace f  p1).bind fun r1 => (if r1 = 0 then some ((-1), f, z) else (hgQ f a 3 0).bind fun q3 => q3.bind fun a4 => (hlI f a4 p1).bind fun x5 => (if x5 = (-1) then some (1, f, z) else (hob f a 3).bind fun u7 => (fX4_sortOn f a p1).bind fun r8 => (fX4_isOfNumbers f  r8).bind fun r9 => (if r9 = 0 then some (2, f, z) else (if p2 < 0 then some (3, f, z) else (hob f a 3).bind fun u12 => (fX4_manyOn f a p1).bind fun r13 => (if p2 < r13 then (if r8 = 3 then fX4_set_j71 f z a p1 p2 p3 r8 ((p3.toInt64) * (1000003 : Int64)) else fX4_set_j71 f z a p1 p2 p3 r8 (p3.toInt64)) else some (3, f, z))))))
set_option maxHeartbeats 4000000 in
set_option maxRecDepth 100000 in
theorem kX4_set (l : Launch) (g : hGb) {f : hPl} {z : Nat} {a : Nat} {p1 : Int32} {p2 : Int32} {p3 : Int32} {r : Int32} {f' : hPl} {z' : Nat} (h : fX4_set f z a p1 p2 p3 = some (r, f', z')) : hCt l g yX4_set wsX4_set 1 0 0 [.ref a, .int p1, .int p2, .int p3] f z (some (.int r)) f' z' := by
  refine hCt.of (cc := cX4_set) (maxL := 7) (ret := (some .int)) (by decide +kernel) rfl (by exact Nat.le_of_ble_eq_true rfl) ?_
  intro p e s m below meth c C hname hw ls hl
  obtain ⟨hx, hb, hml, hown, hts, hr, hlocks, hk⟩ := id C
  have hl : lv_has ls 7 [(0, .ref a), (1, .int p1), (2, .int p2), (3, .int p3)] := hl
  have hown : s.vm.findClass RX4 = some m.cls := hown
  unfold fX4_set at h
  refine lv_iload_n hx hb dX4_set_0 rfl (lv_at hl 1 rfl) ?_
  replace h := hbd h
  obtain ⟨r1, er1, h⟩ := h
  refine hcallS (o := some (.int r1)) hx hb hml hown hts hk [.int p1] [] (kX4_isPlace l g er1) gX4_set_X4_isPlace rfl (n := 1) rfl (by decide +kernel) ⟨Nat.le_of_ble_eq_true rfl, Nat.le_of_ble_eq_true rfl⟩ hw hl.1 rfl (Nat.le_of_ble_eq_true rfl) dX4_set_1 ⟨Nat.le_of_ble_eq_true rfl, Nat.le_of_ble_eq_true rfl⟩ (fun H locs hw => ?_)
  refine W.eq (g2 := F0 m 4 ls [.int r1]) rfl ?_
  refine lv_if_ne (tgt := 9) hx hb dX4_set_4 (by decide) (fun c2 => ?_) (fun c2 => ?_)
  · rw [if_neg c2] at h
    refine lv_aload_n hx hb dX4_set_9 rfl (lv_at hl 0 rfl) ?_
    replace h := hbd h
    obtain ⟨q3, eq3, h⟩ := h
    refine hr_getQ (C := RX4) (T := TX4) (N := 9) hx hb hts iX4_set_X4 hown hk hw rfl 0 (by decide) (hts (.fieldLink RX4 9 "SetterBenchModel" "lies" "[I") (by decide +kernel)) (fun _ h9 => h9) eq3 dX4_set_10 ?_
    refine lv_iload_n hx hb dX4_set_13 rfl (lv_at hl 1 rfl) ?_
    replace h := hbd h
    obtain ⟨a4, rfl, h⟩ := h
    replace h := hbd h
    obtain ⟨x5, ex5, h⟩ := h
    refine hr_lI hx hb hk hw ex5 dX4_set_14 ?_
    refine lv_iconst (v := (-1)) hx hb dX4_set_15 (by decide) ?_
    refine lv_icmp_ne (tgt := 21) hx hb dX4_set_16 (by decide) (fun c6 => ?_) (fun c6 => ?_)
    · rw [if_neg c6] at h
      refine lv_aload_n hx hb dX4_set_21 rfl (lv_at hl 0 rfl) ?_
      refine lv_iload_n hx hb dX4_set_22 rfl (lv_at hl 1 rfl) ?_
      replace h := hbd h
      obtain ⟨u7, eu7, h⟩ := h
      replace h := hbd h
      obtain ⟨r8, er8, h⟩ := h
      refine hcallV (o := some (.int r8)) hx hb hml hown hts hk [.int p1] [] (kX4_sortOn l g er8) gX4_set_X4_sortOn rfl (n := 1) rfl (by decide +kernel) ⟨Nat.le_of_ble_eq_true rfl, Nat.le_of_ble_eq_true rfl⟩ (ci := 3) rfl eu7 hw hl.1 rfl (Nat.le_of_ble_eq_true rfl) dX4_set_23 ⟨Nat.le_of_ble_eq_true rfl, Nat.le_of_ble_eq_true rfl⟩ (fun H locs hw => ?_)
      refine W.eq (g2 := F0 m 26 ls [.int r8]) rfl ?_
      refine lv_istore (lv' := [(4, .int r8), (0, .ref a), (1, .int p1), (2, .int p2), (3, .int p3)]) hx hb dX4_set_26 hl (by decide) rfl (fun ls hl => ?_)
      refine lv_iload hx hb dX4_set_28 (lv_at hl 0 rfl) ?_
      replace h := hbd h
      obtain ⟨r9, er9, h⟩ := h
      refine hcallS (o := some (.int r9)) hx hb hml hown hts hk [.int r8] [] (kX4_isOfNumbers l g er9) gX4_set_X4_isOfNumbers rfl (n := 1) rfl (by decide +kernel) ⟨Nat.le_of_ble_eq_true rfl, Nat.le_of_ble_eq_true rfl⟩ hw hl.1 rfl (Nat.le_of_ble_eq_true rfl) dX4_set_30 ⟨Nat.le_of_ble_eq_true rfl, Nat.le_of_ble_eq_true rfl⟩ (fun H locs hw => ?_)
      refine W.eq (g2 := F0 m 33 ls [.int r9]) rfl ?_
      refine lv_if_ne (tgt := 38) hx hb dX4_set_33 (by decide) (fun c10 => ?_) (fun c10 => ?_)
      · rw [if_neg c10] at h
        refine lv_iload_n hx hb dX4_set_38 rfl (lv_at hl 3 rfl) ?_
        refine lv_if_lt (tgt := 51) hx hb dX4_set_39 (by decide) (fun c11 => ?_) (fun c11 => ?_)
        · rw [if_pos c11] at h
          refine lv_iconst (v := 3) hx hb dX4_set_51 (by decide) ?_
          cases h
          exact hret_i hx hb hr hlocks hw dX4_set_52
        · rw [if_neg c11] at h
          refine lv_iload_n hx hb dX4_set_42 rfl (lv_at hl 3 rfl) ?_
          refine lv_aload_n hx hb dX4_set_43 rfl (lv_at hl 1 rfl) ?_
          refine lv_iload_n hx hb dX4_set_44 rfl (lv_at hl 2 rfl) ?_
          replace h := hbd h
          obtain ⟨u12, eu12, h⟩ := h
          replace h := hbd h
          obtain ⟨r13, er13, h⟩ := h
          refine hcallV (o := some (.int r13)) hx hb hml hown hts hk [.int p1] [.int p2] (kX4_manyOn l g er13) gX4_set_X4_manyOn rfl (n := 1) rfl (by decide +kernel) ⟨Nat.le_of_ble_eq_true rfl, Nat.le_of_ble_eq_true rfl⟩ (ci := 3) rfl eu12 hw hl.1 rfl (Nat.le_of_ble_eq_true rfl) dX4_set_45 ⟨Nat.le_of_ble_eq_true rfl, Nat.le_of_ble_eq_true rfl⟩ (fun H locs hw => ?_)
          refine W.eq (g2 := F0 m 48 ls [.int r13, .int p2]) rfl ?_
          refine lv_icmp_lt (tgt := 53) hx hb dX4_set_48 (by decide) (fun c14 => ?_) (fun c14 => ?_)
          · rw [if_pos c14] at h
            refine lv_iload_n hx hb dX4_set_53 rfl (lv_at hl 4 rfl) ?_
            refine lv_i2l hx hb dX4_set_54 rfl ?_
            refine lv_lstore (lv' := [(5, .long (p3.toInt64)), (4, .int r8), (0, .ref a), (1, .int p1), (2, .int p2), (3, .int p3)]) hx hb dX4_set_55 hl (by decide) rfl (fun ls hl => ?_)
            refine lv_iload hx hb dX4_set_57 (lv_at hl 1 rfl) ?_
            refine lv_iconst (v := 3) hx hb dX4_set_59 (by decide) ?_
            refine lv_icmp_ne (tgt := 71) hx hb dX4_set_60 (by decide) (fun c15 => ?_) (fun c15 => ?_)
            · rw [if_neg c15] at h
              exact kX4_set_j71 C _ _ _ _ _ _ _ _ h _ _ _ hw (lv_sub hl [2, 3, 4, 5, 1, 0] rfl)
            · rw [if_pos c15] at h
              refine lv_iload_n hx hb dX4_set_63 rfl (lv_at hl 5 rfl) ?_
              refine lv_i2l hx hb dX4_set_64 rfl ?_
              refine lv_ldc2 (v := (1000003)) hx hb hown (hts (.constantLong RX4 59 (1000003)) (by decide +kernel)) dX4_set_65 ?_
              refine lv_lmul hx hb dX4_set_68 ?_
              refine lv_lstore (lv' := [(5, .long ((p3.toInt64) * (1000003 : Int64))), (4, .int r8), (0, .ref a), (1, .int p1), (2, .int p2), (3, .int p3)]) hx hb dX4_set_69 hl (by decide) rfl (fun ls hl => ?_)
              exact kX4_set_j71 C _ _ _ _ _ _ _ _ h _ _ _ hw (lv_sub hl [2, 3, 4, 5, 1, 0] rfl)
          · rw [if_neg c14] at h
            refine lv_iconst (v := 3) hx hb dX4_set_51 (by decide) ?_
            cases h
            exact hret_i hx hb hr hlocks hw dX4_set_52
      · rw [if_pos c10] at h
        refine lv_iconst (v := 2) hx hb dX4_set_36 (by decide) ?_
        cases h
        exact hret_i hx hb hr hlocks hw dX4_set_37
    · rw [if_pos c6] at h
      refine lv_iconst (v := 1) hx hb dX4_set_19 (by decide) ?_
      cases h
      exact hret_i hx hb hr hlocks hw dX4_set_20
  · rw [if_pos c2] at h
    refine lv_iconst (v := (-1)) hx hb dX4_set_7 (by decide) ?_
    cases h
    exact hret_i hx hb hr hlocks hw dX4_set_8
def fX4_takes (f : hPl) (p1 : Int32) (p2 : Int64) : Option Int32 := (if ((p2 - p2 / (10 : Int64) * (10 : Int64)).toInt32) = 0 then some 1 else (if p1 = 6 then some 1 else (if p1 = 7 then (if ((p2 - p2 / (10 : Int64) * (10 : Int64)).toInt32) = 2 then some 1 else (if ((p2 - p2 / (10 : Int64) * (10 : Int64)).toInt32) = 3 then some 1 else some 0)) else (if p1 = 8 then (if ((p2 - p2 / (10 : Int64) * (10 : Int64)).toInt32) = 3 then some 1 else some 0) else (if p1 = 9 then (if ((p2 - p2 / (10 : Int64) * (10 : Int64)).toInt32) = 4 then some 1 else some 0) else (if ((p2 - p2 / (10 : Int64) * (10 : Int64)).toInt32) = 3 then some 1 else (if ((p2 - p2 / (10 : Int64) * (10 : Int64)).toInt32) = 4 then some 1 else some 0)))))))
set_option maxHeartbeats 4000000 in
set_option maxRecDepth 100000 in
theorem kX4_takes (l : Launch) (g : hGb) {f : hPl} {z : Nat} {p1 : Int32} {p2 : Int64} {r : Int32} (h : fX4_takes f p1 p2 = some r) : hCt l g yX4_takes wsX4_takes 0 0 0 [.int p1, .long p2] f z (some (.int r)) f z := by
  refine hCt.of (cc := cX4_takes) (maxL := 4) (ret := (some .boolean)) (by decide +kernel) rfl (by exact Nat.le_of_ble_eq_true rfl) ?_
  intro p e s m below meth c C hname hw ls hl
  obtain ⟨hx, hb, hml, hown, hts, hr, hlocks, hk⟩ := id C
  have hl : lv_has ls 4 [(0, .int p1), (1, .long p2)] := hl
  have hown : s.vm.findClass RX4 = some m.cls := hown
  unfold fX4_takes at h
  refine lv_lload_n hx hb dX4_takes_0 rfl (lv_at hl 1 rfl) ?_
  refine lv_ldc2 (v := (10)) hx hb hown (hts (.constantLong RX4 61 (10)) (by decide +kernel)) dX4_takes_1 ?_
  refine lv_lrem hx hb dX4_takes_4 (by decide) ?_
  refine lv_l2i hx hb dX4_takes_5 rfl ?_
  refine lv_istore_n (lv' := [(3, .int ((p2 - p2 / (10 : Int64) * (10 : Int64)).toInt32)), (0, .int p1), (1, .long p2)]) hx hb dX4_takes_6 rfl hl (by decide) rfl (fun ls hl => ?_)
  refine lv_iload_n hx hb dX4_takes_7 rfl (lv_at hl 0 rfl) ?_
  refine lv_if_eq (tgt := 17) hx hb dX4_takes_8 (by decide) (fun c1 => ?_) (fun c1 => ?_)
  · rw [if_pos c1] at h
    refine lv_iconst (v := 1) hx hb dX4_takes_17 (by decide) ?_
    cases h
    exact hret_z hx hb hr hlocks hw (Or.inr rfl) dX4_takes_18
  · rw [if_neg c1] at h
    refine lv_iload_n hx hb dX4_takes_11 rfl (lv_at hl 1 rfl) ?_
    refine lv_bipush (v := 6) hx hb dX4_takes_12 (by decide) ?_
    refine lv_icmp_ne (tgt := 19) hx hb dX4_takes_14 (by decide) (fun c2 => ?_) (fun c2 => ?_)
    · rw [if_neg c2] at h
      refine lv_iload_n hx hb dX4_takes_19 rfl (lv_at hl 1 rfl) ?_
      refine lv_bipush (v := 7) hx hb dX4_takes_20 (by decide) ?_
      refine lv_icmp_ne (tgt := 41) hx hb dX4_takes_22 (by decide) (fun c3 => ?_) (fun c3 => ?_)
      · rw [if_neg c3] at h
        refine lv_iload_n hx hb dX4_takes_41 rfl (lv_at hl 1 rfl) ?_
        refine lv_bipush (v := 8) hx hb dX4_takes_42 (by decide) ?_
        refine lv_icmp_ne (tgt := 58) hx hb dX4_takes_44 (by decide) (fun c4 => ?_) (fun c4 => ?_)
        · rw [if_neg c4] at h
          refine lv_iload_n hx hb dX4_takes_58 rfl (lv_at hl 1 rfl) ?_
          refine lv_bipush (v := 9) hx hb dX4_takes_59 (by decide) ?_
          refine lv_icmp_ne (tgt := 75) hx hb dX4_takes_61 (by decide) (fun c5 => ?_) (fun c5 => ?_)
          · rw [if_neg c5] at h
            refine lv_iload_n hx hb dX4_takes_75 rfl (lv_at hl 0 rfl) ?_
            refine lv_iconst (v := 3) hx hb dX4_takes_76 (by decide) ?_
            refine lv_icmp_eq (tgt := 85) hx hb dX4_takes_77 (by decide) (fun c6 => ?_) (fun c6 => ?_)
            · rw [if_pos c6] at h
              refine lv_iconst (v := 1) hx hb dX4_takes_85 (by decide) ?_
              refine lv_goto (tgt := 90) hx hb dX4_takes_86 (by decide) ?_
              cases h
              exact hret_z hx hb hr hlocks hw (Or.inr rfl) dX4_takes_90
            · rw [if_neg c6] at h
              refine lv_iload_n hx hb dX4_takes_80 rfl (lv_at hl 0 rfl) ?_
              refine lv_iconst (v := 4) hx hb dX4_takes_81 (by decide) ?_
              refine lv_icmp_ne (tgt := 89) hx hb dX4_takes_82 (by decide) (fun c7 => ?_) (fun c7 => ?_)
              · rw [if_neg c7] at h
                refine lv_iconst (v := 0) hx hb dX4_takes_89 (by decide) ?_
                cases h
                exact hret_z hx hb hr hlocks hw (Or.inl rfl) dX4_takes_90
              · rw [if_pos c7] at h
                refine lv_iconst (v := 1) hx hb dX4_takes_85 (by decide) ?_
                refine lv_goto (tgt := 90) hx hb dX4_takes_86 (by decide) ?_
                cases h
                exact hret_z hx hb hr hlocks hw (Or.inr rfl) dX4_takes_90
          · rw [if_pos c5] at h
            refine lv_iload_n hx hb dX4_takes_64 rfl (lv_at hl 0 rfl) ?_
            refine lv_iconst (v := 4) hx hb dX4_takes_65 (by decide) ?_
            refine lv_icmp_ne (tgt := 73) hx hb dX4_takes_66 (by decide) (fun c8 => ?_) (fun c8 => ?_)
            · rw [if_neg c8] at h
              refine lv_iconst (v := 0) hx hb dX4_takes_73 (by decide) ?_
              cases h
              exact hret_z hx hb hr hlocks hw (Or.inl rfl) dX4_takes_74
            · rw [if_pos c8] at h
              refine lv_iconst (v := 1) hx hb dX4_takes_69 (by decide) ?_
              refine lv_goto (tgt := 74) hx hb dX4_takes_70 (by decide) ?_
              cases h
              exact hret_z hx hb hr hlocks hw (Or.inr rfl) dX4_takes_74
        · rw [if_pos c4] at h
          refine lv_iload_n hx hb dX4_takes_47 rfl (lv_at hl 0 rfl) ?_
          refine lv_iconst (v := 3) hx hb dX4_takes_48 (by decide) ?_
          refine lv_icmp_ne (tgt := 56) hx hb dX4_takes_49 (by decide) (fun c9 => ?_) (fun c9 => ?_)
          · rw [if_neg c9] at h
            refine lv_iconst (v := 0) hx hb dX4_takes_56 (by decide) ?_
            cases h
            exact hret_z hx hb hr hlocks hw (Or.inl rfl) dX4_takes_57
          · rw [if_pos c9] at h
            refine lv_iconst (v := 1) hx hb dX4_takes_52 (by decide) ?_
            refine lv_goto (tgt := 57) hx hb dX4_takes_53 (by decide) ?_
            cases h
            exact hret_z hx hb hr hlocks hw (Or.inr rfl) dX4_takes_57
      · rw [if_pos c3] at h
        refine lv_iload_n hx hb dX4_takes_25 rfl (lv_at hl 0 rfl) ?_
        refine lv_iconst (v := 2) hx hb dX4_takes_26 (by decide) ?_
        refine lv_icmp_eq (tgt := 35) hx hb dX4_takes_27 (by decide) (fun c10 => ?_) (fun c10 => ?_)
        · rw [if_pos c10] at h
          refine lv_iconst (v := 1) hx hb dX4_takes_35 (by decide) ?_
          refine lv_goto (tgt := 40) hx hb dX4_takes_36 (by decide) ?_
          cases h
          exact hret_z hx hb hr hlocks hw (Or.inr rfl) dX4_takes_40
        · rw [if_neg c10] at h
          refine lv_iload_n hx hb dX4_takes_30 rfl (lv_at hl 0 rfl) ?_
          refine lv_iconst (v := 3) hx hb dX4_takes_31 (by decide) ?_
          refine lv_icmp_ne (tgt := 39) hx hb dX4_takes_32 (by decide) (fun c11 => ?_) (fun c11 => ?_)
          · rw [if_neg c11] at h
            refine lv_iconst (v := 0) hx hb dX4_takes_39 (by decide) ?_
            cases h
            exact hret_z hx hb hr hlocks hw (Or.inl rfl) dX4_takes_40
          · rw [if_pos c11] at h
            refine lv_iconst (v := 1) hx hb dX4_takes_35 (by decide) ?_
            refine lv_goto (tgt := 40) hx hb dX4_takes_36 (by decide) ?_
            cases h
            exact hret_z hx hb hr hlocks hw (Or.inr rfl) dX4_takes_40
    · rw [if_pos c2] at h
      refine lv_iconst (v := 1) hx hb dX4_takes_17 (by decide) ?_
      cases h
      exact hret_z hx hb hr hlocks hw (Or.inr rfl) dX4_takes_18
def fX4_refusal_j127 (f : hPl) (s0 : Int32) : Option Int32 := (if s0 = 0 then some 0 else some 3)
set_option maxHeartbeats 4000000 in
set_option maxRecDepth 100000 in
theorem kX4_refusal_j127 {g : hGb} {p : Program} {l : Launch} {e : Env} {s : State} {m : MethodId} {args : Array Value} {below : List Frame} {meth : Method} {c : Code} {A : Nat → Prop} (C : hX g p s m args meth c RX4 cX4_refusal 9 wsX4_refusal (some .int)) {f : hPl} {z : Nat} {r : Int32}  : ∀ (s0 : Int32), fX4_refusal_j127 f s0 = some r → ∀ (H : Heap) (locs : List Loc) (ls : Array Slot), hW g A s f z H locs → lv_has ls 9 [] → W p l e (hRm 1 0 0) s m args below meth c H locs 0 0 (hZ g A below args s 0 0 (some (.int r)) f z) (F0 m 127 ls [.int s0]) := by
  obtain ⟨hx, hb, hml, hown, hts, hr, hlocks, hk⟩ := id C
  intro s0 h H locs ls hw hl
  unfold fX4_refusal_j127 at h
  refine lv_istore (lv' := [(8, .int s0)]) hx hb dX4_refusal_127 hl (by decide) rfl (fun ls hl => ?_)
  refine lv_iload hx hb dX4_refusal_129 (lv_at hl 0 rfl) ?_
  refine lv_if_eq (tgt := 138) hx hb dX4_refusal_131 (by decide) (fun c10 => ?_) (fun c10 => ?_)
  · rw [if_pos c10] at h
    refine lv_iconst (v := 0) hx hb dX4_refusal_138 (by decide) ?_
    cases h
    exact hret_i hx hb hr hlocks hw dX4_refusal_139
  · rw [if_neg c10] at h
    refine lv_iconst (v := 3) hx hb dX4_refusal_134 (by decide) ?_
    refine lv_goto (tgt := 139) hx hb dX4_refusal_135 (by decide) ?_
    cases h
    exact hret_i hx hb hr hlocks hw dX4_refusal_139
def fX4_refusal_j98 (f : hPl) (v4 : Int32) (v5 : Int32) (v6 : Int32) (s0 : Int32) : Option Int32 := (if s0 = 0 then (if v4 < v6 then fX4_refusal_j127 f 1 else (if v5 ≤ (v4 - v6) then fX4_refusal_j127 f 0 else fX4_refusal_j127 f 1)) else fX4_refusal_j127 f 1)
set_option maxHeartbeats 4000000 in
set_option maxRecDepth 100000 in
theorem kX4_refusal_j98 {g : hGb} {p : Program} {l : Launch} {e : Env} {s : State} {m : MethodId} {args : Array Value} {below : List Frame} {meth : Method} {c : Code} {A : Nat → Prop} (C : hX g p s m args meth c RX4 cX4_refusal 9 wsX4_refusal (some .int)) {f : hPl} {z : Nat} {r : Int32}  : ∀ (v4 : Int32) (v5 : Int32) (v6 : Int32) (s0 : Int32), fX4_refusal_j98 f v4 v5 v6 s0 = some r → ∀ (H : Heap) (locs : List Loc) (ls : Array Slot), hW g A s f z H locs → lv_has ls 9 [(4, .int v4), (5, .int v5), (6, .int v6)] → W p l e (hRm 1 0 0) s m args below meth c H locs 0 0 (hZ g A below args s 0 0 (some (.int r)) f z) (F0 m 98 ls [.int s0]) := by
  obtain ⟨hx, hb, hml, hown, hts, hr, hlocks, hk⟩ := id C
  intro v4 v5 v6 s0 h H locs ls hw hl
  unfold fX4_refusal_j98 at h
  refine lv_istore (lv' := [(8, .int s0), (4, .int v4), (5, .int v5), (6, .int v6)]) hx hb dX4_refusal_98 hl (by decide) rfl (fun ls hl => ?_)
  refine lv_iload hx hb dX4_refusal_100 (lv_at hl 0 rfl) ?_
  refine lv_if_ne (tgt := 122) hx hb dX4_refusal_102 (by decide) (fun c9 => ?_) (fun c9 => ?_)
  · rw [if_neg c9] at h
    refine lv_iconst (v := 1) hx hb dX4_refusal_122 (by decide) ?_
    refine lv_goto (tgt := 127) hx hb dX4_refusal_123 (by decide) ?_
    exact kX4_refusal_j127 C _ h _ _ _ hw (lv_sub hl [] rfl)
  · rw [if_pos c9] at h
    refine lv_iload hx hb dX4_refusal_105 (lv_at hl 3 rfl) ?_
    refine lv_iload hx hb dX4_refusal_107 (lv_at hl 1 rfl) ?_
    refine lv_icmp_gt (tgt := 122) hx hb dX4_refusal_109 (by decide) (fun c11 => ?_) (fun c11 => ?_)
    · rw [if_pos c11] at h
      refine lv_iconst (v := 1) hx hb dX4_refusal_122 (by decide) ?_
      refine lv_goto (tgt := 127) hx hb dX4_refusal_123 (by decide) ?_
      exact kX4_refusal_j127 C _ h _ _ _ hw (lv_sub hl [] rfl)
    · rw [if_neg c11] at h
      refine lv_iload hx hb dX4_refusal_112 (lv_at hl 2 rfl) ?_
      refine lv_iload hx hb dX4_refusal_114 (lv_at hl 1 rfl) ?_
      refine lv_iload hx hb dX4_refusal_116 (lv_at hl 3 rfl) ?_
      refine lv_isub hx hb dX4_refusal_118 ?_
      refine lv_icmp_le (tgt := 126) hx hb dX4_refusal_119 (by decide) (fun c12 => ?_) (fun c12 => ?_)
      · rw [if_pos c12] at h
        refine lv_iconst (v := 0) hx hb dX4_refusal_126 (by decide) ?_
        exact kX4_refusal_j127 C _ h _ _ _ hw (lv_sub hl [] rfl)
      · rw [if_neg c12] at h
        refine lv_iconst (v := 1) hx hb dX4_refusal_122 (by decide) ?_
        refine lv_goto (tgt := 127) hx hb dX4_refusal_123 (by decide) ?_
        exact kX4_refusal_j127 C _ h _ _ _ hw (lv_sub hl [] rfl)
def fX4_refusal_j72 (f : hPl) (v1 : Int32) (v2 : Int32) (v4 : Int32) (v5 : Int32) (v6 : Int32) (s0 : Int32) : Option Int32 := (if s0 = 0 then (if v1 < v6 then fX4_refusal_j98 f v4 v5 v6 1 else (if v2 ≤ (v1 - v6) then fX4_refusal_j98 f v4 v5 v6 0 else fX4_refusal_j98 f v4 v5 v6 1)) else fX4_refusal_j98 f v4 v5 v6 1)
set_option maxHeartbeats 4000000 in
set_option maxRecDepth 100000 in
theorem kX4_refusal_j72 {g : hGb} {p : Program} {l : Launch} {e : Env} {s : State} {m : MethodId} {args : Array Value} {below : List Frame} {meth : Method} {c : Code} {A : Nat → Prop} (C : hX g p s m args meth c RX4 cX4_refusal 9 wsX4_refusal (some .int)) {f : hPl} {z : Nat} {r : Int32}  : ∀ (v1 : Int32) (v2 : Int32) (v4 : Int32) (v5 : Int32) (v6 : Int32) (s0 : Int32), fX4_refusal_j72 f v1 v2 v4 v5 v6 s0 = some r → ∀ (H : Heap) (locs : List Loc) (ls : Array Slot), hW g A s f z H locs → lv_has ls 9 [(1, .int v1), (2, .int v2), (4, .int v4), (5, .int v5), (6, .int v6)] → W p l e (hRm 1 0 0) s m args below meth c H locs 0 0 (hZ g A below args s 0 0 (some (.int r)) f z) (F0 m 72 ls [.int s0]) := by
  obtain ⟨hx, hb, hml, hown, hts, hr, hlocks, hk⟩ := id C
  intro v1 v2 v4 v5 v6 s0 h H locs ls hw hl
  unfold fX4_refusal_j72 at h
  refine lv_istore (lv' := [(8, .int s0), (1, .int v1), (2, .int v2), (4, .int v4), (5, .int v5), (6, .int v6)]) hx hb dX4_refusal_72 hl (by decide) rfl (fun ls hl => ?_)
  refine lv_iload hx hb dX4_refusal_74 (lv_at hl 0 rfl) ?_
  refine lv_if_ne (tgt := 93) hx hb dX4_refusal_76 (by decide) (fun c8 => ?_) (fun c8 => ?_)
  · rw [if_neg c8] at h
    refine lv_iconst (v := 1) hx hb dX4_refusal_93 (by decide) ?_
    refine lv_goto (tgt := 98) hx hb dX4_refusal_94 (by decide) ?_
    exact kX4_refusal_j98 C _ _ _ _ h _ _ _ hw (lv_sub hl [3, 4, 5] rfl)
  · rw [if_pos c8] at h
    refine lv_iload hx hb dX4_refusal_79 (lv_at hl 5 rfl) ?_
    refine lv_iload_n hx hb dX4_refusal_81 rfl (lv_at hl 1 rfl) ?_
    refine lv_icmp_gt (tgt := 93) hx hb dX4_refusal_82 (by decide) (fun c13 => ?_) (fun c13 => ?_)
    · rw [if_pos c13] at h
      refine lv_iconst (v := 1) hx hb dX4_refusal_93 (by decide) ?_
      refine lv_goto (tgt := 98) hx hb dX4_refusal_94 (by decide) ?_
      exact kX4_refusal_j98 C _ _ _ _ h _ _ _ hw (lv_sub hl [3, 4, 5] rfl)
    · rw [if_neg c13] at h
      refine lv_iload_n hx hb dX4_refusal_85 rfl (lv_at hl 2 rfl) ?_
      refine lv_iload_n hx hb dX4_refusal_86 rfl (lv_at hl 1 rfl) ?_
      refine lv_iload hx hb dX4_refusal_87 (lv_at hl 5 rfl) ?_
      refine lv_isub hx hb dX4_refusal_89 ?_
      refine lv_icmp_le (tgt := 97) hx hb dX4_refusal_90 (by decide) (fun c14 => ?_) (fun c14 => ?_)
      · rw [if_pos c14] at h
        refine lv_iconst (v := 0) hx hb dX4_refusal_97 (by decide) ?_
        exact kX4_refusal_j98 C _ _ _ _ h _ _ _ hw (lv_sub hl [3, 4, 5] rfl)
      · rw [if_neg c14] at h
        refine lv_iconst (v := 1) hx hb dX4_refusal_93 (by decide) ?_
        refine lv_goto (tgt := 98) hx hb dX4_refusal_94 (by decide) ?_
        exact kX4_refusal_j98 C _ _ _ _ h _ _ _ hw (lv_sub hl [3, 4, 5] rfl)
def fX4_refusal_j34 (f : hPl) (v0 : Int32) (v1 : Int32) (v2 : Int32) (v3 : Int32) (v4 : Int32) (v5 : Int32) (v6 : Int32) (s0 : Int32) : Option Int32 := (if v0 = 1 then some 2 else (if v3 = 1 then some 2 else (if s0 = 0 then some 2 else (if v2 < 0 then fX4_refusal_j72 f v1 v2 v4 v5 v6 1 else (if v5 < 0 then fX4_refusal_j72 f v1 v2 v4 v5 v6 1 else (if 0 ≤ v6 then fX4_refusal_j72 f v1 v2 v4 v5 v6 0 else fX4_refusal_j72 f v1 v2 v4 v5 v6 1))))))
set_option maxHeartbeats 4000000 in
set_option maxRecDepth 100000 in
theorem kX4_refusal_j34 {g : hGb} {p : Program} {l : Launch} {e : Env} {s : State} {m : MethodId} {args : Array Value} {below : List Frame} {meth : Method} {c : Code} {A : Nat → Prop} (C : hX g p s m args meth c RX4 cX4_refusal 9 wsX4_refusal (some .int)) {f : hPl} {z : Nat} {r : Int32}  : ∀ (v0 : Int32) (v1 : Int32) (v2 : Int32) (v3 : Int32) (v4 : Int32) (v5 : Int32) (v6 : Int32) (s0 : Int32), fX4_refusal_j34 f v0 v1 v2 v3 v4 v5 v6 s0 = some r → ∀ (H : Heap) (locs : List Loc) (ls : Array Slot), hW g A s f z H locs → lv_has ls 9 [(0, .int v0), (1, .int v1), (2, .int v2), (3, .int v3), (4, .int v4), (5, .int v5), (6, .int v6)] → W p l e (hRm 1 0 0) s m args below meth c H locs 0 0 (hZ g A below args s 0 0 (some (.int r)) f z) (F0 m 34 ls [.int s0]) := by
  obtain ⟨hx, hb, hml, hown, hts, hr, hlocks, hk⟩ := id C
  intro v0 v1 v2 v3 v4 v5 v6 s0 h H locs ls hw hl
  unfold fX4_refusal_j34 at h
  refine lv_istore (lv' := [(7, .int s0), (0, .int v0), (1, .int v1), (2, .int v2), (3, .int v3), (4, .int v4), (5, .int v5), (6, .int v6)]) hx hb dX4_refusal_34 hl (by decide) rfl (fun ls hl => ?_)
  refine lv_iload_n hx hb dX4_refusal_36 rfl (lv_at hl 1 rfl) ?_
  refine lv_iconst (v := 1) hx hb dX4_refusal_37 (by decide) ?_
  refine lv_icmp_eq (tgt := 51) hx hb dX4_refusal_38 (by decide) (fun c4 => ?_) (fun c4 => ?_)
  · rw [if_pos c4] at h
    refine lv_iconst (v := 2) hx hb dX4_refusal_51 (by decide) ?_
    cases h
    exact hret_i hx hb hr hlocks hw dX4_refusal_52
  · rw [if_neg c4] at h
    refine lv_iload_n hx hb dX4_refusal_41 rfl (lv_at hl 4 rfl) ?_
    refine lv_iconst (v := 1) hx hb dX4_refusal_42 (by decide) ?_
    refine lv_icmp_eq (tgt := 51) hx hb dX4_refusal_43 (by decide) (fun c5 => ?_) (fun c5 => ?_)
    · rw [if_pos c5] at h
      refine lv_iconst (v := 2) hx hb dX4_refusal_51 (by decide) ?_
      cases h
      exact hret_i hx hb hr hlocks hw dX4_refusal_52
    · rw [if_neg c5] at h
      refine lv_iload hx hb dX4_refusal_46 (lv_at hl 0 rfl) ?_
      refine lv_if_ne (tgt := 53) hx hb dX4_refusal_48 (by decide) (fun c6 => ?_) (fun c6 => ?_)
      · rw [if_neg c6] at h
        refine lv_iload_n hx hb dX4_refusal_53 rfl (lv_at hl 3 rfl) ?_
        refine lv_if_lt (tgt := 67) hx hb dX4_refusal_54 (by decide) (fun c7 => ?_) (fun c7 => ?_)
        · rw [if_pos c7] at h
          refine lv_iconst (v := 1) hx hb dX4_refusal_67 (by decide) ?_
          refine lv_goto (tgt := 72) hx hb dX4_refusal_68 (by decide) ?_
          exact kX4_refusal_j72 C _ _ _ _ _ _ h _ _ _ hw (lv_sub hl [2, 3, 5, 6, 7] rfl)
        · rw [if_neg c7] at h
          refine lv_iload hx hb dX4_refusal_57 (lv_at hl 6 rfl) ?_
          refine lv_if_lt (tgt := 67) hx hb dX4_refusal_59 (by decide) (fun c15 => ?_) (fun c15 => ?_)
          · rw [if_pos c15] at h
            refine lv_iconst (v := 1) hx hb dX4_refusal_67 (by decide) ?_
            refine lv_goto (tgt := 72) hx hb dX4_refusal_68 (by decide) ?_
            exact kX4_refusal_j72 C _ _ _ _ _ _ h _ _ _ hw (lv_sub hl [2, 3, 5, 6, 7] rfl)
          · rw [if_neg c15] at h
            refine lv_iload hx hb dX4_refusal_62 (lv_at hl 7 rfl) ?_
            refine lv_if_ge (tgt := 71) hx hb dX4_refusal_64 (by decide) (fun c16 => ?_) (fun c16 => ?_)
            · rw [if_pos c16] at h
              refine lv_iconst (v := 0) hx hb dX4_refusal_71 (by decide) ?_
              exact kX4_refusal_j72 C _ _ _ _ _ _ h _ _ _ hw (lv_sub hl [2, 3, 5, 6, 7] rfl)
            · rw [if_neg c16] at h
              refine lv_iconst (v := 1) hx hb dX4_refusal_67 (by decide) ?_
              refine lv_goto (tgt := 72) hx hb dX4_refusal_68 (by decide) ?_
              exact kX4_refusal_j72 C _ _ _ _ _ _ h _ _ _ hw (lv_sub hl [2, 3, 5, 6, 7] rfl)
      · rw [if_pos c6] at h
        refine lv_iconst (v := 2) hx hb dX4_refusal_51 (by decide) ?_
        cases h
        exact hret_i hx hb hr hlocks hw dX4_refusal_52
def fX4_refusal (f : hPl) (p1 : Int32) (p2 : Int32) (p3 : Int32) (p4 : Int32) (p5 : Int32) (p6 : Int32) (p7 : Int32) : Option Int32 := (if p1 = 0 then some 1 else (if p4 = 0 then some 1 else (if p1 = p4 then fX4_refusal_j34 f p1 p2 p3 p4 p5 p6 p7 1 else (fX4_isOfStones f  p1).bind fun r17 => (if r17 = 0 then fX4_refusal_j34 f p1 p2 p3 p4 p5 p6 p7 0 else (fX4_isOfStones f  p4).bind fun r19 => (if r19 = 0 then fX4_refusal_j34 f p1 p2 p3 p4 p5 p6 p7 0 else fX4_refusal_j34 f p1 p2 p3 p4 p5 p6 p7 1)))))
set_option maxHeartbeats 4000000 in
set_option maxRecDepth 100000 in
theorem kX4_refusal (l : Launch) (g : hGb) {f : hPl} {z : Nat} {p1 : Int32} {p2 : Int32} {p3 : Int32} {p4 : Int32} {p5 : Int32} {p6 : Int32} {p7 : Int32} {r : Int32} (h : fX4_refusal f p1 p2 p3 p4 p5 p6 p7 = some r) : hCt l g yX4_refusal wsX4_refusal 1 0 0 [.int p1, .int p2, .int p3, .int p4, .int p5, .int p6, .int p7] f z (some (.int r)) f z := by
  refine hCt.of (cc := cX4_refusal) (maxL := 9) (ret := (some .int)) (by decide +kernel) rfl (by exact Nat.le_of_ble_eq_true rfl) ?_
  intro p e s m below meth c C hname hw ls hl
  obtain ⟨hx, hb, hml, hown, hts, hr, hlocks, hk⟩ := id C
  have hl : lv_has ls 9 [(0, .int p1), (1, .int p2), (2, .int p3), (3, .int p4), (4, .int p5), (5, .int p6), (6, .int p7)] := hl
  have hown : s.vm.findClass RX4 = some m.cls := hown
  unfold fX4_refusal at h
  refine lv_iload_n hx hb dX4_refusal_0 rfl (lv_at hl 0 rfl) ?_
  refine lv_if_eq (tgt := 8) hx hb dX4_refusal_1 (by decide) (fun c1 => ?_) (fun c1 => ?_)
  · rw [if_pos c1] at h
    refine lv_iconst (v := 1) hx hb dX4_refusal_8 (by decide) ?_
    cases h
    exact hret_i hx hb hr hlocks hw dX4_refusal_9
  · rw [if_neg c1] at h
    refine lv_iload_n hx hb dX4_refusal_4 rfl (lv_at hl 3 rfl) ?_
    refine lv_if_ne (tgt := 10) hx hb dX4_refusal_5 (by decide) (fun c2 => ?_) (fun c2 => ?_)
    · rw [if_neg c2] at h
      refine lv_iload_n hx hb dX4_refusal_10 rfl (lv_at hl 0 rfl) ?_
      refine lv_iload_n hx hb dX4_refusal_11 rfl (lv_at hl 3 rfl) ?_
      refine lv_icmp_eq (tgt := 29) hx hb dX4_refusal_12 (by decide) (fun c3 => ?_) (fun c3 => ?_)
      · rw [if_pos c3] at h
        refine lv_iconst (v := 1) hx hb dX4_refusal_29 (by decide) ?_
        refine lv_goto (tgt := 34) hx hb dX4_refusal_30 (by decide) ?_
        exact kX4_refusal_j34 C _ _ _ _ _ _ _ _ h _ _ _ hw (lv_sub hl [0, 1, 2, 3, 4, 5, 6] rfl)
      · rw [if_neg c3] at h
        refine lv_iload_n hx hb dX4_refusal_15 rfl (lv_at hl 0 rfl) ?_
        replace h := hbd h
        obtain ⟨r17, er17, h⟩ := h
        refine hcallS (o := some (.int r17)) hx hb hml hown hts hk [.int p1] [] (kX4_isOfStones l g er17) gX4_refusal_X4_isOfStones rfl (n := 1) rfl (by decide +kernel) ⟨Nat.le_of_ble_eq_true rfl, Nat.le_of_ble_eq_true rfl⟩ hw hl.1 rfl (Nat.le_of_ble_eq_true rfl) dX4_refusal_16 ⟨Nat.le_of_ble_eq_true rfl, Nat.le_of_ble_eq_true rfl⟩ (fun H locs hw => ?_)
        refine W.eq (g2 := F0 m 19 ls [.int r17]) rfl ?_
        refine lv_if_eq (tgt := 33) hx hb dX4_refusal_19 (by decide) (fun c18 => ?_) (fun c18 => ?_)
        · rw [if_pos c18] at h
          refine lv_iconst (v := 0) hx hb dX4_refusal_33 (by decide) ?_
          exact kX4_refusal_j34 C _ _ _ _ _ _ _ _ h _ _ _ hw (lv_sub hl [0, 1, 2, 3, 4, 5, 6] rfl)
        · rw [if_neg c18] at h
          refine lv_iload_n hx hb dX4_refusal_22 rfl (lv_at hl 3 rfl) ?_
          replace h := hbd h
          obtain ⟨r19, er19, h⟩ := h
          refine hcallS (o := some (.int r19)) hx hb hml hown hts hk [.int p4] [] (kX4_isOfStones l g er19) gX4_refusal_X4_isOfStones rfl (n := 1) rfl (by decide +kernel) ⟨Nat.le_of_ble_eq_true rfl, Nat.le_of_ble_eq_true rfl⟩ hw hl.1 rfl (Nat.le_of_ble_eq_true rfl) dX4_refusal_23 ⟨Nat.le_of_ble_eq_true rfl, Nat.le_of_ble_eq_true rfl⟩ (fun H locs hw => ?_)
          refine W.eq (g2 := F0 m 26 ls [.int r19]) rfl ?_
          refine lv_if_eq (tgt := 33) hx hb dX4_refusal_26 (by decide) (fun c20 => ?_) (fun c20 => ?_)
          · rw [if_pos c20] at h
            refine lv_iconst (v := 0) hx hb dX4_refusal_33 (by decide) ?_
            exact kX4_refusal_j34 C _ _ _ _ _ _ _ _ h _ _ _ hw (lv_sub hl [0, 1, 2, 3, 4, 5, 6] rfl)
          · rw [if_neg c20] at h
            refine lv_iconst (v := 1) hx hb dX4_refusal_29 (by decide) ?_
            refine lv_goto (tgt := 34) hx hb dX4_refusal_30 (by decide) ?_
            exact kX4_refusal_j34 C _ _ _ _ _ _ _ _ h _ _ _ hw (lv_sub hl [0, 1, 2, 3, 4, 5, 6] rfl)
    · rw [if_pos c2] at h
      refine lv_iconst (v := 1) hx hb dX4_refusal_8 (by decide) ?_
      cases h
      exact hret_i hx hb hr hlocks hw dX4_refusal_9
theorem iX4_carry_X4 : ∀ w ∈ wsX40, w ∈ wsX4_carry := by decide +kernel
def fX4_carry_j68 (rec : hPl → Nat → Nat → Int32 → Int32 → Int32 → Int32 → Option (Int32 × hPl × Nat)) (f : hPl) (z : Nat) (a : Nat) (v3 : Int32) (v4 : Int32) (v5 : Int32) (v6 : Int32) : Option (Int32 × hPl × Nat) := (hgQ f a 3 4).bind fun q13 => (hgQ f a 3 5).bind fun q14 => q14.bind fun a15 => (hlJ f a15 v6).bind fun x16 => q13.bind fun a17 => (hsJ f a17 (v5 + v6) x16).bind fun f18 => (hgQ f18 a 3 8).bind fun q19 => q19.bind fun a20 => (hlI f18 a20 6).bind fun x21 => (hsI f18 a20 6 (x21 + 1)).bind fun f22 => rec f22 z a v3 v4 v5 (v6 + 1)
set_option maxHeartbeats 4000000 in
set_option maxRecDepth 100000 in
theorem kX4_carry_j68 {g : hGb} {p : Program} {l : Launch} {e : Env} {s : State} {m : MethodId} {args : Array Value} {below : List Frame} {meth : Method} {c : Code} {A : Nat → Prop} (C : hX g p s m args meth c RX4 cX4_carry 7 wsX4_carry (some .int)) {r : Int32} {f' : hPl} {z' : Nat} (rec : hPl → Nat → Nat → Int32 → Int32 → Int32 → Int32 → Option (Int32 × hPl × Nat)) (hrec : ∀ (f : hPl) (z : Nat) (a : Nat) (v3 : Int32) (v4 : Int32) (v5 : Int32) (v6 : Int32), rec f z a v3 v4 v5 v6 = some (r, f', z') → ∀ (H : Heap) (locs : List Loc) (ls : Array Slot), hW g A s f z H locs → lv_has ls 7 [(0, .ref a), (3, .int v3), (4, .int v4), (5, .int v5), (6, .int v6)] → W p l e (hRm 1 0 0) s m args below meth c H locs 0 0 (hZ g A below args s 0 0 (some (.int r)) f' z') (F0 m 23 ls []))  : ∀ (f : hPl) (z : Nat) (a : Nat) (v3 : Int32) (v4 : Int32) (v5 : Int32) (v6 : Int32), fX4_carry_j68 rec f z a v3 v4 v5 v6 = some (r, f', z') → ∀ (H : Heap) (locs : List Loc) (ls : Array Slot), hW g A s f z H locs → lv_has ls 7 [(0, .ref a), (3, .int v3), (4, .int v4), (5, .int v5), (6, .int v6)] → W p l e (hRm 1 0 0) s m args below meth c H locs 0 0 (hZ g A below args s 0 0 (some (.int r)) f' z') (F0 m 68 ls []) := by
  obtain ⟨hx, hb, hml, hown, hts, hr, hlocks, hk⟩ := id C
  intro f z a v3 v4 v5 v6 h H locs ls hw hl
  unfold fX4_carry_j68 at h
  refine lv_aload_n hx hb dX4_carry_68 rfl (lv_at hl 0 rfl) ?_
  replace h := hbd h
  obtain ⟨q13, eq13, h⟩ := h
  refine hr_getQ (C := RX4) (T := TX4) (N := 9) hx hb hts iX4_carry_X4 hown hk hw rfl 4 (by decide) (hts (.fieldLink RX4 22 "SetterBenchModel" "members" "[J") (by decide +kernel)) (fun _ h9 => h9) eq13 dX4_carry_69 ?_
  refine lv_iload hx hb dX4_carry_72 (lv_at hl 3 rfl) ?_
  refine lv_iload hx hb dX4_carry_74 (lv_at hl 4 rfl) ?_
  refine lv_iadd hx hb dX4_carry_76 ?_
  refine lv_aload_n hx hb dX4_carry_77 rfl (lv_at hl 0 rfl) ?_
  replace h := hbd h
  obtain ⟨q14, eq14, h⟩ := h
  refine hr_getQ (C := RX4) (T := TX4) (N := 9) hx hb hts iX4_carry_X4 hown hk hw rfl 5 (by decide) (hts (.fieldLink RX4 26 "SetterBenchModel" "carried" "[J") (by decide +kernel)) (fun _ h9 => h9) eq14 dX4_carry_78 ?_
  refine lv_iload hx hb dX4_carry_81 (lv_at hl 4 rfl) ?_
  replace h := hbd h
  obtain ⟨a15, rfl, h⟩ := h
  replace h := hbd h
  obtain ⟨x16, ex16, h⟩ := h
  refine hr_lJ hx hb hk hw ex16 dX4_carry_83 ?_
  replace h := hbd h
  obtain ⟨a17, rfl, h⟩ := h
  replace h := hbd h
  obtain ⟨f18, ef18, h⟩ := h
  refine hr_sJ hx hb hk hw ef18 dX4_carry_84 (fun H locs hw => ?_)
  refine lv_aload_n hx hb dX4_carry_85 rfl (lv_at hl 0 rfl) ?_
  replace h := hbd h
  obtain ⟨q19, eq19, h⟩ := h
  refine hr_getQ (C := RX4) (T := TX4) (N := 9) hx hb hts iX4_carry_X4 hown hk hw rfl 8 (by decide) (hts (.fieldLink RX4 36 "SetterBenchModel" "counts" "[I") (by decide +kernel)) (fun _ h9 => h9) eq19 dX4_carry_86 ?_
  refine lv_bipush (v := 6) hx hb dX4_carry_89 (by decide) ?_
  refine lv_dup2_11 hx hb dX4_carry_91 rfl (by cases q19 <;> rfl) ?_
  replace h := hbd h
  obtain ⟨a20, rfl, h⟩ := h
  replace h := hbd h
  obtain ⟨x21, ex21, h⟩ := h
  refine hr_lI hx hb hk hw ex21 dX4_carry_92 ?_
  refine lv_iconst (v := 1) hx hb dX4_carry_93 (by decide) ?_
  refine lv_iadd hx hb dX4_carry_94 ?_
  replace h := hbd h
  obtain ⟨f22, ef22, h⟩ := h
  refine hr_sI hx hb hk hw ef22 dX4_carry_95 (fun H locs hw => ?_)
  refine lv_iinc (v := (v6 + 1)) (lv' := [(6, .int (v6 + 1)), (0, .ref a), (3, .int v3), (4, .int v4), (5, .int v5)]) hx hb dX4_carry_96 hl (k := 4) rfl rfl (by decide) rfl (fun ls hl => ?_)
  refine lv_goto (tgt := 23) hx hb dX4_carry_99 (by decide) ?_
  exact hrec _ _ _ _ _ _ _ h _ _ _ hw (lv_sub hl [1, 2, 3, 4, 0] rfl)
def fX4_carry_j23s (rec : hPl → Nat → Nat → Int32 → Int32 → Int32 → Int32 → Option (Int32 × hPl × Nat)) (f : hPl) (z : Nat) (a : Nat) (v3 : Int32) (v4 : Int32) (v5 : Int32) (v6 : Int32) : Option (Int32 × hPl × Nat) := (if v3 ≤ v6 then (hgQ f a 3 8).bind fun q7 => q7.bind fun a8 => (hlI f a8 1).bind fun x9 => (hsI f a8 1 (x9 + 1)).bind fun f10 => some (0, f10, z) else (fX4_isOfStones f  v4).bind fun r11 => (if r11 = 0 then fX4_carry_j68 rec f z a v3 v4 v5 v6 else (hgQ f a 3 5).bind fun q23 => q23.bind fun a24 => (hlJ f a24 v6).bind fun x25 => (fX4_takes f  v4 x25).bind fun r26 => (if r26 = 0 then (hgQ f a 3 8).bind fun q28 => q28.bind fun a29 => (hlI f a29 5).bind fun x30 => (hsI f a29 5 (x30 + 1)).bind fun f31 => some ((10 + v6), f31, z) else fX4_carry_j68 rec f z a v3 v4 v5 v6)))
set_option maxHeartbeats 4000000 in
set_option maxRecDepth 100000 in
theorem kX4_carry_j23s {g : hGb} {p : Program} {l : Launch} {e : Env} {s : State} {m : MethodId} {args : Array Value} {below : List Frame} {meth : Method} {c : Code} {A : Nat → Prop} (C : hX g p s m args meth c RX4 cX4_carry 7 wsX4_carry (some .int)) {r : Int32} {f' : hPl} {z' : Nat} (rec : hPl → Nat → Nat → Int32 → Int32 → Int32 → Int32 → Option (Int32 × hPl × Nat)) (hrec : ∀ (f : hPl) (z : Nat) (a : Nat) (v3 : Int32) (v4 : Int32) (v5 : Int32) (v6 : Int32), rec f z a v3 v4 v5 v6 = some (r, f', z') → ∀ (H : Heap) (locs : List Loc) (ls : Array Slot), hW g A s f z H locs → lv_has ls 7 [(0, .ref a), (3, .int v3), (4, .int v4), (5, .int v5), (6, .int v6)] → W p l e (hRm 1 0 0) s m args below meth c H locs 0 0 (hZ g A below args s 0 0 (some (.int r)) f' z') (F0 m 23 ls []))  : ∀ (f : hPl) (z : Nat) (a : Nat) (v3 : Int32) (v4 : Int32) (v5 : Int32) (v6 : Int32), fX4_carry_j23s rec f z a v3 v4 v5 v6 = some (r, f', z') → ∀ (H : Heap) (locs : List Loc) (ls : Array Slot), hW g A s f z H locs → lv_has ls 7 [(0, .ref a), (3, .int v3), (4, .int v4), (5, .int v5), (6, .int v6)] → W p l e (hRm 1 0 0) s m args below meth c H locs 0 0 (hZ g A below args s 0 0 (some (.int r)) f' z') (F0 m 23 ls []) := by
  obtain ⟨hx, hb, hml, hown, hts, hr, hlocks, hk⟩ := id C
  intro f z a v3 v4 v5 v6 h H locs ls hw hl
  unfold fX4_carry_j23s at h
  refine lv_iload hx hb dX4_carry_23 (lv_at hl 4 rfl) ?_
  refine lv_iload_n hx hb dX4_carry_25 rfl (lv_at hl 1 rfl) ?_
  refine lv_icmp_ge (tgt := 102) hx hb dX4_carry_26 (by decide) (fun c6 => ?_) (fun c6 => ?_)
  · rw [if_pos c6] at h
    refine lv_aload_n hx hb dX4_carry_102 rfl (lv_at hl 0 rfl) ?_
    replace h := hbd h
    obtain ⟨q7, eq7, h⟩ := h
    refine hr_getQ (C := RX4) (T := TX4) (N := 9) hx hb hts iX4_carry_X4 hown hk hw rfl 8 (by decide) (hts (.fieldLink RX4 36 "SetterBenchModel" "counts" "[I") (by decide +kernel)) (fun _ h9 => h9) eq7 dX4_carry_103 ?_
    refine lv_iconst (v := 1) hx hb dX4_carry_106 (by decide) ?_
    refine lv_dup2_11 hx hb dX4_carry_107 rfl (by cases q7 <;> rfl) ?_
    replace h := hbd h
    obtain ⟨a8, rfl, h⟩ := h
    replace h := hbd h
    obtain ⟨x9, ex9, h⟩ := h
    refine hr_lI hx hb hk hw ex9 dX4_carry_108 ?_
    refine lv_iconst (v := 1) hx hb dX4_carry_109 (by decide) ?_
    refine lv_iadd hx hb dX4_carry_110 ?_
    replace h := hbd h
    obtain ⟨f10, ef10, h⟩ := h
    refine hr_sI hx hb hk hw ef10 dX4_carry_111 (fun H locs hw => ?_)
    refine lv_iconst (v := 0) hx hb dX4_carry_112 (by decide) ?_
    cases h
    exact hret_i hx hb hr hlocks hw dX4_carry_113
  · rw [if_neg c6] at h
    refine lv_iload hx hb dX4_carry_29 (lv_at hl 2 rfl) ?_
    replace h := hbd h
    obtain ⟨r11, er11, h⟩ := h
    refine hcallS (o := some (.int r11)) hx hb hml hown hts hk [.int v4] [] (kX4_isOfStones l g er11) gX4_carry_X4_isOfStones rfl (n := 1) rfl (by decide +kernel) ⟨Nat.le_of_ble_eq_true rfl, Nat.le_of_ble_eq_true rfl⟩ hw hl.1 rfl (Nat.le_of_ble_eq_true rfl) dX4_carry_31 ⟨Nat.le_of_ble_eq_true rfl, Nat.le_of_ble_eq_true rfl⟩ (fun H locs hw => ?_)
    refine W.eq (g2 := F0 m 34 ls [.int r11]) rfl ?_
    refine lv_if_eq (tgt := 68) hx hb dX4_carry_34 (by decide) (fun c12 => ?_) (fun c12 => ?_)
    · rw [if_pos c12] at h
      exact kX4_carry_j68 C rec hrec _ _ _ _ _ _ _ h _ _ _ hw (lv_sub hl [0, 1, 2, 3, 4] rfl)
    · rw [if_neg c12] at h
      refine lv_iload hx hb dX4_carry_37 (lv_at hl 2 rfl) ?_
      refine lv_aload_n hx hb dX4_carry_39 rfl (lv_at hl 0 rfl) ?_
      replace h := hbd h
      obtain ⟨q23, eq23, h⟩ := h
      refine hr_getQ (C := RX4) (T := TX4) (N := 9) hx hb hts iX4_carry_X4 hown hk hw rfl 5 (by decide) (hts (.fieldLink RX4 26 "SetterBenchModel" "carried" "[J") (by decide +kernel)) (fun _ h9 => h9) eq23 dX4_carry_40 ?_
      refine lv_iload hx hb dX4_carry_43 (lv_at hl 4 rfl) ?_
      replace h := hbd h
      obtain ⟨a24, rfl, h⟩ := h
      replace h := hbd h
      obtain ⟨x25, ex25, h⟩ := h
      refine hr_lJ hx hb hk hw ex25 dX4_carry_45 ?_
      replace h := hbd h
      obtain ⟨r26, er26, h⟩ := h
      refine hcallS (o := some (.int r26)) hx hb hml hown hts hk [.int v4, .long x25] [] (kX4_takes l g er26) gX4_carry_X4_takes rfl (n := 2) rfl (by decide +kernel) ⟨Nat.le_of_ble_eq_true rfl, Nat.le_of_ble_eq_true rfl⟩ hw hl.1 rfl (Nat.le_of_ble_eq_true rfl) dX4_carry_46 ⟨Nat.le_of_ble_eq_true rfl, Nat.le_of_ble_eq_true rfl⟩ (fun H locs hw => ?_)
      refine W.eq (g2 := F0 m 49 ls [.int r26]) rfl ?_
      refine lv_if_ne (tgt := 68) hx hb dX4_carry_49 (by decide) (fun c27 => ?_) (fun c27 => ?_)
      · rw [if_neg c27] at h
        exact kX4_carry_j68 C rec hrec _ _ _ _ _ _ _ h _ _ _ hw (lv_sub hl [0, 1, 2, 3, 4] rfl)
      · rw [if_pos c27] at h
        refine lv_aload_n hx hb dX4_carry_52 rfl (lv_at hl 0 rfl) ?_
        replace h := hbd h
        obtain ⟨q28, eq28, h⟩ := h
        refine hr_getQ (C := RX4) (T := TX4) (N := 9) hx hb hts iX4_carry_X4 hown hk hw rfl 8 (by decide) (hts (.fieldLink RX4 36 "SetterBenchModel" "counts" "[I") (by decide +kernel)) (fun _ h9 => h9) eq28 dX4_carry_53 ?_
        refine lv_iconst (v := 5) hx hb dX4_carry_56 (by decide) ?_
        refine lv_dup2_11 hx hb dX4_carry_57 rfl (by cases q28 <;> rfl) ?_
        replace h := hbd h
        obtain ⟨a29, rfl, h⟩ := h
        replace h := hbd h
        obtain ⟨x30, ex30, h⟩ := h
        refine hr_lI hx hb hk hw ex30 dX4_carry_58 ?_
        refine lv_iconst (v := 1) hx hb dX4_carry_59 (by decide) ?_
        refine lv_iadd hx hb dX4_carry_60 ?_
        replace h := hbd h
        obtain ⟨f31, ef31, h⟩ := h
        refine hr_sI hx hb hk hw ef31 dX4_carry_61 (fun H locs hw => ?_)
        refine lv_bipush (v := 10) hx hb dX4_carry_62 (by decide) ?_
        refine lv_iload hx hb dX4_carry_64 (lv_at hl 4 rfl) ?_
        refine lv_iadd hx hb dX4_carry_66 ?_
        cases h
        exact hret_i hx hb hr hlocks hw dX4_carry_67
def fX4_carry_j23 (n : Nat) : hPl → Nat → Nat → Int32 → Int32 → Int32 → Int32 → Option (Int32 × hPl × Nat) := match n with
  | 0 => fun _ _ _ _ _ _ _ => none
  | n + 1 => fX4_carry_j23s (fX4_carry_j23 n)
theorem kX4_carry_j23 {g : hGb} {p : Program} {l : Launch} {e : Env} {s : State} {m : MethodId} {args : Array Value} {below : List Frame} {meth : Method} {c : Code} {A : Nat → Prop} (C : hX g p s m args meth c RX4 cX4_carry 7 wsX4_carry (some .int)) {r : Int32} {f' : hPl} {z' : Nat} (n : Nat) : ∀ (f : hPl) (z : Nat) (a : Nat) (v3 : Int32) (v4 : Int32) (v5 : Int32) (v6 : Int32), fX4_carry_j23 n f z a v3 v4 v5 v6 = some (r, f', z') → ∀ (H : Heap) (locs : List Loc) (ls : Array Slot), hW g A s f z H locs → lv_has ls 7 [(0, .ref a), (3, .int v3), (4, .int v4), (5, .int v5), (6, .int v6)] → W p l e (hRm 1 0 0) s m args below meth c H locs 0 0 (hZ g A below args s 0 0 (some (.int r)) f' z') (F0 m 23 ls []) := by
  induction n with
  | zero =>
    intro f z a v3 v4 v5 v6 h
    cases h
  | succ n ih => exact kX4_carry_j23s C (fX4_carry_j23 n) ih
def fX4_carry (f : hPl) (z : Nat) (a : Nat) (p1 : Int32) (p2 : Int32) (p3 : Int32) : Option (Int32 × hPl × Nat) := (hob f a 3).bind fun u1 => (fX4_sortOn f a p1).bind fun r2 => (hgQ f a 3 0).bind fun q3 => q3.bind fun a4 => (hlI f a4 p1).bind fun x5 => fX4_carry_j23 64 f z a p3 r2 ((40 * x5) + p2) 0
set_option maxHeartbeats 4000000 in
set_option maxRecDepth 100000 in
theorem kX4_carry (l : Launch) (g : hGb) {f : hPl} {z : Nat} {a : Nat} {p1 : Int32} {p2 : Int32} {p3 : Int32} {r : Int32} {f' : hPl} {z' : Nat} (h : fX4_carry f z a p1 p2 p3 = some (r, f', z')) : hCt l g yX4_carry wsX4_carry 1 0 0 [.ref a, .int p1, .int p2, .int p3] f z (some (.int r)) f' z' := by
  refine hCt.of (cc := cX4_carry) (maxL := 7) (ret := (some .int)) (by decide +kernel) rfl (by exact Nat.le_of_ble_eq_true rfl) ?_
  intro p e s m below meth c C hname hw ls hl
  obtain ⟨hx, hb, hml, hown, hts, hr, hlocks, hk⟩ := id C
  have hl : lv_has ls 7 [(0, .ref a), (1, .int p1), (2, .int p2), (3, .int p3)] := hl
  have hown : s.vm.findClass RX4 = some m.cls := hown
  unfold fX4_carry at h
  refine lv_aload_n hx hb dX4_carry_0 rfl (lv_at hl 0 rfl) ?_
  refine lv_iload_n hx hb dX4_carry_1 rfl (lv_at hl 1 rfl) ?_
  replace h := hbd h
  obtain ⟨u1, eu1, h⟩ := h
  replace h := hbd h
  obtain ⟨r2, er2, h⟩ := h
  refine hcallV (o := some (.int r2)) hx hb hml hown hts hk [.int p1] [] (kX4_sortOn l g er2) gX4_carry_X4_sortOn rfl (n := 1) rfl (by decide +kernel) ⟨Nat.le_of_ble_eq_true rfl, Nat.le_of_ble_eq_true rfl⟩ (ci := 3) rfl eu1 hw hl.1 rfl (Nat.le_of_ble_eq_true rfl) dX4_carry_2 ⟨Nat.le_of_ble_eq_true rfl, Nat.le_of_ble_eq_true rfl⟩ (fun H locs hw => ?_)
  refine W.eq (g2 := F0 m 5 ls [.int r2]) rfl ?_
  refine lv_istore (lv' := [(4, .int r2), (0, .ref a), (1, .int p1), (2, .int p2), (3, .int p3)]) hx hb dX4_carry_5 hl (by decide) rfl (fun ls hl => ?_)
  refine lv_bipush (v := 40) hx hb dX4_carry_7 (by decide) ?_
  refine lv_aload_n hx hb dX4_carry_9 rfl (lv_at hl 1 rfl) ?_
  replace h := hbd h
  obtain ⟨q3, eq3, h⟩ := h
  refine hr_getQ (C := RX4) (T := TX4) (N := 9) hx hb hts iX4_carry_X4 hown hk hw rfl 0 (by decide) (hts (.fieldLink RX4 9 "SetterBenchModel" "lies" "[I") (by decide +kernel)) (fun _ h9 => h9) eq3 dX4_carry_10 ?_
  refine lv_iload_n hx hb dX4_carry_13 rfl (lv_at hl 2 rfl) ?_
  replace h := hbd h
  obtain ⟨a4, rfl, h⟩ := h
  replace h := hbd h
  obtain ⟨x5, ex5, h⟩ := h
  refine hr_lI hx hb hk hw ex5 dX4_carry_14 ?_
  refine lv_imul hx hb dX4_carry_15 ?_
  refine lv_iload_n hx hb dX4_carry_16 rfl (lv_at hl 3 rfl) ?_
  refine lv_iadd hx hb dX4_carry_17 ?_
  refine lv_istore (lv' := [(5, .int ((40 * x5) + p2)), (4, .int r2), (0, .ref a), (1, .int p1), (2, .int p2), (3, .int p3)]) hx hb dX4_carry_18 hl (by decide) rfl (fun ls hl => ?_)
  refine lv_iconst (v := 0) hx hb dX4_carry_20 (by decide) ?_
  refine lv_istore (lv' := [(6, .int 0), (5, .int ((40 * x5) + p2)), (4, .int r2), (0, .ref a), (1, .int p1), (2, .int p2), (3, .int p3)]) hx hb dX4_carry_21 hl (by decide) rfl (fun ls hl => ?_)
  exact kX4_carry_j23 C 64 _ _ _ _ _ _ _ h _ _ _ hw (lv_sub hl [3, 6, 2, 1, 0] rfl)
theorem iX4_put_X4 : ∀ w ∈ wsX40, w ∈ wsX4_put := by decide +kernel
def fX4_put_j51 (f : hPl) (z : Nat) (a : Nat) (v1 : Int32) (v2 : Int32) (v4 : Int64) : Option (Int32 × hPl × Nat) := (hob f a 3).bind fun u6 => (fX4_sortOn f a v1).bind fun r7 => (hob f a 3).bind fun u8 => (fX4_manyOn f a v1).bind fun r9 => (fX4_refusal f  6 1 0 r7 r9 v2 1).bind fun r10 => (if r10 ≤ 0 then (hgQ f a 3 5).bind fun q12 => q12.bind fun a13 => (hsJ f a13 0 v4).bind fun f14 => (hob f14 a 3).bind fun u15 => (fX4_carry f14 z a v1 v2 1).bind fun r16t => some (r16t.1, r16t.2.1, r16t.2.2) else (hgQ f a 3 8).bind fun q19 => q19.bind fun a20 => (hlI f a20 (1 + r10)).bind fun x21 => (hsI f a20 (1 + r10) (x21 + 1)).bind fun f22 => some (r10, f22, z))
set_option maxHeartbeats 4000000 in
set_option maxRecDepth 100000 in
theorem kX4_put_j51 {g : hGb} {p : Program} {l : Launch} {e : Env} {s : State} {m : MethodId} {args : Array Value} {below : List Frame} {meth : Method} {c : Code} {A : Nat → Prop} (C : hX g p s m args meth c RX4 cX4_put 7 wsX4_put (some .int)) {r : Int32} {f' : hPl} {z' : Nat}  : ∀ (f : hPl) (z : Nat) (a : Nat) (v1 : Int32) (v2 : Int32) (v4 : Int64), fX4_put_j51 f z a v1 v2 v4 = some (r, f', z') → ∀ (H : Heap) (locs : List Loc) (ls : Array Slot), hW g A s f z H locs → lv_has ls 7 [(0, .ref a), (1, .int v1), (2, .int v2), (4, .long v4)] → W p l e (hRm 2 0 0) s m args below meth c H locs 0 0 (hZ g A below args s 0 0 (some (.int r)) f' z') (F0 m 51 ls []) := by
  obtain ⟨hx, hb, hml, hown, hts, hr, hlocks, hk⟩ := id C
  intro f z a v1 v2 v4 h H locs ls hw hl
  unfold fX4_put_j51 at h
  refine lv_bipush (v := 6) hx hb dX4_put_51 (by decide) ?_
  refine lv_iconst (v := 1) hx hb dX4_put_53 (by decide) ?_
  refine lv_iconst (v := 0) hx hb dX4_put_54 (by decide) ?_
  refine lv_aload_n hx hb dX4_put_55 rfl (lv_at hl 0 rfl) ?_
  refine lv_iload_n hx hb dX4_put_56 rfl (lv_at hl 1 rfl) ?_
  replace h := hbd h
  obtain ⟨u6, eu6, h⟩ := h
  replace h := hbd h
  obtain ⟨r7, er7, h⟩ := h
  refine hcallV (o := some (.int r7)) hx hb hml hown hts hk [.int v1] [.int 0, .int 1, .int 6] (kX4_sortOn l g er7) gX4_put_X4_sortOn rfl (n := 1) rfl (by decide +kernel) ⟨Nat.le_of_ble_eq_true rfl, Nat.le_of_ble_eq_true rfl⟩ (ci := 3) rfl eu6 hw hl.1 rfl (Nat.le_of_ble_eq_true rfl) dX4_put_57 ⟨Nat.le_of_ble_eq_true rfl, Nat.le_of_ble_eq_true rfl⟩ (fun H locs hw => ?_)
  refine W.eq (g2 := F0 m 60 ls [.int r7, .int 0, .int 1, .int 6]) rfl ?_
  refine lv_aload_n hx hb dX4_put_60 rfl (lv_at hl 0 rfl) ?_
  refine lv_iload_n hx hb dX4_put_61 rfl (lv_at hl 1 rfl) ?_
  replace h := hbd h
  obtain ⟨u8, eu8, h⟩ := h
  replace h := hbd h
  obtain ⟨r9, er9, h⟩ := h
  refine hcallV (o := some (.int r9)) hx hb hml hown hts hk [.int v1] [.int r7, .int 0, .int 1, .int 6] (kX4_manyOn l g er9) gX4_put_X4_manyOn rfl (n := 1) rfl (by decide +kernel) ⟨Nat.le_of_ble_eq_true rfl, Nat.le_of_ble_eq_true rfl⟩ (ci := 3) rfl eu8 hw hl.1 rfl (Nat.le_of_ble_eq_true rfl) dX4_put_62 ⟨Nat.le_of_ble_eq_true rfl, Nat.le_of_ble_eq_true rfl⟩ (fun H locs hw => ?_)
  refine W.eq (g2 := F0 m 65 ls [.int r9, .int r7, .int 0, .int 1, .int 6]) rfl ?_
  refine lv_iload_n hx hb dX4_put_65 rfl (lv_at hl 2 rfl) ?_
  refine lv_iconst (v := 1) hx hb dX4_put_66 (by decide) ?_
  replace h := hbd h
  obtain ⟨r10, er10, h⟩ := h
  refine hcallS (o := some (.int r10)) hx hb hml hown hts hk [.int 6, .int 1, .int 0, .int r7, .int r9, .int v2, .int 1] [] (kX4_refusal l g er10) gX4_put_X4_refusal rfl (n := 7) rfl (by decide +kernel) ⟨Nat.le_of_ble_eq_true rfl, Nat.le_of_ble_eq_true rfl⟩ hw hl.1 rfl (Nat.le_of_ble_eq_true rfl) dX4_put_67 ⟨Nat.le_of_ble_eq_true rfl, Nat.le_of_ble_eq_true rfl⟩ (fun H locs hw => ?_)
  refine W.eq (g2 := F0 m 70 ls [.int r10]) rfl ?_
  refine lv_istore (lv' := [(6, .int r10), (0, .ref a), (1, .int v1), (2, .int v2), (4, .long v4)]) hx hb dX4_put_70 hl (by decide) rfl (fun ls hl => ?_)
  refine lv_iload hx hb dX4_put_72 (lv_at hl 0 rfl) ?_
  refine lv_if_le (tgt := 93) hx hb dX4_put_74 (by decide) (fun c11 => ?_) (fun c11 => ?_)
  · rw [if_pos c11] at h
    refine lv_aload_n hx hb dX4_put_93 rfl (lv_at hl 1 rfl) ?_
    replace h := hbd h
    obtain ⟨q12, eq12, h⟩ := h
    refine hr_getQ (C := RX4) (T := TX4) (N := 9) hx hb hts iX4_put_X4 hown hk hw rfl 5 (by decide) (hts (.fieldLink RX4 26 "SetterBenchModel" "carried" "[J") (by decide +kernel)) (fun _ h9 => h9) eq12 dX4_put_94 ?_
    refine lv_iconst (v := 0) hx hb dX4_put_97 (by decide) ?_
    refine lv_lload hx hb dX4_put_98 (lv_at hl 4 rfl) ?_
    replace h := hbd h
    obtain ⟨a13, rfl, h⟩ := h
    replace h := hbd h
    obtain ⟨f14, ef14, h⟩ := h
    refine hr_sJ hx hb hk hw ef14 dX4_put_100 (fun H locs hw => ?_)
    refine lv_aload_n hx hb dX4_put_101 rfl (lv_at hl 1 rfl) ?_
    refine lv_iload_n hx hb dX4_put_102 rfl (lv_at hl 2 rfl) ?_
    refine lv_iload_n hx hb dX4_put_103 rfl (lv_at hl 3 rfl) ?_
    refine lv_iconst (v := 1) hx hb dX4_put_104 (by decide) ?_
    replace h := hbd h
    obtain ⟨u15, eu15, h⟩ := h
    replace h := hbd h
    obtain ⟨⟨r16, f17, z18⟩, er16, h⟩ := h
    dsimp only at h
    refine hcallV (o := some (.int r16)) hx hb hml hown hts hk [.int v1, .int v2, .int 1] [] (kX4_carry l g er16) gX4_put_X4_carry rfl (n := 3) rfl (by decide +kernel) ⟨Nat.le_of_ble_eq_true rfl, Nat.le_of_ble_eq_true rfl⟩ (ci := 3) rfl eu15 hw hl.1 rfl (Nat.le_of_ble_eq_true rfl) dX4_put_105 ⟨Nat.le_of_ble_eq_true rfl, Nat.le_of_ble_eq_true rfl⟩ (fun H locs hw => ?_)
    refine W.eq (g2 := F0 m 108 ls [.int r16]) rfl ?_
    cases h
    exact hret_i hx hb hr hlocks hw dX4_put_108
  · rw [if_neg c11] at h
    refine lv_aload_n hx hb dX4_put_77 rfl (lv_at hl 1 rfl) ?_
    replace h := hbd h
    obtain ⟨q19, eq19, h⟩ := h
    refine hr_getQ (C := RX4) (T := TX4) (N := 9) hx hb hts iX4_put_X4 hown hk hw rfl 8 (by decide) (hts (.fieldLink RX4 36 "SetterBenchModel" "counts" "[I") (by decide +kernel)) (fun _ h9 => h9) eq19 dX4_put_78 ?_
    refine lv_iconst (v := 1) hx hb dX4_put_81 (by decide) ?_
    refine lv_iload hx hb dX4_put_82 (lv_at hl 0 rfl) ?_
    refine lv_iadd hx hb dX4_put_84 ?_
    refine lv_dup2_11 hx hb dX4_put_85 rfl (by cases q19 <;> rfl) ?_
    replace h := hbd h
    obtain ⟨a20, rfl, h⟩ := h
    replace h := hbd h
    obtain ⟨x21, ex21, h⟩ := h
    refine hr_lI hx hb hk hw ex21 dX4_put_86 ?_
    refine lv_iconst (v := 1) hx hb dX4_put_87 (by decide) ?_
    refine lv_iadd hx hb dX4_put_88 ?_
    replace h := hbd h
    obtain ⟨f22, ef22, h⟩ := h
    refine hr_sI hx hb hk hw ef22 dX4_put_89 (fun H locs hw => ?_)
    refine lv_iload hx hb dX4_put_90 (lv_at hl 0 rfl) ?_
    cases h
    exact hret_i hx hb hr hlocks hw dX4_put_92
def fX4_put (f : hPl) (z : Nat) (a : Nat) (p1 : Int32) (p2 : Int32) (p3 : Int32) : Option (Int32 × hPl × Nat) := (fX4_isPlace f  p1).bind fun r1 => (if r1 = 0 then some ((-1), f, z) else (if p3 < 0 then some ((-1), f, z) else (if p3 ≤ 4 then (if p3 ≤ 0 then fX4_put_j51 f z a p1 p2 (0 : Int64) else (hgQ f a 3 8).bind fun q23 => q23.bind fun a24 => (hlI f a24 0).bind fun x25 => (hsI f a24 0 (x25 + 1)).bind fun f26 => (hgQ f26 a 3 8).bind fun q27 => q27.bind fun a28 => (hlI f26 a28 0).bind fun x29 => fX4_put_j51 f26 z a p1 p2 (((10 : Int64) * (x29.toInt64)) + (p3.toInt64))) else some ((-1), f, z))))
set_option maxHeartbeats 4000000 in
set_option maxRecDepth 100000 in
theorem kX4_put (l : Launch) (g : hGb) {f : hPl} {z : Nat} {a : Nat} {p1 : Int32} {p2 : Int32} {p3 : Int32} {r : Int32} {f' : hPl} {z' : Nat} (h : fX4_put f z a p1 p2 p3 = some (r, f', z')) : hCt l g yX4_put wsX4_put 2 0 0 [.ref a, .int p1, .int p2, .int p3] f z (some (.int r)) f' z' := by
  refine hCt.of (cc := cX4_put) (maxL := 7) (ret := (some .int)) (by decide +kernel) rfl (by exact Nat.le_of_ble_eq_true rfl) ?_
  intro p e s m below meth c C hname hw ls hl
  obtain ⟨hx, hb, hml, hown, hts, hr, hlocks, hk⟩ := id C
  have hl : lv_has ls 7 [(0, .ref a), (1, .int p1), (2, .int p2), (3, .int p3)] := hl
  have hown : s.vm.findClass RX4 = some m.cls := hown
  unfold fX4_put at h
  refine lv_iload_n hx hb dX4_put_0 rfl (lv_at hl 1 rfl) ?_
  replace h := hbd h
  obtain ⟨r1, er1, h⟩ := h
  refine hcallS (o := some (.int r1)) hx hb hml hown hts hk [.int p1] [] (kX4_isPlace l g er1) gX4_put_X4_isPlace rfl (n := 1) rfl (by decide +kernel) ⟨Nat.le_of_ble_eq_true rfl, Nat.le_of_ble_eq_true rfl⟩ hw hl.1 rfl (Nat.le_of_ble_eq_true rfl) dX4_put_1 ⟨Nat.le_of_ble_eq_true rfl, Nat.le_of_ble_eq_true rfl⟩ (fun H locs hw => ?_)
  refine W.eq (g2 := F0 m 4 ls [.int r1]) rfl ?_
  refine lv_if_eq (tgt := 16) hx hb dX4_put_4 (by decide) (fun c2 => ?_) (fun c2 => ?_)
  · rw [if_pos c2] at h
    refine lv_iconst (v := (-1)) hx hb dX4_put_16 (by decide) ?_
    cases h
    exact hret_i hx hb hr hlocks hw dX4_put_17
  · rw [if_neg c2] at h
    refine lv_iload_n hx hb dX4_put_7 rfl (lv_at hl 3 rfl) ?_
    refine lv_if_lt (tgt := 16) hx hb dX4_put_8 (by decide) (fun c3 => ?_) (fun c3 => ?_)
    · rw [if_pos c3] at h
      refine lv_iconst (v := (-1)) hx hb dX4_put_16 (by decide) ?_
      cases h
      exact hret_i hx hb hr hlocks hw dX4_put_17
    · rw [if_neg c3] at h
      refine lv_iload_n hx hb dX4_put_11 rfl (lv_at hl 3 rfl) ?_
      refine lv_iconst (v := 4) hx hb dX4_put_12 (by decide) ?_
      refine lv_icmp_le (tgt := 18) hx hb dX4_put_13 (by decide) (fun c4 => ?_) (fun c4 => ?_)
      · rw [if_pos c4] at h
        refine lv_lconst (v := 0) hx hb dX4_put_18 (by decide) ?_
        refine lv_lstore (lv' := [(4, .long (0 : Int64)), (0, .ref a), (1, .int p1), (2, .int p2), (3, .int p3)]) hx hb dX4_put_19 hl (by decide) rfl (fun ls hl => ?_)
        refine lv_iload_n hx hb dX4_put_21 rfl (lv_at hl 4 rfl) ?_
        refine lv_if_le (tgt := 51) hx hb dX4_put_22 (by decide) (fun c5 => ?_) (fun c5 => ?_)
        · rw [if_pos c5] at h
          exact kX4_put_j51 C _ _ _ _ _ _ h _ _ _ hw (lv_sub hl [1, 2, 3, 0] rfl)
        · rw [if_neg c5] at h
          refine lv_aload_n hx hb dX4_put_25 rfl (lv_at hl 1 rfl) ?_
          replace h := hbd h
          obtain ⟨q23, eq23, h⟩ := h
          refine hr_getQ (C := RX4) (T := TX4) (N := 9) hx hb hts iX4_put_X4 hown hk hw rfl 8 (by decide) (hts (.fieldLink RX4 36 "SetterBenchModel" "counts" "[I") (by decide +kernel)) (fun _ h9 => h9) eq23 dX4_put_26 ?_
          refine lv_iconst (v := 0) hx hb dX4_put_29 (by decide) ?_
          refine lv_dup2_11 hx hb dX4_put_30 rfl (by cases q23 <;> rfl) ?_
          replace h := hbd h
          obtain ⟨a24, rfl, h⟩ := h
          replace h := hbd h
          obtain ⟨x25, ex25, h⟩ := h
          refine hr_lI hx hb hk hw ex25 dX4_put_31 ?_
          refine lv_iconst (v := 1) hx hb dX4_put_32 (by decide) ?_
          refine lv_iadd hx hb dX4_put_33 ?_
          replace h := hbd h
          obtain ⟨f26, ef26, h⟩ := h
          refine hr_sI hx hb hk hw ef26 dX4_put_34 (fun H locs hw => ?_)
          refine lv_ldc2 (v := (10)) hx hb hown (hts (.constantLong RX4 61 (10)) (by decide +kernel)) dX4_put_35 ?_
          refine lv_aload_n hx hb dX4_put_38 rfl (lv_at hl 1 rfl) ?_
          replace h := hbd h
          obtain ⟨q27, eq27, h⟩ := h
          refine hr_getQ (C := RX4) (T := TX4) (N := 9) hx hb hts iX4_put_X4 hown hk hw rfl 8 (by decide) (hts (.fieldLink RX4 36 "SetterBenchModel" "counts" "[I") (by decide +kernel)) (fun _ h9 => h9) eq27 dX4_put_39 ?_
          refine lv_iconst (v := 0) hx hb dX4_put_42 (by decide) ?_
          replace h := hbd h
          obtain ⟨a28, rfl, h⟩ := h
          replace h := hbd h
          obtain ⟨x29, ex29, h⟩ := h
          refine hr_lI hx hb hk hw ex29 dX4_put_43 ?_
          refine lv_i2l hx hb dX4_put_44 rfl ?_
          refine lv_lmul hx hb dX4_put_45 ?_
          refine lv_iload_n hx hb dX4_put_46 rfl (lv_at hl 4 rfl) ?_
          refine lv_i2l hx hb dX4_put_47 rfl ?_
          refine lv_ladd hx hb dX4_put_48 ?_
          refine lv_lstore (lv' := [(4, .long (((10 : Int64) * (x29.toInt64)) + (p3.toInt64))), (0, .ref a), (1, .int p1), (2, .int p2), (3, .int p3)]) hx hb dX4_put_49 hl (by decide) rfl (fun ls hl => ?_)
          exact kX4_put_j51 C _ _ _ _ _ _ h _ _ _ hw (lv_sub hl [1, 2, 3, 0] rfl)
      · rw [if_neg c4] at h
        refine lv_iconst (v := (-1)) hx hb dX4_put_16 (by decide) ?_
        cases h
        exact hret_i hx hb hr hlocks hw dX4_put_17
theorem iX4_sweep_X4 : ∀ w ∈ wsX40, w ∈ wsX4_sweep := by decide +kernel
def fX4_sweep_j122s (rec : hPl → Nat → Nat → Int32 → Int32 → Int32 → Int32 → Option (Int32 × hPl × Nat)) (f : hPl) (z : Nat) (a : Nat) (v3 : Int32) (v4 : Int32) (v5 : Int32) (v7 : Int32) : Option (Int32 × hPl × Nat) := (hgQ f a 3 2).bind fun q20 => (hgI f a 3 7).bind fun x21 => q20.bind fun a22 => (hlI f a22 x21).bind fun x23 => (if x23 ≤ v7 then (hob f a 3).bind fun u25 => (fX4_carry f z a v3 v4 v5).bind fun r26t => some (r26t.1, r26t.2.1, r26t.2.2) else (hgQ f a 3 6).bind fun q29 => (hgQ f a 3 4).bind fun q30 => (hgI f a 3 7).bind fun x31 => q30.bind fun a32 => (hlJ f a32 ((40 * x31) + v7)).bind fun x33 => q29.bind fun a34 => (hsJ f a34 v7 x33).bind fun f35 => rec f35 z a v3 v4 v5 (v7 + 1))
set_option maxHeartbeats 4000000 in
set_option maxRecDepth 100000 in
theorem kX4_sweep_j122s {g : hGb} {p : Program} {l : Launch} {e : Env} {s : State} {m : MethodId} {args : Array Value} {below : List Frame} {meth : Method} {c : Code} {A : Nat → Prop} (C : hX g p s m args meth c RX4 cX4_sweep 8 wsX4_sweep (some .int)) {r : Int32} {f' : hPl} {z' : Nat} (rec : hPl → Nat → Nat → Int32 → Int32 → Int32 → Int32 → Option (Int32 × hPl × Nat)) (hrec : ∀ (f : hPl) (z : Nat) (a : Nat) (v3 : Int32) (v4 : Int32) (v5 : Int32) (v7 : Int32), rec f z a v3 v4 v5 v7 = some (r, f', z') → ∀ (H : Heap) (locs : List Loc) (ls : Array Slot), hW g A s f z H locs → lv_has ls 8 [(0, .ref a), (3, .int v3), (4, .int v4), (5, .int v5), (7, .int v7)] → W p l e (hRm 2 0 0) s m args below meth c H locs 0 0 (hZ g A below args s 0 0 (some (.int r)) f' z') (F0 m 122 ls []))  : ∀ (f : hPl) (z : Nat) (a : Nat) (v3 : Int32) (v4 : Int32) (v5 : Int32) (v7 : Int32), fX4_sweep_j122s rec f z a v3 v4 v5 v7 = some (r, f', z') → ∀ (H : Heap) (locs : List Loc) (ls : Array Slot), hW g A s f z H locs → lv_has ls 8 [(0, .ref a), (3, .int v3), (4, .int v4), (5, .int v5), (7, .int v7)] → W p l e (hRm 2 0 0) s m args below meth c H locs 0 0 (hZ g A below args s 0 0 (some (.int r)) f' z') (F0 m 122 ls []) := by
  obtain ⟨hx, hb, hml, hown, hts, hr, hlocks, hk⟩ := id C
  intro f z a v3 v4 v5 v7 h H locs ls hw hl
  unfold fX4_sweep_j122s at h
  refine lv_iload hx hb dX4_sweep_122 (lv_at hl 4 rfl) ?_
  refine lv_aload_n hx hb dX4_sweep_124 rfl (lv_at hl 0 rfl) ?_
  replace h := hbd h
  obtain ⟨q20, eq20, h⟩ := h
  refine hr_getQ (C := RX4) (T := TX4) (N := 9) hx hb hts iX4_sweep_X4 hown hk hw rfl 2 (by decide) (hts (.fieldLink RX4 16 "SetterBenchModel" "many" "[I") (by decide +kernel)) (fun _ h9 => h9) eq20 dX4_sweep_125 ?_
  refine lv_aload_n hx hb dX4_sweep_128 rfl (lv_at hl 0 rfl) ?_
  replace h := hbd h
  obtain ⟨x21, ex21, h⟩ := h
  refine hr_getI (C := RX4) (T := TX4) (N := 9) hx hb hts iX4_sweep_X4 hown hk hw rfl 7 (by decide) (hts (.fieldLink RX4 32 "SetterBenchModel" "keeper" "I") (by decide +kernel)) (fun _ h9 => h9) ex21 dX4_sweep_129 ?_
  replace h := hbd h
  obtain ⟨a22, rfl, h⟩ := h
  replace h := hbd h
  obtain ⟨x23, ex23, h⟩ := h
  refine hr_lI hx hb hk hw ex23 dX4_sweep_132 ?_
  refine lv_icmp_ge (tgt := 164) hx hb dX4_sweep_133 (by decide) (fun c24 => ?_) (fun c24 => ?_)
  · rw [if_pos c24] at h
    refine lv_aload_n hx hb dX4_sweep_164 rfl (lv_at hl 0 rfl) ?_
    refine lv_iload_n hx hb dX4_sweep_165 rfl (lv_at hl 1 rfl) ?_
    refine lv_iload hx hb dX4_sweep_166 (lv_at hl 2 rfl) ?_
    refine lv_iload hx hb dX4_sweep_168 (lv_at hl 3 rfl) ?_
    replace h := hbd h
    obtain ⟨u25, eu25, h⟩ := h
    replace h := hbd h
    obtain ⟨⟨r26, f27, z28⟩, er26, h⟩ := h
    dsimp only at h
    refine hcallV (o := some (.int r26)) hx hb hml hown hts hk [.int v3, .int v4, .int v5] [] (kX4_carry l g er26) gX4_sweep_X4_carry rfl (n := 3) rfl (by decide +kernel) ⟨Nat.le_of_ble_eq_true rfl, Nat.le_of_ble_eq_true rfl⟩ (ci := 3) rfl eu25 hw hl.1 rfl (Nat.le_of_ble_eq_true rfl) dX4_sweep_170 ⟨Nat.le_of_ble_eq_true rfl, Nat.le_of_ble_eq_true rfl⟩ (fun H locs hw => ?_)
    refine W.eq (g2 := F0 m 173 ls [.int r26]) rfl ?_
    cases h
    exact hret_i hx hb hr hlocks hw dX4_sweep_173
  · rw [if_neg c24] at h
    refine lv_aload_n hx hb dX4_sweep_136 rfl (lv_at hl 0 rfl) ?_
    replace h := hbd h
    obtain ⟨q29, eq29, h⟩ := h
    refine hr_getQ (C := RX4) (T := TX4) (N := 9) hx hb hts iX4_sweep_X4 hown hk hw rfl 6 (by decide) (hts (.fieldLink RX4 29 "SetterBenchModel" "kept" "[J") (by decide +kernel)) (fun _ h9 => h9) eq29 dX4_sweep_137 ?_
    refine lv_iload hx hb dX4_sweep_140 (lv_at hl 4 rfl) ?_
    refine lv_aload_n hx hb dX4_sweep_142 rfl (lv_at hl 0 rfl) ?_
    replace h := hbd h
    obtain ⟨q30, eq30, h⟩ := h
    refine hr_getQ (C := RX4) (T := TX4) (N := 9) hx hb hts iX4_sweep_X4 hown hk hw rfl 4 (by decide) (hts (.fieldLink RX4 22 "SetterBenchModel" "members" "[J") (by decide +kernel)) (fun _ h9 => h9) eq30 dX4_sweep_143 ?_
    refine lv_bipush (v := 40) hx hb dX4_sweep_146 (by decide) ?_
    refine lv_aload_n hx hb dX4_sweep_148 rfl (lv_at hl 0 rfl) ?_
    replace h := hbd h
    obtain ⟨x31, ex31, h⟩ := h
    refine hr_getI (C := RX4) (T := TX4) (N := 9) hx hb hts iX4_sweep_X4 hown hk hw rfl 7 (by decide) (hts (.fieldLink RX4 32 "SetterBenchModel" "keeper" "I") (by decide +kernel)) (fun _ h9 => h9) ex31 dX4_sweep_149 ?_
    refine lv_imul hx hb dX4_sweep_152 ?_
    refine lv_iload hx hb dX4_sweep_153 (lv_at hl 4 rfl) ?_
    refine lv_iadd hx hb dX4_sweep_155 ?_
    replace h := hbd h
    obtain ⟨a32, rfl, h⟩ := h
    replace h := hbd h
    obtain ⟨x33, ex33, h⟩ := h
    refine hr_lJ hx hb hk hw ex33 dX4_sweep_156 ?_
    replace h := hbd h
    obtain ⟨a34, rfl, h⟩ := h
    replace h := hbd h
    obtain ⟨f35, ef35, h⟩ := h
    refine hr_sJ hx hb hk hw ef35 dX4_sweep_157 (fun H locs hw => ?_)
    refine lv_iinc (v := (v7 + 1)) (lv' := [(7, .int (v7 + 1)), (0, .ref a), (3, .int v3), (4, .int v4), (5, .int v5)]) hx hb dX4_sweep_158 hl (k := 4) rfl rfl (by decide) rfl (fun ls hl => ?_)
    refine lv_goto (tgt := 122) hx hb dX4_sweep_161 (by decide) ?_
    exact hrec _ _ _ _ _ _ _ h _ _ _ hw (lv_sub hl [1, 2, 3, 4, 0] rfl)
def fX4_sweep_j122 (n : Nat) : hPl → Nat → Nat → Int32 → Int32 → Int32 → Int32 → Option (Int32 × hPl × Nat) := match n with
  | 0 => fun _ _ _ _ _ _ _ => none
  | n + 1 => fX4_sweep_j122s (fX4_sweep_j122 n)
theorem kX4_sweep_j122 {g : hGb} {p : Program} {l : Launch} {e : Env} {s : State} {m : MethodId} {args : Array Value} {below : List Frame} {meth : Method} {c : Code} {A : Nat → Prop} (C : hX g p s m args meth c RX4 cX4_sweep 8 wsX4_sweep (some .int)) {r : Int32} {f' : hPl} {z' : Nat} (n : Nat) : ∀ (f : hPl) (z : Nat) (a : Nat) (v3 : Int32) (v4 : Int32) (v5 : Int32) (v7 : Int32), fX4_sweep_j122 n f z a v3 v4 v5 v7 = some (r, f', z') → ∀ (H : Heap) (locs : List Loc) (ls : Array Slot), hW g A s f z H locs → lv_has ls 8 [(0, .ref a), (3, .int v3), (4, .int v4), (5, .int v5), (7, .int v7)] → W p l e (hRm 2 0 0) s m args below meth c H locs 0 0 (hZ g A below args s 0 0 (some (.int r)) f' z') (F0 m 122 ls []) := by
  induction n with
  | zero =>
    intro f z a v3 v4 v5 v7 h
    cases h
  | succ n ih => exact kX4_sweep_j122s C (fX4_sweep_j122 n) ih
def fX4_sweep_j70s (rec : hPl → Nat → Nat → Int32 → Int32 → Int32 → Int32 → Int32 → Int32 → Option (Int32 × hPl × Nat)) (f : hPl) (z : Nat) (a : Nat) (v1 : Int32) (v2 : Int32) (v3 : Int32) (v4 : Int32) (v5 : Int32) (v7 : Int32) : Option (Int32 × hPl × Nat) := (if v5 ≤ v7 then (hgQ f a 3 0).bind fun q16 => q16.bind fun a17 => (hlI f a17 v3).bind fun x18 => (hput f a 3 7 (.int x18)).bind fun f19 => fX4_sweep_j122 64 f19 z a v3 v4 v5 0 else (hgQ f a 3 5).bind fun q36 => (hgQ f a 3 4).bind fun q37 => (hgQ f a 3 0).bind fun q38 => q38.bind fun a39 => (hlI f a39 v1).bind fun x40 => q37.bind fun a41 => (hlJ f a41 (((40 * x40) + v2) + v7)).bind fun x42 => q36.bind fun a43 => (hsJ f a43 v7 x42).bind fun f44 => rec f44 z a v1 v2 v3 v4 v5 (v7 + 1))
set_option maxHeartbeats 4000000 in
set_option maxRecDepth 100000 in
theorem kX4_sweep_j70s {g : hGb} {p : Program} {l : Launch} {e : Env} {s : State} {m : MethodId} {args : Array Value} {below : List Frame} {meth : Method} {c : Code} {A : Nat → Prop} (C : hX g p s m args meth c RX4 cX4_sweep 8 wsX4_sweep (some .int)) {r : Int32} {f' : hPl} {z' : Nat} (rec : hPl → Nat → Nat → Int32 → Int32 → Int32 → Int32 → Int32 → Int32 → Option (Int32 × hPl × Nat)) (hrec : ∀ (f : hPl) (z : Nat) (a : Nat) (v1 : Int32) (v2 : Int32) (v3 : Int32) (v4 : Int32) (v5 : Int32) (v7 : Int32), rec f z a v1 v2 v3 v4 v5 v7 = some (r, f', z') → ∀ (H : Heap) (locs : List Loc) (ls : Array Slot), hW g A s f z H locs → lv_has ls 8 [(0, .ref a), (1, .int v1), (2, .int v2), (3, .int v3), (4, .int v4), (5, .int v5), (7, .int v7)] → W p l e (hRm 2 0 0) s m args below meth c H locs 0 0 (hZ g A below args s 0 0 (some (.int r)) f' z') (F0 m 70 ls []))  : ∀ (f : hPl) (z : Nat) (a : Nat) (v1 : Int32) (v2 : Int32) (v3 : Int32) (v4 : Int32) (v5 : Int32) (v7 : Int32), fX4_sweep_j70s rec f z a v1 v2 v3 v4 v5 v7 = some (r, f', z') → ∀ (H : Heap) (locs : List Loc) (ls : Array Slot), hW g A s f z H locs → lv_has ls 8 [(0, .ref a), (1, .int v1), (2, .int v2), (3, .int v3), (4, .int v4), (5, .int v5), (7, .int v7)] → W p l e (hRm 2 0 0) s m args below meth c H locs 0 0 (hZ g A below args s 0 0 (some (.int r)) f' z') (F0 m 70 ls []) := by
  obtain ⟨hx, hb, hml, hown, hts, hr, hlocks, hk⟩ := id C
  intro f z a v1 v2 v3 v4 v5 v7 h H locs ls hw hl
  unfold fX4_sweep_j70s at h
  refine lv_iload hx hb dX4_sweep_70 (lv_at hl 6 rfl) ?_
  refine lv_iload hx hb dX4_sweep_72 (lv_at hl 5 rfl) ?_
  refine lv_icmp_ge (tgt := 109) hx hb dX4_sweep_74 (by decide) (fun c15 => ?_) (fun c15 => ?_)
  · rw [if_pos c15] at h
    refine lv_aload_n hx hb dX4_sweep_109 rfl (lv_at hl 0 rfl) ?_
    refine lv_aload_n hx hb dX4_sweep_110 rfl (lv_at hl 0 rfl) ?_
    replace h := hbd h
    obtain ⟨q16, eq16, h⟩ := h
    refine hr_getQ (C := RX4) (T := TX4) (N := 9) hx hb hts iX4_sweep_X4 hown hk hw rfl 0 (by decide) (hts (.fieldLink RX4 9 "SetterBenchModel" "lies" "[I") (by decide +kernel)) (fun _ h9 => h9) eq16 dX4_sweep_111 ?_
    refine lv_iload_n hx hb dX4_sweep_114 rfl (lv_at hl 3 rfl) ?_
    replace h := hbd h
    obtain ⟨a17, rfl, h⟩ := h
    replace h := hbd h
    obtain ⟨x18, ex18, h⟩ := h
    refine hr_lI hx hb hk hw ex18 dX4_sweep_115 ?_
    replace h := hbd h
    obtain ⟨f19, ef19, h⟩ := h
    refine hr_put (C := RX4) (T := TX4) (N := 9) (ty := .int) hx hb hts iX4_sweep_X4 tyX4 tyX4_ok nmX4 hown hk hw rfl 7 (by decide) (hts (.fieldLink RX4 32 "SetterBenchModel" "keeper" "I") (by decide +kernel)) (fun _ h9 => h9) rfl (by decide +kernel) rfl rfl ef19 dX4_sweep_116 (fun H locs hw => ?_)
    refine lv_iconst (v := 0) hx hb dX4_sweep_119 (by decide) ?_
    refine lv_istore (lv' := [(7, .int 0), (0, .ref a), (1, .int v1), (2, .int v2), (3, .int v3), (4, .int v4), (5, .int v5)]) hx hb dX4_sweep_120 hl (by decide) rfl (fun ls hl => ?_)
    exact kX4_sweep_j122 C 64 _ _ _ _ _ _ _ h _ _ _ hw (lv_sub hl [1, 4, 5, 6, 0] rfl)
  · rw [if_neg c15] at h
    refine lv_aload_n hx hb dX4_sweep_77 rfl (lv_at hl 0 rfl) ?_
    replace h := hbd h
    obtain ⟨q36, eq36, h⟩ := h
    refine hr_getQ (C := RX4) (T := TX4) (N := 9) hx hb hts iX4_sweep_X4 hown hk hw rfl 5 (by decide) (hts (.fieldLink RX4 26 "SetterBenchModel" "carried" "[J") (by decide +kernel)) (fun _ h9 => h9) eq36 dX4_sweep_78 ?_
    refine lv_iload hx hb dX4_sweep_81 (lv_at hl 6 rfl) ?_
    refine lv_aload_n hx hb dX4_sweep_83 rfl (lv_at hl 0 rfl) ?_
    replace h := hbd h
    obtain ⟨q37, eq37, h⟩ := h
    refine hr_getQ (C := RX4) (T := TX4) (N := 9) hx hb hts iX4_sweep_X4 hown hk hw rfl 4 (by decide) (hts (.fieldLink RX4 22 "SetterBenchModel" "members" "[J") (by decide +kernel)) (fun _ h9 => h9) eq37 dX4_sweep_84 ?_
    refine lv_bipush (v := 40) hx hb dX4_sweep_87 (by decide) ?_
    refine lv_aload_n hx hb dX4_sweep_89 rfl (lv_at hl 0 rfl) ?_
    replace h := hbd h
    obtain ⟨q38, eq38, h⟩ := h
    refine hr_getQ (C := RX4) (T := TX4) (N := 9) hx hb hts iX4_sweep_X4 hown hk hw rfl 0 (by decide) (hts (.fieldLink RX4 9 "SetterBenchModel" "lies" "[I") (by decide +kernel)) (fun _ h9 => h9) eq38 dX4_sweep_90 ?_
    refine lv_iload_n hx hb dX4_sweep_93 rfl (lv_at hl 1 rfl) ?_
    replace h := hbd h
    obtain ⟨a39, rfl, h⟩ := h
    replace h := hbd h
    obtain ⟨x40, ex40, h⟩ := h
    refine hr_lI hx hb hk hw ex40 dX4_sweep_94 ?_
    refine lv_imul hx hb dX4_sweep_95 ?_
    refine lv_iload_n hx hb dX4_sweep_96 rfl (lv_at hl 2 rfl) ?_
    refine lv_iadd hx hb dX4_sweep_97 ?_
    refine lv_iload hx hb dX4_sweep_98 (lv_at hl 6 rfl) ?_
    refine lv_iadd hx hb dX4_sweep_100 ?_
    replace h := hbd h
    obtain ⟨a41, rfl, h⟩ := h
    replace h := hbd h
    obtain ⟨x42, ex42, h⟩ := h
    refine hr_lJ hx hb hk hw ex42 dX4_sweep_101 ?_
    replace h := hbd h
    obtain ⟨a43, rfl, h⟩ := h
    replace h := hbd h
    obtain ⟨f44, ef44, h⟩ := h
    refine hr_sJ hx hb hk hw ef44 dX4_sweep_102 (fun H locs hw => ?_)
    refine lv_iinc (v := (v7 + 1)) (lv' := [(7, .int (v7 + 1)), (0, .ref a), (1, .int v1), (2, .int v2), (3, .int v3), (4, .int v4), (5, .int v5)]) hx hb dX4_sweep_103 hl (k := 6) rfl rfl (by decide) rfl (fun ls hl => ?_)
    refine lv_goto (tgt := 70) hx hb dX4_sweep_106 (by decide) ?_
    exact hrec _ _ _ _ _ _ _ _ _ h _ _ _ hw (lv_sub hl [1, 2, 3, 4, 5, 6, 0] rfl)
def fX4_sweep_j70 (n : Nat) : hPl → Nat → Nat → Int32 → Int32 → Int32 → Int32 → Int32 → Int32 → Option (Int32 × hPl × Nat) := match n with
  | 0 => fun _ _ _ _ _ _ _ _ _ => none
  | n + 1 => fX4_sweep_j70s (fX4_sweep_j70 n)
theorem kX4_sweep_j70 {g : hGb} {p : Program} {l : Launch} {e : Env} {s : State} {m : MethodId} {args : Array Value} {below : List Frame} {meth : Method} {c : Code} {A : Nat → Prop} (C : hX g p s m args meth c RX4 cX4_sweep 8 wsX4_sweep (some .int)) {r : Int32} {f' : hPl} {z' : Nat} (n : Nat) : ∀ (f : hPl) (z : Nat) (a : Nat) (v1 : Int32) (v2 : Int32) (v3 : Int32) (v4 : Int32) (v5 : Int32) (v7 : Int32), fX4_sweep_j70 n f z a v1 v2 v3 v4 v5 v7 = some (r, f', z') → ∀ (H : Heap) (locs : List Loc) (ls : Array Slot), hW g A s f z H locs → lv_has ls 8 [(0, .ref a), (1, .int v1), (2, .int v2), (3, .int v3), (4, .int v4), (5, .int v5), (7, .int v7)] → W p l e (hRm 2 0 0) s m args below meth c H locs 0 0 (hZ g A below args s 0 0 (some (.int r)) f' z') (F0 m 70 ls []) := by
  induction n with
  | zero =>
    intro f z a v1 v2 v3 v4 v5 v7 h
    cases h
  | succ n ih => exact kX4_sweep_j70s C (fX4_sweep_j70 n) ih
def fX4_sweep (f : hPl) (z : Nat) (a : Nat) (p1 : Int32) (p2 : Int32) (p3 : Int32) (p4 : Int32) (p5 : Int32) : Option (Int32 × hPl × Nat) := (fX4_isPlace f  p1).bind fun r1 => (if r1 = 0 then some ((-1), f, z) else (fX4_isPlace f  p3).bind fun r3 => (if r3 = 0 then some ((-1), f, z) else (hob f a 3).bind fun u5 => (fX4_sortOn f a p1).bind fun r6 => (hob f a 3).bind fun u7 => (fX4_manyOn f a p1).bind fun r8 => (hob f a 3).bind fun u9 => (fX4_sortOn f a p3).bind fun r10 => (hob f a 3).bind fun u11 => (fX4_manyOn f a p3).bind fun r12 => (fX4_refusal f  r6 r8 p2 r10 r12 p4 p5).bind fun r13 => (if r13 ≤ 0 then fX4_sweep_j70 64 f z a p1 p2 p3 p4 p5 0 else (hgQ f a 3 8).bind fun q45 => q45.bind fun a46 => (hlI f a46 (1 + r13)).bind fun x47 => (hsI f a46 (1 + r13) (x47 + 1)).bind fun f48 => some (r13, f48, z))))
set_option maxHeartbeats 4000000 in
set_option maxRecDepth 100000 in
theorem kX4_sweep (l : Launch) (g : hGb) {f : hPl} {z : Nat} {a : Nat} {p1 : Int32} {p2 : Int32} {p3 : Int32} {p4 : Int32} {p5 : Int32} {r : Int32} {f' : hPl} {z' : Nat} (h : fX4_sweep f z a p1 p2 p3 p4 p5 = some (r, f', z')) : hCt l g yX4_sweep wsX4_sweep 2 0 0 [.ref a, .int p1, .int p2, .int p3, .int p4, .int p5] f z (some (.int r)) f' z' := by
  refine hCt.of (cc := cX4_sweep) (maxL := 8) (ret := (some .int)) (by decide +kernel) rfl (by exact Nat.le_of_ble_eq_true rfl) ?_
  intro p e s m below meth c C hname hw ls hl
  obtain ⟨hx, hb, hml, hown, hts, hr, hlocks, hk⟩ := id C
  have hl : lv_has ls 8 [(0, .ref a), (1, .int p1), (2, .int p2), (3, .int p3), (4, .int p4), (5, .int p5)] := hl
  have hown : s.vm.findClass RX4 = some m.cls := hown
  unfold fX4_sweep at h
  refine lv_iload_n hx hb dX4_sweep_0 rfl (lv_at hl 1 rfl) ?_
  replace h := hbd h
  obtain ⟨r1, er1, h⟩ := h
  refine hcallS (o := some (.int r1)) hx hb hml hown hts hk [.int p1] [] (kX4_isPlace l g er1) gX4_sweep_X4_isPlace rfl (n := 1) rfl (by decide +kernel) ⟨Nat.le_of_ble_eq_true rfl, Nat.le_of_ble_eq_true rfl⟩ hw hl.1 rfl (Nat.le_of_ble_eq_true rfl) dX4_sweep_1 ⟨Nat.le_of_ble_eq_true rfl, Nat.le_of_ble_eq_true rfl⟩ (fun H locs hw => ?_)
  refine W.eq (g2 := F0 m 4 ls [.int r1]) rfl ?_
  refine lv_if_eq (tgt := 14) hx hb dX4_sweep_4 (by decide) (fun c2 => ?_) (fun c2 => ?_)
  · rw [if_pos c2] at h
    refine lv_iconst (v := (-1)) hx hb dX4_sweep_14 (by decide) ?_
    cases h
    exact hret_i hx hb hr hlocks hw dX4_sweep_15
  · rw [if_neg c2] at h
    refine lv_iload_n hx hb dX4_sweep_7 rfl (lv_at hl 3 rfl) ?_
    replace h := hbd h
    obtain ⟨r3, er3, h⟩ := h
    refine hcallS (o := some (.int r3)) hx hb hml hown hts hk [.int p3] [] (kX4_isPlace l g er3) gX4_sweep_X4_isPlace rfl (n := 1) rfl (by decide +kernel) ⟨Nat.le_of_ble_eq_true rfl, Nat.le_of_ble_eq_true rfl⟩ hw hl.1 rfl (Nat.le_of_ble_eq_true rfl) dX4_sweep_8 ⟨Nat.le_of_ble_eq_true rfl, Nat.le_of_ble_eq_true rfl⟩ (fun H locs hw => ?_)
    refine W.eq (g2 := F0 m 11 ls [.int r3]) rfl ?_
    refine lv_if_ne (tgt := 16) hx hb dX4_sweep_11 (by decide) (fun c4 => ?_) (fun c4 => ?_)
    · rw [if_neg c4] at h
      refine lv_aload_n hx hb dX4_sweep_16 rfl (lv_at hl 0 rfl) ?_
      refine lv_iload_n hx hb dX4_sweep_17 rfl (lv_at hl 1 rfl) ?_
      replace h := hbd h
      obtain ⟨u5, eu5, h⟩ := h
      replace h := hbd h
      obtain ⟨r6, er6, h⟩ := h
      refine hcallV (o := some (.int r6)) hx hb hml hown hts hk [.int p1] [] (kX4_sortOn l g er6) gX4_sweep_X4_sortOn rfl (n := 1) rfl (by decide +kernel) ⟨Nat.le_of_ble_eq_true rfl, Nat.le_of_ble_eq_true rfl⟩ (ci := 3) rfl eu5 hw hl.1 rfl (Nat.le_of_ble_eq_true rfl) dX4_sweep_18 ⟨Nat.le_of_ble_eq_true rfl, Nat.le_of_ble_eq_true rfl⟩ (fun H locs hw => ?_)
      refine W.eq (g2 := F0 m 21 ls [.int r6]) rfl ?_
      refine lv_aload_n hx hb dX4_sweep_21 rfl (lv_at hl 0 rfl) ?_
      refine lv_iload_n hx hb dX4_sweep_22 rfl (lv_at hl 1 rfl) ?_
      replace h := hbd h
      obtain ⟨u7, eu7, h⟩ := h
      replace h := hbd h
      obtain ⟨r8, er8, h⟩ := h
      refine hcallV (o := some (.int r8)) hx hb hml hown hts hk [.int p1] [.int r6] (kX4_manyOn l g er8) gX4_sweep_X4_manyOn rfl (n := 1) rfl (by decide +kernel) ⟨Nat.le_of_ble_eq_true rfl, Nat.le_of_ble_eq_true rfl⟩ (ci := 3) rfl eu7 hw hl.1 rfl (Nat.le_of_ble_eq_true rfl) dX4_sweep_23 ⟨Nat.le_of_ble_eq_true rfl, Nat.le_of_ble_eq_true rfl⟩ (fun H locs hw => ?_)
      refine W.eq (g2 := F0 m 26 ls [.int r8, .int r6]) rfl ?_
      refine lv_iload_n hx hb dX4_sweep_26 rfl (lv_at hl 2 rfl) ?_
      refine lv_aload_n hx hb dX4_sweep_27 rfl (lv_at hl 0 rfl) ?_
      refine lv_iload_n hx hb dX4_sweep_28 rfl (lv_at hl 3 rfl) ?_
      replace h := hbd h
      obtain ⟨u9, eu9, h⟩ := h
      replace h := hbd h
      obtain ⟨r10, er10, h⟩ := h
      refine hcallV (o := some (.int r10)) hx hb hml hown hts hk [.int p3] [.int p2, .int r8, .int r6] (kX4_sortOn l g er10) gX4_sweep_X4_sortOn rfl (n := 1) rfl (by decide +kernel) ⟨Nat.le_of_ble_eq_true rfl, Nat.le_of_ble_eq_true rfl⟩ (ci := 3) rfl eu9 hw hl.1 rfl (Nat.le_of_ble_eq_true rfl) dX4_sweep_29 ⟨Nat.le_of_ble_eq_true rfl, Nat.le_of_ble_eq_true rfl⟩ (fun H locs hw => ?_)
      refine W.eq (g2 := F0 m 32 ls [.int r10, .int p2, .int r8, .int r6]) rfl ?_
      refine lv_aload_n hx hb dX4_sweep_32 rfl (lv_at hl 0 rfl) ?_
      refine lv_iload_n hx hb dX4_sweep_33 rfl (lv_at hl 3 rfl) ?_
      replace h := hbd h
      obtain ⟨u11, eu11, h⟩ := h
      replace h := hbd h
      obtain ⟨r12, er12, h⟩ := h
      refine hcallV (o := some (.int r12)) hx hb hml hown hts hk [.int p3] [.int r10, .int p2, .int r8, .int r6] (kX4_manyOn l g er12) gX4_sweep_X4_manyOn rfl (n := 1) rfl (by decide +kernel) ⟨Nat.le_of_ble_eq_true rfl, Nat.le_of_ble_eq_true rfl⟩ (ci := 3) rfl eu11 hw hl.1 rfl (Nat.le_of_ble_eq_true rfl) dX4_sweep_34 ⟨Nat.le_of_ble_eq_true rfl, Nat.le_of_ble_eq_true rfl⟩ (fun H locs hw => ?_)
      refine W.eq (g2 := F0 m 37 ls [.int r12, .int r10, .int p2, .int r8, .int r6]) rfl ?_
      refine lv_iload hx hb dX4_sweep_37 (lv_at hl 4 rfl) ?_
      refine lv_iload hx hb dX4_sweep_39 (lv_at hl 5 rfl) ?_
      replace h := hbd h
      obtain ⟨r13, er13, h⟩ := h
      refine hcallS (o := some (.int r13)) hx hb hml hown hts hk [.int r6, .int r8, .int p2, .int r10, .int r12, .int p4, .int p5] [] (kX4_refusal l g er13) gX4_sweep_X4_refusal rfl (n := 7) rfl (by decide +kernel) ⟨Nat.le_of_ble_eq_true rfl, Nat.le_of_ble_eq_true rfl⟩ hw hl.1 rfl (Nat.le_of_ble_eq_true rfl) dX4_sweep_41 ⟨Nat.le_of_ble_eq_true rfl, Nat.le_of_ble_eq_true rfl⟩ (fun H locs hw => ?_)
      refine W.eq (g2 := F0 m 44 ls [.int r13]) rfl ?_
      refine lv_istore (lv' := [(6, .int r13), (0, .ref a), (1, .int p1), (2, .int p2), (3, .int p3), (4, .int p4), (5, .int p5)]) hx hb dX4_sweep_44 hl (by decide) rfl (fun ls hl => ?_)
      refine lv_iload hx hb dX4_sweep_46 (lv_at hl 0 rfl) ?_
      refine lv_if_le (tgt := 67) hx hb dX4_sweep_48 (by decide) (fun c14 => ?_) (fun c14 => ?_)
      · rw [if_pos c14] at h
        refine lv_iconst (v := 0) hx hb dX4_sweep_67 (by decide) ?_
        refine lv_istore (lv' := [(7, .int 0), (6, .int r13), (0, .ref a), (1, .int p1), (2, .int p2), (3, .int p3), (4, .int p4), (5, .int p5)]) hx hb dX4_sweep_68 hl (by decide) rfl (fun ls hl => ?_)
        exact kX4_sweep_j70 C 64 _ _ _ _ _ _ _ _ _ h _ _ _ hw (lv_sub hl [2, 3, 4, 5, 6, 7, 0] rfl)
      · rw [if_neg c14] at h
        refine lv_aload_n hx hb dX4_sweep_51 rfl (lv_at hl 1 rfl) ?_
        replace h := hbd h
        obtain ⟨q45, eq45, h⟩ := h
        refine hr_getQ (C := RX4) (T := TX4) (N := 9) hx hb hts iX4_sweep_X4 hown hk hw rfl 8 (by decide) (hts (.fieldLink RX4 36 "SetterBenchModel" "counts" "[I") (by decide +kernel)) (fun _ h9 => h9) eq45 dX4_sweep_52 ?_
        refine lv_iconst (v := 1) hx hb dX4_sweep_55 (by decide) ?_
        refine lv_iload hx hb dX4_sweep_56 (lv_at hl 0 rfl) ?_
        refine lv_iadd hx hb dX4_sweep_58 ?_
        refine lv_dup2_11 hx hb dX4_sweep_59 rfl (by cases q45 <;> rfl) ?_
        replace h := hbd h
        obtain ⟨a46, rfl, h⟩ := h
        replace h := hbd h
        obtain ⟨x47, ex47, h⟩ := h
        refine hr_lI hx hb hk hw ex47 dX4_sweep_60 ?_
        refine lv_iconst (v := 1) hx hb dX4_sweep_61 (by decide) ?_
        refine lv_iadd hx hb dX4_sweep_62 ?_
        replace h := hbd h
        obtain ⟨f48, ef48, h⟩ := h
        refine hr_sI hx hb hk hw ef48 dX4_sweep_63 (fun H locs hw => ?_)
        refine lv_iload hx hb dX4_sweep_64 (lv_at hl 0 rfl) ?_
        cases h
        exact hret_i hx hb hr hlocks hw dX4_sweep_66
    · rw [if_pos c4] at h
      refine lv_iconst (v := (-1)) hx hb dX4_sweep_14 (by decide) ?_
      cases h
      exact hret_i hx hb hr hlocks hw dX4_sweep_15
theorem iX4_back_X4 : ∀ w ∈ wsX40, w ∈ wsX4_back := by decide +kernel
def fX4_back_j22s (rec : hPl → Nat → Nat → Int32 → Int32 → Option (Int32 × hPl × Nat)) (f : hPl) (z : Nat) (a : Nat) (v1 : Int32) (v2 : Int32) : Option (Int32 × hPl × Nat) := (if v1 ≤ v2 then (hput f a 3 7 (.int (-1))).bind fun f8 => some (v1, f8, z) else (hgQ f a 3 4).bind fun q9 => (hgI f a 3 7).bind fun x10 => (hgQ f a 3 6).bind fun q11 => q11.bind fun a12 => (hlJ f a12 v2).bind fun x13 => q9.bind fun a14 => (hsJ f a14 ((40 * x10) + v2) x13).bind fun f15 => rec f15 z a v1 (v2 + 1))
set_option maxHeartbeats 4000000 in
set_option maxRecDepth 100000 in
theorem kX4_back_j22s {g : hGb} {p : Program} {l : Launch} {e : Env} {s : State} {m : MethodId} {args : Array Value} {below : List Frame} {meth : Method} {c : Code} {A : Nat → Prop} (C : hX g p s m args meth c RX4 cX4_back 3 wsX4_back (some .int)) {r : Int32} {f' : hPl} {z' : Nat} (rec : hPl → Nat → Nat → Int32 → Int32 → Option (Int32 × hPl × Nat)) (hrec : ∀ (f : hPl) (z : Nat) (a : Nat) (v1 : Int32) (v2 : Int32), rec f z a v1 v2 = some (r, f', z') → ∀ (H : Heap) (locs : List Loc) (ls : Array Slot), hW g A s f z H locs → lv_has ls 3 [(0, .ref a), (1, .int v1), (2, .int v2)] → W p l e (hRm 0 0 0) s m args below meth c H locs 0 0 (hZ g A below args s 0 0 (some (.int r)) f' z') (F0 m 22 ls []))  : ∀ (f : hPl) (z : Nat) (a : Nat) (v1 : Int32) (v2 : Int32), fX4_back_j22s rec f z a v1 v2 = some (r, f', z') → ∀ (H : Heap) (locs : List Loc) (ls : Array Slot), hW g A s f z H locs → lv_has ls 3 [(0, .ref a), (1, .int v1), (2, .int v2)] → W p l e (hRm 0 0 0) s m args below meth c H locs 0 0 (hZ g A below args s 0 0 (some (.int r)) f' z') (F0 m 22 ls []) := by
  obtain ⟨hx, hb, hml, hown, hts, hr, hlocks, hk⟩ := id C
  intro f z a v1 v2 h H locs ls hw hl
  unfold fX4_back_j22s at h
  refine lv_iload_n hx hb dX4_back_22 rfl (lv_at hl 2 rfl) ?_
  refine lv_iload_n hx hb dX4_back_23 rfl (lv_at hl 1 rfl) ?_
  refine lv_icmp_ge (tgt := 53) hx hb dX4_back_24 (by decide) (fun c7 => ?_) (fun c7 => ?_)
  · rw [if_pos c7] at h
    refine lv_aload_n hx hb dX4_back_53 rfl (lv_at hl 0 rfl) ?_
    refine lv_iconst (v := (-1)) hx hb dX4_back_54 (by decide) ?_
    replace h := hbd h
    obtain ⟨f8, ef8, h⟩ := h
    refine hr_put (C := RX4) (T := TX4) (N := 9) (ty := .int) hx hb hts iX4_back_X4 tyX4 tyX4_ok nmX4 hown hk hw rfl 7 (by decide) (hts (.fieldLink RX4 32 "SetterBenchModel" "keeper" "I") (by decide +kernel)) (fun _ h9 => h9) rfl (by decide +kernel) rfl rfl ef8 dX4_back_55 (fun H locs hw => ?_)
    refine lv_iload_n hx hb dX4_back_58 rfl (lv_at hl 1 rfl) ?_
    cases h
    exact hret_i hx hb hr hlocks hw dX4_back_59
  · rw [if_neg c7] at h
    refine lv_aload_n hx hb dX4_back_27 rfl (lv_at hl 0 rfl) ?_
    replace h := hbd h
    obtain ⟨q9, eq9, h⟩ := h
    refine hr_getQ (C := RX4) (T := TX4) (N := 9) hx hb hts iX4_back_X4 hown hk hw rfl 4 (by decide) (hts (.fieldLink RX4 22 "SetterBenchModel" "members" "[J") (by decide +kernel)) (fun _ h9 => h9) eq9 dX4_back_28 ?_
    refine lv_bipush (v := 40) hx hb dX4_back_31 (by decide) ?_
    refine lv_aload_n hx hb dX4_back_33 rfl (lv_at hl 0 rfl) ?_
    replace h := hbd h
    obtain ⟨x10, ex10, h⟩ := h
    refine hr_getI (C := RX4) (T := TX4) (N := 9) hx hb hts iX4_back_X4 hown hk hw rfl 7 (by decide) (hts (.fieldLink RX4 32 "SetterBenchModel" "keeper" "I") (by decide +kernel)) (fun _ h9 => h9) ex10 dX4_back_34 ?_
    refine lv_imul hx hb dX4_back_37 ?_
    refine lv_iload_n hx hb dX4_back_38 rfl (lv_at hl 2 rfl) ?_
    refine lv_iadd hx hb dX4_back_39 ?_
    refine lv_aload_n hx hb dX4_back_40 rfl (lv_at hl 0 rfl) ?_
    replace h := hbd h
    obtain ⟨q11, eq11, h⟩ := h
    refine hr_getQ (C := RX4) (T := TX4) (N := 9) hx hb hts iX4_back_X4 hown hk hw rfl 6 (by decide) (hts (.fieldLink RX4 29 "SetterBenchModel" "kept" "[J") (by decide +kernel)) (fun _ h9 => h9) eq11 dX4_back_41 ?_
    refine lv_iload_n hx hb dX4_back_44 rfl (lv_at hl 2 rfl) ?_
    replace h := hbd h
    obtain ⟨a12, rfl, h⟩ := h
    replace h := hbd h
    obtain ⟨x13, ex13, h⟩ := h
    refine hr_lJ hx hb hk hw ex13 dX4_back_45 ?_
    replace h := hbd h
    obtain ⟨a14, rfl, h⟩ := h
    replace h := hbd h
    obtain ⟨f15, ef15, h⟩ := h
    refine hr_sJ hx hb hk hw ef15 dX4_back_46 (fun H locs hw => ?_)
    refine lv_iinc (v := (v2 + 1)) (lv' := [(2, .int (v2 + 1)), (0, .ref a), (1, .int v1)]) hx hb dX4_back_47 hl (k := 2) rfl rfl (by decide) rfl (fun ls hl => ?_)
    refine lv_goto (tgt := 22) hx hb dX4_back_50 (by decide) ?_
    exact hrec _ _ _ _ _ h _ _ _ hw (lv_sub hl [1, 2, 0] rfl)
def fX4_back_j22 (n : Nat) : hPl → Nat → Nat → Int32 → Int32 → Option (Int32 × hPl × Nat) := match n with
  | 0 => fun _ _ _ _ _ => none
  | n + 1 => fX4_back_j22s (fX4_back_j22 n)
theorem kX4_back_j22 {g : hGb} {p : Program} {l : Launch} {e : Env} {s : State} {m : MethodId} {args : Array Value} {below : List Frame} {meth : Method} {c : Code} {A : Nat → Prop} (C : hX g p s m args meth c RX4 cX4_back 3 wsX4_back (some .int)) {r : Int32} {f' : hPl} {z' : Nat} (n : Nat) : ∀ (f : hPl) (z : Nat) (a : Nat) (v1 : Int32) (v2 : Int32), fX4_back_j22 n f z a v1 v2 = some (r, f', z') → ∀ (H : Heap) (locs : List Loc) (ls : Array Slot), hW g A s f z H locs → lv_has ls 3 [(0, .ref a), (1, .int v1), (2, .int v2)] → W p l e (hRm 0 0 0) s m args below meth c H locs 0 0 (hZ g A below args s 0 0 (some (.int r)) f' z') (F0 m 22 ls []) := by
  induction n with
  | zero =>
    intro f z a v1 v2 h
    cases h
  | succ n ih => exact kX4_back_j22s C (fX4_back_j22 n) ih
def fX4_back (f : hPl) (z : Nat) (a : Nat) : Option (Int32 × hPl × Nat) := (hgI f a 3 7).bind fun x1 => (if x1 = (-1) then some ((-1), f, z) else (hgQ f a 3 2).bind fun q3 => (hgI f a 3 7).bind fun x4 => q3.bind fun a5 => (hlI f a5 x4).bind fun x6 => fX4_back_j22 64 f z a x6 0)
set_option maxHeartbeats 4000000 in
set_option maxRecDepth 100000 in
theorem kX4_back (l : Launch) (g : hGb) {f : hPl} {z : Nat} {a : Nat} {r : Int32} {f' : hPl} {z' : Nat} (h : fX4_back f z a = some (r, f', z')) : hCt l g yX4_back wsX4_back 0 0 0 [.ref a] f z (some (.int r)) f' z' := by
  refine hCt.of (cc := cX4_back) (maxL := 3) (ret := (some .int)) (by decide +kernel) rfl (by exact Nat.le_of_ble_eq_true rfl) ?_
  intro p e s m below meth c C hname hw ls hl
  obtain ⟨hx, hb, hml, hown, hts, hr, hlocks, hk⟩ := id C
  have hl : lv_has ls 3 [(0, .ref a)] := hl
  have hown : s.vm.findClass RX4 = some m.cls := hown
  unfold fX4_back at h
  refine lv_aload_n hx hb dX4_back_0 rfl (lv_at hl 0 rfl) ?_
  replace h := hbd h
  obtain ⟨x1, ex1, h⟩ := h
  refine hr_getI (C := RX4) (T := TX4) (N := 9) hx hb hts iX4_back_X4 hown hk hw rfl 7 (by decide) (hts (.fieldLink RX4 32 "SetterBenchModel" "keeper" "I") (by decide +kernel)) (fun _ h9 => h9) ex1 dX4_back_1 ?_
  refine lv_iconst (v := (-1)) hx hb dX4_back_4 (by decide) ?_
  refine lv_icmp_ne (tgt := 10) hx hb dX4_back_5 (by decide) (fun c2 => ?_) (fun c2 => ?_)
  · rw [if_neg c2] at h
    refine lv_aload_n hx hb dX4_back_10 rfl (lv_at hl 0 rfl) ?_
    replace h := hbd h
    obtain ⟨q3, eq3, h⟩ := h
    refine hr_getQ (C := RX4) (T := TX4) (N := 9) hx hb hts iX4_back_X4 hown hk hw rfl 2 (by decide) (hts (.fieldLink RX4 16 "SetterBenchModel" "many" "[I") (by decide +kernel)) (fun _ h9 => h9) eq3 dX4_back_11 ?_
    refine lv_aload_n hx hb dX4_back_14 rfl (lv_at hl 0 rfl) ?_
    replace h := hbd h
    obtain ⟨x4, ex4, h⟩ := h
    refine hr_getI (C := RX4) (T := TX4) (N := 9) hx hb hts iX4_back_X4 hown hk hw rfl 7 (by decide) (hts (.fieldLink RX4 32 "SetterBenchModel" "keeper" "I") (by decide +kernel)) (fun _ h9 => h9) ex4 dX4_back_15 ?_
    replace h := hbd h
    obtain ⟨a5, rfl, h⟩ := h
    replace h := hbd h
    obtain ⟨x6, ex6, h⟩ := h
    refine hr_lI hx hb hk hw ex6 dX4_back_18 ?_
    refine lv_istore_n (lv' := [(1, .int x6), (0, .ref a)]) hx hb dX4_back_19 rfl hl (by decide) rfl (fun ls hl => ?_)
    refine lv_iconst (v := 0) hx hb dX4_back_20 (by decide) ?_
    refine lv_istore_n (lv' := [(2, .int 0), (1, .int x6), (0, .ref a)]) hx hb dX4_back_21 rfl hl (by decide) rfl (fun ls hl => ?_)
    exact kX4_back_j22 C 64 _ _ _ _ _ h _ _ _ hw (lv_sub hl [2, 1, 0] rfl)
  · rw [if_pos c2] at h
    refine lv_iconst (v := (-1)) hx hb dX4_back_8 (by decide) ?_
    cases h
    exact hret_i hx hb hr hlocks hw dX4_back_9
theorem iX4_light_X4 : ∀ w ∈ wsX40, w ∈ wsX4_light := by decide +kernel
def fX4_light (f : hPl) (z : Nat) (a : Nat) (p1 : Int32) : Option (Int32 × hPl × Nat) := (fX4_isPlace f  p1).bind fun r1 => (if r1 = 0 then some ((-1), f, z) else (hob f a 3).bind fun u3 => (fX4_sortOn f a p1).bind fun r4 => (if r4 = 1 then (hgQ f a 3 3).bind fun q6 => (hgQ f a 3 0).bind fun q7 => q7.bind fun a8 => (hlI f a8 p1).bind fun x9 => q6.bind fun a10 => (hlI f a10 x9).bind fun x11 => (hsI f a10 x9 (x11 + 1)).bind fun f12 => (hgQ f12 a 3 3).bind fun q13 => (hgQ f12 a 3 0).bind fun q14 => q14.bind fun a15 => (hlI f12 a15 p1).bind fun x16 => q13.bind fun a17 => (hlI f12 a17 x16).bind fun x18 => some (x18, f12, z) else some ((-1), f, z)))
set_option maxHeartbeats 4000000 in
set_option maxRecDepth 100000 in
theorem kX4_light (l : Launch) (g : hGb) {f : hPl} {z : Nat} {a : Nat} {p1 : Int32} {r : Int32} {f' : hPl} {z' : Nat} (h : fX4_light f z a p1 = some (r, f', z')) : hCt l g yX4_light wsX4_light 1 0 0 [.ref a, .int p1] f z (some (.int r)) f' z' := by
  refine hCt.of (cc := cX4_light) (maxL := 2) (ret := (some .int)) (by decide +kernel) rfl (by exact Nat.le_of_ble_eq_true rfl) ?_
  intro p e s m below meth c C hname hw ls hl
  obtain ⟨hx, hb, hml, hown, hts, hr, hlocks, hk⟩ := id C
  have hl : lv_has ls 2 [(0, .ref a), (1, .int p1)] := hl
  have hown : s.vm.findClass RX4 = some m.cls := hown
  unfold fX4_light at h
  refine lv_iload_n hx hb dX4_light_0 rfl (lv_at hl 1 rfl) ?_
  replace h := hbd h
  obtain ⟨r1, er1, h⟩ := h
  refine hcallS (o := some (.int r1)) hx hb hml hown hts hk [.int p1] [] (kX4_isPlace l g er1) gX4_light_X4_isPlace rfl (n := 1) rfl (by decide +kernel) ⟨Nat.le_of_ble_eq_true rfl, Nat.le_of_ble_eq_true rfl⟩ hw hl.1 rfl (Nat.le_of_ble_eq_true rfl) dX4_light_1 ⟨Nat.le_of_ble_eq_true rfl, Nat.le_of_ble_eq_true rfl⟩ (fun H locs hw => ?_)
  refine W.eq (g2 := F0 m 4 ls [.int r1]) rfl ?_
  refine lv_if_eq (tgt := 16) hx hb dX4_light_4 (by decide) (fun c2 => ?_) (fun c2 => ?_)
  · rw [if_pos c2] at h
    refine lv_iconst (v := (-1)) hx hb dX4_light_16 (by decide) ?_
    cases h
    exact hret_i hx hb hr hlocks hw dX4_light_17
  · rw [if_neg c2] at h
    refine lv_aload_n hx hb dX4_light_7 rfl (lv_at hl 0 rfl) ?_
    refine lv_iload_n hx hb dX4_light_8 rfl (lv_at hl 1 rfl) ?_
    replace h := hbd h
    obtain ⟨u3, eu3, h⟩ := h
    replace h := hbd h
    obtain ⟨r4, er4, h⟩ := h
    refine hcallV (o := some (.int r4)) hx hb hml hown hts hk [.int p1] [] (kX4_sortOn l g er4) gX4_light_X4_sortOn rfl (n := 1) rfl (by decide +kernel) ⟨Nat.le_of_ble_eq_true rfl, Nat.le_of_ble_eq_true rfl⟩ (ci := 3) rfl eu3 hw hl.1 rfl (Nat.le_of_ble_eq_true rfl) dX4_light_9 ⟨Nat.le_of_ble_eq_true rfl, Nat.le_of_ble_eq_true rfl⟩ (fun H locs hw => ?_)
    refine W.eq (g2 := F0 m 12 ls [.int r4]) rfl ?_
    refine lv_iconst (v := 1) hx hb dX4_light_12 (by decide) ?_
    refine lv_icmp_eq (tgt := 18) hx hb dX4_light_13 (by decide) (fun c5 => ?_) (fun c5 => ?_)
    · rw [if_pos c5] at h
      refine lv_aload_n hx hb dX4_light_18 rfl (lv_at hl 0 rfl) ?_
      replace h := hbd h
      obtain ⟨q6, eq6, h⟩ := h
      refine hr_getQ (C := RX4) (T := TX4) (N := 9) hx hb hts iX4_light_X4 hown hk hw rfl 3 (by decide) (hts (.fieldLink RX4 19 "SetterBenchModel" "lit" "[I") (by decide +kernel)) (fun _ h9 => h9) eq6 dX4_light_19 ?_
      refine lv_aload_n hx hb dX4_light_22 rfl (lv_at hl 0 rfl) ?_
      replace h := hbd h
      obtain ⟨q7, eq7, h⟩ := h
      refine hr_getQ (C := RX4) (T := TX4) (N := 9) hx hb hts iX4_light_X4 hown hk hw rfl 0 (by decide) (hts (.fieldLink RX4 9 "SetterBenchModel" "lies" "[I") (by decide +kernel)) (fun _ h9 => h9) eq7 dX4_light_23 ?_
      refine lv_iload_n hx hb dX4_light_26 rfl (lv_at hl 1 rfl) ?_
      replace h := hbd h
      obtain ⟨a8, rfl, h⟩ := h
      replace h := hbd h
      obtain ⟨x9, ex9, h⟩ := h
      refine hr_lI hx hb hk hw ex9 dX4_light_27 ?_
      refine lv_dup2_11 hx hb dX4_light_28 rfl (by cases q6 <;> rfl) ?_
      replace h := hbd h
      obtain ⟨a10, rfl, h⟩ := h
      replace h := hbd h
      obtain ⟨x11, ex11, h⟩ := h
      refine hr_lI hx hb hk hw ex11 dX4_light_29 ?_
      refine lv_iconst (v := 1) hx hb dX4_light_30 (by decide) ?_
      refine lv_iadd hx hb dX4_light_31 ?_
      replace h := hbd h
      obtain ⟨f12, ef12, h⟩ := h
      refine hr_sI hx hb hk hw ef12 dX4_light_32 (fun H locs hw => ?_)
      refine lv_aload_n hx hb dX4_light_33 rfl (lv_at hl 0 rfl) ?_
      replace h := hbd h
      obtain ⟨q13, eq13, h⟩ := h
      refine hr_getQ (C := RX4) (T := TX4) (N := 9) hx hb hts iX4_light_X4 hown hk hw rfl 3 (by decide) (hts (.fieldLink RX4 19 "SetterBenchModel" "lit" "[I") (by decide +kernel)) (fun _ h9 => h9) eq13 dX4_light_34 ?_
      refine lv_aload_n hx hb dX4_light_37 rfl (lv_at hl 0 rfl) ?_
      replace h := hbd h
      obtain ⟨q14, eq14, h⟩ := h
      refine hr_getQ (C := RX4) (T := TX4) (N := 9) hx hb hts iX4_light_X4 hown hk hw rfl 0 (by decide) (hts (.fieldLink RX4 9 "SetterBenchModel" "lies" "[I") (by decide +kernel)) (fun _ h9 => h9) eq14 dX4_light_38 ?_
      refine lv_iload_n hx hb dX4_light_41 rfl (lv_at hl 1 rfl) ?_
      replace h := hbd h
      obtain ⟨a15, rfl, h⟩ := h
      replace h := hbd h
      obtain ⟨x16, ex16, h⟩ := h
      refine hr_lI hx hb hk hw ex16 dX4_light_42 ?_
      replace h := hbd h
      obtain ⟨a17, rfl, h⟩ := h
      replace h := hbd h
      obtain ⟨x18, ex18, h⟩ := h
      refine hr_lI hx hb hk hw ex18 dX4_light_43 ?_
      cases h
      exact hret_i hx hb hr hlocks hw dX4_light_44
    · rw [if_neg c5] at h
      refine lv_iconst (v := (-1)) hx hb dX4_light_16 (by decide) ?_
      cases h
      exact hret_i hx hb hr hlocks hw dX4_light_17
theorem iX4_member_X4 : ∀ w ∈ wsX40, w ∈ wsX4_member := by decide +kernel
def fX4_member (f : hPl) (a : Nat) (p1 : Int32) (p2 : Int32) : Option Int64 := (fX4_isPlace f  p1).bind fun r1 => (if r1 = 0 then some (-1 : Int64) else (if p2 < 0 then some (-1 : Int64) else (hob f a 3).bind fun u4 => (fX4_manyOn f a p1).bind fun r5 => (if p2 < r5 then (hgQ f a 3 4).bind fun q7 => (hgQ f a 3 0).bind fun q8 => q8.bind fun a9 => (hlI f a9 p1).bind fun x10 => q7.bind fun a11 => (hlJ f a11 ((40 * x10) + p2)).bind fun x12 => some x12 else some (-1 : Int64))))
set_option maxHeartbeats 4000000 in
set_option maxRecDepth 100000 in
theorem kX4_member (l : Launch) (g : hGb) {f : hPl} {z : Nat} {a : Nat} {p1 : Int32} {p2 : Int32} {r : Int64} (h : fX4_member f a p1 p2 = some r) : hCt l g yX4_member wsX4_member 1 0 0 [.ref a, .int p1, .int p2] f z (some (.long r)) f z := by
  refine hCt.of (cc := cX4_member) (maxL := 3) (ret := (some .long)) (by decide +kernel) rfl (by exact Nat.le_of_ble_eq_true rfl) ?_
  intro p e s m below meth c C hname hw ls hl
  obtain ⟨hx, hb, hml, hown, hts, hr, hlocks, hk⟩ := id C
  have hl : lv_has ls 3 [(0, .ref a), (1, .int p1), (2, .int p2)] := hl
  have hown : s.vm.findClass RX4 = some m.cls := hown
  unfold fX4_member at h
  refine lv_iload_n hx hb dX4_member_0 rfl (lv_at hl 1 rfl) ?_
  replace h := hbd h
  obtain ⟨r1, er1, h⟩ := h
  refine hcallS (o := some (.int r1)) hx hb hml hown hts hk [.int p1] [] (kX4_isPlace l g er1) gX4_member_X4_isPlace rfl (n := 1) rfl (by decide +kernel) ⟨Nat.le_of_ble_eq_true rfl, Nat.le_of_ble_eq_true rfl⟩ hw hl.1 rfl (Nat.le_of_ble_eq_true rfl) dX4_member_1 ⟨Nat.le_of_ble_eq_true rfl, Nat.le_of_ble_eq_true rfl⟩ (fun H locs hw => ?_)
  refine W.eq (g2 := F0 m 4 ls [.int r1]) rfl ?_
  refine lv_if_eq (tgt := 20) hx hb dX4_member_4 (by decide) (fun c2 => ?_) (fun c2 => ?_)
  · rw [if_pos c2] at h
    refine lv_ldc2 (v := (-1)) hx hb hown (hts (.constantLong RX4 78 (-1)) (by decide +kernel)) dX4_member_20 ?_
    cases h
    exact hret_l hx hb hr hlocks hw dX4_member_23
  · rw [if_neg c2] at h
    refine lv_iload_n hx hb dX4_member_7 rfl (lv_at hl 2 rfl) ?_
    refine lv_if_lt (tgt := 20) hx hb dX4_member_8 (by decide) (fun c3 => ?_) (fun c3 => ?_)
    · rw [if_pos c3] at h
      refine lv_ldc2 (v := (-1)) hx hb hown (hts (.constantLong RX4 78 (-1)) (by decide +kernel)) dX4_member_20 ?_
      cases h
      exact hret_l hx hb hr hlocks hw dX4_member_23
    · rw [if_neg c3] at h
      refine lv_iload_n hx hb dX4_member_11 rfl (lv_at hl 2 rfl) ?_
      refine lv_aload_n hx hb dX4_member_12 rfl (lv_at hl 0 rfl) ?_
      refine lv_iload_n hx hb dX4_member_13 rfl (lv_at hl 1 rfl) ?_
      replace h := hbd h
      obtain ⟨u4, eu4, h⟩ := h
      replace h := hbd h
      obtain ⟨r5, er5, h⟩ := h
      refine hcallV (o := some (.int r5)) hx hb hml hown hts hk [.int p1] [.int p2] (kX4_manyOn l g er5) gX4_member_X4_manyOn rfl (n := 1) rfl (by decide +kernel) ⟨Nat.le_of_ble_eq_true rfl, Nat.le_of_ble_eq_true rfl⟩ (ci := 3) rfl eu4 hw hl.1 rfl (Nat.le_of_ble_eq_true rfl) dX4_member_14 ⟨Nat.le_of_ble_eq_true rfl, Nat.le_of_ble_eq_true rfl⟩ (fun H locs hw => ?_)
      refine W.eq (g2 := F0 m 17 ls [.int r5, .int p2]) rfl ?_
      refine lv_icmp_lt (tgt := 24) hx hb dX4_member_17 (by decide) (fun c6 => ?_) (fun c6 => ?_)
      · rw [if_pos c6] at h
        refine lv_aload_n hx hb dX4_member_24 rfl (lv_at hl 0 rfl) ?_
        replace h := hbd h
        obtain ⟨q7, eq7, h⟩ := h
        refine hr_getQ (C := RX4) (T := TX4) (N := 9) hx hb hts iX4_member_X4 hown hk hw rfl 4 (by decide) (hts (.fieldLink RX4 22 "SetterBenchModel" "members" "[J") (by decide +kernel)) (fun _ h9 => h9) eq7 dX4_member_25 ?_
        refine lv_bipush (v := 40) hx hb dX4_member_28 (by decide) ?_
        refine lv_aload_n hx hb dX4_member_30 rfl (lv_at hl 0 rfl) ?_
        replace h := hbd h
        obtain ⟨q8, eq8, h⟩ := h
        refine hr_getQ (C := RX4) (T := TX4) (N := 9) hx hb hts iX4_member_X4 hown hk hw rfl 0 (by decide) (hts (.fieldLink RX4 9 "SetterBenchModel" "lies" "[I") (by decide +kernel)) (fun _ h9 => h9) eq8 dX4_member_31 ?_
        refine lv_iload_n hx hb dX4_member_34 rfl (lv_at hl 1 rfl) ?_
        replace h := hbd h
        obtain ⟨a9, rfl, h⟩ := h
        replace h := hbd h
        obtain ⟨x10, ex10, h⟩ := h
        refine hr_lI hx hb hk hw ex10 dX4_member_35 ?_
        refine lv_imul hx hb dX4_member_36 ?_
        refine lv_iload_n hx hb dX4_member_37 rfl (lv_at hl 2 rfl) ?_
        refine lv_iadd hx hb dX4_member_38 ?_
        replace h := hbd h
        obtain ⟨a11, rfl, h⟩ := h
        replace h := hbd h
        obtain ⟨x12, ex12, h⟩ := h
        refine hr_lJ hx hb hk hw ex12 dX4_member_39 ?_
        cases h
        exact hret_l hx hb hr hlocks hw dX4_member_40
      · rw [if_neg c6] at h
        refine lv_ldc2 (v := (-1)) hx hb hown (hts (.constantLong RX4 78 (-1)) (by decide +kernel)) dX4_member_20 ?_
        cases h
        exact hret_l hx hb hr hlocks hw dX4_member_23
theorem iX4_thing_X4 : ∀ w ∈ wsX40, w ∈ wsX4_thing := by decide +kernel
def fX4_thing_j53s (rec : hPl → Nat → Int32 → Int32 → Option Int32) (f : hPl) (a : Nat) (v1 : Int32) (v3 : Int32) : Option Int32 := (if v1 ≤ v3 then some v3 else (hgQ f a 3 0).bind fun q12 => q12.bind fun a13 => (hlI f a13 v3).bind fun x14 => (hgQ f a 3 0).bind fun q15 => q15.bind fun a16 => (hlI f a16 v1).bind fun x17 => (if x14 = x17 then some v3 else rec f a v1 (v3 + 1)))
set_option maxHeartbeats 4000000 in
set_option maxRecDepth 100000 in
theorem kX4_thing_j53s {g : hGb} {p : Program} {l : Launch} {e : Env} {s : State} {m : MethodId} {args : Array Value} {below : List Frame} {meth : Method} {c : Code} {A : Nat → Prop} (C : hX g p s m args meth c RX4 cX4_thing 4 wsX4_thing (some .int)) {f : hPl} {z : Nat} {r : Int32} (rec : hPl → Nat → Int32 → Int32 → Option Int32) (hrec : ∀ (a : Nat) (v1 : Int32) (v3 : Int32), rec f a v1 v3 = some r → ∀ (H : Heap) (locs : List Loc) (ls : Array Slot), hW g A s f z H locs → lv_has ls 4 [(0, .ref a), (1, .int v1), (3, .int v3)] → W p l e (hRm 1 0 0) s m args below meth c H locs 0 0 (hZ g A below args s 0 0 (some (.int r)) f z) (F0 m 53 ls []))  : ∀ (a : Nat) (v1 : Int32) (v3 : Int32), fX4_thing_j53s rec f a v1 v3 = some r → ∀ (H : Heap) (locs : List Loc) (ls : Array Slot), hW g A s f z H locs → lv_has ls 4 [(0, .ref a), (1, .int v1), (3, .int v3)] → W p l e (hRm 1 0 0) s m args below meth c H locs 0 0 (hZ g A below args s 0 0 (some (.int r)) f z) (F0 m 53 ls []) := by
  obtain ⟨hx, hb, hml, hown, hts, hr, hlocks, hk⟩ := id C
  intro a v1 v3 h H locs ls hw hl
  unfold fX4_thing_j53s at h
  refine lv_iload_n hx hb dX4_thing_53 rfl (lv_at hl 2 rfl) ?_
  refine lv_iload_n hx hb dX4_thing_54 rfl (lv_at hl 1 rfl) ?_
  refine lv_icmp_ge (tgt := 79) hx hb dX4_thing_55 (by decide) (fun c11 => ?_) (fun c11 => ?_)
  · rw [if_pos c11] at h
    refine lv_iload_n hx hb dX4_thing_79 rfl (lv_at hl 2 rfl) ?_
    cases h
    exact hret_i hx hb hr hlocks hw dX4_thing_80
  · rw [if_neg c11] at h
    refine lv_aload_n hx hb dX4_thing_58 rfl (lv_at hl 0 rfl) ?_
    replace h := hbd h
    obtain ⟨q12, eq12, h⟩ := h
    refine hr_getQ (C := RX4) (T := TX4) (N := 9) hx hb hts iX4_thing_X4 hown hk hw rfl 0 (by decide) (hts (.fieldLink RX4 9 "SetterBenchModel" "lies" "[I") (by decide +kernel)) (fun _ h9 => h9) eq12 dX4_thing_59 ?_
    refine lv_iload_n hx hb dX4_thing_62 rfl (lv_at hl 2 rfl) ?_
    replace h := hbd h
    obtain ⟨a13, rfl, h⟩ := h
    replace h := hbd h
    obtain ⟨x14, ex14, h⟩ := h
    refine hr_lI hx hb hk hw ex14 dX4_thing_63 ?_
    refine lv_aload_n hx hb dX4_thing_64 rfl (lv_at hl 0 rfl) ?_
    replace h := hbd h
    obtain ⟨q15, eq15, h⟩ := h
    refine hr_getQ (C := RX4) (T := TX4) (N := 9) hx hb hts iX4_thing_X4 hown hk hw rfl 0 (by decide) (hts (.fieldLink RX4 9 "SetterBenchModel" "lies" "[I") (by decide +kernel)) (fun _ h9 => h9) eq15 dX4_thing_65 ?_
    refine lv_iload_n hx hb dX4_thing_68 rfl (lv_at hl 1 rfl) ?_
    replace h := hbd h
    obtain ⟨a16, rfl, h⟩ := h
    replace h := hbd h
    obtain ⟨x17, ex17, h⟩ := h
    refine hr_lI hx hb hk hw ex17 dX4_thing_69 ?_
    refine lv_icmp_eq (tgt := 79) hx hb dX4_thing_70 (by decide) (fun c18 => ?_) (fun c18 => ?_)
    · rw [if_pos c18] at h
      refine lv_iload_n hx hb dX4_thing_79 rfl (lv_at hl 2 rfl) ?_
      cases h
      exact hret_i hx hb hr hlocks hw dX4_thing_80
    · rw [if_neg c18] at h
      refine lv_iinc (v := (v3 + 1)) (lv' := [(3, .int (v3 + 1)), (0, .ref a), (1, .int v1)]) hx hb dX4_thing_73 hl (k := 2) rfl rfl (by decide) rfl (fun ls hl => ?_)
      refine lv_goto (tgt := 53) hx hb dX4_thing_76 (by decide) ?_
      exact hrec _ _ _ h _ _ _ hw (lv_sub hl [1, 2, 0] rfl)
def fX4_thing_j53 (n : Nat) : hPl → Nat → Int32 → Int32 → Option Int32 := match n with
  | 0 => fun _ _ _ _ => none
  | n + 1 => fX4_thing_j53s (fX4_thing_j53 n)
theorem kX4_thing_j53 {g : hGb} {p : Program} {l : Launch} {e : Env} {s : State} {m : MethodId} {args : Array Value} {below : List Frame} {meth : Method} {c : Code} {A : Nat → Prop} (C : hX g p s m args meth c RX4 cX4_thing 4 wsX4_thing (some .int)) {f : hPl} {z : Nat} {r : Int32} (n : Nat) : ∀ (a : Nat) (v1 : Int32) (v3 : Int32), fX4_thing_j53 n f a v1 v3 = some r → ∀ (H : Heap) (locs : List Loc) (ls : Array Slot), hW g A s f z H locs → lv_has ls 4 [(0, .ref a), (1, .int v1), (3, .int v3)] → W p l e (hRm 1 0 0) s m args below meth c H locs 0 0 (hZ g A below args s 0 0 (some (.int r)) f z) (F0 m 53 ls []) := by
  induction n with
  | zero =>
    intro a v1 v3 h
    cases h
  | succ n ih => exact kX4_thing_j53s C (fX4_thing_j53 n) ih
def fX4_thing (f : hPl) (a : Nat) (p1 : Int32) (p2 : Int32) : Option Int32 := (fX4_isPlace f  p1).bind fun r1 => (if r1 = 0 then some (-1) else (if p2 < 0 then some (-1) else (if p2 ≤ 2 then (if p2 = 0 then (hob f a 3).bind fun u21 => (fX4_sortOn f a p1).bind fun r22 => some r22 else (if p2 = 1 then (hob f a 3).bind fun u19 => (fX4_manyOn f a p1).bind fun r20 => some r20 else (hgQ f a 3 0).bind fun q7 => q7.bind fun a8 => (hlI f a8 p1).bind fun x9 => (if x9 = (-1) then some p1 else fX4_thing_j53 64 f a p1 0))) else some (-1))))
set_option maxHeartbeats 4000000 in
set_option maxRecDepth 100000 in
theorem kX4_thing (l : Launch) (g : hGb) {f : hPl} {z : Nat} {a : Nat} {p1 : Int32} {p2 : Int32} {r : Int32} (h : fX4_thing f a p1 p2 = some r) : hCt l g yX4_thing wsX4_thing 1 0 0 [.ref a, .int p1, .int p2] f z (some (.int r)) f z := by
  refine hCt.of (cc := cX4_thing) (maxL := 4) (ret := (some .int)) (by decide +kernel) rfl (by exact Nat.le_of_ble_eq_true rfl) ?_
  intro p e s m below meth c C hname hw ls hl
  obtain ⟨hx, hb, hml, hown, hts, hr, hlocks, hk⟩ := id C
  have hl : lv_has ls 4 [(0, .ref a), (1, .int p1), (2, .int p2)] := hl
  have hown : s.vm.findClass RX4 = some m.cls := hown
  unfold fX4_thing at h
  refine lv_iload_n hx hb dX4_thing_0 rfl (lv_at hl 1 rfl) ?_
  replace h := hbd h
  obtain ⟨r1, er1, h⟩ := h
  refine hcallS (o := some (.int r1)) hx hb hml hown hts hk [.int p1] [] (kX4_isPlace l g er1) gX4_thing_X4_isPlace rfl (n := 1) rfl (by decide +kernel) ⟨Nat.le_of_ble_eq_true rfl, Nat.le_of_ble_eq_true rfl⟩ hw hl.1 rfl (Nat.le_of_ble_eq_true rfl) dX4_thing_1 ⟨Nat.le_of_ble_eq_true rfl, Nat.le_of_ble_eq_true rfl⟩ (fun H locs hw => ?_)
  refine W.eq (g2 := F0 m 4 ls [.int r1]) rfl ?_
  refine lv_if_eq (tgt := 16) hx hb dX4_thing_4 (by decide) (fun c2 => ?_) (fun c2 => ?_)
  · rw [if_pos c2] at h
    refine lv_iconst (v := (-1)) hx hb dX4_thing_16 (by decide) ?_
    cases h
    exact hret_i hx hb hr hlocks hw dX4_thing_17
  · rw [if_neg c2] at h
    refine lv_iload_n hx hb dX4_thing_7 rfl (lv_at hl 2 rfl) ?_
    refine lv_if_lt (tgt := 16) hx hb dX4_thing_8 (by decide) (fun c3 => ?_) (fun c3 => ?_)
    · rw [if_pos c3] at h
      refine lv_iconst (v := (-1)) hx hb dX4_thing_16 (by decide) ?_
      cases h
      exact hret_i hx hb hr hlocks hw dX4_thing_17
    · rw [if_neg c3] at h
      refine lv_iload_n hx hb dX4_thing_11 rfl (lv_at hl 2 rfl) ?_
      refine lv_iconst (v := 2) hx hb dX4_thing_12 (by decide) ?_
      refine lv_icmp_le (tgt := 18) hx hb dX4_thing_13 (by decide) (fun c4 => ?_) (fun c4 => ?_)
      · rw [if_pos c4] at h
        refine lv_iload_n hx hb dX4_thing_18 rfl (lv_at hl 2 rfl) ?_
        refine lv_if_ne (tgt := 28) hx hb dX4_thing_19 (by decide) (fun c5 => ?_) (fun c5 => ?_)
        · rw [if_neg c5] at h
          refine lv_iload_n hx hb dX4_thing_28 rfl (lv_at hl 2 rfl) ?_
          refine lv_iconst (v := 1) hx hb dX4_thing_29 (by decide) ?_
          refine lv_icmp_ne (tgt := 39) hx hb dX4_thing_30 (by decide) (fun c6 => ?_) (fun c6 => ?_)
          · rw [if_neg c6] at h
            refine lv_aload_n hx hb dX4_thing_39 rfl (lv_at hl 0 rfl) ?_
            replace h := hbd h
            obtain ⟨q7, eq7, h⟩ := h
            refine hr_getQ (C := RX4) (T := TX4) (N := 9) hx hb hts iX4_thing_X4 hown hk hw rfl 0 (by decide) (hts (.fieldLink RX4 9 "SetterBenchModel" "lies" "[I") (by decide +kernel)) (fun _ h9 => h9) eq7 dX4_thing_40 ?_
            refine lv_iload_n hx hb dX4_thing_43 rfl (lv_at hl 1 rfl) ?_
            replace h := hbd h
            obtain ⟨a8, rfl, h⟩ := h
            replace h := hbd h
            obtain ⟨x9, ex9, h⟩ := h
            refine hr_lI hx hb hk hw ex9 dX4_thing_44 ?_
            refine lv_iconst (v := (-1)) hx hb dX4_thing_45 (by decide) ?_
            refine lv_icmp_ne (tgt := 51) hx hb dX4_thing_46 (by decide) (fun c10 => ?_) (fun c10 => ?_)
            · rw [if_neg c10] at h
              refine lv_iconst (v := 0) hx hb dX4_thing_51 (by decide) ?_
              refine lv_istore_n (lv' := [(3, .int 0), (0, .ref a), (1, .int p1), (2, .int p2)]) hx hb dX4_thing_52 rfl hl (by decide) rfl (fun ls hl => ?_)
              exact kX4_thing_j53 C 64 _ _ _ h _ _ _ hw (lv_sub hl [1, 2, 0] rfl)
            · rw [if_pos c10] at h
              refine lv_iload_n hx hb dX4_thing_49 rfl (lv_at hl 1 rfl) ?_
              cases h
              exact hret_i hx hb hr hlocks hw dX4_thing_50
          · rw [if_pos c6] at h
            refine lv_aload_n hx hb dX4_thing_33 rfl (lv_at hl 0 rfl) ?_
            refine lv_iload_n hx hb dX4_thing_34 rfl (lv_at hl 1 rfl) ?_
            replace h := hbd h
            obtain ⟨u19, eu19, h⟩ := h
            replace h := hbd h
            obtain ⟨r20, er20, h⟩ := h
            refine hcallV (o := some (.int r20)) hx hb hml hown hts hk [.int p1] [] (kX4_manyOn l g er20) gX4_thing_X4_manyOn rfl (n := 1) rfl (by decide +kernel) ⟨Nat.le_of_ble_eq_true rfl, Nat.le_of_ble_eq_true rfl⟩ (ci := 3) rfl eu19 hw hl.1 rfl (Nat.le_of_ble_eq_true rfl) dX4_thing_35 ⟨Nat.le_of_ble_eq_true rfl, Nat.le_of_ble_eq_true rfl⟩ (fun H locs hw => ?_)
            refine W.eq (g2 := F0 m 38 ls [.int r20]) rfl ?_
            cases h
            exact hret_i hx hb hr hlocks hw dX4_thing_38
        · rw [if_pos c5] at h
          refine lv_aload_n hx hb dX4_thing_22 rfl (lv_at hl 0 rfl) ?_
          refine lv_iload_n hx hb dX4_thing_23 rfl (lv_at hl 1 rfl) ?_
          replace h := hbd h
          obtain ⟨u21, eu21, h⟩ := h
          replace h := hbd h
          obtain ⟨r22, er22, h⟩ := h
          refine hcallV (o := some (.int r22)) hx hb hml hown hts hk [.int p1] [] (kX4_sortOn l g er22) gX4_thing_X4_sortOn rfl (n := 1) rfl (by decide +kernel) ⟨Nat.le_of_ble_eq_true rfl, Nat.le_of_ble_eq_true rfl⟩ (ci := 3) rfl eu21 hw hl.1 rfl (Nat.le_of_ble_eq_true rfl) dX4_thing_24 ⟨Nat.le_of_ble_eq_true rfl, Nat.le_of_ble_eq_true rfl⟩ (fun H locs hw => ?_)
          refine W.eq (g2 := F0 m 27 ls [.int r22]) rfl ?_
          cases h
          exact hret_i hx hb hr hlocks hw dX4_thing_27
      · rw [if_neg c4] at h
        refine lv_iconst (v := (-1)) hx hb dX4_thing_16 (by decide) ?_
        cases h
        exact hret_i hx hb hr hlocks hw dX4_thing_17
theorem iX4_kindAt_X4 : ∀ w ∈ wsX40, w ∈ wsX4_kindAt := by decide +kernel
def fX4_kindAt (f : hPl) (a : Nat) (p1 : Int32) (p2 : Int32) : Option Int32 := (hgQ f a 3 4).bind fun q1 => (hgQ f a 3 0).bind fun q2 => q2.bind fun a3 => (hlI f a3 p1).bind fun x4 => q1.bind fun a5 => (hlJ f a5 ((40 * x4) + p2)).bind fun x6 => some ((x6 - x6 / (10 : Int64) * (10 : Int64)).toInt32)
set_option maxHeartbeats 4000000 in
set_option maxRecDepth 100000 in
theorem kX4_kindAt (l : Launch) (g : hGb) {f : hPl} {z : Nat} {a : Nat} {p1 : Int32} {p2 : Int32} {r : Int32} (h : fX4_kindAt f a p1 p2 = some r) : hCt l g yX4_kindAt wsX4_kindAt 0 0 0 [.ref a, .int p1, .int p2] f z (some (.int r)) f z := by
  refine hCt.of (cc := cX4_kindAt) (maxL := 3) (ret := (some .int)) (by decide +kernel) rfl (by exact Nat.le_of_ble_eq_true rfl) ?_
  intro p e s m below meth c C hname hw ls hl
  obtain ⟨hx, hb, hml, hown, hts, hr, hlocks, hk⟩ := id C
  have hl : lv_has ls 3 [(0, .ref a), (1, .int p1), (2, .int p2)] := hl
  have hown : s.vm.findClass RX4 = some m.cls := hown
  unfold fX4_kindAt at h
  refine lv_aload_n hx hb dX4_kindAt_0 rfl (lv_at hl 0 rfl) ?_
  replace h := hbd h
  obtain ⟨q1, eq1, h⟩ := h
  refine hr_getQ (C := RX4) (T := TX4) (N := 9) hx hb hts iX4_kindAt_X4 hown hk hw rfl 4 (by decide) (hts (.fieldLink RX4 22 "SetterBenchModel" "members" "[J") (by decide +kernel)) (fun _ h9 => h9) eq1 dX4_kindAt_1 ?_
  refine lv_bipush (v := 40) hx hb dX4_kindAt_4 (by decide) ?_
  refine lv_aload_n hx hb dX4_kindAt_6 rfl (lv_at hl 0 rfl) ?_
  replace h := hbd h
  obtain ⟨q2, eq2, h⟩ := h
  refine hr_getQ (C := RX4) (T := TX4) (N := 9) hx hb hts iX4_kindAt_X4 hown hk hw rfl 0 (by decide) (hts (.fieldLink RX4 9 "SetterBenchModel" "lies" "[I") (by decide +kernel)) (fun _ h9 => h9) eq2 dX4_kindAt_7 ?_
  refine lv_iload_n hx hb dX4_kindAt_10 rfl (lv_at hl 1 rfl) ?_
  replace h := hbd h
  obtain ⟨a3, rfl, h⟩ := h
  replace h := hbd h
  obtain ⟨x4, ex4, h⟩ := h
  refine hr_lI hx hb hk hw ex4 dX4_kindAt_11 ?_
  refine lv_imul hx hb dX4_kindAt_12 ?_
  refine lv_iload_n hx hb dX4_kindAt_13 rfl (lv_at hl 2 rfl) ?_
  refine lv_iadd hx hb dX4_kindAt_14 ?_
  replace h := hbd h
  obtain ⟨a5, rfl, h⟩ := h
  replace h := hbd h
  obtain ⟨x6, ex6, h⟩ := h
  refine hr_lJ hx hb hk hw ex6 dX4_kindAt_15 ?_
  refine lv_ldc2 (v := (10)) hx hb hown (hts (.constantLong RX4 61 (10)) (by decide +kernel)) dX4_kindAt_16 ?_
  refine lv_lrem hx hb dX4_kindAt_19 (by decide) ?_
  refine lv_l2i hx hb dX4_kindAt_20 rfl ?_
  cases h
  exact hret_i hx hb hr hlocks hw dX4_kindAt_21
def fX4_worth_j77 (rec : hPl → Nat → Int32 → Int32 → Int32 → Option Int32) (f : hPl) (a : Nat) (v1 : Int32) (v2 : Int32) (v3 : Int32) (v4 : Int32) : Option Int32 := (if v3 ≤ 0 then rec f a v1 v2 (v3 + 1) else (if v4 < 3 then rec f a v1 v2 (v3 + 1) else (hob f a 3).bind fun u18 => (fX4_kindAt f a v1 (v3 - 1)).bind fun r19 => (if r19 = v4 then rec f a v1 (v2 + 5) (v3 + 1) else rec f a v1 v2 (v3 + 1))))
set_option maxHeartbeats 4000000 in
set_option maxRecDepth 100000 in
theorem kX4_worth_j77 {g : hGb} {p : Program} {l : Launch} {e : Env} {s : State} {m : MethodId} {args : Array Value} {below : List Frame} {meth : Method} {c : Code} {A : Nat → Prop} (C : hX g p s m args meth c RX4 cX4_worth 5 wsX4_worth (some .int)) {f : hPl} {z : Nat} {r : Int32} (rec : hPl → Nat → Int32 → Int32 → Int32 → Option Int32) (hrec : ∀ (a : Nat) (v1 : Int32) (v2 : Int32) (v3 : Int32), rec f a v1 v2 v3 = some r → ∀ (H : Heap) (locs : List Loc) (ls : Array Slot), hW g A s f z H locs → lv_has ls 5 [(0, .ref a), (1, .int v1), (2, .int v2), (3, .int v3)] → W p l e (hRm 1 0 0) s m args below meth c H locs 0 0 (hZ g A below args s 0 0 (some (.int r)) f z) (F0 m 24 ls []))  : ∀ (a : Nat) (v1 : Int32) (v2 : Int32) (v3 : Int32) (v4 : Int32), fX4_worth_j77 rec f a v1 v2 v3 v4 = some r → ∀ (H : Heap) (locs : List Loc) (ls : Array Slot), hW g A s f z H locs → lv_has ls 5 [(0, .ref a), (1, .int v1), (2, .int v2), (3, .int v3), (4, .int v4)] → W p l e (hRm 1 0 0) s m args below meth c H locs 0 0 (hZ g A below args s 0 0 (some (.int r)) f z) (F0 m 77 ls []) := by
  obtain ⟨hx, hb, hml, hown, hts, hr, hlocks, hk⟩ := id C
  intro a v1 v2 v3 v4 h H locs ls hw hl
  unfold fX4_worth_j77 at h
  refine lv_iload_n hx hb dX4_worth_77 rfl (lv_at hl 3 rfl) ?_
  refine lv_if_le (tgt := 103) hx hb dX4_worth_78 (by decide) (fun c16 => ?_) (fun c16 => ?_)
  · rw [if_pos c16] at h
    refine lv_iinc (v := (v3 + 1)) (lv' := [(3, .int (v3 + 1)), (0, .ref a), (1, .int v1), (2, .int v2), (4, .int v4)]) hx hb dX4_worth_103 hl (k := 3) rfl rfl (by decide) rfl (fun ls hl => ?_)
    refine lv_goto (tgt := 24) hx hb dX4_worth_106 (by decide) ?_
    exact hrec _ _ _ _ h _ _ _ hw (lv_sub hl [1, 2, 3, 0] rfl)
  · rw [if_neg c16] at h
    refine lv_iload hx hb dX4_worth_81 (lv_at hl 4 rfl) ?_
    refine lv_iconst (v := 3) hx hb dX4_worth_83 (by decide) ?_
    refine lv_icmp_lt (tgt := 103) hx hb dX4_worth_84 (by decide) (fun c17 => ?_) (fun c17 => ?_)
    · rw [if_pos c17] at h
      refine lv_iinc (v := (v3 + 1)) (lv' := [(3, .int (v3 + 1)), (0, .ref a), (1, .int v1), (2, .int v2), (4, .int v4)]) hx hb dX4_worth_103 hl (k := 3) rfl rfl (by decide) rfl (fun ls hl => ?_)
      refine lv_goto (tgt := 24) hx hb dX4_worth_106 (by decide) ?_
      exact hrec _ _ _ _ h _ _ _ hw (lv_sub hl [1, 2, 3, 0] rfl)
    · rw [if_neg c17] at h
      refine lv_aload_n hx hb dX4_worth_87 rfl (lv_at hl 0 rfl) ?_
      refine lv_iload_n hx hb dX4_worth_88 rfl (lv_at hl 1 rfl) ?_
      refine lv_iload_n hx hb dX4_worth_89 rfl (lv_at hl 3 rfl) ?_
      refine lv_iconst (v := 1) hx hb dX4_worth_90 (by decide) ?_
      refine lv_isub hx hb dX4_worth_91 ?_
      replace h := hbd h
      obtain ⟨u18, eu18, h⟩ := h
      replace h := hbd h
      obtain ⟨r19, er19, h⟩ := h
      refine hcallV (o := some (.int r19)) hx hb hml hown hts hk [.int v1, .int (v3 - 1)] [] (kX4_kindAt l g er19) gX4_worth_X4_kindAt rfl (n := 2) rfl (by decide +kernel) ⟨Nat.le_of_ble_eq_true rfl, Nat.le_of_ble_eq_true rfl⟩ (ci := 3) rfl eu18 hw hl.1 rfl (Nat.le_of_ble_eq_true rfl) dX4_worth_92 ⟨Nat.le_of_ble_eq_true rfl, Nat.le_of_ble_eq_true rfl⟩ (fun H locs hw => ?_)
      refine W.eq (g2 := F0 m 95 ls [.int r19]) rfl ?_
      refine lv_iload hx hb dX4_worth_95 (lv_at hl 4 rfl) ?_
      refine lv_icmp_ne (tgt := 103) hx hb dX4_worth_97 (by decide) (fun c20 => ?_) (fun c20 => ?_)
      · rw [if_neg c20] at h
        refine lv_iinc (v := (v3 + 1)) (lv' := [(3, .int (v3 + 1)), (0, .ref a), (1, .int v1), (2, .int v2), (4, .int v4)]) hx hb dX4_worth_103 hl (k := 3) rfl rfl (by decide) rfl (fun ls hl => ?_)
        refine lv_goto (tgt := 24) hx hb dX4_worth_106 (by decide) ?_
        exact hrec _ _ _ _ h _ _ _ hw (lv_sub hl [1, 2, 3, 0] rfl)
      · rw [if_pos c20] at h
        refine lv_iinc (v := (v2 + 5)) (lv' := [(2, .int (v2 + 5)), (0, .ref a), (1, .int v1), (3, .int v3), (4, .int v4)]) hx hb dX4_worth_100 hl (k := 2) rfl rfl (by decide) rfl (fun ls hl => ?_)
        refine lv_iinc (v := (v3 + 1)) (lv' := [(3, .int (v3 + 1)), (2, .int (v2 + 5)), (0, .ref a), (1, .int v1), (4, .int v4)]) hx hb dX4_worth_103 hl (k := 3) rfl rfl (by decide) rfl (fun ls hl => ?_)
        refine lv_goto (tgt := 24) hx hb dX4_worth_106 (by decide) ?_
        exact hrec _ _ _ _ h _ _ _ hw (lv_sub hl [2, 3, 1, 0] rfl)
def fX4_worth_j59 (rec : hPl → Nat → Int32 → Int32 → Int32 → Option Int32) (f : hPl) (a : Nat) (v1 : Int32) (v2 : Int32) (v3 : Int32) (v4 : Int32) : Option Int32 := (if v4 = 3 then (if v4 = 4 then fX4_worth_j77 rec f a v1 ((v2 + 20) + 15) v3 v4 else fX4_worth_j77 rec f a v1 (v2 + 20) v3 v4) else (if v4 = 4 then fX4_worth_j77 rec f a v1 (v2 + 15) v3 v4 else fX4_worth_j77 rec f a v1 v2 v3 v4))
set_option maxHeartbeats 4000000 in
set_option maxRecDepth 100000 in
theorem kX4_worth_j59 {g : hGb} {p : Program} {l : Launch} {e : Env} {s : State} {m : MethodId} {args : Array Value} {below : List Frame} {meth : Method} {c : Code} {A : Nat → Prop} (C : hX g p s m args meth c RX4 cX4_worth 5 wsX4_worth (some .int)) {f : hPl} {z : Nat} {r : Int32} (rec : hPl → Nat → Int32 → Int32 → Int32 → Option Int32) (hrec : ∀ (a : Nat) (v1 : Int32) (v2 : Int32) (v3 : Int32), rec f a v1 v2 v3 = some r → ∀ (H : Heap) (locs : List Loc) (ls : Array Slot), hW g A s f z H locs → lv_has ls 5 [(0, .ref a), (1, .int v1), (2, .int v2), (3, .int v3)] → W p l e (hRm 1 0 0) s m args below meth c H locs 0 0 (hZ g A below args s 0 0 (some (.int r)) f z) (F0 m 24 ls []))  : ∀ (a : Nat) (v1 : Int32) (v2 : Int32) (v3 : Int32) (v4 : Int32), fX4_worth_j59 rec f a v1 v2 v3 v4 = some r → ∀ (H : Heap) (locs : List Loc) (ls : Array Slot), hW g A s f z H locs → lv_has ls 5 [(0, .ref a), (1, .int v1), (2, .int v2), (3, .int v3), (4, .int v4)] → W p l e (hRm 1 0 0) s m args below meth c H locs 0 0 (hZ g A below args s 0 0 (some (.int r)) f z) (F0 m 59 ls []) := by
  obtain ⟨hx, hb, hml, hown, hts, hr, hlocks, hk⟩ := id C
  intro a v1 v2 v3 v4 h H locs ls hw hl
  unfold fX4_worth_j59 at h
  refine lv_iload hx hb dX4_worth_59 (lv_at hl 4 rfl) ?_
  refine lv_iconst (v := 3) hx hb dX4_worth_61 (by decide) ?_
  refine lv_icmp_ne (tgt := 68) hx hb dX4_worth_62 (by decide) (fun c14 => ?_) (fun c14 => ?_)
  · rw [if_neg c14] at h
    refine lv_iload hx hb dX4_worth_68 (lv_at hl 4 rfl) ?_
    refine lv_iconst (v := 4) hx hb dX4_worth_70 (by decide) ?_
    refine lv_icmp_ne (tgt := 77) hx hb dX4_worth_71 (by decide) (fun c15 => ?_) (fun c15 => ?_)
    · rw [if_neg c15] at h
      exact kX4_worth_j77 C rec hrec _ _ _ _ _ h _ _ _ hw (lv_sub hl [0, 1, 2, 3, 4] rfl)
    · rw [if_pos c15] at h
      refine lv_iinc (v := (v2 + 15)) (lv' := [(2, .int (v2 + 15)), (0, .ref a), (1, .int v1), (3, .int v3), (4, .int v4)]) hx hb dX4_worth_74 hl (k := 2) rfl rfl (by decide) rfl (fun ls hl => ?_)
      exact kX4_worth_j77 C rec hrec _ _ _ _ _ h _ _ _ hw (lv_sub hl [1, 2, 0, 3, 4] rfl)
  · rw [if_pos c14] at h
    refine lv_iinc (v := (v2 + 20)) (lv' := [(2, .int (v2 + 20)), (0, .ref a), (1, .int v1), (3, .int v3), (4, .int v4)]) hx hb dX4_worth_65 hl (k := 2) rfl rfl (by decide) rfl (fun ls hl => ?_)
    refine lv_iload hx hb dX4_worth_68 (lv_at hl 4 rfl) ?_
    refine lv_iconst (v := 4) hx hb dX4_worth_70 (by decide) ?_
    refine lv_icmp_ne (tgt := 77) hx hb dX4_worth_71 (by decide) (fun c21 => ?_) (fun c21 => ?_)
    · rw [if_neg c21] at h
      exact kX4_worth_j77 C rec hrec _ _ _ _ _ h _ _ _ hw (lv_sub hl [1, 2, 0, 3, 4] rfl)
    · rw [if_pos c21] at h
      refine lv_iinc (v := ((v2 + 20) + 15)) (lv' := [(2, .int ((v2 + 20) + 15)), (0, .ref a), (1, .int v1), (3, .int v3), (4, .int v4)]) hx hb dX4_worth_74 hl (k := 0) rfl rfl (by decide) rfl (fun ls hl => ?_)
      exact kX4_worth_j77 C rec hrec _ _ _ _ _ h _ _ _ hw (lv_sub hl [1, 2, 0, 3, 4] rfl)
def fX4_worth_j24s (rec : hPl → Nat → Int32 → Int32 → Int32 → Option Int32) (f : hPl) (a : Nat) (v1 : Int32) (v2 : Int32) (v3 : Int32) : Option Int32 := (hob f a 3).bind fun u7 => (fX4_manyOn f a v1).bind fun r8 => (if r8 ≤ v3 then some v2 else (hob f a 3).bind fun u10 => (fX4_kindAt f a v1 v3).bind fun r11 => (if r11 = 1 then (if r11 = 2 then fX4_worth_j59 rec f a v1 ((v2 + 1) + 4) v3 r11 else fX4_worth_j59 rec f a v1 (v2 + 1) v3 r11) else (if r11 = 2 then fX4_worth_j59 rec f a v1 (v2 + 4) v3 r11 else fX4_worth_j59 rec f a v1 v2 v3 r11)))
set_option maxHeartbeats 4000000 in
set_option maxRecDepth 100000 in
theorem kX4_worth_j24s {g : hGb} {p : Program} {l : Launch} {e : Env} {s : State} {m : MethodId} {args : Array Value} {below : List Frame} {meth : Method} {c : Code} {A : Nat → Prop} (C : hX g p s m args meth c RX4 cX4_worth 5 wsX4_worth (some .int)) {f : hPl} {z : Nat} {r : Int32} (rec : hPl → Nat → Int32 → Int32 → Int32 → Option Int32) (hrec : ∀ (a : Nat) (v1 : Int32) (v2 : Int32) (v3 : Int32), rec f a v1 v2 v3 = some r → ∀ (H : Heap) (locs : List Loc) (ls : Array Slot), hW g A s f z H locs → lv_has ls 5 [(0, .ref a), (1, .int v1), (2, .int v2), (3, .int v3)] → W p l e (hRm 1 0 0) s m args below meth c H locs 0 0 (hZ g A below args s 0 0 (some (.int r)) f z) (F0 m 24 ls []))  : ∀ (a : Nat) (v1 : Int32) (v2 : Int32) (v3 : Int32), fX4_worth_j24s rec f a v1 v2 v3 = some r → ∀ (H : Heap) (locs : List Loc) (ls : Array Slot), hW g A s f z H locs → lv_has ls 5 [(0, .ref a), (1, .int v1), (2, .int v2), (3, .int v3)] → W p l e (hRm 1 0 0) s m args below meth c H locs 0 0 (hZ g A below args s 0 0 (some (.int r)) f z) (F0 m 24 ls []) := by
  obtain ⟨hx, hb, hml, hown, hts, hr, hlocks, hk⟩ := id C
  intro a v1 v2 v3 h H locs ls hw hl
  unfold fX4_worth_j24s at h
  refine lv_iload_n hx hb dX4_worth_24 rfl (lv_at hl 3 rfl) ?_
  refine lv_aload_n hx hb dX4_worth_25 rfl (lv_at hl 0 rfl) ?_
  refine lv_iload_n hx hb dX4_worth_26 rfl (lv_at hl 1 rfl) ?_
  replace h := hbd h
  obtain ⟨u7, eu7, h⟩ := h
  replace h := hbd h
  obtain ⟨r8, er8, h⟩ := h
  refine hcallV (o := some (.int r8)) hx hb hml hown hts hk [.int v1] [.int v3] (kX4_manyOn l g er8) gX4_worth_X4_manyOn rfl (n := 1) rfl (by decide +kernel) ⟨Nat.le_of_ble_eq_true rfl, Nat.le_of_ble_eq_true rfl⟩ (ci := 3) rfl eu7 hw hl.1 rfl (Nat.le_of_ble_eq_true rfl) dX4_worth_27 ⟨Nat.le_of_ble_eq_true rfl, Nat.le_of_ble_eq_true rfl⟩ (fun H locs hw => ?_)
  refine W.eq (g2 := F0 m 30 ls [.int r8, .int v3]) rfl ?_
  refine lv_icmp_ge (tgt := 109) hx hb dX4_worth_30 (by decide) (fun c9 => ?_) (fun c9 => ?_)
  · rw [if_pos c9] at h
    refine lv_iload_n hx hb dX4_worth_109 rfl (lv_at hl 2 rfl) ?_
    cases h
    exact hret_i hx hb hr hlocks hw dX4_worth_110
  · rw [if_neg c9] at h
    refine lv_aload_n hx hb dX4_worth_33 rfl (lv_at hl 0 rfl) ?_
    refine lv_iload_n hx hb dX4_worth_34 rfl (lv_at hl 1 rfl) ?_
    refine lv_iload_n hx hb dX4_worth_35 rfl (lv_at hl 3 rfl) ?_
    replace h := hbd h
    obtain ⟨u10, eu10, h⟩ := h
    replace h := hbd h
    obtain ⟨r11, er11, h⟩ := h
    refine hcallV (o := some (.int r11)) hx hb hml hown hts hk [.int v1, .int v3] [] (kX4_kindAt l g er11) gX4_worth_X4_kindAt rfl (n := 2) rfl (by decide +kernel) ⟨Nat.le_of_ble_eq_true rfl, Nat.le_of_ble_eq_true rfl⟩ (ci := 3) rfl eu10 hw hl.1 rfl (Nat.le_of_ble_eq_true rfl) dX4_worth_36 ⟨Nat.le_of_ble_eq_true rfl, Nat.le_of_ble_eq_true rfl⟩ (fun H locs hw => ?_)
    refine W.eq (g2 := F0 m 39 ls [.int r11]) rfl ?_
    refine lv_istore (lv' := [(4, .int r11), (0, .ref a), (1, .int v1), (2, .int v2), (3, .int v3)]) hx hb dX4_worth_39 hl (by decide) rfl (fun ls hl => ?_)
    refine lv_iload hx hb dX4_worth_41 (lv_at hl 0 rfl) ?_
    refine lv_iconst (v := 1) hx hb dX4_worth_43 (by decide) ?_
    refine lv_icmp_ne (tgt := 50) hx hb dX4_worth_44 (by decide) (fun c12 => ?_) (fun c12 => ?_)
    · rw [if_neg c12] at h
      refine lv_iload hx hb dX4_worth_50 (lv_at hl 0 rfl) ?_
      refine lv_iconst (v := 2) hx hb dX4_worth_52 (by decide) ?_
      refine lv_icmp_ne (tgt := 59) hx hb dX4_worth_53 (by decide) (fun c13 => ?_) (fun c13 => ?_)
      · rw [if_neg c13] at h
        exact kX4_worth_j59 C rec hrec _ _ _ _ _ h _ _ _ hw (lv_sub hl [1, 2, 3, 4, 0] rfl)
      · rw [if_pos c13] at h
        refine lv_iinc (v := (v2 + 4)) (lv' := [(2, .int (v2 + 4)), (4, .int r11), (0, .ref a), (1, .int v1), (3, .int v3)]) hx hb dX4_worth_56 hl (k := 3) rfl rfl (by decide) rfl (fun ls hl => ?_)
        exact kX4_worth_j59 C rec hrec _ _ _ _ _ h _ _ _ hw (lv_sub hl [2, 3, 0, 4, 1] rfl)
    · rw [if_pos c12] at h
      refine lv_iinc (v := (v2 + 1)) (lv' := [(2, .int (v2 + 1)), (4, .int r11), (0, .ref a), (1, .int v1), (3, .int v3)]) hx hb dX4_worth_47 hl (k := 3) rfl rfl (by decide) rfl (fun ls hl => ?_)
      refine lv_iload hx hb dX4_worth_50 (lv_at hl 1 rfl) ?_
      refine lv_iconst (v := 2) hx hb dX4_worth_52 (by decide) ?_
      refine lv_icmp_ne (tgt := 59) hx hb dX4_worth_53 (by decide) (fun c22 => ?_) (fun c22 => ?_)
      · rw [if_neg c22] at h
        exact kX4_worth_j59 C rec hrec _ _ _ _ _ h _ _ _ hw (lv_sub hl [2, 3, 0, 4, 1] rfl)
      · rw [if_pos c22] at h
        refine lv_iinc (v := ((v2 + 1) + 4)) (lv' := [(2, .int ((v2 + 1) + 4)), (4, .int r11), (0, .ref a), (1, .int v1), (3, .int v3)]) hx hb dX4_worth_56 hl (k := 0) rfl rfl (by decide) rfl (fun ls hl => ?_)
        exact kX4_worth_j59 C rec hrec _ _ _ _ _ h _ _ _ hw (lv_sub hl [2, 3, 0, 4, 1] rfl)
def fX4_worth_j24 (n : Nat) : hPl → Nat → Int32 → Int32 → Int32 → Option Int32 := match n with
  | 0 => fun _ _ _ _ _ => none
  | n + 1 => fX4_worth_j24s (fX4_worth_j24 n)
theorem kX4_worth_j24 {g : hGb} {p : Program} {l : Launch} {e : Env} {s : State} {m : MethodId} {args : Array Value} {below : List Frame} {meth : Method} {c : Code} {A : Nat → Prop} (C : hX g p s m args meth c RX4 cX4_worth 5 wsX4_worth (some .int)) {f : hPl} {z : Nat} {r : Int32} (n : Nat) : ∀ (a : Nat) (v1 : Int32) (v2 : Int32) (v3 : Int32), fX4_worth_j24 n f a v1 v2 v3 = some r → ∀ (H : Heap) (locs : List Loc) (ls : Array Slot), hW g A s f z H locs → lv_has ls 5 [(0, .ref a), (1, .int v1), (2, .int v2), (3, .int v3)] → W p l e (hRm 1 0 0) s m args below meth c H locs 0 0 (hZ g A below args s 0 0 (some (.int r)) f z) (F0 m 24 ls []) := by
  induction n with
  | zero =>
    intro a v1 v2 v3 h
    cases h
  | succ n ih => exact kX4_worth_j24s C (fX4_worth_j24 n) ih
def fX4_worth (f : hPl) (a : Nat) (p1 : Int32) : Option Int32 := (fX4_isPlace f  p1).bind fun r1 => (if r1 = 0 then some (-1) else (hob f a 3).bind fun u3 => (fX4_sortOn f a p1).bind fun r4 => (fX4_isOfStones f  r4).bind fun r5 => (if r5 = 0 then some (-1) else fX4_worth_j24 64 f a p1 0 0))
set_option maxHeartbeats 4000000 in
set_option maxRecDepth 100000 in
theorem kX4_worth (l : Launch) (g : hGb) {f : hPl} {z : Nat} {a : Nat} {p1 : Int32} {r : Int32} (h : fX4_worth f a p1 = some r) : hCt l g yX4_worth wsX4_worth 1 0 0 [.ref a, .int p1] f z (some (.int r)) f z := by
  refine hCt.of (cc := cX4_worth) (maxL := 5) (ret := (some .int)) (by decide +kernel) rfl (by exact Nat.le_of_ble_eq_true rfl) ?_
  intro p e s m below meth c C hname hw ls hl
  obtain ⟨hx, hb, hml, hown, hts, hr, hlocks, hk⟩ := id C
  have hl : lv_has ls 5 [(0, .ref a), (1, .int p1)] := hl
  have hown : s.vm.findClass RX4 = some m.cls := hown
  unfold fX4_worth at h
  refine lv_iload_n hx hb dX4_worth_0 rfl (lv_at hl 1 rfl) ?_
  replace h := hbd h
  obtain ⟨r1, er1, h⟩ := h
  refine hcallS (o := some (.int r1)) hx hb hml hown hts hk [.int p1] [] (kX4_isPlace l g er1) gX4_worth_X4_isPlace rfl (n := 1) rfl (by decide +kernel) ⟨Nat.le_of_ble_eq_true rfl, Nat.le_of_ble_eq_true rfl⟩ hw hl.1 rfl (Nat.le_of_ble_eq_true rfl) dX4_worth_1 ⟨Nat.le_of_ble_eq_true rfl, Nat.le_of_ble_eq_true rfl⟩ (fun H locs hw => ?_)
  refine W.eq (g2 := F0 m 4 ls [.int r1]) rfl ?_
  refine lv_if_eq (tgt := 18) hx hb dX4_worth_4 (by decide) (fun c2 => ?_) (fun c2 => ?_)
  · rw [if_pos c2] at h
    refine lv_iconst (v := (-1)) hx hb dX4_worth_18 (by decide) ?_
    cases h
    exact hret_i hx hb hr hlocks hw dX4_worth_19
  · rw [if_neg c2] at h
    refine lv_aload_n hx hb dX4_worth_7 rfl (lv_at hl 0 rfl) ?_
    refine lv_iload_n hx hb dX4_worth_8 rfl (lv_at hl 1 rfl) ?_
    replace h := hbd h
    obtain ⟨u3, eu3, h⟩ := h
    replace h := hbd h
    obtain ⟨r4, er4, h⟩ := h
    refine hcallV (o := some (.int r4)) hx hb hml hown hts hk [.int p1] [] (kX4_sortOn l g er4) gX4_worth_X4_sortOn rfl (n := 1) rfl (by decide +kernel) ⟨Nat.le_of_ble_eq_true rfl, Nat.le_of_ble_eq_true rfl⟩ (ci := 3) rfl eu3 hw hl.1 rfl (Nat.le_of_ble_eq_true rfl) dX4_worth_9 ⟨Nat.le_of_ble_eq_true rfl, Nat.le_of_ble_eq_true rfl⟩ (fun H locs hw => ?_)
    refine W.eq (g2 := F0 m 12 ls [.int r4]) rfl ?_
    replace h := hbd h
    obtain ⟨r5, er5, h⟩ := h
    refine hcallS (o := some (.int r5)) hx hb hml hown hts hk [.int r4] [] (kX4_isOfStones l g er5) gX4_worth_X4_isOfStones rfl (n := 1) rfl (by decide +kernel) ⟨Nat.le_of_ble_eq_true rfl, Nat.le_of_ble_eq_true rfl⟩ hw hl.1 rfl (Nat.le_of_ble_eq_true rfl) dX4_worth_12 ⟨Nat.le_of_ble_eq_true rfl, Nat.le_of_ble_eq_true rfl⟩ (fun H locs hw => ?_)
    refine W.eq (g2 := F0 m 15 ls [.int r5]) rfl ?_
    refine lv_if_ne (tgt := 20) hx hb dX4_worth_15 (by decide) (fun c6 => ?_) (fun c6 => ?_)
    · rw [if_neg c6] at h
      refine lv_iconst (v := 0) hx hb dX4_worth_20 (by decide) ?_
      refine lv_istore_n (lv' := [(2, .int 0), (0, .ref a), (1, .int p1)]) hx hb dX4_worth_21 rfl hl (by decide) rfl (fun ls hl => ?_)
      refine lv_iconst (v := 0) hx hb dX4_worth_22 (by decide) ?_
      refine lv_istore_n (lv' := [(3, .int 0), (2, .int 0), (0, .ref a), (1, .int p1)]) hx hb dX4_worth_23 rfl hl (by decide) rfl (fun ls hl => ?_)
      exact kX4_worth_j24 C 64 _ _ _ _ h _ _ _ hw (lv_sub hl [2, 3, 1, 0] rfl)
    · rw [if_pos c6] at h
      refine lv_iconst (v := (-1)) hx hb dX4_worth_18 (by decide) ?_
      cases h
      exact hret_i hx hb hr hlocks hw dX4_worth_19
def fX4_mirror_j61s (rec : hPl → Nat → Int32 → Int32 → Int32 → Int32 → Int32 → Option Int32) (f : hPl) (a : Nat) (v1 : Int32) (v2 : Int32) (v3 : Int32) (v4 : Int32) (v5 : Int32) : Option Int32 := (if v3 ≤ v5 then (if v4 = 0 ∨ v4 = 1 then some v4 else none) else (if v4 = 0 then rec f a v1 v2 v3 0 (v5 + 1) else (hob f a 3).bind fun u21 => (fX4_kindAt f a v1 v5).bind fun r22 => (hob f a 3).bind fun u23 => (fX4_kindAt f a v2 ((v3 - 1) - v5)).bind fun r24 => (if r22 = r24 then rec f a v1 v2 v3 1 (v5 + 1) else rec f a v1 v2 v3 0 (v5 + 1))))
set_option maxHeartbeats 4000000 in
set_option maxRecDepth 100000 in
theorem kX4_mirror_j61s {g : hGb} {p : Program} {l : Launch} {e : Env} {s : State} {m : MethodId} {args : Array Value} {below : List Frame} {meth : Method} {c : Code} {A : Nat → Prop} (C : hX g p s m args meth c RX4 cX4_mirror 6 wsX4_mirror (some .boolean)) {f : hPl} {z : Nat} {r : Int32} (rec : hPl → Nat → Int32 → Int32 → Int32 → Int32 → Int32 → Option Int32) (hrec : ∀ (a : Nat) (v1 : Int32) (v2 : Int32) (v3 : Int32) (v4 : Int32) (v5 : Int32), rec f a v1 v2 v3 v4 v5 = some r → ∀ (H : Heap) (locs : List Loc) (ls : Array Slot), hW g A s f z H locs → lv_has ls 6 [(0, .ref a), (1, .int v1), (2, .int v2), (3, .int v3), (4, .int v4), (5, .int v5)] → W p l e (hRm 1 0 0) s m args below meth c H locs 0 0 (hZ g A below args s 0 0 (some (.int r)) f z) (F0 m 61 ls []))  : ∀ (a : Nat) (v1 : Int32) (v2 : Int32) (v3 : Int32) (v4 : Int32) (v5 : Int32), fX4_mirror_j61s rec f a v1 v2 v3 v4 v5 = some r → ∀ (H : Heap) (locs : List Loc) (ls : Array Slot), hW g A s f z H locs → lv_has ls 6 [(0, .ref a), (1, .int v1), (2, .int v2), (3, .int v3), (4, .int v4), (5, .int v5)] → W p l e (hRm 1 0 0) s m args below meth c H locs 0 0 (hZ g A below args s 0 0 (some (.int r)) f z) (F0 m 61 ls []) := by
  obtain ⟨hx, hb, hml, hown, hts, hr, hlocks, hk⟩ := id C
  intro a v1 v2 v3 v4 v5 h H locs ls hw hl
  unfold fX4_mirror_j61s at h
  refine lv_iload hx hb dX4_mirror_61 (lv_at hl 5 rfl) ?_
  refine lv_iload_n hx hb dX4_mirror_63 rfl (lv_at hl 3 rfl) ?_
  refine lv_icmp_ge (tgt := 106) hx hb dX4_mirror_64 (by decide) (fun c18 => ?_) (fun c18 => ?_)
  · rw [if_pos c18] at h
    refine lv_iload hx hb dX4_mirror_106 (lv_at hl 4 rfl) ?_
    obtain ⟨c19, h⟩ := hif h
    cases h
    exact hret_z hx hb hr hlocks hw c19 dX4_mirror_108
  · rw [if_neg c18] at h
    refine lv_iload hx hb dX4_mirror_67 (lv_at hl 4 rfl) ?_
    refine lv_if_eq (tgt := 97) hx hb dX4_mirror_69 (by decide) (fun c20 => ?_) (fun c20 => ?_)
    · rw [if_pos c20] at h
      refine lv_iconst (v := 0) hx hb dX4_mirror_97 (by decide) ?_
      refine lv_istore (lv' := [(4, .int 0), (0, .ref a), (1, .int v1), (2, .int v2), (3, .int v3), (5, .int v5)]) hx hb dX4_mirror_98 hl (by decide) rfl (fun ls hl => ?_)
      refine lv_iinc (v := (v5 + 1)) (lv' := [(5, .int (v5 + 1)), (4, .int 0), (0, .ref a), (1, .int v1), (2, .int v2), (3, .int v3)]) hx hb dX4_mirror_100 hl (k := 5) rfl rfl (by decide) rfl (fun ls hl => ?_)
      refine lv_goto (tgt := 61) hx hb dX4_mirror_103 (by decide) ?_
      exact hrec _ _ _ _ _ _ h _ _ _ hw (lv_sub hl [2, 3, 4, 5, 1, 0] rfl)
    · rw [if_neg c20] at h
      refine lv_aload_n hx hb dX4_mirror_72 rfl (lv_at hl 0 rfl) ?_
      refine lv_iload_n hx hb dX4_mirror_73 rfl (lv_at hl 1 rfl) ?_
      refine lv_iload hx hb dX4_mirror_74 (lv_at hl 5 rfl) ?_
      replace h := hbd h
      obtain ⟨u21, eu21, h⟩ := h
      replace h := hbd h
      obtain ⟨r22, er22, h⟩ := h
      refine hcallV (o := some (.int r22)) hx hb hml hown hts hk [.int v1, .int v5] [] (kX4_kindAt l g er22) gX4_mirror_X4_kindAt rfl (n := 2) rfl (by decide +kernel) ⟨Nat.le_of_ble_eq_true rfl, Nat.le_of_ble_eq_true rfl⟩ (ci := 3) rfl eu21 hw hl.1 rfl (Nat.le_of_ble_eq_true rfl) dX4_mirror_76 ⟨Nat.le_of_ble_eq_true rfl, Nat.le_of_ble_eq_true rfl⟩ (fun H locs hw => ?_)
      refine W.eq (g2 := F0 m 79 ls [.int r22]) rfl ?_
      refine lv_aload_n hx hb dX4_mirror_79 rfl (lv_at hl 0 rfl) ?_
      refine lv_iload_n hx hb dX4_mirror_80 rfl (lv_at hl 2 rfl) ?_
      refine lv_iload_n hx hb dX4_mirror_81 rfl (lv_at hl 3 rfl) ?_
      refine lv_iconst (v := 1) hx hb dX4_mirror_82 (by decide) ?_
      refine lv_isub hx hb dX4_mirror_83 ?_
      refine lv_iload hx hb dX4_mirror_84 (lv_at hl 5 rfl) ?_
      refine lv_isub hx hb dX4_mirror_86 ?_
      replace h := hbd h
      obtain ⟨u23, eu23, h⟩ := h
      replace h := hbd h
      obtain ⟨r24, er24, h⟩ := h
      refine hcallV (o := some (.int r24)) hx hb hml hown hts hk [.int v2, .int ((v3 - 1) - v5)] [.int r22] (kX4_kindAt l g er24) gX4_mirror_X4_kindAt rfl (n := 2) rfl (by decide +kernel) ⟨Nat.le_of_ble_eq_true rfl, Nat.le_of_ble_eq_true rfl⟩ (ci := 3) rfl eu23 hw hl.1 rfl (Nat.le_of_ble_eq_true rfl) dX4_mirror_87 ⟨Nat.le_of_ble_eq_true rfl, Nat.le_of_ble_eq_true rfl⟩ (fun H locs hw => ?_)
      refine W.eq (g2 := F0 m 90 ls [.int r24, .int r22]) rfl ?_
      refine lv_icmp_ne (tgt := 97) hx hb dX4_mirror_90 (by decide) (fun c25 => ?_) (fun c25 => ?_)
      · rw [if_neg c25] at h
        refine lv_iconst (v := 0) hx hb dX4_mirror_97 (by decide) ?_
        refine lv_istore (lv' := [(4, .int 0), (0, .ref a), (1, .int v1), (2, .int v2), (3, .int v3), (5, .int v5)]) hx hb dX4_mirror_98 hl (by decide) rfl (fun ls hl => ?_)
        refine lv_iinc (v := (v5 + 1)) (lv' := [(5, .int (v5 + 1)), (4, .int 0), (0, .ref a), (1, .int v1), (2, .int v2), (3, .int v3)]) hx hb dX4_mirror_100 hl (k := 5) rfl rfl (by decide) rfl (fun ls hl => ?_)
        refine lv_goto (tgt := 61) hx hb dX4_mirror_103 (by decide) ?_
        exact hrec _ _ _ _ _ _ h _ _ _ hw (lv_sub hl [2, 3, 4, 5, 1, 0] rfl)
      · rw [if_pos c25] at h
        refine lv_iconst (v := 1) hx hb dX4_mirror_93 (by decide) ?_
        refine lv_goto (tgt := 98) hx hb dX4_mirror_94 (by decide) ?_
        refine lv_istore (lv' := [(4, .int 1), (0, .ref a), (1, .int v1), (2, .int v2), (3, .int v3), (5, .int v5)]) hx hb dX4_mirror_98 hl (by decide) rfl (fun ls hl => ?_)
        refine lv_iinc (v := (v5 + 1)) (lv' := [(5, .int (v5 + 1)), (4, .int 1), (0, .ref a), (1, .int v1), (2, .int v2), (3, .int v3)]) hx hb dX4_mirror_100 hl (k := 5) rfl rfl (by decide) rfl (fun ls hl => ?_)
        refine lv_goto (tgt := 61) hx hb dX4_mirror_103 (by decide) ?_
        exact hrec _ _ _ _ _ _ h _ _ _ hw (lv_sub hl [2, 3, 4, 5, 1, 0] rfl)
def fX4_mirror_j61 (n : Nat) : hPl → Nat → Int32 → Int32 → Int32 → Int32 → Int32 → Option Int32 := match n with
  | 0 => fun _ _ _ _ _ _ _ => none
  | n + 1 => fX4_mirror_j61s (fX4_mirror_j61 n)
theorem kX4_mirror_j61 {g : hGb} {p : Program} {l : Launch} {e : Env} {s : State} {m : MethodId} {args : Array Value} {below : List Frame} {meth : Method} {c : Code} {A : Nat → Prop} (C : hX g p s m args meth c RX4 cX4_mirror 6 wsX4_mirror (some .boolean)) {f : hPl} {z : Nat} {r : Int32} (n : Nat) : ∀ (a : Nat) (v1 : Int32) (v2 : Int32) (v3 : Int32) (v4 : Int32) (v5 : Int32), fX4_mirror_j61 n f a v1 v2 v3 v4 v5 = some r → ∀ (H : Heap) (locs : List Loc) (ls : Array Slot), hW g A s f z H locs → lv_has ls 6 [(0, .ref a), (1, .int v1), (2, .int v2), (3, .int v3), (4, .int v4), (5, .int v5)] → W p l e (hRm 1 0 0) s m args below meth c H locs 0 0 (hZ g A below args s 0 0 (some (.int r)) f z) (F0 m 61 ls []) := by
  induction n with
  | zero =>
    intro a v1 v2 v3 v4 v5 h
    cases h
  | succ n ih => exact kX4_mirror_j61s C (fX4_mirror_j61 n) ih
def fX4_mirror (f : hPl) (a : Nat) (p1 : Int32) (p2 : Int32) : Option Int32 := (fX4_isPlace f  p1).bind fun r1 => (if r1 = 0 then some 0 else (fX4_isPlace f  p2).bind fun r3 => (if r3 = 0 then some 0 else (hob f a 3).bind fun u5 => (fX4_sortOn f a p1).bind fun r6 => (fX4_isOfStones f  r6).bind fun r7 => (if r7 = 0 then some 0 else (hob f a 3).bind fun u9 => (fX4_sortOn f a p2).bind fun r10 => (fX4_isOfStones f  r10).bind fun r11 => (if r11 = 0 then some 0 else (hob f a 3).bind fun u13 => (fX4_manyOn f a p1).bind fun r14 => (hob f a 3).bind fun u15 => (fX4_manyOn f a p2).bind fun r16 => (if r14 = r16 then fX4_mirror_j61 64 f a p1 p2 r14 1 0 else some 0)))))
set_option maxHeartbeats 4000000 in
set_option maxRecDepth 100000 in
theorem kX4_mirror (l : Launch) (g : hGb) {f : hPl} {z : Nat} {a : Nat} {p1 : Int32} {p2 : Int32} {r : Int32} (h : fX4_mirror f a p1 p2 = some r) : hCt l g yX4_mirror wsX4_mirror 1 0 0 [.ref a, .int p1, .int p2] f z (some (.int r)) f z := by
  refine hCt.of (cc := cX4_mirror) (maxL := 6) (ret := (some .boolean)) (by decide +kernel) rfl (by exact Nat.le_of_ble_eq_true rfl) ?_
  intro p e s m below meth c C hname hw ls hl
  obtain ⟨hx, hb, hml, hown, hts, hr, hlocks, hk⟩ := id C
  have hl : lv_has ls 6 [(0, .ref a), (1, .int p1), (2, .int p2)] := hl
  have hown : s.vm.findClass RX4 = some m.cls := hown
  unfold fX4_mirror at h
  refine lv_iload_n hx hb dX4_mirror_0 rfl (lv_at hl 1 rfl) ?_
  replace h := hbd h
  obtain ⟨r1, er1, h⟩ := h
  refine hcallS (o := some (.int r1)) hx hb hml hown hts hk [.int p1] [] (kX4_isPlace l g er1) gX4_mirror_X4_isPlace rfl (n := 1) rfl (by decide +kernel) ⟨Nat.le_of_ble_eq_true rfl, Nat.le_of_ble_eq_true rfl⟩ hw hl.1 rfl (Nat.le_of_ble_eq_true rfl) dX4_mirror_1 ⟨Nat.le_of_ble_eq_true rfl, Nat.le_of_ble_eq_true rfl⟩ (fun H locs hw => ?_)
  refine W.eq (g2 := F0 m 4 ls [.int r1]) rfl ?_
  refine lv_if_eq (tgt := 36) hx hb dX4_mirror_4 (by decide) (fun c2 => ?_) (fun c2 => ?_)
  · rw [if_pos c2] at h
    refine lv_iconst (v := 0) hx hb dX4_mirror_36 (by decide) ?_
    cases h
    exact hret_z hx hb hr hlocks hw (Or.inl rfl) dX4_mirror_37
  · rw [if_neg c2] at h
    refine lv_iload_n hx hb dX4_mirror_7 rfl (lv_at hl 2 rfl) ?_
    replace h := hbd h
    obtain ⟨r3, er3, h⟩ := h
    refine hcallS (o := some (.int r3)) hx hb hml hown hts hk [.int p2] [] (kX4_isPlace l g er3) gX4_mirror_X4_isPlace rfl (n := 1) rfl (by decide +kernel) ⟨Nat.le_of_ble_eq_true rfl, Nat.le_of_ble_eq_true rfl⟩ hw hl.1 rfl (Nat.le_of_ble_eq_true rfl) dX4_mirror_8 ⟨Nat.le_of_ble_eq_true rfl, Nat.le_of_ble_eq_true rfl⟩ (fun H locs hw => ?_)
    refine W.eq (g2 := F0 m 11 ls [.int r3]) rfl ?_
    refine lv_if_eq (tgt := 36) hx hb dX4_mirror_11 (by decide) (fun c4 => ?_) (fun c4 => ?_)
    · rw [if_pos c4] at h
      refine lv_iconst (v := 0) hx hb dX4_mirror_36 (by decide) ?_
      cases h
      exact hret_z hx hb hr hlocks hw (Or.inl rfl) dX4_mirror_37
    · rw [if_neg c4] at h
      refine lv_aload_n hx hb dX4_mirror_14 rfl (lv_at hl 0 rfl) ?_
      refine lv_iload_n hx hb dX4_mirror_15 rfl (lv_at hl 1 rfl) ?_
      replace h := hbd h
      obtain ⟨u5, eu5, h⟩ := h
      replace h := hbd h
      obtain ⟨r6, er6, h⟩ := h
      refine hcallV (o := some (.int r6)) hx hb hml hown hts hk [.int p1] [] (kX4_sortOn l g er6) gX4_mirror_X4_sortOn rfl (n := 1) rfl (by decide +kernel) ⟨Nat.le_of_ble_eq_true rfl, Nat.le_of_ble_eq_true rfl⟩ (ci := 3) rfl eu5 hw hl.1 rfl (Nat.le_of_ble_eq_true rfl) dX4_mirror_16 ⟨Nat.le_of_ble_eq_true rfl, Nat.le_of_ble_eq_true rfl⟩ (fun H locs hw => ?_)
      refine W.eq (g2 := F0 m 19 ls [.int r6]) rfl ?_
      replace h := hbd h
      obtain ⟨r7, er7, h⟩ := h
      refine hcallS (o := some (.int r7)) hx hb hml hown hts hk [.int r6] [] (kX4_isOfStones l g er7) gX4_mirror_X4_isOfStones rfl (n := 1) rfl (by decide +kernel) ⟨Nat.le_of_ble_eq_true rfl, Nat.le_of_ble_eq_true rfl⟩ hw hl.1 rfl (Nat.le_of_ble_eq_true rfl) dX4_mirror_19 ⟨Nat.le_of_ble_eq_true rfl, Nat.le_of_ble_eq_true rfl⟩ (fun H locs hw => ?_)
      refine W.eq (g2 := F0 m 22 ls [.int r7]) rfl ?_
      refine lv_if_eq (tgt := 36) hx hb dX4_mirror_22 (by decide) (fun c8 => ?_) (fun c8 => ?_)
      · rw [if_pos c8] at h
        refine lv_iconst (v := 0) hx hb dX4_mirror_36 (by decide) ?_
        cases h
        exact hret_z hx hb hr hlocks hw (Or.inl rfl) dX4_mirror_37
      · rw [if_neg c8] at h
        refine lv_aload_n hx hb dX4_mirror_25 rfl (lv_at hl 0 rfl) ?_
        refine lv_iload_n hx hb dX4_mirror_26 rfl (lv_at hl 2 rfl) ?_
        replace h := hbd h
        obtain ⟨u9, eu9, h⟩ := h
        replace h := hbd h
        obtain ⟨r10, er10, h⟩ := h
        refine hcallV (o := some (.int r10)) hx hb hml hown hts hk [.int p2] [] (kX4_sortOn l g er10) gX4_mirror_X4_sortOn rfl (n := 1) rfl (by decide +kernel) ⟨Nat.le_of_ble_eq_true rfl, Nat.le_of_ble_eq_true rfl⟩ (ci := 3) rfl eu9 hw hl.1 rfl (Nat.le_of_ble_eq_true rfl) dX4_mirror_27 ⟨Nat.le_of_ble_eq_true rfl, Nat.le_of_ble_eq_true rfl⟩ (fun H locs hw => ?_)
        refine W.eq (g2 := F0 m 30 ls [.int r10]) rfl ?_
        replace h := hbd h
        obtain ⟨r11, er11, h⟩ := h
        refine hcallS (o := some (.int r11)) hx hb hml hown hts hk [.int r10] [] (kX4_isOfStones l g er11) gX4_mirror_X4_isOfStones rfl (n := 1) rfl (by decide +kernel) ⟨Nat.le_of_ble_eq_true rfl, Nat.le_of_ble_eq_true rfl⟩ hw hl.1 rfl (Nat.le_of_ble_eq_true rfl) dX4_mirror_30 ⟨Nat.le_of_ble_eq_true rfl, Nat.le_of_ble_eq_true rfl⟩ (fun H locs hw => ?_)
        refine W.eq (g2 := F0 m 33 ls [.int r11]) rfl ?_
        refine lv_if_ne (tgt := 38) hx hb dX4_mirror_33 (by decide) (fun c12 => ?_) (fun c12 => ?_)
        · rw [if_neg c12] at h
          refine lv_aload_n hx hb dX4_mirror_38 rfl (lv_at hl 0 rfl) ?_
          refine lv_iload_n hx hb dX4_mirror_39 rfl (lv_at hl 1 rfl) ?_
          replace h := hbd h
          obtain ⟨u13, eu13, h⟩ := h
          replace h := hbd h
          obtain ⟨r14, er14, h⟩ := h
          refine hcallV (o := some (.int r14)) hx hb hml hown hts hk [.int p1] [] (kX4_manyOn l g er14) gX4_mirror_X4_manyOn rfl (n := 1) rfl (by decide +kernel) ⟨Nat.le_of_ble_eq_true rfl, Nat.le_of_ble_eq_true rfl⟩ (ci := 3) rfl eu13 hw hl.1 rfl (Nat.le_of_ble_eq_true rfl) dX4_mirror_40 ⟨Nat.le_of_ble_eq_true rfl, Nat.le_of_ble_eq_true rfl⟩ (fun H locs hw => ?_)
          refine W.eq (g2 := F0 m 43 ls [.int r14]) rfl ?_
          refine lv_istore_n (lv' := [(3, .int r14), (0, .ref a), (1, .int p1), (2, .int p2)]) hx hb dX4_mirror_43 rfl hl (by decide) rfl (fun ls hl => ?_)
          refine lv_iload_n hx hb dX4_mirror_44 rfl (lv_at hl 0 rfl) ?_
          refine lv_aload_n hx hb dX4_mirror_45 rfl (lv_at hl 1 rfl) ?_
          refine lv_iload_n hx hb dX4_mirror_46 rfl (lv_at hl 3 rfl) ?_
          replace h := hbd h
          obtain ⟨u15, eu15, h⟩ := h
          replace h := hbd h
          obtain ⟨r16, er16, h⟩ := h
          refine hcallV (o := some (.int r16)) hx hb hml hown hts hk [.int p2] [.int r14] (kX4_manyOn l g er16) gX4_mirror_X4_manyOn rfl (n := 1) rfl (by decide +kernel) ⟨Nat.le_of_ble_eq_true rfl, Nat.le_of_ble_eq_true rfl⟩ (ci := 3) rfl eu15 hw hl.1 rfl (Nat.le_of_ble_eq_true rfl) dX4_mirror_47 ⟨Nat.le_of_ble_eq_true rfl, Nat.le_of_ble_eq_true rfl⟩ (fun H locs hw => ?_)
          refine W.eq (g2 := F0 m 50 ls [.int r16, .int r14]) rfl ?_
          refine lv_icmp_eq (tgt := 55) hx hb dX4_mirror_50 (by decide) (fun c17 => ?_) (fun c17 => ?_)
          · rw [if_pos c17] at h
            refine lv_iconst (v := 1) hx hb dX4_mirror_55 (by decide) ?_
            refine lv_istore (lv' := [(4, .int 1), (3, .int r14), (0, .ref a), (1, .int p1), (2, .int p2)]) hx hb dX4_mirror_56 hl (by decide) rfl (fun ls hl => ?_)
            refine lv_iconst (v := 0) hx hb dX4_mirror_58 (by decide) ?_
            refine lv_istore (lv' := [(5, .int 0), (4, .int 1), (3, .int r14), (0, .ref a), (1, .int p1), (2, .int p2)]) hx hb dX4_mirror_59 hl (by decide) rfl (fun ls hl => ?_)
            exact kX4_mirror_j61 C 64 _ _ _ _ _ _ h _ _ _ hw (lv_sub hl [3, 4, 5, 2, 1, 0] rfl)
          · rw [if_neg c17] at h
            refine lv_iconst (v := 0) hx hb dX4_mirror_53 (by decide) ?_
            cases h
            exact hret_z hx hb hr hlocks hw (Or.inl rfl) dX4_mirror_54
        · rw [if_pos c12] at h
          refine lv_iconst (v := 0) hx hb dX4_mirror_36 (by decide) ?_
          cases h
          exact hret_z hx hb hr hlocks hw (Or.inl rfl) dX4_mirror_37
theorem iX4_count_X4 : ∀ w ∈ wsX40, w ∈ wsX4_count := by decide +kernel
def fX4_count (f : hPl) (a : Nat) (p1 : Int32) : Option Int32 := (if p1 < 0 then some (-1) else (if p1 ≤ 6 then (hgQ f a 3 8).bind fun q3 => q3.bind fun a4 => (hlI f a4 p1).bind fun x5 => some x5 else some (-1)))
set_option maxHeartbeats 4000000 in
set_option maxRecDepth 100000 in
theorem kX4_count (l : Launch) (g : hGb) {f : hPl} {z : Nat} {a : Nat} {p1 : Int32} {r : Int32} (h : fX4_count f a p1 = some r) : hCt l g yX4_count wsX4_count 0 0 0 [.ref a, .int p1] f z (some (.int r)) f z := by
  refine hCt.of (cc := cX4_count) (maxL := 2) (ret := (some .int)) (by decide +kernel) rfl (by exact Nat.le_of_ble_eq_true rfl) ?_
  intro p e s m below meth c C hname hw ls hl
  obtain ⟨hx, hb, hml, hown, hts, hr, hlocks, hk⟩ := id C
  have hl : lv_has ls 2 [(0, .ref a), (1, .int p1)] := hl
  have hown : s.vm.findClass RX4 = some m.cls := hown
  unfold fX4_count at h
  refine lv_iload_n hx hb dX4_count_0 rfl (lv_at hl 1 rfl) ?_
  refine lv_if_lt (tgt := 10) hx hb dX4_count_1 (by decide) (fun c1 => ?_) (fun c1 => ?_)
  · rw [if_pos c1] at h
    refine lv_iconst (v := (-1)) hx hb dX4_count_10 (by decide) ?_
    refine lv_goto (tgt := 20) hx hb dX4_count_11 (by decide) ?_
    cases h
    exact hret_i hx hb hr hlocks hw dX4_count_20
  · rw [if_neg c1] at h
    refine lv_iload_n hx hb dX4_count_4 rfl (lv_at hl 1 rfl) ?_
    refine lv_bipush (v := 6) hx hb dX4_count_5 (by decide) ?_
    refine lv_icmp_le (tgt := 14) hx hb dX4_count_7 (by decide) (fun c2 => ?_) (fun c2 => ?_)
    · rw [if_pos c2] at h
      refine lv_aload_n hx hb dX4_count_14 rfl (lv_at hl 0 rfl) ?_
      replace h := hbd h
      obtain ⟨q3, eq3, h⟩ := h
      refine hr_getQ (C := RX4) (T := TX4) (N := 9) hx hb hts iX4_count_X4 hown hk hw rfl 8 (by decide) (hts (.fieldLink RX4 36 "SetterBenchModel" "counts" "[I") (by decide +kernel)) (fun _ h9 => h9) eq3 dX4_count_15 ?_
      refine lv_iload_n hx hb dX4_count_18 rfl (lv_at hl 1 rfl) ?_
      replace h := hbd h
      obtain ⟨a4, rfl, h⟩ := h
      replace h := hbd h
      obtain ⟨x5, ex5, h⟩ := h
      refine hr_lI hx hb hk hw ex5 dX4_count_19 ?_
      cases h
      exact hret_i hx hb hr hlocks hw dX4_count_20
    · rw [if_neg c2] at h
      refine lv_iconst (v := (-1)) hx hb dX4_count_10 (by decide) ?_
      refine lv_goto (tgt := 20) hx hb dX4_count_11 (by decide) ?_
      cases h
      exact hret_i hx hb hr hlocks hw dX4_count_20
end
section
section HT
variable {g : hGb} {p : Program} {l : Launch} {e : Env} {R : Room} {s : State} {m : MethodId} {args : Array Value} {below : List Frame} {meth : Method} {c : Code} {H : Heap} {locs : List Loc} {cells slots : Nat} {Q : State → Prop}
variable {cc : ByteArray} {pc : Nat} {ls : Array Slot} {rest : List Value} {A : Nat → Prop} {f f2 : hPl} {z a : Nat}
variable {own : String} {index : Nat} {y : MethodName} {bytes : ByteArray} {maxL nL fr mc ms n : Nat} {ret : Option FieldType} {ws ws' Ts : List Cond} {As st0 : List Value} {o : Option Value} {f' : hPl} {z' : Nat}
theorem hW.lt (h : hW g A s f z H locs) {a : Nat} {e : hCe} (ha : f a = some e) : a < z := by
  have h1 := (h.2.1 a e ha).1.lt
  rw [h.1] at h1
  exact h1
theorem hW.part (h : hW g A s f z H locs) {f1 : hPl} (hs : ∀ a e, f1 a = some e → f a = some e) : hW g A s f1 z H locs := ⟨h.1, fun a e ha => h.2.1 a e (hs a e ha), h.2.2⟩
theorem h_call2 {av : Array Value} (hr : va_Run p l e R s m args below meth c H locs cells slots mc ms (F0 m pc ls st0) rest (hQ g (hA f z) o f' z' av) (hA f z)) (hw : hW g A s f z H locs) (hw2 : hW g A s f2 z H locs) (hdis : ∀ a, f a ≠ none → f2 a = none)
    (kk : ∀ (H1 : Heap) (locs1 : List Loc), hW g A s f' z' H1 locs1 → hW g A s f2 z' H1 locs1 → (∀ a, f' a ≠ none → f2 a = none) → W p l e R s m args below meth c H1 locs1 (cells + mc) (slots + ms) Q (F0 m (pc + 3) ls (o.toList ++ rest))) : W p l e R s m args below meth c H locs cells slots Q (F0 m pc ls st0) := by
  intro T hT X
  obtain ⟨v, st₀, t, T', L, h0, X', hL, e1, e2, ⟨hv, ⟨hz', hp'⟩, hz, hkp⟩, st⟩ := hr T hT X
  cases hv
  rw [h0] at hz hkp
  have hlt2 : ∀ a e, f2 a = some e → a < z := fun a e h => hw2.lt h
  have hout : ∀ a e, f2 a = some e → ¬ hA f z a := by
    intro a e h hq
    rcases hq with hq | hq
    · have h9 := hdis a (fun h9 => by rw [h9] at hq; cases hq)
      rw [h9] at h; cases h
    · have := hlt2 a e h; omega
  obtain ⟨hwz, hwp, hS, hA0⟩ := hw
  have hAA : ∀ q, hA f z q → A q := by
    intro q hq
    rcases hq with hq | hq
    · cases hf : f q with
      | none => rw [hf] at hq; cases hq
      | some e => exact (hwp q e hf).2
    · exact hA0 q (Nat.le_trans hS.1 (by rw [hwz]; exact hq))
  have hS' : va_S A s.heap T'.heap (locs ++ L) := ⟨Nat.le_trans hS.1 (by rw [e1]; exact hz), fun q h1 h2 => by rw [e1, hkp q (Nat.lt_of_lt_of_le h1 hS.1) (fun z => h2 (hAA q z))]; exact hS.2.1 q h1 h2, fun q hq => by
      rcases List.mem_append.mp hq with h | h
      · exact hS.2.2 q h
      · exact hAA _ (hL q h)⟩
  obtain ⟨t2, a1, b1⟩ := kk T'.heap (locs ++ L) ⟨by rw [e1]; exact hz', fun a e h => ⟨by rw [e1]; exact (hp' a e h).1, hAA a (hp' a e h).2⟩, hS', hA0⟩
    ⟨by rw [e1]; exact hz', fun a e h => ⟨(hw2.2.1 a e h).1.kept (by rw [e1]; exact hkp a (by rw [hwz]; exact hlt2 a e h) (hout a e h)), (hw2.2.1 a e h).2⟩, hS', hA0⟩
    (fun a ha => by
      cases hf : f' a with
      | none => exact absurd hf ha
      | some e =>
        cases hf2 : f2 a with
        | none => rfl
        | some e2 => exact absurd (hp' a e hf).2 (hout a e2 hf2)) T' rfl X'
  exact ⟨t2, st t2 a1, b1⟩
theorem hcallV2 (hx : p.tables.exec = Jvm.exec) (hb : c.code = cc) (hml : c.maxLocals = nL) (hown : s.vm.findClass own = some m.cls) (hts : ∀ w ∈ Ts, w.before args s = true) (hk : hK g s) {b : Nat} (As rest : List Value) (hM : hCt l g y ws fr mc ms (.ref b :: As) f z o f' z') {C : String} (hG : GoodIn Ts (wsV own index C y ws)) (hw0 : ws = Cond.code y bytes maxL ret :: ws')
    (hn : As.length = n) (hd : y.cls = C ∧ y.cls ≠ "java/lang/invoke/MethodHandle" ∧ y.cls ≠ "java/lang/invoke/VarHandle" ∧ (parseMethodDescriptor y.desc).map (fun d => d.parameters.length) = some n) (hR : fr + 1 ≤ R.frames ∧ 8 + (maxL + 11) + 40 * fr ≤ R.locals) {ci : Nat} {T : u_T} {N : Nat} (hc : vwCl[ci]? = some (C, T, N)) {u : Unit} (ho : hob f b ci = some u) (hw : hW g A s f z H locs) (hw2 : hW g A s f2 z H locs) (hdis : ∀ a, f a ≠ none → f2 a = none)
    (hs : ls.size = nL) (hst : st0 = As.reverse ++ .ref b :: rest) (hcat : (rest.map fun v => v.category).sum ≤ 8) (hdg : decode cc pc = .ok (.invokevirtual index, 3)) (hf : cells + mc ≤ R.cells ∧ slots + ms ≤ R.slots)
    (kk : ∀ (H1 : Heap) (locs1 : List Loc), hW g A s f' z' H1 locs1 → hW g A s f2 z' H1 locs1 → (∀ a, f' a ≠ none → f2 a = none) → W p l e R s m args below meth c H1 locs1 (cells + mc) (slots + ms) Q (F0 m (pc + 3) ls (o.toList ++ rest))) : W p l e R s m args below meth c H locs cells slots Q (F0 m pc ls st0) :=
  h_call2 (va_runV (As := As) (rest := rest) ⟨hx, hb, hml, hown, hts⟩ hM (cwV n hts hG hw0 rfl rfl hd hR) (hpreV hk hw hc ho) rfl hn hs hst (lv_room hcat) hdg hf) hw hw2 hdis kk
theorem hcallI2 (hx : p.tables.exec = Jvm.exec) (hb : c.code = cc) (hml : c.maxLocals = nL) (hown : s.vm.findClass own = some m.cls) (hts : ∀ w ∈ Ts, w.before args s = true) (hk : hK g s) {b : Nat} (As rest : List Value) (hM : hCt l g y ws fr mc ms (.ref b :: As) f z o f' z') (hG : GoodIn Ts ws) (hw0 : ws = Cond.code y bytes maxL none :: ws') (hini : (Cond.initialized y.cls).before args s = true) (hl : (Cond.methodLink own index y).before args s = true) (hin : (Cond.instanceMethod y).before args s = true)
    (hn : As.length = n) (hd : y.cls ≠ "java/lang/invoke/MethodHandle" ∧ y.cls ≠ "java/lang/invoke/VarHandle" ∧ (parseMethodDescriptor y.desc).map (fun d => d.parameters.length) = some n) (hy1 : y.name = "<init>") (hR : fr + 1 ≤ R.frames ∧ 8 + (maxL + 11) + 40 * fr ≤ R.locals) (hw : hW g A s f z H locs) (hw2 : hW g A s f2 z H locs) (hdis : ∀ a, f a ≠ none → f2 a = none)
    (hs : ls.size = nL) (hst : st0 = As.reverse ++ .ref b :: rest) (hcat : (rest.map fun v => v.category).sum ≤ 8) (hdg : decode cc pc = .ok (.invokespecial index, 3)) (hf : cells + mc ≤ R.cells ∧ slots + ms ≤ R.slots)
    (kk : ∀ (H1 : Heap) (locs1 : List Loc), hW g A s f' z' H1 locs1 → hW g A s f2 z' H1 locs1 → (∀ a, f' a ≠ none → f2 a = none) → W p l e R s m args below meth c H1 locs1 (cells + mc) (slots + ms) Q (F0 m (pc + 3) ls (o.toList ++ rest))) : W p l e R s m args below meth c H locs cells slots Q (F0 m pc ls st0) :=
  h_call2 (va_runI (As := As) (rest := rest) ⟨hx, hb, hml, hown, hts⟩ hM (cwI n hts hG hw0 rfl rfl hini hl hin hy1 hd hR) (hpre hk hw) rfl hn hs hst (lv_room hcat) hdg hf) hw hw2 hdis kk
end HT
/-- what a pair of objects must keep, step by step: the law's whole content, over the pool -/
abbrev hInv : Type := Nat → Nat → hPl → Nat → hPl → Prop
def hBelow (fx : hPl) (z : Nat) : Prop := ∀ a e, fx a = some e → a < z
def hS3 (I : hInv) (F : hPl → Nat → Nat → Int32 → Int32 → Int32 → Option (Int32 × hPl × Nat)) (G : hPl → Nat → Nat → Int32 → Int32 → Int32 → Option (Int32 × hPl × Nat)) : Prop := ∀ i z qx fx qm fm p1 p2 p3, i < 512 → hBelow fx z → I i qx fx qm fm → ∃ r fx' z1 fm' z2, F fx z qx p1 p2 p3 = some (r, fx', z1) ∧ G fm z1 qm p1 p2 p3 = some (r, fm', z2) ∧ I (i + 1) qx fx' qm fm'
def hS2 (I : hInv) (F : hPl → Nat → Nat → Int32 → Int32 → Option (Int32 × hPl × Nat)) (G : hPl → Nat → Nat → Int32 → Int32 → Option (Int32 × hPl × Nat)) : Prop := ∀ i z qx fx qm fm p1 p2, i < 512 → hBelow fx z → I i qx fx qm fm → ∃ r fx' z1 fm' z2, F fx z qx p1 p2 = some (r, fx', z1) ∧ G fm z1 qm p1 p2 = some (r, fm', z2) ∧ I (i + 1) qx fx' qm fm'
def hS5 (I : hInv) (F : hPl → Nat → Nat → Int32 → Int32 → Int32 → Int32 → Int32 → Option (Int32 × hPl × Nat)) (G : hPl → Nat → Nat → Int32 → Int32 → Int32 → Int32 → Int32 → Option (Int32 × hPl × Nat)) : Prop := ∀ i z qx fx qm fm p1 p2 p3 p4 p5, i < 512 → hBelow fx z → I i qx fx qm fm → ∃ r fx' z1 fm' z2, F fx z qx p1 p2 p3 p4 p5 = some (r, fx', z1) ∧ G fm z1 qm p1 p2 p3 p4 p5 = some (r, fm', z2) ∧ I (i + 1) qx fx' qm fm'
def hS0 (I : hInv) (F : hPl → Nat → Nat → Option (Int32 × hPl × Nat)) (G : hPl → Nat → Nat → Option (Int32 × hPl × Nat)) : Prop := ∀ i z qx fx qm fm, i < 512 → hBelow fx z → I i qx fx qm fm → ∃ r fx' z1 fm' z2, F fx z qx = some (r, fx', z1) ∧ G fm z1 qm = some (r, fm', z2) ∧ I (i + 1) qx fx' qm fm'
def hS1 (I : hInv) (F : hPl → Nat → Nat → Int32 → Option (Int32 × hPl × Nat)) (G : hPl → Nat → Nat → Int32 → Option (Int32 × hPl × Nat)) : Prop := ∀ i z qx fx qm fm p1, i < 512 → hBelow fx z → I i qx fx qm fm → ∃ r fx' z1 fm' z2, F fx z qx p1 = some (r, fx', z1) ∧ G fm z1 qm p1 = some (r, fm', z2) ∧ I (i + 1) qx fx' qm fm'
def hR1 (I : hInv) (F G : hPl → Nat → Int32 → Option Int32) : Prop := ∀ i qx fx qm fm p1, I i qx fx qm fm → ∃ r, F fx qx p1 = some r ∧ G fm qm p1 = some r
def hR2 {α : Type} (I : hInv) (F G : hPl → Nat → Int32 → Int32 → Option α) : Prop := ∀ i qx fx qm fm p1 p2, I i qx fx qm fm → ∃ r, F fx qx p1 p2 = some r ∧ G fm qm p1 p2 = some r
abbrev hN : hPl := fun _ => none
abbrev hB0 : List Value := [.null, .null, .null, .null, .int 0, .int 0, .int 0, .int 0, .int 0, .int 0, .int 0]
abbrev hM0 : List Value := [.null, .null, .null, .null, .null, .null, .null, .int 0, .null]
def hAll (I : hInv) : Prop :=
  (∀ z, ∃ fx1 z1, fX3_init (hup hN z (oC 2 hB0)) (z + 1) z = some ((), fx1, z1) ∧ ∀ y, ∃ fm1 y1, fX4_init (hup hN y (oC 3 hM0)) (y + 1) y = some ((), fm1, y1) ∧ I 0 z fx1 y fm1) ∧
  (∀ i qx fx qm fm, I i qx fx qm fm → I (i + 1) qx fx qm fm) ∧ (∀ i qx fx qm fm, I i qx fx qm fm → hob fx qx 2 = some () ∧ hob fm qm 3 = some ()) ∧
  hS3 I fX3_lay fX4_lay ∧ hS2 I fX3_share fX4_share ∧ hS3 I fX3_set fX4_set ∧ hS3 I fX3_put fX4_put ∧ hS5 I fX3_sweep fX4_sweep ∧ hS0 I fX3_back fX4_back ∧ hS1 I fX3_light fX4_light ∧ hR2 I fX3_member fX4_member ∧ hR2 I fX3_thing fX4_thing ∧ hR1 I fX3_worth fX4_worth ∧ hR2 I fX3_mirror fX4_mirror ∧ hR1 I fX3_count fX4_count
end
section
/-! THE CLAIM OUT OF ONE WALK OF THE LAW'S BODY. Your part is whole_start (and what it stands on); all else here is the same for every law, but numbers. -/
def R_law : String := "SetterBenchLaw"
def lw_P (b : Addr) (xs : List Int32) (args : Array Value) (s : State) : Prop := args = #[.ref b] ∧ s.IntsAt b xs ∧ xs.length ≤ 3072 ∧ (Jvm.Cond.and given_1 narrow_1).before args s = true
def lw_Q (_ : Array Value) (s : State) (o : Outcome) (t : State) : Prop := o = .returned (some (.int 1)) ∧ Framed s o t [] 600000 7302250
def lw_Z (below : List Frame) (a : Array Value) (s : State) : State → Prop := fun t => ∃ o, t.status = .running ∧ Ended t below o ∧ lw_Q a s o t
/-- the law's own end, with 1 on the stack, nothing written that was there before, its room as the claim has it -/
theorem lw_ret {p : Program} {l : Launch} {e : Env} {s : State} {m : MethodId} {below : List Frame} {meth : Method} {c : Code} {b : Nat} (hx : p.tables.exec = Jvm.exec) (hb : c.code = code) (hr : meth.sig.returnType = ret) (hlocks : meth.locks = false) {pc : Nat} {H : Heap} {ls : Array Slot} (hdg : decode code pc = .ok (.ireturn, 1)) : W p l e room_1 s m #[Value.ref b] below meth c H [] 600000 7302250 (lw_Z below #[Value.ref b] s) (F0 m pc ls [.int 1]) := by
  intro T hT X
  obtain ⟨fs, hret, hrun, hended, hW, hframe⟩ := X.leave (v := some (.int 1)) (hlocks := hlocks) (fun h => by rw [hr] at h; cases h)
  have hmeth' : T.vm.method? m = some meth := X.method'
  refine ⟨T.setFrames fs, ?_, .returned (some (.int 1)), hrun, hended, rfl, ⟨_, rfl⟩, hW, hframe⟩
  jvm_step X.here [X.here.top, hx, hb, hdg, hmeth', hr, ret, narrow_b1]
  (try refine ⟨rfl, ?_⟩); (try refine ⟨rfl, ?_⟩)
  first | (intro acts; rw [hret _ acts rfl rfl rfl]) | rw [hret _ _ rfl rfl rfl]
  exact Steps.refl _
/-- what holds at the law's entry: the machine, the code, the tables' words (any of lw_tbl by 'hts w (by decide +kernel)'), the script of L ints xs at the cell b, what the Statement gives of the start (any of its parts by flat_of_before) -/
def lw_At (p : Program) (s : State) (m : MethodId) (meth : Method) (c : Code) (b L : Nat) (xs : Nat → Int32) : Prop :=
  p.tables.exec = Jvm.exec ∧ c.code = code ∧ meth.sig.returnType = ret ∧ c.maxLocals = 4 ∧ s.vm.findClass R_law = some m.cls ∧ (∀ w ∈ lw_tbl, w.before #[Value.ref b] s = true) ∧ va_X b L xs s s.heap ∧ b < s.heap.size ∧ meth.locks = false ∧ (Jvm.Cond.and given_1 narrow_1).before #[Value.ref b] s = true
-- ===== YOUR PART BEGINS =====
theorem hsw12 {x : Int32} (h : ¬ (x.toInt < 0 ∨ 11 < x.toInt)) : x = 0 ∨ x = 1 ∨ x = 2 ∨ x = 3 ∨ x = 4 ∨ x = 5 ∨ x = 6 ∨ x = 7 ∨ x = 8 ∨ x = 9 ∨ x = 10 ∨ x = 11 := by
  have h1 : x.toInt = 0 ∨ x.toInt = 1 ∨ x.toInt = 2 ∨ x.toInt = 3 ∨ x.toInt = 4 ∨ x.toInt = 5 ∨ x.toInt = 6 ∨ x.toInt = 7 ∨ x.toInt = 8 ∨ x.toInt = 9 ∨ x.toInt = 10 ∨ x.toInt = 11 := by omega
  have k : ∀ y : Int32, x.toInt = y.toInt → x = y := fun y h => Int32.toInt_inj.mp h
  rcases h1 with h | h | h | h | h | h | h | h | h | h | h | h
  · exact Or.inl (k 0 h)
  · exact Or.inr (Or.inl (k 1 h))
  · exact Or.inr (Or.inr (Or.inl (k 2 h)))
  · exact Or.inr (Or.inr (Or.inr (Or.inl (k 3 h))))
  · exact Or.inr (Or.inr (Or.inr (Or.inr (Or.inl (k 4 h)))))
  · exact Or.inr (Or.inr (Or.inr (Or.inr (Or.inr (Or.inl (k 5 h))))))
  · exact Or.inr (Or.inr (Or.inr (Or.inr (Or.inr (Or.inr (Or.inl (k 6 h)))))))
  · exact Or.inr (Or.inr (Or.inr (Or.inr (Or.inr (Or.inr (Or.inr (Or.inl (k 7 h))))))))
  · exact Or.inr (Or.inr (Or.inr (Or.inr (Or.inr (Or.inr (Or.inr (Or.inr (Or.inl (k 8 h)))))))))
  · exact Or.inr (Or.inr (Or.inr (Or.inr (Or.inr (Or.inr (Or.inr (Or.inr (Or.inr (Or.inl (k 9 h))))))))))
  · exact Or.inr (Or.inr (Or.inr (Or.inr (Or.inr (Or.inr (Or.inr (Or.inr (Or.inr (Or.inr (Or.inl (k 10 h)))))))))))
  · exact Or.inr (Or.inr (Or.inr (Or.inr (Or.inr (Or.inr (Or.inr (Or.inr (Or.inr (Or.inr (Or.inr (k 11 h)))))))))))
theorem hlc (r : Int64) : lg_cmp r r = 0 := by
  have h : ¬ r > r := fun h => by
    have := Int64.lt_iff_toInt_lt.mp h
    omega
  simp [lg_cmp]
theorem hidx {j k : Nat} {x3 y : Int32} {L : Nat} (hx : x3 = nI (6 * j)) (hy : y = nI k) (hk : 6 * j + k < L) (hL : L ≤ 3072) : vp_in (x3 + y) L := by
  rw [hx, hy, nI_add]
  exact vp_in_nI hk (by omega)
set_option maxHeartbeats 8000000 in
set_option maxRecDepth 100000 in
theorem law_loop {p : Program} {l : Launch} {e : Env} {s : State} {m : MethodId} {below : List Frame} {meth : Method} {c : Code} {g : hGb} {b L : Nat} {xs : Nat → Int32} (hL : L ≤ 3072) (C0 : lw_At p s m meth c b L xs) (hk : hK g s) {I : hInv} (HA : hAll I) :
    ∀ (n j : Nat) (x3 : Int32), L + 1 ≤ 6 * j + n → 6 * j ≤ L → x3 = nI (6 * j) → ∀ (qx : Nat) (fx : hPl) (qm : Nat) (fm : hPl) (z : Nat) (H : Heap) (locs : List Loc), hW g (fun q : Nat => s.heap.size ≤ q) s fx z H locs → hW g (fun q : Nat => s.heap.size ≤ q) s fm z H locs → (∀ a, fx a ≠ none → fm a = none) → I j qx fx qm fm → ∀ (ls : Array Slot), lv_has ls 4 [(0, .ref b), (1, .ref qx), (2, .ref qm), (3, .int x3)] → W p l e room_1 s m #[Value.ref b] below meth c H locs (100 + 2 * j) (1000 + 42 * j) (lw_Z below #[Value.ref b] s) (F0 m 18 ls []) := by
  obtain ⟨hx, hb, hr, hml, hown, hts, hX, hbl, hlocks, hgv⟩ := C0
  have hts := fun w h => hts w (wsL_law_in w h)
  have hown : s.vm.findClass RL = some m.cls := hown
  obtain ⟨H_init, H_mono, H_ob, H_lay, H_share, H_set, H_put, H_sweep, H_back, H_light, H_member, H_thing, H_worth, H_mirror, H_count⟩ := HA
  have hbA : ¬ (fun q : Nat => s.heap.size ≤ q) b := Nat.not_le.mpr hbl
  intro n
  induction n with
  | zero =>
    intro j x3 h1 h2
    exact absurd h1 (by omega)
  | succ n ih =>
    intro j x3 h1 h2 ex3 qx fx qm fm z H locs hw hw2 hdis hI ls hl
    refine lv_iload_n hx hb dL_law_18 rfl (lv_at hl 3 rfl) ?_
    refine lv_aload_n hx hb dL_law_19 rfl (lv_at hl 0 rfl) ?_
    refine va_slen hx hb hX hbl hbA hw.2.2.1 dL_law_20 ?_
    refine lv_bipush (v := 6) hx hb dL_law_21 (by decide) ?_
    refine lv_isub hx hb dL_law_23 ?_
    refine lv_icmp_gt (tgt := 509) hx hb dL_law_24 (by decide) (fun c1 => ?_) (fun c1 => ?_)
    · refine lv_iconst (v := 1) hx hb dL_law_509 (by decide) ?_
      refine va_forget (fun q hq => hw.2.2.1.2.2 q hq) ?_
      refine W.widen (k := 600000) (n := 7302250) (by omega) (by omega) ?_
      exact lw_ret hx hb hr hlocks dL_law_510
    have hj : 6 * j + 6 ≤ L := by
      rcases Nat.lt_or_ge L (6 * j + 6) with q | q
      · refine absurd ?_ c1
        rw [ex3, Int32.lt_iff_toInt_lt, show (6 : Int32) = nI 6 from by decide, show Int32.ofNat L = nI L from rfl, pk_sub_toInt (by omega) (by omega), nI_toInt (by omega)]
        omega
      · exact q
    have hj5 : j < 512 := by omega
    have i0 : vp_in x3 L := by rw [ex3]; exact vp_in_nI (by omega) (by omega)
    have i1 : vp_in (x3 + 1) L := hidx (k := 1) ex3 (by decide) (by omega) hL
    have i2 : vp_in (x3 + 2) L := hidx (k := 2) ex3 (by decide) (by omega) hL
    have i3 : vp_in (x3 + 3) L := hidx (k := 3) ex3 (by decide) (by omega) hL
    have i4 : vp_in (x3 + 4) L := hidx (k := 4) ex3 (by decide) (by omega) hL
    have i5 : vp_in (x3 + 5) L := hidx (k := 5) ex3 (by decide) (by omega) hL
    have tail : ∀ (fx fm : hPl) (z : Nat) (H : Heap) (locs : List Loc), hW g (fun q : Nat => s.heap.size ≤ q) s fx z H locs → hW g (fun q : Nat => s.heap.size ≤ q) s fm z H locs → (∀ a, fx a ≠ none → fm a = none) → I (j + 1) qx fx qm fm → W p l e room_1 s m #[Value.ref b] below meth c H locs (100 + 2 * (j + 1)) (1000 + 42 * (j + 1)) (lw_Z below #[Value.ref b] s) (F0 m 503 ls []) := by
      intro fx fm z H locs hw hw2 hdis hI
      refine lv_iinc (v := x3 + 6) (lv' := [(3, .int (x3 + 6)), (0, .ref b), (1, .ref qx), (2, .ref qm)]) hx hb dL_law_503 hl (k := 3) rfl rfl (by decide) rfl (fun ls hl => ?_)
      refine lv_goto (tgt := 18) hx hb dL_law_506 (by decide) ?_
      exact ih (j + 1) (x3 + 6) (by omega) (by omega) (by rw [ex3, show (6 : Int32) = nI 6 from by decide, nI_add, Nat.mul_add]) qx fx qm fm z H locs hw hw2 hdis hI ls (lv_sub hl [1, 2, 3, 0] rfl)
    obtain ⟨hox, hom⟩ := H_ob _ _ _ _ _ hI
    refine lv_aload_n hx hb dL_law_27 rfl (lv_at hl 0 rfl) ?_
    refine lv_iload_n hx hb dL_law_28 rfl (lv_at hl 3 rfl) ?_
    refine va_sld hx hb hX hbl hbA hw.2.2.1 i0 dL_law_29 ?_
    refine lv_bipush (v := 15) hx hb dL_law_30 (by decide) ?_
    refine lv_iand hx hb dL_law_32 ?_
    by_cases c2 : (xs x3.toNatClampNeg &&& 15).toInt < 0 ∨ 11 < (xs x3.toNatClampNeg &&& 15).toInt
    · refine lv_tableOut (tgt := 503) hx hb dL_law_33 c2 (by decide) ?_
      refine W.widen (k := 100 + 2 * (j + 1)) (n := 1000 + 42 * (j + 1)) (by omega) (by omega) ?_
      exact tail fx fm z H locs hw hw2 hdis (H_mono _ _ _ _ _ hI)
    rcases hsw12 c2 with c3 | c3 | c3 | c3 | c3 | c3 | c3 | c3 | c3 | c3 | c3 | c3
    · refine hv_arm (off := 63) (tgt := 96) hx hb c3 dL_law_33 (by decide) (by decide) (by decide) (by decide) ?_
      refine lv_aload_n hx hb dL_law_96 rfl (lv_at hl 1 rfl) ?_
      refine lv_aload_n hx hb dL_law_97 rfl (lv_at hl 0 rfl) ?_
      refine lv_iload_n hx hb dL_law_98 rfl (lv_at hl 3 rfl) ?_
      refine lv_iconst (v := 1) hx hb dL_law_99 (by decide) ?_
      refine lv_iadd hx hb dL_law_100 ?_
      refine va_sld hx hb hX hbl hbA hw.2.2.1 i1 dL_law_101 ?_
      refine lv_aload_n hx hb dL_law_102 rfl (lv_at hl 0 rfl) ?_
      refine lv_iload_n hx hb dL_law_103 rfl (lv_at hl 3 rfl) ?_
      refine lv_iconst (v := 2) hx hb dL_law_104 (by decide) ?_
      refine lv_iadd hx hb dL_law_105 ?_
      refine va_sld hx hb hX hbl hbA hw.2.2.1 i2 dL_law_106 ?_
      refine lv_aload_n hx hb dL_law_107 rfl (lv_at hl 0 rfl) ?_
      refine lv_iload_n hx hb dL_law_108 rfl (lv_at hl 3 rfl) ?_
      refine lv_iconst (v := 3) hx hb dL_law_109 (by decide) ?_
      refine lv_iadd hx hb dL_law_110 ?_
      refine va_sld hx hb hX hbl hbA hw.2.2.1 i3 dL_law_111 ?_
      obtain ⟨r, fx1, z1, fm1, z2, ex, em, hI1⟩ := H_lay _ z _ _ _ _ _ _ _ hj5 (fun a e h => hw.lt h) hI
      refine hcallV2 (o := some (.int r)) hx hb hml hown hts hk [.int (xs (x3 + 1).toNatClampNeg), .int (xs (x3 + 2).toNatClampNeg), .int (xs (x3 + 3).toNatClampNeg)] [] (kX3_lay l g ex) gL_law_X3_lay rfl (n := 3) rfl (by decide +kernel) ⟨Nat.le_of_ble_eq_true rfl, Nat.le_of_ble_eq_true rfl⟩ (ci := 2) rfl hox hw hw2 hdis hl.1 rfl (Nat.le_of_ble_eq_true rfl) dL_law_112 ⟨by show _ ≤ 600000; omega, by show _ ≤ 7302250; omega⟩ (fun H locs hw hw2 hdis => ?_)
      refine W.eq (g2 := F0 m 115 ls [.int r]) rfl ?_
      refine lv_aload_n hx hb dL_law_115 rfl (lv_at hl 2 rfl) ?_
      refine lv_aload_n hx hb dL_law_116 rfl (lv_at hl 0 rfl) ?_
      refine lv_iload_n hx hb dL_law_117 rfl (lv_at hl 3 rfl) ?_
      refine lv_iconst (v := 1) hx hb dL_law_118 (by decide) ?_
      refine lv_iadd hx hb dL_law_119 ?_
      refine va_sld hx hb hX hbl hbA hw.2.2.1 i1 dL_law_120 ?_
      refine lv_aload_n hx hb dL_law_121 rfl (lv_at hl 0 rfl) ?_
      refine lv_iload_n hx hb dL_law_122 rfl (lv_at hl 3 rfl) ?_
      refine lv_iconst (v := 2) hx hb dL_law_123 (by decide) ?_
      refine lv_iadd hx hb dL_law_124 ?_
      refine va_sld hx hb hX hbl hbA hw.2.2.1 i2 dL_law_125 ?_
      refine lv_aload_n hx hb dL_law_126 rfl (lv_at hl 0 rfl) ?_
      refine lv_iload_n hx hb dL_law_127 rfl (lv_at hl 3 rfl) ?_
      refine lv_iconst (v := 3) hx hb dL_law_128 (by decide) ?_
      refine lv_iadd hx hb dL_law_129 ?_
      refine va_sld hx hb hX hbl hbA hw.2.2.1 i3 dL_law_130 ?_
      refine hcallV2 (o := some (.int r)) hx hb hml hown hts hk [.int (xs (x3 + 1).toNatClampNeg), .int (xs (x3 + 2).toNatClampNeg), .int (xs (x3 + 3).toNatClampNeg)] [.int r] (kX4_lay l g em) gL_law_X4_lay rfl (n := 3) rfl (by decide +kernel) ⟨Nat.le_of_ble_eq_true rfl, Nat.le_of_ble_eq_true rfl⟩ (ci := 3) rfl hom hw2 hw (fun a ha => Classical.byContradiction fun h9 => ha (hdis a h9)) hl.1 rfl (Nat.le_of_ble_eq_true rfl) dL_law_131 ⟨by show _ ≤ 600000; omega, by show _ ≤ 7302250; omega⟩ (fun H locs hw2 hw hdis => ?_)
      refine W.eq (g2 := F0 m 134 ls [.int r, .int r]) rfl ?_
      refine lv_icmp_eq (tgt := 503) hx hb dL_law_134 (by decide) (fun _ => ?_) (fun h9 => absurd rfl h9)
      refine W.widen (k := 100 + 2 * (j + 1)) (n := 1000 + 42 * (j + 1)) (by omega) (by omega) ?_
      exact tail fx1 fm1 _ _ _ hw hw2 (fun a ha => Classical.byContradiction fun h9 => ha (hdis a h9)) hI1
    · refine hv_arm (off := 106) (tgt := 139) hx hb c3 dL_law_33 (by decide) (by decide) (by decide) (by decide) ?_
      refine lv_aload_n hx hb dL_law_139 rfl (lv_at hl 1 rfl) ?_
      refine lv_aload_n hx hb dL_law_140 rfl (lv_at hl 0 rfl) ?_
      refine lv_iload_n hx hb dL_law_141 rfl (lv_at hl 3 rfl) ?_
      refine lv_iconst (v := 1) hx hb dL_law_142 (by decide) ?_
      refine lv_iadd hx hb dL_law_143 ?_
      refine va_sld hx hb hX hbl hbA hw.2.2.1 i1 dL_law_144 ?_
      refine lv_aload_n hx hb dL_law_145 rfl (lv_at hl 0 rfl) ?_
      refine lv_iload_n hx hb dL_law_146 rfl (lv_at hl 3 rfl) ?_
      refine lv_iconst (v := 2) hx hb dL_law_147 (by decide) ?_
      refine lv_iadd hx hb dL_law_148 ?_
      refine va_sld hx hb hX hbl hbA hw.2.2.1 i2 dL_law_149 ?_
      obtain ⟨r, fx1, z1, fm1, z2, ex, em, hI1⟩ := H_share _ z _ _ _ _ _ _ hj5 (fun a e h => hw.lt h) hI
      refine hcallV2 (o := some (.int r)) hx hb hml hown hts hk [.int (xs (x3 + 1).toNatClampNeg), .int (xs (x3 + 2).toNatClampNeg)] [] (kX3_share l g ex) gL_law_X3_share rfl (n := 2) rfl (by decide +kernel) ⟨Nat.le_of_ble_eq_true rfl, Nat.le_of_ble_eq_true rfl⟩ (ci := 2) rfl hox hw hw2 hdis hl.1 rfl (Nat.le_of_ble_eq_true rfl) dL_law_150 ⟨by show _ ≤ 600000; omega, by show _ ≤ 7302250; omega⟩ (fun H locs hw hw2 hdis => ?_)
      refine W.eq (g2 := F0 m 153 ls [.int r]) rfl ?_
      refine lv_aload_n hx hb dL_law_153 rfl (lv_at hl 2 rfl) ?_
      refine lv_aload_n hx hb dL_law_154 rfl (lv_at hl 0 rfl) ?_
      refine lv_iload_n hx hb dL_law_155 rfl (lv_at hl 3 rfl) ?_
      refine lv_iconst (v := 1) hx hb dL_law_156 (by decide) ?_
      refine lv_iadd hx hb dL_law_157 ?_
      refine va_sld hx hb hX hbl hbA hw.2.2.1 i1 dL_law_158 ?_
      refine lv_aload_n hx hb dL_law_159 rfl (lv_at hl 0 rfl) ?_
      refine lv_iload_n hx hb dL_law_160 rfl (lv_at hl 3 rfl) ?_
      refine lv_iconst (v := 2) hx hb dL_law_161 (by decide) ?_
      refine lv_iadd hx hb dL_law_162 ?_
      refine va_sld hx hb hX hbl hbA hw.2.2.1 i2 dL_law_163 ?_
      refine hcallV2 (o := some (.int r)) hx hb hml hown hts hk [.int (xs (x3 + 1).toNatClampNeg), .int (xs (x3 + 2).toNatClampNeg)] [.int r] (kX4_share l g em) gL_law_X4_share rfl (n := 2) rfl (by decide +kernel) ⟨Nat.le_of_ble_eq_true rfl, Nat.le_of_ble_eq_true rfl⟩ (ci := 3) rfl hom hw2 hw (fun a ha => Classical.byContradiction fun h9 => ha (hdis a h9)) hl.1 rfl (Nat.le_of_ble_eq_true rfl) dL_law_164 ⟨by show _ ≤ 600000; omega, by show _ ≤ 7302250; omega⟩ (fun H locs hw2 hw hdis => ?_)
      refine W.eq (g2 := F0 m 167 ls [.int r, .int r]) rfl ?_
      refine lv_icmp_eq (tgt := 503) hx hb dL_law_167 (by decide) (fun _ => ?_) (fun h9 => absurd rfl h9)
      refine W.widen (k := 100 + 2 * (j + 1)) (n := 1000 + 42 * (j + 1)) (by omega) (by omega) ?_
      exact tail fx1 fm1 _ _ _ hw hw2 (fun a ha => Classical.byContradiction fun h9 => ha (hdis a h9)) hI1
    · refine hv_arm (off := 139) (tgt := 172) hx hb c3 dL_law_33 (by decide) (by decide) (by decide) (by decide) ?_
      refine lv_aload_n hx hb dL_law_172 rfl (lv_at hl 1 rfl) ?_
      refine lv_aload_n hx hb dL_law_173 rfl (lv_at hl 0 rfl) ?_
      refine lv_iload_n hx hb dL_law_174 rfl (lv_at hl 3 rfl) ?_
      refine lv_iconst (v := 1) hx hb dL_law_175 (by decide) ?_
      refine lv_iadd hx hb dL_law_176 ?_
      refine va_sld hx hb hX hbl hbA hw.2.2.1 i1 dL_law_177 ?_
      refine lv_aload_n hx hb dL_law_178 rfl (lv_at hl 0 rfl) ?_
      refine lv_iload_n hx hb dL_law_179 rfl (lv_at hl 3 rfl) ?_
      refine lv_iconst (v := 2) hx hb dL_law_180 (by decide) ?_
      refine lv_iadd hx hb dL_law_181 ?_
      refine va_sld hx hb hX hbl hbA hw.2.2.1 i2 dL_law_182 ?_
      refine lv_aload_n hx hb dL_law_183 rfl (lv_at hl 0 rfl) ?_
      refine lv_iload_n hx hb dL_law_184 rfl (lv_at hl 3 rfl) ?_
      refine lv_iconst (v := 3) hx hb dL_law_185 (by decide) ?_
      refine lv_iadd hx hb dL_law_186 ?_
      refine va_sld hx hb hX hbl hbA hw.2.2.1 i3 dL_law_187 ?_
      obtain ⟨r, fx1, z1, fm1, z2, ex, em, hI1⟩ := H_set _ z _ _ _ _ _ _ _ hj5 (fun a e h => hw.lt h) hI
      refine hcallV2 (o := some (.int r)) hx hb hml hown hts hk [.int (xs (x3 + 1).toNatClampNeg), .int (xs (x3 + 2).toNatClampNeg), .int (xs (x3 + 3).toNatClampNeg)] [] (kX3_set l g ex) gL_law_X3_set rfl (n := 3) rfl (by decide +kernel) ⟨Nat.le_of_ble_eq_true rfl, Nat.le_of_ble_eq_true rfl⟩ (ci := 2) rfl hox hw hw2 hdis hl.1 rfl (Nat.le_of_ble_eq_true rfl) dL_law_188 ⟨by show _ ≤ 600000; omega, by show _ ≤ 7302250; omega⟩ (fun H locs hw hw2 hdis => ?_)
      refine W.eq (g2 := F0 m 191 ls [.int r]) rfl ?_
      refine lv_aload_n hx hb dL_law_191 rfl (lv_at hl 2 rfl) ?_
      refine lv_aload_n hx hb dL_law_192 rfl (lv_at hl 0 rfl) ?_
      refine lv_iload_n hx hb dL_law_193 rfl (lv_at hl 3 rfl) ?_
      refine lv_iconst (v := 1) hx hb dL_law_194 (by decide) ?_
      refine lv_iadd hx hb dL_law_195 ?_
      refine va_sld hx hb hX hbl hbA hw.2.2.1 i1 dL_law_196 ?_
      refine lv_aload_n hx hb dL_law_197 rfl (lv_at hl 0 rfl) ?_
      refine lv_iload_n hx hb dL_law_198 rfl (lv_at hl 3 rfl) ?_
      refine lv_iconst (v := 2) hx hb dL_law_199 (by decide) ?_
      refine lv_iadd hx hb dL_law_200 ?_
      refine va_sld hx hb hX hbl hbA hw.2.2.1 i2 dL_law_201 ?_
      refine lv_aload_n hx hb dL_law_202 rfl (lv_at hl 0 rfl) ?_
      refine lv_iload_n hx hb dL_law_203 rfl (lv_at hl 3 rfl) ?_
      refine lv_iconst (v := 3) hx hb dL_law_204 (by decide) ?_
      refine lv_iadd hx hb dL_law_205 ?_
      refine va_sld hx hb hX hbl hbA hw.2.2.1 i3 dL_law_206 ?_
      refine hcallV2 (o := some (.int r)) hx hb hml hown hts hk [.int (xs (x3 + 1).toNatClampNeg), .int (xs (x3 + 2).toNatClampNeg), .int (xs (x3 + 3).toNatClampNeg)] [.int r] (kX4_set l g em) gL_law_X4_set rfl (n := 3) rfl (by decide +kernel) ⟨Nat.le_of_ble_eq_true rfl, Nat.le_of_ble_eq_true rfl⟩ (ci := 3) rfl hom hw2 hw (fun a ha => Classical.byContradiction fun h9 => ha (hdis a h9)) hl.1 rfl (Nat.le_of_ble_eq_true rfl) dL_law_207 ⟨by show _ ≤ 600000; omega, by show _ ≤ 7302250; omega⟩ (fun H locs hw2 hw hdis => ?_)
      refine W.eq (g2 := F0 m 210 ls [.int r, .int r]) rfl ?_
      refine lv_icmp_eq (tgt := 503) hx hb dL_law_210 (by decide) (fun _ => ?_) (fun h9 => absurd rfl h9)
      refine W.widen (k := 100 + 2 * (j + 1)) (n := 1000 + 42 * (j + 1)) (by omega) (by omega) ?_
      exact tail fx1 fm1 _ _ _ hw hw2 (fun a ha => Classical.byContradiction fun h9 => ha (hdis a h9)) hI1
    · refine hv_arm (off := 182) (tgt := 215) hx hb c3 dL_law_33 (by decide) (by decide) (by decide) (by decide) ?_
      refine lv_aload_n hx hb dL_law_215 rfl (lv_at hl 1 rfl) ?_
      refine lv_aload_n hx hb dL_law_216 rfl (lv_at hl 0 rfl) ?_
      refine lv_iload_n hx hb dL_law_217 rfl (lv_at hl 3 rfl) ?_
      refine lv_iconst (v := 1) hx hb dL_law_218 (by decide) ?_
      refine lv_iadd hx hb dL_law_219 ?_
      refine va_sld hx hb hX hbl hbA hw.2.2.1 i1 dL_law_220 ?_
      refine lv_aload_n hx hb dL_law_221 rfl (lv_at hl 0 rfl) ?_
      refine lv_iload_n hx hb dL_law_222 rfl (lv_at hl 3 rfl) ?_
      refine lv_iconst (v := 2) hx hb dL_law_223 (by decide) ?_
      refine lv_iadd hx hb dL_law_224 ?_
      refine va_sld hx hb hX hbl hbA hw.2.2.1 i2 dL_law_225 ?_
      refine lv_aload_n hx hb dL_law_226 rfl (lv_at hl 0 rfl) ?_
      refine lv_iload_n hx hb dL_law_227 rfl (lv_at hl 3 rfl) ?_
      refine lv_iconst (v := 3) hx hb dL_law_228 (by decide) ?_
      refine lv_iadd hx hb dL_law_229 ?_
      refine va_sld hx hb hX hbl hbA hw.2.2.1 i3 dL_law_230 ?_
      obtain ⟨r, fx1, z1, fm1, z2, ex, em, hI1⟩ := H_put _ z _ _ _ _ _ _ _ hj5 (fun a e h => hw.lt h) hI
      refine hcallV2 (o := some (.int r)) hx hb hml hown hts hk [.int (xs (x3 + 1).toNatClampNeg), .int (xs (x3 + 2).toNatClampNeg), .int (xs (x3 + 3).toNatClampNeg)] [] (kX3_put l g ex) gL_law_X3_put rfl (n := 3) rfl (by decide +kernel) ⟨Nat.le_of_ble_eq_true rfl, Nat.le_of_ble_eq_true rfl⟩ (ci := 2) rfl hox hw hw2 hdis hl.1 rfl (Nat.le_of_ble_eq_true rfl) dL_law_231 ⟨by show _ ≤ 600000; omega, by show _ ≤ 7302250; omega⟩ (fun H locs hw hw2 hdis => ?_)
      refine W.eq (g2 := F0 m 234 ls [.int r]) rfl ?_
      refine lv_aload_n hx hb dL_law_234 rfl (lv_at hl 2 rfl) ?_
      refine lv_aload_n hx hb dL_law_235 rfl (lv_at hl 0 rfl) ?_
      refine lv_iload_n hx hb dL_law_236 rfl (lv_at hl 3 rfl) ?_
      refine lv_iconst (v := 1) hx hb dL_law_237 (by decide) ?_
      refine lv_iadd hx hb dL_law_238 ?_
      refine va_sld hx hb hX hbl hbA hw.2.2.1 i1 dL_law_239 ?_
      refine lv_aload_n hx hb dL_law_240 rfl (lv_at hl 0 rfl) ?_
      refine lv_iload_n hx hb dL_law_241 rfl (lv_at hl 3 rfl) ?_
      refine lv_iconst (v := 2) hx hb dL_law_242 (by decide) ?_
      refine lv_iadd hx hb dL_law_243 ?_
      refine va_sld hx hb hX hbl hbA hw.2.2.1 i2 dL_law_244 ?_
      refine lv_aload_n hx hb dL_law_245 rfl (lv_at hl 0 rfl) ?_
      refine lv_iload_n hx hb dL_law_246 rfl (lv_at hl 3 rfl) ?_
      refine lv_iconst (v := 3) hx hb dL_law_247 (by decide) ?_
      refine lv_iadd hx hb dL_law_248 ?_
      refine va_sld hx hb hX hbl hbA hw.2.2.1 i3 dL_law_249 ?_
      refine hcallV2 (o := some (.int r)) hx hb hml hown hts hk [.int (xs (x3 + 1).toNatClampNeg), .int (xs (x3 + 2).toNatClampNeg), .int (xs (x3 + 3).toNatClampNeg)] [.int r] (kX4_put l g em) gL_law_X4_put rfl (n := 3) rfl (by decide +kernel) ⟨Nat.le_of_ble_eq_true rfl, Nat.le_of_ble_eq_true rfl⟩ (ci := 3) rfl hom hw2 hw (fun a ha => Classical.byContradiction fun h9 => ha (hdis a h9)) hl.1 rfl (Nat.le_of_ble_eq_true rfl) dL_law_250 ⟨by show _ ≤ 600000; omega, by show _ ≤ 7302250; omega⟩ (fun H locs hw2 hw hdis => ?_)
      refine W.eq (g2 := F0 m 253 ls [.int r, .int r]) rfl ?_
      refine lv_icmp_eq (tgt := 503) hx hb dL_law_253 (by decide) (fun _ => ?_) (fun h9 => absurd rfl h9)
      refine W.widen (k := 100 + 2 * (j + 1)) (n := 1000 + 42 * (j + 1)) (by omega) (by omega) ?_
      exact tail fx1 fm1 _ _ _ hw hw2 (fun a ha => Classical.byContradiction fun h9 => ha (hdis a h9)) hI1
    · refine hv_arm (off := 225) (tgt := 258) hx hb c3 dL_law_33 (by decide) (by decide) (by decide) (by decide) ?_
      refine lv_aload_n hx hb dL_law_258 rfl (lv_at hl 1 rfl) ?_
      refine lv_aload_n hx hb dL_law_259 rfl (lv_at hl 0 rfl) ?_
      refine lv_iload_n hx hb dL_law_260 rfl (lv_at hl 3 rfl) ?_
      refine lv_iconst (v := 1) hx hb dL_law_261 (by decide) ?_
      refine lv_iadd hx hb dL_law_262 ?_
      refine va_sld hx hb hX hbl hbA hw.2.2.1 i1 dL_law_263 ?_
      refine lv_aload_n hx hb dL_law_264 rfl (lv_at hl 0 rfl) ?_
      refine lv_iload_n hx hb dL_law_265 rfl (lv_at hl 3 rfl) ?_
      refine lv_iconst (v := 2) hx hb dL_law_266 (by decide) ?_
      refine lv_iadd hx hb dL_law_267 ?_
      refine va_sld hx hb hX hbl hbA hw.2.2.1 i2 dL_law_268 ?_
      refine lv_aload_n hx hb dL_law_269 rfl (lv_at hl 0 rfl) ?_
      refine lv_iload_n hx hb dL_law_270 rfl (lv_at hl 3 rfl) ?_
      refine lv_iconst (v := 3) hx hb dL_law_271 (by decide) ?_
      refine lv_iadd hx hb dL_law_272 ?_
      refine va_sld hx hb hX hbl hbA hw.2.2.1 i3 dL_law_273 ?_
      refine lv_aload_n hx hb dL_law_274 rfl (lv_at hl 0 rfl) ?_
      refine lv_iload_n hx hb dL_law_275 rfl (lv_at hl 3 rfl) ?_
      refine lv_iconst (v := 4) hx hb dL_law_276 (by decide) ?_
      refine lv_iadd hx hb dL_law_277 ?_
      refine va_sld hx hb hX hbl hbA hw.2.2.1 i4 dL_law_278 ?_
      refine lv_aload_n hx hb dL_law_279 rfl (lv_at hl 0 rfl) ?_
      refine lv_iload_n hx hb dL_law_280 rfl (lv_at hl 3 rfl) ?_
      refine lv_iconst (v := 5) hx hb dL_law_281 (by decide) ?_
      refine lv_iadd hx hb dL_law_282 ?_
      refine va_sld hx hb hX hbl hbA hw.2.2.1 i5 dL_law_283 ?_
      obtain ⟨r, fx1, z1, fm1, z2, ex, em, hI1⟩ := H_sweep _ z _ _ _ _ _ _ _ _ _ hj5 (fun a e h => hw.lt h) hI
      refine hcallV2 (o := some (.int r)) hx hb hml hown hts hk [.int (xs (x3 + 1).toNatClampNeg), .int (xs (x3 + 2).toNatClampNeg), .int (xs (x3 + 3).toNatClampNeg), .int (xs (x3 + 4).toNatClampNeg), .int (xs (x3 + 5).toNatClampNeg)] [] (kX3_sweep l g ex) gL_law_X3_sweep rfl (n := 5) rfl (by decide +kernel) ⟨Nat.le_of_ble_eq_true rfl, Nat.le_of_ble_eq_true rfl⟩ (ci := 2) rfl hox hw hw2 hdis hl.1 rfl (Nat.le_of_ble_eq_true rfl) dL_law_284 ⟨by show _ ≤ 600000; omega, by show _ ≤ 7302250; omega⟩ (fun H locs hw hw2 hdis => ?_)
      refine W.eq (g2 := F0 m 287 ls [.int r]) rfl ?_
      refine lv_aload_n hx hb dL_law_287 rfl (lv_at hl 2 rfl) ?_
      refine lv_aload_n hx hb dL_law_288 rfl (lv_at hl 0 rfl) ?_
      refine lv_iload_n hx hb dL_law_289 rfl (lv_at hl 3 rfl) ?_
      refine lv_iconst (v := 1) hx hb dL_law_290 (by decide) ?_
      refine lv_iadd hx hb dL_law_291 ?_
      refine va_sld hx hb hX hbl hbA hw.2.2.1 i1 dL_law_292 ?_
      refine lv_aload_n hx hb dL_law_293 rfl (lv_at hl 0 rfl) ?_
      refine lv_iload_n hx hb dL_law_294 rfl (lv_at hl 3 rfl) ?_
      refine lv_iconst (v := 2) hx hb dL_law_295 (by decide) ?_
      refine lv_iadd hx hb dL_law_296 ?_
      refine va_sld hx hb hX hbl hbA hw.2.2.1 i2 dL_law_297 ?_
      refine lv_aload_n hx hb dL_law_298 rfl (lv_at hl 0 rfl) ?_
      refine lv_iload_n hx hb dL_law_299 rfl (lv_at hl 3 rfl) ?_
      refine lv_iconst (v := 3) hx hb dL_law_300 (by decide) ?_
      refine lv_iadd hx hb dL_law_301 ?_
      refine va_sld hx hb hX hbl hbA hw.2.2.1 i3 dL_law_302 ?_
      refine lv_aload_n hx hb dL_law_303 rfl (lv_at hl 0 rfl) ?_
      refine lv_iload_n hx hb dL_law_304 rfl (lv_at hl 3 rfl) ?_
      refine lv_iconst (v := 4) hx hb dL_law_305 (by decide) ?_
      refine lv_iadd hx hb dL_law_306 ?_
      refine va_sld hx hb hX hbl hbA hw.2.2.1 i4 dL_law_307 ?_
      refine lv_aload_n hx hb dL_law_308 rfl (lv_at hl 0 rfl) ?_
      refine lv_iload_n hx hb dL_law_309 rfl (lv_at hl 3 rfl) ?_
      refine lv_iconst (v := 5) hx hb dL_law_310 (by decide) ?_
      refine lv_iadd hx hb dL_law_311 ?_
      refine va_sld hx hb hX hbl hbA hw.2.2.1 i5 dL_law_312 ?_
      refine hcallV2 (o := some (.int r)) hx hb hml hown hts hk [.int (xs (x3 + 1).toNatClampNeg), .int (xs (x3 + 2).toNatClampNeg), .int (xs (x3 + 3).toNatClampNeg), .int (xs (x3 + 4).toNatClampNeg), .int (xs (x3 + 5).toNatClampNeg)] [.int r] (kX4_sweep l g em) gL_law_X4_sweep rfl (n := 5) rfl (by decide +kernel) ⟨Nat.le_of_ble_eq_true rfl, Nat.le_of_ble_eq_true rfl⟩ (ci := 3) rfl hom hw2 hw (fun a ha => Classical.byContradiction fun h9 => ha (hdis a h9)) hl.1 rfl (Nat.le_of_ble_eq_true rfl) dL_law_313 ⟨by show _ ≤ 600000; omega, by show _ ≤ 7302250; omega⟩ (fun H locs hw2 hw hdis => ?_)
      refine W.eq (g2 := F0 m 316 ls [.int r, .int r]) rfl ?_
      refine lv_icmp_eq (tgt := 503) hx hb dL_law_316 (by decide) (fun _ => ?_) (fun h9 => absurd rfl h9)
      refine W.widen (k := 100 + 2 * (j + 1)) (n := 1000 + 42 * (j + 1)) (by omega) (by omega) ?_
      exact tail fx1 fm1 _ _ _ hw hw2 (fun a ha => Classical.byContradiction fun h9 => ha (hdis a h9)) hI1
    · refine hv_arm (off := 288) (tgt := 321) hx hb c3 dL_law_33 (by decide) (by decide) (by decide) (by decide) ?_
      refine lv_aload_n hx hb dL_law_321 rfl (lv_at hl 1 rfl) ?_
      obtain ⟨r, fx1, z1, fm1, z2, ex, em, hI1⟩ := H_back _ z _ _ _ _  hj5 (fun a e h => hw.lt h) hI
      refine hcallV2 (o := some (.int r)) hx hb hml hown hts hk [] [] (kX3_back l g ex) gL_law_X3_back rfl (n := 0) rfl (by decide +kernel) ⟨Nat.le_of_ble_eq_true rfl, Nat.le_of_ble_eq_true rfl⟩ (ci := 2) rfl hox hw hw2 hdis hl.1 rfl (Nat.le_of_ble_eq_true rfl) dL_law_322 ⟨by show _ ≤ 600000; omega, by show _ ≤ 7302250; omega⟩ (fun H locs hw hw2 hdis => ?_)
      refine W.eq (g2 := F0 m 325 ls [.int r]) rfl ?_
      refine lv_aload_n hx hb dL_law_325 rfl (lv_at hl 2 rfl) ?_
      refine hcallV2 (o := some (.int r)) hx hb hml hown hts hk [] [.int r] (kX4_back l g em) gL_law_X4_back rfl (n := 0) rfl (by decide +kernel) ⟨Nat.le_of_ble_eq_true rfl, Nat.le_of_ble_eq_true rfl⟩ (ci := 3) rfl hom hw2 hw (fun a ha => Classical.byContradiction fun h9 => ha (hdis a h9)) hl.1 rfl (Nat.le_of_ble_eq_true rfl) dL_law_326 ⟨by show _ ≤ 600000; omega, by show _ ≤ 7302250; omega⟩ (fun H locs hw2 hw hdis => ?_)
      refine W.eq (g2 := F0 m 329 ls [.int r, .int r]) rfl ?_
      refine lv_icmp_eq (tgt := 503) hx hb dL_law_329 (by decide) (fun _ => ?_) (fun h9 => absurd rfl h9)
      refine W.widen (k := 100 + 2 * (j + 1)) (n := 1000 + 42 * (j + 1)) (by omega) (by omega) ?_
      exact tail fx1 fm1 _ _ _ hw hw2 (fun a ha => Classical.byContradiction fun h9 => ha (hdis a h9)) hI1
    · refine hv_arm (off := 301) (tgt := 334) hx hb c3 dL_law_33 (by decide) (by decide) (by decide) (by decide) ?_
      refine lv_aload_n hx hb dL_law_334 rfl (lv_at hl 1 rfl) ?_
      refine lv_aload_n hx hb dL_law_335 rfl (lv_at hl 0 rfl) ?_
      refine lv_iload_n hx hb dL_law_336 rfl (lv_at hl 3 rfl) ?_
      refine lv_iconst (v := 1) hx hb dL_law_337 (by decide) ?_
      refine lv_iadd hx hb dL_law_338 ?_
      refine va_sld hx hb hX hbl hbA hw.2.2.1 i1 dL_law_339 ?_
      obtain ⟨r, fx1, z1, fm1, z2, ex, em, hI1⟩ := H_light _ z _ _ _ _ _ hj5 (fun a e h => hw.lt h) hI
      refine hcallV2 (o := some (.int r)) hx hb hml hown hts hk [.int (xs (x3 + 1).toNatClampNeg)] [] (kX3_light l g ex) gL_law_X3_light rfl (n := 1) rfl (by decide +kernel) ⟨Nat.le_of_ble_eq_true rfl, Nat.le_of_ble_eq_true rfl⟩ (ci := 2) rfl hox hw hw2 hdis hl.1 rfl (Nat.le_of_ble_eq_true rfl) dL_law_340 ⟨by show _ ≤ 600000; omega, by show _ ≤ 7302250; omega⟩ (fun H locs hw hw2 hdis => ?_)
      refine W.eq (g2 := F0 m 343 ls [.int r]) rfl ?_
      refine lv_aload_n hx hb dL_law_343 rfl (lv_at hl 2 rfl) ?_
      refine lv_aload_n hx hb dL_law_344 rfl (lv_at hl 0 rfl) ?_
      refine lv_iload_n hx hb dL_law_345 rfl (lv_at hl 3 rfl) ?_
      refine lv_iconst (v := 1) hx hb dL_law_346 (by decide) ?_
      refine lv_iadd hx hb dL_law_347 ?_
      refine va_sld hx hb hX hbl hbA hw.2.2.1 i1 dL_law_348 ?_
      refine hcallV2 (o := some (.int r)) hx hb hml hown hts hk [.int (xs (x3 + 1).toNatClampNeg)] [.int r] (kX4_light l g em) gL_law_X4_light rfl (n := 1) rfl (by decide +kernel) ⟨Nat.le_of_ble_eq_true rfl, Nat.le_of_ble_eq_true rfl⟩ (ci := 3) rfl hom hw2 hw (fun a ha => Classical.byContradiction fun h9 => ha (hdis a h9)) hl.1 rfl (Nat.le_of_ble_eq_true rfl) dL_law_349 ⟨by show _ ≤ 600000; omega, by show _ ≤ 7302250; omega⟩ (fun H locs hw2 hw hdis => ?_)
      refine W.eq (g2 := F0 m 352 ls [.int r, .int r]) rfl ?_
      refine lv_icmp_eq (tgt := 503) hx hb dL_law_352 (by decide) (fun _ => ?_) (fun h9 => absurd rfl h9)
      refine W.widen (k := 100 + 2 * (j + 1)) (n := 1000 + 42 * (j + 1)) (by omega) (by omega) ?_
      exact tail fx1 fm1 _ _ _ hw hw2 (fun a ha => Classical.byContradiction fun h9 => ha (hdis a h9)) hI1
    · refine hv_arm (off := 324) (tgt := 357) hx hb c3 dL_law_33 (by decide) (by decide) (by decide) (by decide) ?_
      refine lv_aload_n hx hb dL_law_357 rfl (lv_at hl 1 rfl) ?_
      refine lv_aload_n hx hb dL_law_358 rfl (lv_at hl 0 rfl) ?_
      refine lv_iload_n hx hb dL_law_359 rfl (lv_at hl 3 rfl) ?_
      refine lv_iconst (v := 1) hx hb dL_law_360 (by decide) ?_
      refine lv_iadd hx hb dL_law_361 ?_
      refine va_sld hx hb hX hbl hbA hw.2.2.1 i1 dL_law_362 ?_
      refine lv_aload_n hx hb dL_law_363 rfl (lv_at hl 0 rfl) ?_
      refine lv_iload_n hx hb dL_law_364 rfl (lv_at hl 3 rfl) ?_
      refine lv_iconst (v := 2) hx hb dL_law_365 (by decide) ?_
      refine lv_iadd hx hb dL_law_366 ?_
      refine va_sld hx hb hX hbl hbA hw.2.2.1 i2 dL_law_367 ?_
      obtain ⟨r, ex, em⟩ := H_member _ _ _ _ _ _ _ hI
      refine hcallV2 (o := some (.long r)) hx hb hml hown hts hk [.int (xs (x3 + 1).toNatClampNeg), .int (xs (x3 + 2).toNatClampNeg)] [] (kX3_member l g ex) gL_law_X3_member rfl (n := 2) rfl (by decide +kernel) ⟨Nat.le_of_ble_eq_true rfl, Nat.le_of_ble_eq_true rfl⟩ (ci := 2) rfl hox hw hw2 hdis hl.1 rfl (Nat.le_of_ble_eq_true rfl) dL_law_368 ⟨by show _ ≤ 600000; omega, by show _ ≤ 7302250; omega⟩ (fun H locs hw hw2 hdis => ?_)
      refine W.eq (g2 := F0 m 371 ls [.long r]) rfl ?_
      refine lv_aload_n hx hb dL_law_371 rfl (lv_at hl 2 rfl) ?_
      refine lv_aload_n hx hb dL_law_372 rfl (lv_at hl 0 rfl) ?_
      refine lv_iload_n hx hb dL_law_373 rfl (lv_at hl 3 rfl) ?_
      refine lv_iconst (v := 1) hx hb dL_law_374 (by decide) ?_
      refine lv_iadd hx hb dL_law_375 ?_
      refine va_sld hx hb hX hbl hbA hw.2.2.1 i1 dL_law_376 ?_
      refine lv_aload_n hx hb dL_law_377 rfl (lv_at hl 0 rfl) ?_
      refine lv_iload_n hx hb dL_law_378 rfl (lv_at hl 3 rfl) ?_
      refine lv_iconst (v := 2) hx hb dL_law_379 (by decide) ?_
      refine lv_iadd hx hb dL_law_380 ?_
      refine va_sld hx hb hX hbl hbA hw.2.2.1 i2 dL_law_381 ?_
      refine hcallV2 (o := some (.long r)) hx hb hml hown hts hk [.int (xs (x3 + 1).toNatClampNeg), .int (xs (x3 + 2).toNatClampNeg)] [.long r] (kX4_member l g em) gL_law_X4_member rfl (n := 2) rfl (by decide +kernel) ⟨Nat.le_of_ble_eq_true rfl, Nat.le_of_ble_eq_true rfl⟩ (ci := 3) rfl hom hw2 hw (fun a ha => Classical.byContradiction fun h9 => ha (hdis a h9)) hl.1 rfl (Nat.le_of_ble_eq_true rfl) dL_law_382 ⟨by show _ ≤ 600000; omega, by show _ ≤ 7302250; omega⟩ (fun H locs hw2 hw hdis => ?_)
      refine W.eq (g2 := F0 m 385 ls [.long r, .long r]) rfl ?_
      refine W.lcmp hx hb dL_law_385 ?_
      refine lv_if_eq (tgt := 503) hx hb dL_law_386 (by decide) (fun _ => ?_) (fun h9 => absurd (hlc r) h9)
      refine W.widen (k := 100 + 2 * (j + 1)) (n := 1000 + 42 * (j + 1)) (by omega) (by omega) ?_
      exact tail fx fm _ _ _ hw hw2 (fun a ha => Classical.byContradiction fun h9 => ha (hdis a h9)) (H_mono _ _ _ _ _ hI)
    · refine hv_arm (off := 358) (tgt := 391) hx hb c3 dL_law_33 (by decide) (by decide) (by decide) (by decide) ?_
      refine lv_aload_n hx hb dL_law_391 rfl (lv_at hl 1 rfl) ?_
      refine lv_aload_n hx hb dL_law_392 rfl (lv_at hl 0 rfl) ?_
      refine lv_iload_n hx hb dL_law_393 rfl (lv_at hl 3 rfl) ?_
      refine lv_iconst (v := 1) hx hb dL_law_394 (by decide) ?_
      refine lv_iadd hx hb dL_law_395 ?_
      refine va_sld hx hb hX hbl hbA hw.2.2.1 i1 dL_law_396 ?_
      refine lv_aload_n hx hb dL_law_397 rfl (lv_at hl 0 rfl) ?_
      refine lv_iload_n hx hb dL_law_398 rfl (lv_at hl 3 rfl) ?_
      refine lv_iconst (v := 2) hx hb dL_law_399 (by decide) ?_
      refine lv_iadd hx hb dL_law_400 ?_
      refine va_sld hx hb hX hbl hbA hw.2.2.1 i2 dL_law_401 ?_
      obtain ⟨r, ex, em⟩ := H_thing _ _ _ _ _ _ _ hI
      refine hcallV2 (o := some (.int r)) hx hb hml hown hts hk [.int (xs (x3 + 1).toNatClampNeg), .int (xs (x3 + 2).toNatClampNeg)] [] (kX3_thing l g ex) gL_law_X3_thing rfl (n := 2) rfl (by decide +kernel) ⟨Nat.le_of_ble_eq_true rfl, Nat.le_of_ble_eq_true rfl⟩ (ci := 2) rfl hox hw hw2 hdis hl.1 rfl (Nat.le_of_ble_eq_true rfl) dL_law_402 ⟨by show _ ≤ 600000; omega, by show _ ≤ 7302250; omega⟩ (fun H locs hw hw2 hdis => ?_)
      refine W.eq (g2 := F0 m 405 ls [.int r]) rfl ?_
      refine lv_aload_n hx hb dL_law_405 rfl (lv_at hl 2 rfl) ?_
      refine lv_aload_n hx hb dL_law_406 rfl (lv_at hl 0 rfl) ?_
      refine lv_iload_n hx hb dL_law_407 rfl (lv_at hl 3 rfl) ?_
      refine lv_iconst (v := 1) hx hb dL_law_408 (by decide) ?_
      refine lv_iadd hx hb dL_law_409 ?_
      refine va_sld hx hb hX hbl hbA hw.2.2.1 i1 dL_law_410 ?_
      refine lv_aload_n hx hb dL_law_411 rfl (lv_at hl 0 rfl) ?_
      refine lv_iload_n hx hb dL_law_412 rfl (lv_at hl 3 rfl) ?_
      refine lv_iconst (v := 2) hx hb dL_law_413 (by decide) ?_
      refine lv_iadd hx hb dL_law_414 ?_
      refine va_sld hx hb hX hbl hbA hw.2.2.1 i2 dL_law_415 ?_
      refine hcallV2 (o := some (.int r)) hx hb hml hown hts hk [.int (xs (x3 + 1).toNatClampNeg), .int (xs (x3 + 2).toNatClampNeg)] [.int r] (kX4_thing l g em) gL_law_X4_thing rfl (n := 2) rfl (by decide +kernel) ⟨Nat.le_of_ble_eq_true rfl, Nat.le_of_ble_eq_true rfl⟩ (ci := 3) rfl hom hw2 hw (fun a ha => Classical.byContradiction fun h9 => ha (hdis a h9)) hl.1 rfl (Nat.le_of_ble_eq_true rfl) dL_law_416 ⟨by show _ ≤ 600000; omega, by show _ ≤ 7302250; omega⟩ (fun H locs hw2 hw hdis => ?_)
      refine W.eq (g2 := F0 m 419 ls [.int r, .int r]) rfl ?_
      refine lv_icmp_eq (tgt := 503) hx hb dL_law_419 (by decide) (fun _ => ?_) (fun h9 => absurd rfl h9)
      refine W.widen (k := 100 + 2 * (j + 1)) (n := 1000 + 42 * (j + 1)) (by omega) (by omega) ?_
      exact tail fx fm _ _ _ hw hw2 (fun a ha => Classical.byContradiction fun h9 => ha (hdis a h9)) (H_mono _ _ _ _ _ hI)
    · refine hv_arm (off := 391) (tgt := 424) hx hb c3 dL_law_33 (by decide) (by decide) (by decide) (by decide) ?_
      refine lv_aload_n hx hb dL_law_424 rfl (lv_at hl 1 rfl) ?_
      refine lv_aload_n hx hb dL_law_425 rfl (lv_at hl 0 rfl) ?_
      refine lv_iload_n hx hb dL_law_426 rfl (lv_at hl 3 rfl) ?_
      refine lv_iconst (v := 1) hx hb dL_law_427 (by decide) ?_
      refine lv_iadd hx hb dL_law_428 ?_
      refine va_sld hx hb hX hbl hbA hw.2.2.1 i1 dL_law_429 ?_
      obtain ⟨r, ex, em⟩ := H_worth _ _ _ _ _ _ hI
      refine hcallV2 (o := some (.int r)) hx hb hml hown hts hk [.int (xs (x3 + 1).toNatClampNeg)] [] (kX3_worth l g ex) gL_law_X3_worth rfl (n := 1) rfl (by decide +kernel) ⟨Nat.le_of_ble_eq_true rfl, Nat.le_of_ble_eq_true rfl⟩ (ci := 2) rfl hox hw hw2 hdis hl.1 rfl (Nat.le_of_ble_eq_true rfl) dL_law_430 ⟨by show _ ≤ 600000; omega, by show _ ≤ 7302250; omega⟩ (fun H locs hw hw2 hdis => ?_)
      refine W.eq (g2 := F0 m 433 ls [.int r]) rfl ?_
      refine lv_aload_n hx hb dL_law_433 rfl (lv_at hl 2 rfl) ?_
      refine lv_aload_n hx hb dL_law_434 rfl (lv_at hl 0 rfl) ?_
      refine lv_iload_n hx hb dL_law_435 rfl (lv_at hl 3 rfl) ?_
      refine lv_iconst (v := 1) hx hb dL_law_436 (by decide) ?_
      refine lv_iadd hx hb dL_law_437 ?_
      refine va_sld hx hb hX hbl hbA hw.2.2.1 i1 dL_law_438 ?_
      refine hcallV2 (o := some (.int r)) hx hb hml hown hts hk [.int (xs (x3 + 1).toNatClampNeg)] [.int r] (kX4_worth l g em) gL_law_X4_worth rfl (n := 1) rfl (by decide +kernel) ⟨Nat.le_of_ble_eq_true rfl, Nat.le_of_ble_eq_true rfl⟩ (ci := 3) rfl hom hw2 hw (fun a ha => Classical.byContradiction fun h9 => ha (hdis a h9)) hl.1 rfl (Nat.le_of_ble_eq_true rfl) dL_law_439 ⟨by show _ ≤ 600000; omega, by show _ ≤ 7302250; omega⟩ (fun H locs hw2 hw hdis => ?_)
      refine W.eq (g2 := F0 m 442 ls [.int r, .int r]) rfl ?_
      refine lv_icmp_eq (tgt := 503) hx hb dL_law_442 (by decide) (fun _ => ?_) (fun h9 => absurd rfl h9)
      refine W.widen (k := 100 + 2 * (j + 1)) (n := 1000 + 42 * (j + 1)) (by omega) (by omega) ?_
      exact tail fx fm _ _ _ hw hw2 (fun a ha => Classical.byContradiction fun h9 => ha (hdis a h9)) (H_mono _ _ _ _ _ hI)
    · refine hv_arm (off := 414) (tgt := 447) hx hb c3 dL_law_33 (by decide) (by decide) (by decide) (by decide) ?_
      refine lv_aload_n hx hb dL_law_447 rfl (lv_at hl 1 rfl) ?_
      refine lv_aload_n hx hb dL_law_448 rfl (lv_at hl 0 rfl) ?_
      refine lv_iload_n hx hb dL_law_449 rfl (lv_at hl 3 rfl) ?_
      refine lv_iconst (v := 1) hx hb dL_law_450 (by decide) ?_
      refine lv_iadd hx hb dL_law_451 ?_
      refine va_sld hx hb hX hbl hbA hw.2.2.1 i1 dL_law_452 ?_
      refine lv_aload_n hx hb dL_law_453 rfl (lv_at hl 0 rfl) ?_
      refine lv_iload_n hx hb dL_law_454 rfl (lv_at hl 3 rfl) ?_
      refine lv_iconst (v := 2) hx hb dL_law_455 (by decide) ?_
      refine lv_iadd hx hb dL_law_456 ?_
      refine va_sld hx hb hX hbl hbA hw.2.2.1 i2 dL_law_457 ?_
      obtain ⟨r, ex, em⟩ := H_mirror _ _ _ _ _ _ _ hI
      refine hcallV2 (o := some (.int r)) hx hb hml hown hts hk [.int (xs (x3 + 1).toNatClampNeg), .int (xs (x3 + 2).toNatClampNeg)] [] (kX3_mirror l g ex) gL_law_X3_mirror rfl (n := 2) rfl (by decide +kernel) ⟨Nat.le_of_ble_eq_true rfl, Nat.le_of_ble_eq_true rfl⟩ (ci := 2) rfl hox hw hw2 hdis hl.1 rfl (Nat.le_of_ble_eq_true rfl) dL_law_458 ⟨by show _ ≤ 600000; omega, by show _ ≤ 7302250; omega⟩ (fun H locs hw hw2 hdis => ?_)
      refine W.eq (g2 := F0 m 461 ls [.int r]) rfl ?_
      refine lv_aload_n hx hb dL_law_461 rfl (lv_at hl 2 rfl) ?_
      refine lv_aload_n hx hb dL_law_462 rfl (lv_at hl 0 rfl) ?_
      refine lv_iload_n hx hb dL_law_463 rfl (lv_at hl 3 rfl) ?_
      refine lv_iconst (v := 1) hx hb dL_law_464 (by decide) ?_
      refine lv_iadd hx hb dL_law_465 ?_
      refine va_sld hx hb hX hbl hbA hw.2.2.1 i1 dL_law_466 ?_
      refine lv_aload_n hx hb dL_law_467 rfl (lv_at hl 0 rfl) ?_
      refine lv_iload_n hx hb dL_law_468 rfl (lv_at hl 3 rfl) ?_
      refine lv_iconst (v := 2) hx hb dL_law_469 (by decide) ?_
      refine lv_iadd hx hb dL_law_470 ?_
      refine va_sld hx hb hX hbl hbA hw.2.2.1 i2 dL_law_471 ?_
      refine hcallV2 (o := some (.int r)) hx hb hml hown hts hk [.int (xs (x3 + 1).toNatClampNeg), .int (xs (x3 + 2).toNatClampNeg)] [.int r] (kX4_mirror l g em) gL_law_X4_mirror rfl (n := 2) rfl (by decide +kernel) ⟨Nat.le_of_ble_eq_true rfl, Nat.le_of_ble_eq_true rfl⟩ (ci := 3) rfl hom hw2 hw (fun a ha => Classical.byContradiction fun h9 => ha (hdis a h9)) hl.1 rfl (Nat.le_of_ble_eq_true rfl) dL_law_472 ⟨by show _ ≤ 600000; omega, by show _ ≤ 7302250; omega⟩ (fun H locs hw2 hw hdis => ?_)
      refine W.eq (g2 := F0 m 475 ls [.int r, .int r]) rfl ?_
      refine lv_icmp_eq (tgt := 503) hx hb dL_law_475 (by decide) (fun _ => ?_) (fun h9 => absurd rfl h9)
      refine W.widen (k := 100 + 2 * (j + 1)) (n := 1000 + 42 * (j + 1)) (by omega) (by omega) ?_
      exact tail fx fm _ _ _ hw hw2 (fun a ha => Classical.byContradiction fun h9 => ha (hdis a h9)) (H_mono _ _ _ _ _ hI)
    · refine hv_arm (off := 447) (tgt := 480) hx hb c3 dL_law_33 (by decide) (by decide) (by decide) (by decide) ?_
      refine lv_aload_n hx hb dL_law_480 rfl (lv_at hl 1 rfl) ?_
      refine lv_aload_n hx hb dL_law_481 rfl (lv_at hl 0 rfl) ?_
      refine lv_iload_n hx hb dL_law_482 rfl (lv_at hl 3 rfl) ?_
      refine lv_iconst (v := 1) hx hb dL_law_483 (by decide) ?_
      refine lv_iadd hx hb dL_law_484 ?_
      refine va_sld hx hb hX hbl hbA hw.2.2.1 i1 dL_law_485 ?_
      obtain ⟨r, ex, em⟩ := H_count _ _ _ _ _ _ hI
      refine hcallV2 (o := some (.int r)) hx hb hml hown hts hk [.int (xs (x3 + 1).toNatClampNeg)] [] (kX3_count l g ex) gL_law_X3_count rfl (n := 1) rfl (by decide +kernel) ⟨Nat.le_of_ble_eq_true rfl, Nat.le_of_ble_eq_true rfl⟩ (ci := 2) rfl hox hw hw2 hdis hl.1 rfl (Nat.le_of_ble_eq_true rfl) dL_law_486 ⟨by show _ ≤ 600000; omega, by show _ ≤ 7302250; omega⟩ (fun H locs hw hw2 hdis => ?_)
      refine W.eq (g2 := F0 m 489 ls [.int r]) rfl ?_
      refine lv_aload_n hx hb dL_law_489 rfl (lv_at hl 2 rfl) ?_
      refine lv_aload_n hx hb dL_law_490 rfl (lv_at hl 0 rfl) ?_
      refine lv_iload_n hx hb dL_law_491 rfl (lv_at hl 3 rfl) ?_
      refine lv_iconst (v := 1) hx hb dL_law_492 (by decide) ?_
      refine lv_iadd hx hb dL_law_493 ?_
      refine va_sld hx hb hX hbl hbA hw.2.2.1 i1 dL_law_494 ?_
      refine hcallV2 (o := some (.int r)) hx hb hml hown hts hk [.int (xs (x3 + 1).toNatClampNeg)] [.int r] (kX4_count l g em) gL_law_X4_count rfl (n := 1) rfl (by decide +kernel) ⟨Nat.le_of_ble_eq_true rfl, Nat.le_of_ble_eq_true rfl⟩ (ci := 3) rfl hom hw2 hw (fun a ha => Classical.byContradiction fun h9 => ha (hdis a h9)) hl.1 rfl (Nat.le_of_ble_eq_true rfl) dL_law_495 ⟨by show _ ≤ 600000; omega, by show _ ≤ 7302250; omega⟩ (fun H locs hw2 hw hdis => ?_)
      refine W.eq (g2 := F0 m 498 ls [.int r, .int r]) rfl ?_
      refine lv_icmp_eq (tgt := 503) hx hb dL_law_498 (by decide) (fun _ => ?_) (fun h9 => absurd rfl h9)
      refine W.widen (k := 100 + 2 * (j + 1)) (n := 1000 + 42 * (j + 1)) (by omega) (by omega) ?_
      exact tail fx fm _ _ _ hw hw2 (fun a ha => Classical.byContradiction fun h9 => ha (hdis a h9)) (H_mono _ _ _ _ _ hI)
end
section
set_option maxRecDepth 100000 in
theorem hWord (w : Cond) (h : w ∈ [Cond.castable RX0 RX0, .castable RX2 RX2, .castable RX0 RX1, .castable RX2 RX1, .methodLinkNest RX2 39 yX3_isRound RX3, .arrayOver (.object RX1), .arrayClass .int, .arrayClass .long, .instantiable RX0 2, .instantiable RX2 2, .instantiable RX3 11, .instantiable RX4 9]) : w ∈ lw_tbl := by
  revert w
  decide +kernel
set_option maxRecDepth 100000 in
set_option maxHeartbeats 4000000 in
/-- what the tables say, at the law's entry -/
theorem hK_start {p : Program} {s : State} {m : MethodId} {meth : Method} {c : Code} {b L : Nat} {xs : Nat → Int32} (C0 : lw_At p s m meth c b L xs) : ∃ g : hGb, hK g s := by
  obtain ⟨hx, hb, hr, hml, hown, hts, hX, hbl, hlocks, hgv⟩ := C0
  obtain ⟨c0, iS0, hKn0⟩ := u_known (C := RX0) (T := TX0) (N := 2) (n := 2) hts inX0 (hts _ (hWord (.instantiable RX0 2) (by simp)))
  obtain ⟨c1, iS1, hKn1⟩ := u_known (C := RX2) (T := TX2) (N := 2) (n := 2) hts inX2 (hts _ (hWord (.instantiable RX2 2) (by simp)))
  obtain ⟨c2, iS2, hKn2⟩ := u_known (C := RX3) (T := TX3) (N := 11) (n := 11) hts inX3 (hts _ (hWord (.instantiable RX3 11) (by simp)))
  obtain ⟨c3, iS3, hKn3⟩ := u_known (C := RX4) (T := TX4) (N := 9) (n := 9) hts inX4 (hts _ (hWord (.instantiable RX4 9) (by simp)))
  obtain ⟨cI, kI, cpI, fI, gI, hI⟩ := Cond.arrayClass_spec (hts _ (hWord (.arrayClass .int) (by simp)))
  obtain ⟨cJ, kJ, cpJ, fJ, gJ, hJ⟩ := Cond.arrayClass_spec (hts _ (hWord (.arrayClass .long) (by simp)))
  have hAO := hts _ (hWord (.arrayOver (.object RX1)) (by simp))
  obtain ⟨cpQ, cQ, kQ, f1, f2, f3, f4, f5⟩ := Cond.arrayOver_spec hAO
  refine ⟨(fun k => match k with | 0 => c0 | 1 => c1 | 2 => c2 | _ => c3, fun k => match k with | 0 => iS0 | 1 => iS1 | 2 => iS2 | _ => iS3, cI, cJ, cQ), ⟨?_, ?_⟩, va_Nw.of rfl (hts _ (hWord (.methodLinkNest RX2 39 yX3_isRound RX3) (by simp))), va_Nw.of rfl (hts _ (hWord (.castable RX0 RX0) (by simp))), va_Nw.of rfl (hts _ (hWord (.castable RX2 RX2) (by simp))), va_Nw.of rfl (hts _ (hWord (.castable RX0 RX1) (by simp))), va_Nw.of rfl (hts _ (hWord (.castable RX2 RX1) (by simp))), va_Nc.of (flat_of_before _ hgv _ (by decide +kernel)), va_Nc.of (flat_of_before _ hgv _ (by decide +kernel)), va_AO.of hAO⟩
  · intro k q hq
    match k, hq with
    | 0, hq => cases hq; exact hKn0
    | 1, hq => cases hq; exact hKn1
    | 2, hq => cases hq; exact hKn2
    | 3, hq => cases hq; exact hKn3
    | k + 4, hq => simp [vwCl] at hq
  · intro k q hq
    match k, hq with
    | 0, hq => cases hq; exact ⟨fun n z => ⟨fun k h => (by cases h), kI, gI, cpI, hI⟩, fI⟩
    | 1, hq => cases hq; exact ⟨fun n z => ⟨fun k h => (by cases h), kJ, gJ, cpJ, hJ⟩, fJ⟩
    | 2, hq => cases hq; exact ⟨fun n z => ⟨fun k h => (by cases h), kQ, f3, cpQ, f4⟩, kQ, cpQ, f3, f4, f1, f5⟩
    | k + 3, hq => simp [hty] at hq
theorem iL_law_X3 : ∀ w ∈ wsX30, w ∈ wsL_law := inlX3
theorem iL_law_X4 : ∀ w ∈ wsX40, w ∈ wsL_law := inlX4
set_option maxRecDepth 100000 in
set_option maxHeartbeats 4000000 in
theorem whole_of {I : hInv} (HA : hAll I) {p : Program} {e : Env} {s : State} {m : MethodId} {below : List Frame} {meth : Method} {c : Code} (l : Launch) {b L : Nat} {xs : Nat → Int32} (hL : L ≤ 3072) (C0 : lw_At p s m meth c b L xs) : W p l e room_1 s m #[Value.ref b] below meth c s.heap [] 0 0 (lw_Z below #[Value.ref b] s) (entryFrame m ([Value.ref b] : List Value).toArray 4) := by
  obtain ⟨g, hk⟩ := hK_start C0
  obtain ⟨hx, hb, hr, hml, hown, hts, hX, hbl, hlocks, hgv⟩ := id C0
  have hts := fun w h => hts w (wsL_law_in w h)
  have hown : s.vm.findClass RL = some m.cls := hown
  have hl := lv_entry ([.ref b]) (n := 4) (Nat.le_of_ble_eq_true rfl)
  rw [lg_entry_eq]
  generalize (lg_sl ([.ref b]) ++ List.replicate (4 - (lg_sl ([.ref b])).length) Slot.unset).toArray = ls at hl ⊢
  have hl : lv_has ls 4 [(0, .ref b)] := hl
  obtain ⟨z, hz⟩ : ∃ z, s.heap.size = z := ⟨_, rfl⟩
  have hw : hW g (fun q : Nat => s.heap.size ≤ q) s hN z s.heap [] := ⟨hz, fun a e h => (by cases h), va_S.rf, fun q h => h⟩
  obtain ⟨fx1, z1, ex, hm⟩ := HA.1 z
  obtain ⟨fm1, y1, em, hI⟩ := hm z1
  refine hr_new (C := RX3) (T := TX3) (N := 11) (ci := 2) (fs := hB0) hx hb hts iL_law_X3 tyX3 tyX3_ok hown (hts (.classLink RL 7 RX3) (by decide +kernel)) (hts (.instantiable RX3 11) (by decide +kernel)) (hts (.initialized RX3) (by decide +kernel)) hk hw rfl (fun j hj => by rcases (show j = 0 ∨ j = 1 ∨ j = 2 ∨ j = 3 ∨ j = 4 ∨ j = 5 ∨ j = 6 ∨ j = 7 ∨ j = 8 ∨ j = 9 ∨ j = 10 by omega) with rfl | rfl | rfl | rfl | rfl | rfl | rfl | rfl | rfl | rfl | rfl <;> rfl) (Nat.le_of_ble_eq_true rfl) (Nat.le_of_ble_eq_true rfl) dL_law_0 (fun H hw => ?_)
  refine lv_dup hx hb dL_law_3 rfl ?_
  refine hcallI (o := none) hx hb hml hown hts hk [] [.ref z] (kX3_init l g ex) gL_law_X3_init rfl (hts (.initialized RX3) (by decide +kernel)) (hts (.methodLink RL 9 yX3_init) (by decide +kernel)) (hts (.instanceMethod yX3_init) (by decide +kernel)) (n := 0) rfl (by decide +kernel) rfl ⟨Nat.le_of_ble_eq_true rfl, Nat.le_of_ble_eq_true rfl⟩ hw hl.1 rfl (Nat.le_of_ble_eq_true rfl) dL_law_4 ⟨Nat.le_of_ble_eq_true rfl, Nat.le_of_ble_eq_true rfl⟩ (fun H locs hw => ?_)
  refine W.eq (g2 := F0 m 7 ls [.ref z]) rfl ?_
  refine lv_astore_n (lv' := [(1, .ref z), (0, .ref b)]) hx hb dL_law_7 rfl hl (by decide) rfl (fun ls hl => ?_)
  refine hr_new (C := RX4) (T := TX4) (N := 9) (ci := 3) (fs := hM0) hx hb hts iL_law_X4 tyX4 tyX4_ok hown (hts (.classLink RL 10 RX4) (by decide +kernel)) (hts (.instantiable RX4 9) (by decide +kernel)) (hts (.initialized RX4) (by decide +kernel)) hk hw rfl (fun j hj => by rcases (show j = 0 ∨ j = 1 ∨ j = 2 ∨ j = 3 ∨ j = 4 ∨ j = 5 ∨ j = 6 ∨ j = 7 ∨ j = 8 by omega) with rfl | rfl | rfl | rfl | rfl | rfl | rfl | rfl | rfl <;> rfl) (Nat.le_of_ble_eq_true rfl) (Nat.le_of_ble_eq_true rfl) dL_law_8 (fun H hw3 => ?_)
  have hnz : ∀ a e, fx1 a = some e → a ≠ z1 := fun a e h => Nat.ne_of_lt (hw.lt h)
  have hwx : hW g (fun q : Nat => s.heap.size ≤ q) s fx1 (z1 + 1) H locs := hw3.part (fun a e h => by rw [hup_n (hnz a e h)]; exact h)
  have hwm : hW g (fun q : Nat => s.heap.size ≤ q) s (hup hN z1 (oC 3 hM0)) (z1 + 1) H locs := hw3.part (fun a e h => by
    by_cases ha : a = z1
    · subst ha; rw [hup_s] at h ⊢; exact h
    · rw [hup_n ha] at h; cases h)
  refine lv_dup hx hb dL_law_11 rfl ?_
  refine hcallI2 (o := none) hx hb hml hown hts hk [] [.ref z1] (kX4_init l g em) gL_law_X4_init rfl (hts (.initialized RX4) (by decide +kernel)) (hts (.methodLink RL 12 yX4_init) (by decide +kernel)) (hts (.instanceMethod yX4_init) (by decide +kernel)) (n := 0) rfl (by decide +kernel) rfl ⟨Nat.le_of_ble_eq_true rfl, Nat.le_of_ble_eq_true rfl⟩ hwm hwx (fun a ha => by
    by_cases hz1 : a = z1
    · cases hf : fx1 a with
      | none => rfl
      | some e => exact absurd hz1 (hnz a e hf)
    · exact absurd (hup_n hz1) ha) hl.1 rfl (Nat.le_of_ble_eq_true rfl) dL_law_12 ⟨Nat.le_of_ble_eq_true rfl, Nat.le_of_ble_eq_true rfl⟩ (fun H locs hwm hwx hdis => ?_)
  refine W.eq (g2 := F0 m 15 ls [.ref z1]) rfl ?_
  refine lv_astore_n (lv' := [(2, .ref z1), (1, .ref z), (0, .ref b)]) hx hb dL_law_15 rfl hl (by decide) rfl (fun ls hl => ?_)
  refine lv_iconst (v := 0) hx hb dL_law_16 (by decide) ?_
  refine lv_istore_n (lv' := [(3, .int 0), (2, .ref z1), (1, .ref z), (0, .ref b)]) hx hb dL_law_17 rfl hl (by decide) rfl (fun ls hl => ?_)
  refine W.widen (k := 100 + 2 * 0) (n := 1000 + 42 * 0) (Nat.le_of_ble_eq_true rfl) (Nat.le_of_ble_eq_true rfl) ?_
  exact law_loop hL C0 hk HA (L + 1) 0 0 (by omega) (by omega) nI_0.symm z fx1 z1 fm1 _ H locs hwx hwm (fun a ha => Classical.byContradiction fun h9 => ha (hdis a h9)) hI ls (lv_sub hl [3, 2, 1, 0] rfl)
end
section
/-! reads and writes of known cells -/
theorem g_V {f : hPl} {a ci k : Nat} {fs : List Value} {v : Value} (h : f a = some (oC ci fs)) (hk : fs[k]? = some v) : hgV f a ci k = some v := by simp [hgV, h, hk]
theorem g_Q {f : hPl} {a ci k : Nat} {fs : List Value} {x : Option Nat} (h : f a = some (oC ci fs)) (hk : fs[k]? = some (va_rf x)) : hgQ f a ci k = some x := by
  unfold hgQ
  rw [g_V h hk]
  cases x <;> rfl
theorem g_I {f : hPl} {a ci k : Nat} {fs : List Value} {x : Int32} (h : f a = some (oC ci fs)) (hk : fs[k]? = some (.int x)) : hgI f a ci k = some x := by
  unfold hgI
  rw [g_V h hk]
  rfl
theorem g_ob {f : hPl} {a ci : Nat} {fs : List Value} (h : f a = some (oC ci fs)) : hob f a ci = some () := by simp [hob, h]
theorem g_kd {f : hPl} {a ci : Nat} {fs : List Value} (h : f a = some (oC ci fs)) : hkd f a = some ci := by simp [hkd, h]
theorem g_put {f : hPl} {a ci k : Nat} {fs : List Value} {v : Value} (h : f a = some (oC ci fs)) (hk : k < fs.length) : hput f a ci k v = some (hup f a (oC ci (fs.set k v))) := by simp [hput, h, hk]
theorem g_in {k n : Nat} (hk : k < n) (hn : n < 2 ^ 31) : hinB (nI k) n = true := hinB_iff.mpr (vp_in_nI hk hn)
theorem g_rI {f : hPl} {a n : Nat} {r : Nat → Int32} (h : f a = some (aI n r)) : hrI f a = some (n, r) := by simp [hrI, h]
theorem g_rJ {f : hPl} {a n : Nat} {r : Nat → Int64} (h : f a = some (aJ n r)) : hrJ f a = some (n, r) := by simp [hrJ, h]
theorem g_rQ {f : hPl} {a n : Nat} {r : Nat → Option Nat} (h : f a = some (aQ n r)) : hrQ f a = some (n, r) := by simp [hrQ, h]
theorem g_lI {f : hPl} {a n k : Nat} {r : Nat → Int32} (h : f a = some (aI n r)) (hk : k < n) (hn : n < 2 ^ 31) : hlI f a (nI k) = some (r k) := by
  simp [hlI, g_rI h, g_in hk hn, nI_clamp (show k < 2 ^ 31 by omega)]
theorem g_lJ {f : hPl} {a n k : Nat} {r : Nat → Int64} (h : f a = some (aJ n r)) (hk : k < n) (hn : n < 2 ^ 31) : hlJ f a (nI k) = some (r k) := by
  simp [hlJ, g_rJ h, g_in hk hn, nI_clamp (show k < 2 ^ 31 by omega)]
theorem g_lQ {f : hPl} {a n k : Nat} {r : Nat → Option Nat} (h : f a = some (aQ n r)) (hk : k < n) (hn : n < 2 ^ 31) : hlQ f a (nI k) = some (r k) := by
  simp [hlQ, g_rQ h, g_in hk hn, nI_clamp (show k < 2 ^ 31 by omega)]
theorem g_sI {f : hPl} {a n k : Nat} {r : Nat → Int32} {v : Int32} (h : f a = some (aI n r)) (hk : k < n) (hn : n < 2 ^ 31) : hsI f a (nI k) v = some (hup f a (aI n (upd r k v))) := by
  simp [hsI, g_rI h, g_in hk hn, nI_clamp (show k < 2 ^ 31 by omega)]
theorem g_sJ {f : hPl} {a n k : Nat} {r : Nat → Int64} {v : Int64} (h : f a = some (aJ n r)) (hk : k < n) (hn : n < 2 ^ 31) : hsJ f a (nI k) v = some (hup f a (aJ n (vp_updL r k v))) := by
  simp [hsJ, g_rJ h, g_in hk hn, nI_clamp (show k < 2 ^ 31 by omega)]
theorem g_sQ {f : hPl} {a n k : Nat} {r : Nat → Option Nat} {v : Option Nat} (h : f a = some (aQ n r)) (hk : k < n) (hn : n < 2 ^ 31) : hsQ f a (nI k) v = some (hup f a (aQ n (va_up r k v))) := by
  simp [hsQ, g_rQ h, g_in hk hn, nI_clamp (show k < 2 ^ 31 by omega)]
theorem g_ln {f : hPl} {a n : Nat} {r : Nat → Int64} (h : f a = some (aJ n r)) : hln f a = some (nI n) := by simp [hln, h]; rfl
theorem g_cp {f : hPl} {a0 a n0 n1 sp dp n : Nat} {r0 r1 : Nat → Int64} (h0 : f a0 = some (aJ n0 r0)) (h1 : f a = some (aJ n1 r1)) (hs : sp + n ≤ n0) (hd : dp + n ≤ n1) (hn0 : n0 < 2 ^ 31) (hn1 : n1 < 2 ^ 31) : hcp f a0 (nI sp) a (nI dp) (nI n) = some (hup f a (aJ n1 (va_cpy r0 r1 sp dp n))) := by
  have e1 := nI_clamp (show sp < 2 ^ 31 by omega)
  have e2 := nI_clamp (show dp < 2 ^ 31 by omega)
  have e3 := nI_clamp (show n < 2 ^ 31 by omega)
  simp [hcp, g_rJ h0, g_rJ h1, e1, e2, e3, nI_pos (show sp < 2 ^ 31 by omega), nI_pos (show dp < 2 ^ 31 by omega), nI_pos (show n < 2 ^ 31 by omega), hs, hd]
/-- cells that differ lie apart -/
theorem hne {f : hPl} {a b : Nat} {x y : hCe} (h1 : f a = some x) (h2 : f b = some y) (hxy : x ≠ y) : a ≠ b := fun h => by
  subst h
  rw [h1] at h2
  exact hxy (Option.some.inj h2)
/-! numbers -/
/-- a place, or none -/
theorem hplace (p : Int32) : (p < 0 ∨ 8 ≤ p) ∨ ∃ P : Nat, P < 8 ∧ p = nI P := by
  rcases pk_ix p (n := 8) (by omega) with h | h | ⟨j, h1, h2⟩
  · exact Or.inl (Or.inl h)
  · exact Or.inl (Or.inr h)
  · exact Or.inr ⟨j, h1, h2⟩
theorem nlt {a : Nat} (h : a < 2 ^ 31) : ¬ nI a < 0 := nI_pos h
theorem hsh_aux {k : Nat} (h : k < 2 ^ 31) : ¬ nI k = (-1) := by
  intro h1
  have h2 := congrArg Int32.toInt h1
  rw [nI_toInt h] at h2
  have h3 : (-1 : Int32).toInt = -1 := by decide
  omega
def hsh (o : Option Nat) : Int32 := match o with
  | none => -1
  | some k => nI k
theorem nI_40 (k i : Nat) : (40 : Int32) * nI k + nI i = nI (40 * k + i) := by
  rw [show (40 : Int32) = nI 40 from by decide, pk_mul, nI_add]
theorem fx_place_no {f : hPl} {p : Int32} (h : p < 0 ∨ 8 ≤ p) : fX3_isPlace f p = some 0 ∧ fX4_isPlace f p = some 0 := by
  unfold fX3_isPlace fX4_isPlace
  by_cases h1 : p < 0
  · simp [h1]
  · rcases h with h | h
    · exact absurd h h1
    · simp [h1, h]
theorem fx_place_yes {f : hPl} {P : Nat} (h : P < 8) : fX3_isPlace f (nI P) = some 1 ∧ fX4_isPlace f (nI P) = some 1 := by
  unfold fX3_isPlace fX4_isPlace
  have h1 : ¬ nI P < 0 := nI_pos (by omega)
  have h2 : ¬ (8 : Int32) ≤ nI P := by
    rw [show (8 : Int32) = nI 8 from by decide, nI_leI (by omega) (by omega)]
    omega
  simp [h1, h2]
/-- a stone's sort -/
def h10 (v : Int64) : Int32 := (v - v / (10 : Int64) * (10 : Int64)).toInt32
/-! THE REFERENCE'S CELLS -/
def MX (qm : Nat) (fm : hPl) (B : Nat → Nat) (la sa ma ia cn : Nat → Int32) (mem car kp : Nat → Int64) (ke : Int32) : Prop :=
  fm qm = some (oC 3 [.ref (B 0), .ref (B 1), .ref (B 2), .ref (B 3), .ref (B 4), .ref (B 5), .ref (B 6), .int ke, .ref (B 8)]) ∧
  fm (B 0) = some (aI 8 la) ∧ fm (B 1) = some (aI 10 sa) ∧ fm (B 2) = some (aI 10 ma) ∧ fm (B 3) = some (aI 10 ia) ∧ fm (B 4) = some (aJ 400 mem) ∧ fm (B 5) = some (aJ 40 car) ∧ fm (B 6) = some (aJ 40 kp) ∧ fm (B 8) = some (aI 7 cn) ∧
  (∀ i j, i < 9 → j < 9 → B i = B j → i = j) ∧ ∀ i, i < 9 → B i ≠ qm
section MXs
variable {qm : Nat} {fm : hPl} {B : Nat → Nat} {la sa ma ia cn : Nat → Int32} {mem car kp : Nat → Int64} {ke : Int32}
theorem MX.ob (h : MX qm fm B la sa ma ia cn mem car kp ke) : hob fm qm 3 = some () := g_ob h.1
theorem MX.q0 (h : MX qm fm B la sa ma ia cn mem car kp ke) : hgQ fm qm 3 0 = some (some (B 0)) := g_Q h.1 rfl
theorem MX.q1 (h : MX qm fm B la sa ma ia cn mem car kp ke) : hgQ fm qm 3 1 = some (some (B 1)) := g_Q h.1 rfl
theorem MX.q2 (h : MX qm fm B la sa ma ia cn mem car kp ke) : hgQ fm qm 3 2 = some (some (B 2)) := g_Q h.1 rfl
theorem MX.q3 (h : MX qm fm B la sa ma ia cn mem car kp ke) : hgQ fm qm 3 3 = some (some (B 3)) := g_Q h.1 rfl
theorem MX.q4 (h : MX qm fm B la sa ma ia cn mem car kp ke) : hgQ fm qm 3 4 = some (some (B 4)) := g_Q h.1 rfl
theorem MX.q5 (h : MX qm fm B la sa ma ia cn mem car kp ke) : hgQ fm qm 3 5 = some (some (B 5)) := g_Q h.1 rfl
theorem MX.q6 (h : MX qm fm B la sa ma ia cn mem car kp ke) : hgQ fm qm 3 6 = some (some (B 6)) := g_Q h.1 rfl
theorem MX.q8 (h : MX qm fm B la sa ma ia cn mem car kp ke) : hgQ fm qm 3 8 = some (some (B 8)) := g_Q h.1 rfl
theorem MX.gk (h : MX qm fm B la sa ma ia cn mem car kp ke) : hgI fm qm 3 7 = some ke := g_I h.1 rfl
theorem MX.l0 (h : MX qm fm B la sa ma ia cn mem car kp ke) {k : Nat} (hk : k < 8) : hlI fm (B 0) (nI k) = some (la k) := g_lI h.2.1 hk (by omega)
theorem MX.l1 (h : MX qm fm B la sa ma ia cn mem car kp ke) {k : Nat} (hk : k < 10) : hlI fm (B 1) (nI k) = some (sa k) := g_lI h.2.2.1 hk (by omega)
theorem MX.l2 (h : MX qm fm B la sa ma ia cn mem car kp ke) {k : Nat} (hk : k < 10) : hlI fm (B 2) (nI k) = some (ma k) := g_lI h.2.2.2.1 hk (by omega)
theorem MX.l3 (h : MX qm fm B la sa ma ia cn mem car kp ke) {k : Nat} (hk : k < 10) : hlI fm (B 3) (nI k) = some (ia k) := g_lI h.2.2.2.2.1 hk (by omega)
theorem MX.l4 (h : MX qm fm B la sa ma ia cn mem car kp ke) {k : Nat} (hk : k < 400) : hlJ fm (B 4) (nI k) = some (mem k) := g_lJ h.2.2.2.2.2.1 hk (by omega)
theorem MX.l5 (h : MX qm fm B la sa ma ia cn mem car kp ke) {k : Nat} (hk : k < 40) : hlJ fm (B 5) (nI k) = some (car k) := g_lJ h.2.2.2.2.2.2.1 hk (by omega)
theorem MX.l6 (h : MX qm fm B la sa ma ia cn mem car kp ke) {k : Nat} (hk : k < 40) : hlJ fm (B 6) (nI k) = some (kp k) := g_lJ h.2.2.2.2.2.2.2.1 hk (by omega)
theorem MX.l8 (h : MX qm fm B la sa ma ia cn mem car kp ke) {k : Nat} (hk : k < 7) : hlI fm (B 8) (nI k) = some (cn k) := g_lI h.2.2.2.2.2.2.2.2.1 hk (by omega)
theorem MX.nb (h : MX qm fm B la sa ma ia cn mem car kp ke) {i j : Nat} (hi : i < 9) (hj : j < 9) (hij : i ≠ j) : B i ≠ B j := fun e => hij (h.2.2.2.2.2.2.2.2.2.1 i j hi hj e)
theorem MX.nq (h : MX qm fm B la sa ma ia cn mem car kp ke) {i : Nat} (hi : i < 9) : qm ≠ B i := fun e => h.2.2.2.2.2.2.2.2.2.2 i hi e.symm
theorem MX.s0 (h : MX qm fm B la sa ma ia cn mem car kp ke) {k : Nat} (hk : k < 8) (v : Int32) : ∃ f', hsI fm (B 0) (nI k) v = some f' ∧ MX qm f' B (upd la k v) sa ma ia cn mem car kp ke := by
  refine ⟨_, g_sI h.2.1 hk (by omega), ?_⟩
  have h9 := id h
  obtain ⟨a, a0, a1, a2, a3, a4, a5, a6, a8, hd, hq⟩ := h
  exact ⟨by rw [hup_n (h9.nq (by omega))]; exact a, hup_s, by rw [hup_n (h9.nb (by omega) (by omega) (by omega))]; exact a1, by rw [hup_n (h9.nb (by omega) (by omega) (by omega))]; exact a2, by rw [hup_n (h9.nb (by omega) (by omega) (by omega))]; exact a3, by rw [hup_n (h9.nb (by omega) (by omega) (by omega))]; exact a4, by rw [hup_n (h9.nb (by omega) (by omega) (by omega))]; exact a5, by rw [hup_n (h9.nb (by omega) (by omega) (by omega))]; exact a6, by rw [hup_n (h9.nb (by omega) (by omega) (by omega))]; exact a8, hd, hq⟩
theorem MX.s1 (h : MX qm fm B la sa ma ia cn mem car kp ke) {k : Nat} (hk : k < 10) (v : Int32) : ∃ f', hsI fm (B 1) (nI k) v = some f' ∧ MX qm f' B la (upd sa k v) ma ia cn mem car kp ke := by
  refine ⟨_, g_sI h.2.2.1 hk (by omega), ?_⟩
  have h9 := id h
  obtain ⟨a, a0, a1, a2, a3, a4, a5, a6, a8, hd, hq⟩ := h
  exact ⟨by rw [hup_n (h9.nq (by omega))]; exact a, by rw [hup_n (h9.nb (by omega) (by omega) (by omega))]; exact a0, hup_s, by rw [hup_n (h9.nb (by omega) (by omega) (by omega))]; exact a2, by rw [hup_n (h9.nb (by omega) (by omega) (by omega))]; exact a3, by rw [hup_n (h9.nb (by omega) (by omega) (by omega))]; exact a4, by rw [hup_n (h9.nb (by omega) (by omega) (by omega))]; exact a5, by rw [hup_n (h9.nb (by omega) (by omega) (by omega))]; exact a6, by rw [hup_n (h9.nb (by omega) (by omega) (by omega))]; exact a8, hd, hq⟩
theorem MX.s2 (h : MX qm fm B la sa ma ia cn mem car kp ke) {k : Nat} (hk : k < 10) (v : Int32) : ∃ f', hsI fm (B 2) (nI k) v = some f' ∧ MX qm f' B la sa (upd ma k v) ia cn mem car kp ke := by
  refine ⟨_, g_sI h.2.2.2.1 hk (by omega), ?_⟩
  have h9 := id h
  obtain ⟨a, a0, a1, a2, a3, a4, a5, a6, a8, hd, hq⟩ := h
  exact ⟨by rw [hup_n (h9.nq (by omega))]; exact a, by rw [hup_n (h9.nb (by omega) (by omega) (by omega))]; exact a0, by rw [hup_n (h9.nb (by omega) (by omega) (by omega))]; exact a1, hup_s, by rw [hup_n (h9.nb (by omega) (by omega) (by omega))]; exact a3, by rw [hup_n (h9.nb (by omega) (by omega) (by omega))]; exact a4, by rw [hup_n (h9.nb (by omega) (by omega) (by omega))]; exact a5, by rw [hup_n (h9.nb (by omega) (by omega) (by omega))]; exact a6, by rw [hup_n (h9.nb (by omega) (by omega) (by omega))]; exact a8, hd, hq⟩
theorem MX.s3 (h : MX qm fm B la sa ma ia cn mem car kp ke) {k : Nat} (hk : k < 10) (v : Int32) : ∃ f', hsI fm (B 3) (nI k) v = some f' ∧ MX qm f' B la sa ma (upd ia k v) cn mem car kp ke := by
  refine ⟨_, g_sI h.2.2.2.2.1 hk (by omega), ?_⟩
  have h9 := id h
  obtain ⟨a, a0, a1, a2, a3, a4, a5, a6, a8, hd, hq⟩ := h
  exact ⟨by rw [hup_n (h9.nq (by omega))]; exact a, by rw [hup_n (h9.nb (by omega) (by omega) (by omega))]; exact a0, by rw [hup_n (h9.nb (by omega) (by omega) (by omega))]; exact a1, by rw [hup_n (h9.nb (by omega) (by omega) (by omega))]; exact a2, hup_s, by rw [hup_n (h9.nb (by omega) (by omega) (by omega))]; exact a4, by rw [hup_n (h9.nb (by omega) (by omega) (by omega))]; exact a5, by rw [hup_n (h9.nb (by omega) (by omega) (by omega))]; exact a6, by rw [hup_n (h9.nb (by omega) (by omega) (by omega))]; exact a8, hd, hq⟩
theorem MX.s4 (h : MX qm fm B la sa ma ia cn mem car kp ke) {k : Nat} (hk : k < 400) (v : Int64) : ∃ f', hsJ fm (B 4) (nI k) v = some f' ∧ MX qm f' B la sa ma ia cn (vp_updL mem k v) car kp ke := by
  refine ⟨_, g_sJ h.2.2.2.2.2.1 hk (by omega), ?_⟩
  have h9 := id h
  obtain ⟨a, a0, a1, a2, a3, a4, a5, a6, a8, hd, hq⟩ := h
  exact ⟨by rw [hup_n (h9.nq (by omega))]; exact a, by rw [hup_n (h9.nb (by omega) (by omega) (by omega))]; exact a0, by rw [hup_n (h9.nb (by omega) (by omega) (by omega))]; exact a1, by rw [hup_n (h9.nb (by omega) (by omega) (by omega))]; exact a2, by rw [hup_n (h9.nb (by omega) (by omega) (by omega))]; exact a3, hup_s, by rw [hup_n (h9.nb (by omega) (by omega) (by omega))]; exact a5, by rw [hup_n (h9.nb (by omega) (by omega) (by omega))]; exact a6, by rw [hup_n (h9.nb (by omega) (by omega) (by omega))]; exact a8, hd, hq⟩
theorem MX.s5 (h : MX qm fm B la sa ma ia cn mem car kp ke) {k : Nat} (hk : k < 40) (v : Int64) : ∃ f', hsJ fm (B 5) (nI k) v = some f' ∧ MX qm f' B la sa ma ia cn mem (vp_updL car k v) kp ke := by
  refine ⟨_, g_sJ h.2.2.2.2.2.2.1 hk (by omega), ?_⟩
  have h9 := id h
  obtain ⟨a, a0, a1, a2, a3, a4, a5, a6, a8, hd, hq⟩ := h
  exact ⟨by rw [hup_n (h9.nq (by omega))]; exact a, by rw [hup_n (h9.nb (by omega) (by omega) (by omega))]; exact a0, by rw [hup_n (h9.nb (by omega) (by omega) (by omega))]; exact a1, by rw [hup_n (h9.nb (by omega) (by omega) (by omega))]; exact a2, by rw [hup_n (h9.nb (by omega) (by omega) (by omega))]; exact a3, by rw [hup_n (h9.nb (by omega) (by omega) (by omega))]; exact a4, hup_s, by rw [hup_n (h9.nb (by omega) (by omega) (by omega))]; exact a6, by rw [hup_n (h9.nb (by omega) (by omega) (by omega))]; exact a8, hd, hq⟩
theorem MX.s6 (h : MX qm fm B la sa ma ia cn mem car kp ke) {k : Nat} (hk : k < 40) (v : Int64) : ∃ f', hsJ fm (B 6) (nI k) v = some f' ∧ MX qm f' B la sa ma ia cn mem car (vp_updL kp k v) ke := by
  refine ⟨_, g_sJ h.2.2.2.2.2.2.2.1 hk (by omega), ?_⟩
  have h9 := id h
  obtain ⟨a, a0, a1, a2, a3, a4, a5, a6, a8, hd, hq⟩ := h
  exact ⟨by rw [hup_n (h9.nq (by omega))]; exact a, by rw [hup_n (h9.nb (by omega) (by omega) (by omega))]; exact a0, by rw [hup_n (h9.nb (by omega) (by omega) (by omega))]; exact a1, by rw [hup_n (h9.nb (by omega) (by omega) (by omega))]; exact a2, by rw [hup_n (h9.nb (by omega) (by omega) (by omega))]; exact a3, by rw [hup_n (h9.nb (by omega) (by omega) (by omega))]; exact a4, by rw [hup_n (h9.nb (by omega) (by omega) (by omega))]; exact a5, hup_s, by rw [hup_n (h9.nb (by omega) (by omega) (by omega))]; exact a8, hd, hq⟩
theorem MX.s8 (h : MX qm fm B la sa ma ia cn mem car kp ke) {k : Nat} (hk : k < 7) (v : Int32) : ∃ f', hsI fm (B 8) (nI k) v = some f' ∧ MX qm f' B la sa ma ia (upd cn k v) mem car kp ke := by
  refine ⟨_, g_sI h.2.2.2.2.2.2.2.2.1 hk (by omega), ?_⟩
  have h9 := id h
  obtain ⟨a, a0, a1, a2, a3, a4, a5, a6, a8, hd, hq⟩ := h
  exact ⟨by rw [hup_n (h9.nq (by omega))]; exact a, by rw [hup_n (h9.nb (by omega) (by omega) (by omega))]; exact a0, by rw [hup_n (h9.nb (by omega) (by omega) (by omega))]; exact a1, by rw [hup_n (h9.nb (by omega) (by omega) (by omega))]; exact a2, by rw [hup_n (h9.nb (by omega) (by omega) (by omega))]; exact a3, by rw [hup_n (h9.nb (by omega) (by omega) (by omega))]; exact a4, by rw [hup_n (h9.nb (by omega) (by omega) (by omega))]; exact a5, by rw [hup_n (h9.nb (by omega) (by omega) (by omega))]; exact a6, hup_s, hd, hq⟩
theorem MX.s7 (h : MX qm fm B la sa ma ia cn mem car kp ke) (v : Int32) : ∃ f', hput fm qm 3 7 (.int v) = some f' ∧ MX qm f' B la sa ma ia cn mem car kp v := by
  refine ⟨_, g_put h.1 (by simp), ?_⟩
  have h9 := id h
  obtain ⟨a, a0, a1, a2, a3, a4, a5, a6, a8, hd, hq⟩ := h
  exact ⟨hup_s, by rw [hup_n (hq 0 (by omega))]; exact a0, by rw [hup_n (hq 1 (by omega))]; exact a1, by rw [hup_n (hq 2 (by omega))]; exact a2, by rw [hup_n (hq 3 (by omega))]; exact a3, by rw [hup_n (hq 4 (by omega))]; exact a4, by rw [hup_n (hq 5 (by omega))]; exact a5, by rw [hup_n (hq 6 (by omega))]; exact a6, by rw [hup_n (hq 8 (by omega))]; exact a8, hd, hq⟩
theorem MX.sortOn0 (h : MX qm fm B la sa ma ia cn mem car kp ke) {P : Nat} (hP : P < 8) (hl : la P = -1) : fX4_sortOn fm qm (nI P) = some 0 := by
  simp [fX4_sortOn, h.q0, h.l0 hP, hl]
theorem MX.sortOn (h : MX qm fm B la sa ma ia cn mem car kp ke) {P k : Nat} (hP : P < 8) (hk : k < 10) (hl : la P = nI k) : fX4_sortOn fm qm (nI P) = some (sa k) := by
  simp [fX4_sortOn, h.q0, h.q1, h.l0 hP, hl, hsh_aux (show k < 2 ^ 31 by omega), h.l1 hk]
theorem MX.manyOn0 (h : MX qm fm B la sa ma ia cn mem car kp ke) {P : Nat} (hP : P < 8) (hl : la P = -1) : fX4_manyOn fm qm (nI P) = some 0 := by
  simp [fX4_manyOn, h.q0, h.l0 hP, hl]
theorem MX.manyOn (h : MX qm fm B la sa ma ia cn mem car kp ke) {P k : Nat} (hP : P < 8) (hk : k < 10) (hl : la P = nI k) : fX4_manyOn fm qm (nI P) = some (ma k) := by
  simp [fX4_manyOn, h.q0, h.q2, h.l0 hP, hl, hsh_aux (show k < 2 ^ 31 by omega), h.l2 hk]
theorem MX.kindAt (h : MX qm fm B la sa ma ia cn mem car kp ke) {P k i : Nat} (hP : P < 8) (hk : k < 10) (hl : la P = nI k) (hi : i < 40) : fX4_kindAt fm qm (nI P) (nI i) = some (h10 (mem (40 * k + i))) := by
  simp [fX4_kindAt, h10, h.q0, h.q4, h.l0 hP, hl, nI_40, h.l4 (show 40 * k + i < 400 by omega)]
end MXs
end
section
/-! THE CLASS'S CELLS -/
def CX (qx : Nat) (fx : hPl) (C : Nat → Nat) (pr : Nat → Option Nat) (kt : Option Nat) (kr hr : Nat → Int64) (cn : Nat → Int32) : Prop :=
  fx qx = some (oC 2 [.ref (C 0), .ref (C 1), .ref (C 2), va_rf kt, .int (cn 0), .int (cn 1), .int (cn 2), .int (cn 3), .int (cn 4), .int (cn 5), .int (cn 6)]) ∧ fx (C 0) = some (aQ 8 pr) ∧ fx (C 1) = some (oC 1 [.int 6, .ref (C 3)]) ∧ fx (C 2) = some (aJ 40 kr) ∧ fx (C 3) = some (aJ 1 hr) ∧ C 2 ≠ C 3
def TL (fx : hPl) (a : Nat) (v : Int32) : Prop := fx a = some (oC 0 [.int 1, .int v])
def TT (fx : hPl) (a : Nat) (s : Int32) (b n : Nat) (row : Nat → Int64) : Prop := fx a = some (oC 1 [.int s, .ref b]) ∧ fx b = some (aJ n row)
section CXs
variable {qx : Nat} {fx : hPl} {C : Nat → Nat} {pr : Nat → Option Nat} {kt : Option Nat} {kr hr : Nat → Int64} {cn : Nat → Int32}
theorem CX.ob (h : CX qx fx C pr kt kr hr cn) : hob fx qx 2 = some () := g_ob h.1
theorem CX.q0 (h : CX qx fx C pr kt kr hr cn) : hgQ fx qx 2 0 = some (some (C 0)) := g_Q h.1 rfl
theorem CX.q1 (h : CX qx fx C pr kt kr hr cn) : hgQ fx qx 2 1 = some (some (C 1)) := g_Q h.1 rfl
theorem CX.q2 (h : CX qx fx C pr kt kr hr cn) : hgQ fx qx 2 2 = some (some (C 2)) := g_Q h.1 rfl
theorem CX.q3 (h : CX qx fx C pr kt kr hr cn) : hgQ fx qx 2 3 = some kt := g_Q h.1 rfl
theorem CX.lp (h : CX qx fx C pr kt kr hr cn) {P : Nat} (hP : P < 8) : hlQ fx (C 0) (nI P) = some (pr P) := g_lQ h.2.1 hP (by omega)
theorem CX.c4 (h : CX qx fx C pr kt kr hr cn) : hgI fx qx 2 4 = some (cn 0) := g_I h.1 rfl
theorem CX.c5 (h : CX qx fx C pr kt kr hr cn) : hgI fx qx 2 5 = some (cn 1) := g_I h.1 rfl
theorem CX.c6 (h : CX qx fx C pr kt kr hr cn) : hgI fx qx 2 6 = some (cn 2) := g_I h.1 rfl
theorem CX.c7 (h : CX qx fx C pr kt kr hr cn) : hgI fx qx 2 7 = some (cn 3) := g_I h.1 rfl
theorem CX.c8 (h : CX qx fx C pr kt kr hr cn) : hgI fx qx 2 8 = some (cn 4) := g_I h.1 rfl
theorem CX.c9 (h : CX qx fx C pr kt kr hr cn) : hgI fx qx 2 9 = some (cn 5) := g_I h.1 rfl
theorem CX.c10 (h : CX qx fx C pr kt kr hr cn) : hgI fx qx 2 10 = some (cn 6) := g_I h.1 rfl
end CXs
theorem nI_cast {a : Nat} (h : a < 2 ^ 31) : (nI a).toInt64 = lN a := nI_l h
theorem lgc {a b : Nat} (ha : a < 2 ^ 63) (hb : b < 2 ^ 63) : (0 < lg_cmp (lN a) (lN b)) ↔ b < a := by
  unfold lg_cmp
  by_cases h : b < a
  · have h1 : lN a > lN b := (pk_lLT hb ha).mpr h
    rw [if_pos h1]
    exact ⟨fun _ => h, fun _ => by decide⟩
  · have h1 : ¬ lN a > lN b := fun h1 => h ((pk_lLT hb ha).mp h1)
    rw [if_neg h1]
    by_cases h2 : lN a = lN b
    · rw [if_pos h2]
      exact ⟨fun h3 => absurd h3 (by decide), fun h3 => absurd h3 h⟩
    · rw [if_neg h2]
      exact ⟨fun h3 => absurd h3 (by decide), fun h3 => absurd h3 h⟩
section TTs
variable {fx : hPl} {a b n : Nat} {s : Int32} {row : Nat → Int64}
theorem TT.q (h : TT fx a s b n row) : hgQ fx a 1 1 = some (some b) := g_Q h.1 rfl
theorem TT.gs (h : TT fx a s b n row) : hgI fx a 1 0 = some s := g_I h.1 rfl
theorem TT.ob (h : TT fx a s b n row) : hob fx a 1 = some () := g_ob h.1
theorem TT.kd (h : TT fx a s b n row) : hkd fx a = some 1 := g_kd h.1
theorem TT.ln (h : TT fx a s b n row) : hln fx b = some (nI n) := g_ln h.2
theorem TT.sort (h : TT fx a s b n row) : hgT fx a = some s := by simp [hgT, h.kd, h.gs]
theorem TL.kd {v : Int32} (h : TL fx a v) : hkd fx a = some 0 := g_kd h
theorem TL.sort {v : Int32} (h : TL fx a v) : hgT fx a = some 1 := by
  have h1 : hgI fx a 0 0 = some 1 := g_I h rfl
  simp [hgT, h.kd, h1]
theorem TT.size (h : TT fx a s b n row) : fX2_size fx a = some (nI n) := by simp [fX2_size, h.q, h.ln]
theorem TT.stones (h : TT fx a s b n row) : fX2_isOfStones fx a = some (if s < 6 then 0 else 1) := by
  by_cases h1 : s < 6 <;> simp [fX2_isOfStones, h.gs, h1]
theorem TT.run (h : TT fx a s b n row) (hn : n ≤ 40) {i m : Nat} (hi : i < 2 ^ 31) (hm : m < 2 ^ 31) : fX2_hasRun fx a (nI i) (nI m) = some (if i + m ≤ n then 1 else 0) := by
  have h1 : (0 < lg_cmp ((nI i).toInt64 + (nI m).toInt64) ((nI n).toInt64)) ↔ n < i + m := by
    rw [nI_cast hi, nI_cast hm, nI_cast (show n < 2 ^ 31 by omega), lN_add]
    exact lgc (by omega) (by omega)
  by_cases h2 : i + m ≤ n
  · have h3 : ¬ (0 < lg_cmp ((nI i).toInt64 + (nI m).toInt64) ((nI n).toInt64)) := fun h3 => by have := h1.mp h3; omega
    simp [fX2_hasRun, nI_pos hi, nI_pos hm, h.q, h.ln, h3, h2]
  · have h3 : (0 < lg_cmp ((nI i).toInt64 + (nI m).toInt64) ((nI n).toInt64)) := h1.mpr (by omega)
    simp [fX2_hasRun, nI_pos hi, nI_pos hm, h.q, h.ln, h3, h2]
theorem run_neg1 {i m : Int32} (h : i < 0) : fX2_hasRun fx a i m = some 0 := by simp [fX2_hasRun, h]
theorem run_neg2 {i m : Int32} (h : m < 0) : fX2_hasRun fx a i m = some 0 := by
  by_cases h1 : i < 0 <;> simp [fX2_hasRun, h, h1]
theorem nI_one : (1 : Int32) = nI 1 := by decide
theorem TT.read (h : TT fx a s b n row) (hn : n ≤ 40) {i : Nat} (hi : i < n) : fX2_read fx a (nI i) = some (row i) := by
  have h1 := h.run hn (i := i) (m := 1) (by omega) (by omega)
  rw [if_pos (by omega), ← nI_one] at h1
  simp [fX2_read, h.ob, h1, h.q, g_lJ h.2 hi (by omega)]
theorem TT.read_out (h : TT fx a s b n row) (hn : n ≤ 40) {i : Int32} (hi : i < 0 ∨ nI n ≤ i) : fX2_read fx a i = some (-1) := by
  have h1 : fX2_hasRun fx a i 1 = some 0 := by
    by_cases h2 : i < 0
    · exact run_neg1 h2
    · rcases hi with hi | hi
      · exact absurd hi h2
      · obtain ⟨j, hj, rfl⟩ := nI_of h2
        have h3 := h.run hn (i := j) (m := 1) hj (by omega)
        rw [nI_leI (by omega) hj] at hi
        rw [if_neg (by omega), ← nI_one] at h3
        exact h3
  simp [fX2_read, h.ob, h1]
theorem TT.kind (h : TT fx a s b n row) (hn : n ≤ 40) {i : Nat} (hi : i < n) : fX2_stoneSortAt fx a (nI i) = some (h10 (row i)) := by
  have h1 := h.run hn (i := i) (m := 1) (by omega) (by omega)
  rw [if_pos (by omega), ← nI_one] at h1
  simp [fX2_stoneSortAt, h10, h.ob, h1, h.q, g_lJ h.2 hi (by omega)]
theorem TT.write (h : TT fx a s b n row) (hn : n ≤ 40) {z i : Nat} (hi : i < n) (v : Int64) : fX2_write fx z a (nI i) v = some (1, hup fx b (aJ n (vp_updL row i v)), z) := by
  have h1 := h.run hn (i := i) (m := 1) (by omega) (by omega)
  rw [if_pos (by omega), ← nI_one] at h1
  simp [fX2_write, h.ob, h1, h.q, g_sJ h.2 hi (by omega)]
theorem TT.write_out (h : TT fx a s b n row) (hn : n ≤ 40) {z : Nat} {i : Int32} (hi : i < 0 ∨ nI n ≤ i) (v : Int64) : fX2_write fx z a i v = some (0, fx, z) := by
  have h1 : fX2_hasRun fx a i 1 = some 0 := by
    by_cases h2 : i < 0
    · exact run_neg1 h2
    · rcases hi with hi | hi
      · exact absurd hi h2
      · obtain ⟨j, hj, rfl⟩ := nI_of h2
        have h3 := h.run hn (i := j) (m := 1) hj (by omega)
        rw [nI_leI (by omega) hj] at hi
        rw [if_neg (by omega), ← nI_one] at h3
        exact h3
  simp [fX2_write, h.ob, h1]
end TTs
end
section
/-! THE RELATION of the two objects -/
def US (L : Nat → Option Nat) (K : Option Nat) (k : Nat) : Prop := (∃ p, p < 8 ∧ L p = some k) ∨ K = some k
def GD (v : Int64) : Prop := h10 v = 0 ∨ h10 v = 1 ∨ h10 v = 2 ∨ h10 v = 3 ∨ h10 v = 4
/-- a Tray on a shelf -/
def TR (fx : hPl) (C : Nat → Nat) (a b n : Nat) (s : Int32) (rw : Nat → Int64) : Prop :=
  2 ≤ s.toInt ∧ s.toInt ≤ 10 ∧ n ≤ 40 ∧ b ≠ C 2 ∧ b ≠ C 3 ∧ (∃ row, TT fx a s b n row ∧ ∀ i, i < n → row i = rw i) ∧ (6 ≤ s.toInt → ∀ i, i < n → GD (rw i))
def TH (fx : hPl) (C : Nat → Nat) (a b n : Nat) (s li mk : Int32) (rw : Nat → Int64) : Prop :=
  mk = nI n ∧ a ≠ C 1 ∧ ((s = 1 ∧ n = 0 ∧ TL fx a li) ∨ TR fx C a b n s rw)
def RB (i qx : Nat) (fx : hPl) (qm : Nat) (fm : hPl) (B C φ ψ : Nat → Nat) (L : Nat → Option Nat) (K : Option Nat) (mn : Nat → Nat) (la sa ma ia cn : Nat → Int32) (mem car kp kr hr : Nat → Int64) (pr : Nat → Option Nat) : Prop :=
  MX qm fm B la sa ma ia cn mem car kp (hsh K) ∧ CX qx fx C pr (K.map φ) kr hr cn ∧ (∀ p, p < 8 → la p = hsh (L p) ∧ pr p = (L p).map φ) ∧
  (∀ k, US L K k → k < 10 ∧ TH fx C (φ k) (ψ k) (mn k) (sa k) (ia k) (ma k) (fun j => mem (40 * k + j))) ∧
  (∀ k k', US L K k → US L K k' → k ≠ k' → φ k ≠ φ k' ∧ (2 ≤ (sa k).toInt → 2 ≤ (sa k').toInt → ψ k ≠ ψ k')) ∧
  (∀ k, K = some k → 2 ≤ (sa k).toInt ∧ (∀ j, j < mn k → kr j = kp j) ∧ (6 ≤ (sa k).toInt → ∀ j, j < mn k → GD (kp j))) ∧
  ∃ t, t ≤ i ∧ cn 0 = nI t
def RI : hInv := fun i qx fx qm fm => ∃ B C φ ψ L K mn la sa ma ia cn mem car kp kr hr pr, RB i qx fx qm fm B C φ ψ L K mn la sa ma ia cn mem car kp kr hr pr
theorem as_none {fx : hPl} : fX3_asTray fx none = some none := by simp [fX3_asTray, hii]
theorem as_lamp {fx : hPl} {a : Nat} {v : Int32} (h : TL fx a v) : fX3_asTray fx (some a) = some none := by simp [fX3_asTray, hii, h.kd]
theorem as_tray {fx : hPl} {a b n : Nat} {s : Int32} {row : Nat → Int64} (h : TT fx a s b n row) : fX3_asTray fx (some a) = some (some a) := by simp [fX3_asTray, hii, h.kd, h.ob]
section RBs
variable {i qx : Nat} {fx : hPl} {qm : Nat} {fm : hPl} {B C φ ψ : Nat → Nat} {L : Nat → Option Nat} {K : Option Nat} {mn : Nat → Nat} {la sa ma ia cn : Nat → Int32} {mem car kp kr hr : Nat → Int64} {pr : Nat → Option Nat}
theorem RB.pl (R : RB i qx fx qm fm B C φ ψ L K mn la sa ma ia cn mem car kp kr hr pr) {P : Nat} (hP : P < 8) : (L P = none ∧ la P = -1 ∧ pr P = none) ∨ ∃ k, L P = some k ∧ US L K k ∧ k < 10 ∧ la P = nI k ∧ pr P = some (φ k) ∧ ma k = nI (mn k) ∧ ((sa k = 1 ∧ mn k = 0 ∧ TL fx (φ k) (ia k)) ∨ TR fx C (φ k) (ψ k) (mn k) (sa k) (fun j => mem (40 * k + j))) := by
  obtain ⟨-, -, hl, hu, -⟩ := R
  obtain ⟨h1, h2⟩ := hl P hP
  cases hL : L P with
  | none => rw [hL] at h1 h2; exact Or.inl ⟨rfl, h1, h2⟩
  | some k =>
    rw [hL] at h1 h2
    have hk : US L K k := Or.inl ⟨P, hP, hL⟩
    obtain ⟨h3, h4, h5, h6⟩ := hu k hk
    exact Or.inr ⟨k, rfl, hk, h3, h1, h2, h4, h6⟩
theorem RB.trayOn (R : RB i qx fx qm fm B C φ ψ L K mn la sa ma ia cn mem car kp kr hr pr) {P : Nat} (hP : P < 8) : fX3_trayOn fx qx (nI P) = fX3_asTray fx (pr P) := by
  have hC := R.2.1
  simp [fX3_trayOn, (fx_place_yes (f := fx) hP).1, hC.q0, hC.lp hP]
theorem trayOn_no {p : Int32} (h : p < 0 ∨ 8 ≤ p) : fX3_trayOn fx qx p = some none := by
  simp [fX3_trayOn, (fx_place_no (f := fx) h).1]
end RBs
theorem R_mono : ∀ i qx fx qm fm, RI i qx fx qm fm → RI (i + 1) qx fx qm fm := by
  intro i qx fx qm fm h
  obtain ⟨B, C, φ, ψ, L, K, mn, la, sa, ma, ia, cn, mem, car, kp, kr, hr, pr, h1, h2, h3, h4, h5, h6, t, h7, h8⟩ := h
  exact ⟨B, C, φ, ψ, L, K, mn, la, sa, ma, ia, cn, mem, car, kp, kr, hr, pr, h1, h2, h3, h4, h5, h6, t, by omega, h8⟩
theorem R_ob : ∀ i qx fx qm fm, RI i qx fx qm fm → hob fx qx 2 = some () ∧ hob fm qm 3 = some () := by
  intro i qx fx qm fm h
  obtain ⟨B, C, φ, ψ, L, K, mn, la, sa, ma, ia, cn, mem, car, kp, kr, hr, pr, h1, h2, -⟩ := h
  exact ⟨h2.ob, h1.ob⟩
/-- seven numbers -/
theorem hseven (p : Int32) : p < 0 ∨ nI 7 ≤ p ∨ ∃ j, j < 7 ∧ p = nI j := pk_ix p (by omega)
theorem hneg {p : Int32} (h : p < 0) : p.toInt < 0 := by
  have := Int32.lt_iff_toInt_lt.mp h
  simpa using this
theorem R_count : hR1 RI fX3_count fX4_count := by
  intro i qx fx qm fm p h
  obtain ⟨B, C, φ, ψ, L, K, mn, la, sa, ma, ia, cn, mem, car, kp, kr, hr, pr, hM, hC, -⟩ := h
  rcases hseven p with h1 | h1 | ⟨j, hj, rfl⟩
  · have h2 := hneg h1
    exact ⟨-1, by simp [fX3_count, h2], by simp [fX4_count, h1]⟩
  · have h2 : 6 < p.toInt := by
      have := Int32.le_iff_toInt_le.mp h1
      rw [nI_toInt (by omega)] at this
      omega
    have h3 : ¬ p < 0 := fun h => by
      have := hneg h
      omega
    have h4 : ¬ p ≤ 6 := fun h => by
      have := Int32.le_iff_toInt_le.mp h
      have e : (6 : Int32).toInt = 6 := by decide
      omega
    exact ⟨-1, by simp [fX3_count, h2], by simp [fX4_count, h3, h4]⟩
  · refine ⟨cn j, ?_, ?_⟩
    · rcases (show j = 0 ∨ j = 1 ∨ j = 2 ∨ j = 3 ∨ j = 4 ∨ j = 5 ∨ j = 6 by omega) with rfl | rfl | rfl | rfl | rfl | rfl | rfl
      · show fX3_count fx qx 0 = _
        simp [fX3_count, hC.c4]
      · show fX3_count fx qx 1 = _
        simp [fX3_count, hC.c5]
      · show fX3_count fx qx 2 = _
        simp [fX3_count, hC.c6]
      · show fX3_count fx qx 3 = _
        simp [fX3_count, hC.c7]
      · show fX3_count fx qx 4 = _
        simp [fX3_count, hC.c8]
      · show fX3_count fx qx 5 = _
        simp [fX3_count, hC.c9]
      · show fX3_count fx qx 6 = _
        simp [fX3_count, hC.c10]
    · have h1 : ¬ nI j < 0 := nI_pos (by omega)
      have h2 : nI j ≤ 6 := by rw [show (6 : Int32) = nI 6 from by decide]; exact nI_le (by omega) (by omega)
      simp [fX4_count, h1, h2, hM.q8, hM.l8 hj]
theorem R_member : hR2 RI fX3_member fX4_member := by
  intro i qx fx qm fm p x h
  obtain ⟨B, C, φ, ψ, L, K, mn, la, sa, ma, ia, cn, mem, car, kp, kr, hr, pr, R⟩ := h
  have hM := R.1
  have hC := R.2.1
  rcases hplace p with h1 | ⟨P, hP, rfl⟩
  · exact ⟨-1, by simp [fX3_member, hC.ob, trayOn_no h1], by simp [fX4_member, (fx_place_no (f := fm) h1).2]⟩
  have hpl := (fx_place_yes (f := fm) hP).2
  rcases R.pl hP with ⟨h1, h2, h3⟩ | ⟨k, h1, hu, hk, h2, h3, h4, h5⟩
  · refine ⟨-1, by simp [fX3_member, hC.ob, R.trayOn hP, h3, as_none], ?_⟩
    by_cases hx : x < 0 <;> simp [fX4_member, hpl, hM.ob, hM.manyOn0 hP h2, hx]
  rcases h5 with ⟨h5, h6, h7⟩ | ⟨t1, t2, t3, t4, t5, ⟨row, t6, t7⟩, t8⟩
  · refine ⟨-1, by simp [fX3_member, hC.ob, R.trayOn hP, h3, as_lamp h7], ?_⟩
    have h8 : ma k = 0 := by rw [h4, h6]; rfl
    by_cases hx : x < 0 <;> simp [fX4_member, hpl, hM.ob, hM.manyOn hP hk h2, h8, hx]
  · by_cases hx : x < 0
    · exact ⟨-1, by simp [fX3_member, hC.ob, R.trayOn hP, h3, as_tray t6, t6.ob, t6.read_out t3 (Or.inl hx)], by simp [fX4_member, hpl, hx]⟩
    · obtain ⟨j, hj, rfl⟩ := nI_of hx
      by_cases hjn : j < mn k
      · have h9 : nI j < nI (mn k) := nI_lt hjn (by omega)
        refine ⟨mem (40 * k + j), by simp [fX3_member, hC.ob, R.trayOn hP, h3, as_tray t6, t6.ob, t6.read t3 hjn, t7 j hjn], ?_⟩
        simp [fX4_member, hpl, hx, hM.ob, hM.manyOn hP hk h2, h4, h9, hM.q4, hM.q0, hM.l0 hP, h2, nI_40, hM.l4 (show 40 * k + j < 400 by omega)]
      · have h9 : ¬ nI j < nI (mn k) := nI_nlt (by omega) hj
        exact ⟨-1, by simp [fX3_member, hC.ob, R.trayOn hP, h3, as_tray t6, t6.ob, t6.read_out t3 (Or.inr (nI_le (show mn k ≤ j by omega) hj))], by simp [fX4_member, hpl, hx, hM.ob, hM.manyOn hP hk h2, h4, h9]⟩
end
section
theorem nI_ne {a b : Nat} (ha : a < 2 ^ 31) (hb : b < 2 ^ 31) (h : a ≠ b) : ¬ nI a = nI b := fun e => h ((nI_eq ha hb).mp e)
theorem x_least {qx : Nat} {fx : hPl} {C : Nat → Nat} {pr : Nat → Option Nat} {kt : Option Nat} {kr hr : Nat → Int64} {cn : Nat → Int32} (hC : CX qx fx C pr kt kr hr cn) {o : Option Nat} {r : Nat} (hr8 : r < 8) (h1 : pr r = o) (h2 : ∀ q, q < r → pr q ≠ o) : ∀ (d q fuel : Nat), q + d = r → d < fuel → fX3_leastPlaceOf_j2 fuel fx qx o (nI q) = some (nI r) := by
  intro d
  induction d with
  | zero =>
    intro q fuel hq hf
    obtain ⟨n, rfl⟩ : ∃ n, fuel = n + 1 := ⟨fuel - 1, by omega⟩
    have hqr : q = r := by omega
    subst hqr
    have h3 : ¬ (8 : Int32) ≤ nI q := by rw [show (8 : Int32) = nI 8 from by decide, nI_leI (by omega) (by omega)]; omega
    show fX3_leastPlaceOf_j2s _ fx qx o (nI q) = _
    simp [fX3_leastPlaceOf_j2s, h3, hC.q0, hC.lp hr8, h1]
  | succ d ih =>
    intro q fuel hq hf
    obtain ⟨n, rfl⟩ : ∃ n, fuel = n + 1 := ⟨fuel - 1, by omega⟩
    have h3 : ¬ (8 : Int32) ≤ nI q := by rw [show (8 : Int32) = nI 8 from by decide, nI_leI (by omega) (by omega)]; omega
    have h4 := ih (q + 1) n (by omega) (by omega)
    show fX3_leastPlaceOf_j2s _ fx qx o (nI q) = _
    simp [fX3_leastPlaceOf_j2s, h3, hC.q0, hC.lp (show q < 8 by omega), h2 q (by omega), nI_1, h4]
theorem m_least {qm : Nat} {fm : hPl} {B : Nat → Nat} {la sa ma ia cn : Nat → Int32} {mem car kp : Nat → Int64} {ke : Int32} (hM : MX qm fm B la sa ma ia cn mem car kp ke) {P r : Nat} (hP : P < 8) (hr : r ≤ P) (h1 : la r = la P) (h2 : ∀ q, q < r → la q ≠ la P) : ∀ (d q fuel : Nat), q + d = r → d < fuel → fX4_thing_j53 fuel fm qm (nI P) (nI q) = some (nI r) := by
  intro d
  induction d with
  | zero =>
    intro q fuel hq hf
    obtain ⟨n, rfl⟩ : ∃ n, fuel = n + 1 := ⟨fuel - 1, by omega⟩
    have hqr : q = r := by omega
    subst hqr
    show fX4_thing_j53s _ fm qm (nI P) (nI q) = _
    by_cases h3 : nI P ≤ nI q
    · simp [fX4_thing_j53s, h3]
    · simp [fX4_thing_j53s, h3, hM.q0, hM.l0 hP, hM.l0 (show q < 8 by omega), h1]
  | succ d ih =>
    intro q fuel hq hf
    obtain ⟨n, rfl⟩ : ∃ n, fuel = n + 1 := ⟨fuel - 1, by omega⟩
    have h3 : ¬ nI P ≤ nI q := by rw [nI_leI (by omega) (by omega)]; omega
    have h4 := ih (q + 1) n (by omega) (by omega)
    show fX4_thing_j53s _ fm qm (nI P) (nI q) = _
    simp [fX4_thing_j53s, h3, hM.q0, hM.l0 hP, hM.l0 (show q < 8 by omega), h2 q (by omega), nI_1, h4]
theorem R_thing : hR2 RI fX3_thing fX4_thing := by
  intro i qx fx qm fm p x h
  obtain ⟨B, C, φ, ψ, L, K, mn, la, sa, ma, ia, cn, mem, car, kp, kr, hr, pr, R⟩ := h
  have hM := R.1
  have hC := R.2.1
  rcases hplace p with h1 | ⟨P, hP, rfl⟩
  · exact ⟨-1, by simp [fX3_thing, (fx_place_no (f := fx) h1).1], by simp [fX4_thing, (fx_place_no (f := fm) h1).2]⟩
  have hpx := (fx_place_yes (f := fx) hP).1
  have hpm := (fx_place_yes (f := fm) hP).2
  rcases pk_ix x (n := 3) (by omega) with h1 | h1 | ⟨j, hj, rfl⟩
  · have h2 := hneg h1
    exact ⟨-1, by simp [fX3_thing, hpx, hC.q0, hC.lp hP, h2], by simp [fX4_thing, hpm, h1]⟩
  · have h2 : 2 < x.toInt := by
      have := Int32.le_iff_toInt_le.mp h1
      rw [nI_toInt (by omega)] at this
      omega
    have h3 : ¬ x < 0 := fun h => by
      have := hneg h
      omega
    have h4 : ¬ x ≤ 2 := fun h => by
      have := Int32.le_iff_toInt_le.mp h
      have e : (2 : Int32).toInt = 2 := by decide
      omega
    exact ⟨-1, by simp [fX3_thing, hpx, hC.q0, hC.lp hP, h2], by simp [fX4_thing, hpm, h3, h4]⟩
  rcases (show j = 0 ∨ j = 1 ∨ j = 2 by omega) with rfl | rfl | rfl
  · show ∃ r, fX3_thing fx qx (nI P) 0 = some r ∧ fX4_thing fm qm (nI P) 0 = some r
    rcases R.pl hP with ⟨h1, h2, h3⟩ | ⟨k, h1, hu, hk, h2, h3, h4, h5⟩
    · exact ⟨0, by simp [fX3_thing, hpx, hC.q0, hC.lp hP, h3], by simp [fX4_thing, hpm, hM.ob, hM.sortOn0 hP h2]⟩
    · refine ⟨sa k, ?_, by simp [fX4_thing, hpm, hM.ob, hM.sortOn hP hk h2]⟩
      rcases h5 with ⟨h5, h6, h7⟩ | ⟨t1, t2, t3, t4, t5, ⟨row, t6, t7⟩, t8⟩
      · simp [fX3_thing, hpx, hC.q0, hC.lp hP, h3, h7.sort, h5]
      · simp [fX3_thing, hpx, hC.q0, hC.lp hP, h3, t6.sort]
  · show ∃ r, fX3_thing fx qx (nI P) 1 = some r ∧ fX4_thing fm qm (nI P) 1 = some r
    rcases R.pl hP with ⟨h1, h2, h3⟩ | ⟨k, h1, hu, hk, h2, h3, h4, h5⟩
    · exact ⟨0, by simp [fX3_thing, hpx, hC.q0, hC.lp hP, h3, fX3_sizeOf, as_none], by simp [fX4_thing, hpm, hM.ob, hM.manyOn0 hP h2]⟩
    · refine ⟨ma k, ?_, by simp [fX4_thing, hpm, hM.ob, hM.manyOn hP hk h2]⟩
      rcases h5 with ⟨h5, h6, h7⟩ | ⟨t1, t2, t3, t4, t5, ⟨row, t6, t7⟩, t8⟩
      · have h8 : ma k = 0 := by rw [h4, h6]; rfl
        simp [fX3_thing, hpx, hC.q0, hC.lp hP, h3, fX3_sizeOf, as_lamp h7, h8]
      · simp [fX3_thing, hpx, hC.q0, hC.lp hP, h3, fX3_sizeOf, as_tray t6, t6.ob, t6.size, h4]
  · show ∃ r, fX3_thing fx qx (nI P) 2 = some r ∧ fX4_thing fm qm (nI P) 2 = some r
    rcases R.pl hP with ⟨h1, h2, h3⟩ | ⟨k, h1, hu, hk, h2, h3, h4, h5⟩
    · exact ⟨nI P, by simp [fX3_thing, hpx, hC.q0, hC.lp hP, h3], by simp [fX4_thing, hpm, hM.q0, hM.l0 hP, h2]⟩
    · obtain ⟨r, hr1, hr2⟩ := pk_least (fun q => L q = some k ∧ q ≤ P) ⟨P, h1, Nat.le_refl P⟩
      have hr8 : r < 8 := by omega
      have e1 : la r = la P := by rw [(R.2.2.1 r hr8).1, hr1.1, h2]; rfl
      have e2 : ∀ q, q < r → la q ≠ la P := by
        intro q hq he
        have hq8 : q < 8 := by omega
        rw [(R.2.2.1 q hq8).1, h2] at he
        refine hr2 q hq ⟨?_, by omega⟩
        cases hL : L q with
        | none => rw [hL] at he; exact absurd he.symm (hsh_aux (by omega))
        | some k2 =>
          rw [hL] at he
          have hk2 := (R.2.2.2.1 k2 (Or.inl ⟨q, hq8, hL⟩)).1
          rw [(nI_eq (by omega) (by omega)).mp he]
      have e3 : pr r = some (φ k) := by rw [(R.2.2.1 r hr8).2, hr1.1]; rfl
      have e4 : ∀ q, q < r → pr q ≠ some (φ k) := by
        intro q hq he
        have hq8 : q < 8 := by omega
        rw [(R.2.2.1 q hq8).2] at he
        refine hr2 q hq ⟨?_, by omega⟩
        cases hL : L q with
        | none => rw [hL] at he; cases he
        | some k2 =>
          rw [hL] at he
          have he2 : φ k2 = φ k := Option.some.inj he
          by_cases hkk : k2 = k
          · rw [hkk]
          · exact absurd he2 (R.2.2.2.2.1 k2 k (Or.inl ⟨q, hq8, hL⟩) hu hkk).1
      have f1 := x_least hC hr8 e3 e4 r 0 64 (by omega) (by omega)
      have f2 := m_least hM hP hr1.2 e1 e2 r 0 64 (by omega) (by omega)
      rw [nI_0] at f1 f2
      exact ⟨nI r, by simp [fX3_thing, hpx, hC.q0, hC.lp hP, h3, hC.ob, fX3_leastPlaceOf, f1], by simp [fX4_thing, hpm, hM.q0, hM.l0 hP, h2, hsh_aux (show k < 2 ^ 31 by omega), f2]⟩
/-! worth -/
def wk (t : Int32) : Int32 := if t = 1 then 1 else if t = 2 then 4 else if t = 3 then 20 else if t = 4 then 15 else 0
def bf (t : Nat → Int32) (i : Nat) : Int32 := if i = 0 then 0 else t (i - 1)
def wS (t : Nat → Int32) : Nat → Int32
  | 0 => 0
  | i + 1 => if t i = bf t i ∧ (t i = 3 ∨ t i = 4) then (wS t i + wk (t i)) + 5 else wS t i + wk (t i)
theorem x_wk {fx : hPl} {t : Int32} (h : t = 0 ∨ t = 1 ∨ t = 2 ∨ t = 3 ∨ t = 4) : fX3_worthOfStone fx t = some (wk t) := by
  rcases h with rfl | rfl | rfl | rfl | rfl <;> simp [fX3_worthOfStone, wk]
theorem x_round {fx : hPl} {t : Int32} : fX3_isRound fx t = some (if t = 3 ∨ t = 4 then 1 else 0) := by
  by_cases h3 : t = 3 <;> by_cases h4 : t = 4 <;> simp [fX3_isRound, h3, h4]
theorem x_worth {fx : hPl} {a b n : Nat} {s : Int32} {row : Nat → Int64} (h : TT fx a s b n row) (hn : n ≤ 40) (hg : ∀ i, i < n → GD (row i)) : ∀ (d i fuel : Nat), i + d = n → d < fuel → fX3_worth_j27 fuel fx (some a) (wS (fun j => h10 (row j)) i) (bf (fun j => h10 (row j)) i) (nI i) = some (wS (fun j => h10 (row j)) n) := by
  intro d
  induction d with
  | zero =>
    intro i fuel hi hf
    obtain ⟨m, rfl⟩ : ∃ m, fuel = m + 1 := ⟨fuel - 1, by omega⟩
    have h1 : nI n ≤ nI i := nI_le (by omega) (by omega)
    have hin : i = n := by omega
    subst hin
    show fX3_worth_j27s _ fx (some a) _ _ _ = _
    simp [fX3_worth_j27s, h.ob, h.size]
  | succ d ih =>
    intro i fuel hi hf
    obtain ⟨m, rfl⟩ : ∃ m, fuel = m + 1 := ⟨fuel - 1, by omega⟩
    have h1 : ¬ nI n ≤ nI i := nI_ge (by omega) (by omega)
    have h2 := ih (i + 1) m (by omega) (by omega)
    have h3 := h.kind hn (show i < n by omega)
    have h4 : bf (fun j => h10 (row j)) (i + 1) = h10 (row i) := by simp [bf]
    have h5 : fX3_worthOfStone fx (h10 (row i)) = some (wk (h10 (row i))) := x_wk (hg i (by omega))
    show fX3_worth_j27s _ fx (some a) _ _ _ = _
    simp only [fX3_worth_j27s, Option.bind_some, h.ob, h.size, if_neg h1, h3, h5]
    rw [h4] at h2
    by_cases h6 : h10 (row i) = bf (fun j => h10 (row j)) i
    · rw [if_pos h6, x_round, Option.bind_some]
      by_cases h7 : h10 (row i) = 3 ∨ h10 (row i) = 4
      · have h8 : wS (fun j => h10 (row j)) (i + 1) = (wS (fun j => h10 (row j)) i + wk (h10 (row i))) + 5 := if_pos ⟨h6, h7⟩
        rw [h8] at h2
        rw [if_pos h7, if_neg (by decide), nI_1]
        exact h2
      · have h8 : wS (fun j => h10 (row j)) (i + 1) = wS (fun j => h10 (row j)) i + wk (h10 (row i)) := if_neg (fun q => h7 q.2)
        rw [h8] at h2
        rw [if_neg h7, if_pos rfl, nI_1]
        exact h2
    · have h8 : wS (fun j => h10 (row j)) (i + 1) = wS (fun j => h10 (row j)) i + wk (h10 (row i)) := if_neg (fun q => h6 q.1)
      rw [h8] at h2
      rw [if_neg h6, nI_1]
      exact h2
theorem m_worth {qm : Nat} {fm : hPl} {B : Nat → Nat} {la sa ma ia cn : Nat → Int32} {mem car kp : Nat → Int64} {ke : Int32} (hM : MX qm fm B la sa ma ia cn mem car kp ke) {P k n : Nat} (hP : P < 8) (hk : k < 10) (hl : la P = nI k) (hn : n ≤ 40) (hma : ma k = nI n) (hg : ∀ i, i < n → GD (mem (40 * k + i))) : ∀ (d i fuel : Nat), i + d = n → d < fuel → fX4_worth_j24 fuel fm qm (nI P) (wS (fun j => h10 (mem (40 * k + j))) i) (nI i) = some (wS (fun j => h10 (mem (40 * k + j))) n) := by
  intro d
  induction d with
  | zero =>
    intro i fuel hi hf
    obtain ⟨m, rfl⟩ : ∃ m, fuel = m + 1 := ⟨fuel - 1, by omega⟩
    have h1 : nI n ≤ nI i := nI_le (by omega) (by omega)
    have hin : i = n := by omega
    subst hin
    show fX4_worth_j24s _ fm qm (nI P) _ _ = _
    simp [fX4_worth_j24s, hM.ob, hM.manyOn hP hk hl, hma]
  | succ d ih =>
    intro i fuel hi hf
    obtain ⟨m, rfl⟩ : ∃ m, fuel = m + 1 := ⟨fuel - 1, by omega⟩
    have h1 : ¬ nI n ≤ nI i := nI_ge (by omega) (by omega)
    have h2 := ih (i + 1) m (by omega) (by omega)
    have h3 := hM.kindAt hP hk hl (show i < 40 by omega)
    have h6 : ∀ (x : Int32), x = wS (fun j => h10 (mem (40 * k + j))) i + wk (h10 (mem (40 * k + i))) → fX4_worth_j77 (fX4_worth_j24 m) fm qm (nI P) x (nI i) (h10 (mem (40 * k + i))) = some (wS (fun j => h10 (mem (40 * k + j))) n) := by
      intro x hx
      unfold fX4_worth_j77
      rw [nI_1]
      by_cases h7 : nI i ≤ 0
      · have hi0 : i = 0 := by
          rw [← nI_0, nI_leI (by omega) (by omega)] at h7
          omega
        subst hi0
        have h8 : wS (fun j => h10 (mem (40 * k + j))) (0 + 1) = wS (fun j => h10 (mem (40 * k + j))) 0 + wk (h10 (mem (40 * k + 0))) := by
          refine if_neg (fun q => ?_)
          have q1 : h10 (mem (40 * k + 0)) = 0 := q.1
          rcases q.2 with q2 | q2
          · have q3 : h10 (mem (40 * k + 0)) = 3 := q2
            rw [q1] at q3
            exact absurd q3 (by decide)
          · have q3 : h10 (mem (40 * k + 0)) = 4 := q2
            rw [q1] at q3
            exact absurd q3 (by decide)
        rw [if_pos h7, hx, ← h8]
        exact h2
      · have hi0 : 0 < i := by
          rcases Nat.eq_zero_or_pos i with q | q
          · rw [q, nI_0] at h7
            exact absurd (by decide) h7
          · exact q
        rw [if_neg h7]
        have h9 : bf (fun j => h10 (mem (40 * k + j))) i = h10 (mem (40 * k + (i - 1))) := by
          unfold bf
          rw [if_neg (by omega)]
        by_cases h8 : h10 (mem (40 * k + i)) < 3
        · have h10' : wS (fun j => h10 (mem (40 * k + j))) (i + 1) = wS (fun j => h10 (mem (40 * k + j))) i + wk (h10 (mem (40 * k + i))) := by
            refine if_neg (fun q => ?_)
            rcases q.2 with q2 | q2
            · have q3 : h10 (mem (40 * k + i)) = 3 := q2
              rw [q3] at h8
              exact absurd h8 (by decide)
            · have q3 : h10 (mem (40 * k + i)) = 4 := q2
              rw [q3] at h8
              exact absurd h8 (by decide)
          rw [if_pos h8, hx, ← h10']
          exact h2
        · have h34 : h10 (mem (40 * k + i)) = 3 ∨ h10 (mem (40 * k + i)) = 4 := by
            rcases hg i (by omega) with q | q | q | q | q
            · rw [q] at h8; exact absurd (by decide) h8
            · rw [q] at h8; exact absurd (by decide) h8
            · rw [q] at h8; exact absurd (by decide) h8
            · exact Or.inl q
            · exact Or.inr q
          have e1 : nI i - 1 = nI (i - 1) := by rw [nI_one, pk_sub (by omega)]
          have h11 := hM.kindAt hP hk hl (show i - 1 < 40 by omega)
          rw [if_neg h8, hM.ob, Option.bind_some, e1, h11, Option.bind_some]
          by_cases h12 : h10 (mem (40 * k + (i - 1))) = h10 (mem (40 * k + i))
          · have h13 : wS (fun j => h10 (mem (40 * k + j))) (i + 1) = (wS (fun j => h10 (mem (40 * k + j))) i + wk (h10 (mem (40 * k + i)))) + 5 := if_pos ⟨by rw [h9]; exact h12.symm, h34⟩
            rw [if_pos h12, hx, ← h13]
            exact h2
          · have h13 : wS (fun j => h10 (mem (40 * k + j))) (i + 1) = wS (fun j => h10 (mem (40 * k + j))) i + wk (h10 (mem (40 * k + i))) := if_neg (fun q => h12 (by rw [← h9]; exact q.1.symm))
            rw [if_neg h12, hx, ← h13]
            exact h2
    show fX4_worth_j24s _ fm qm (nI P) _ _ = _
    simp only [fX4_worth_j24s, hM.ob, Option.bind_some, hM.manyOn hP hk hl, hma, if_neg h1, h3]
    rcases hg i (by omega) with q | q | q | q | q
    · simp only [q] at h6 ⊢
      simp [fX4_worth_j59]
      refine h6 _ ?_
      simp [wk]
    · simp only [q] at h6 ⊢
      simp [fX4_worth_j59]
      refine h6 _ ?_
      simp [wk]
    · simp only [q] at h6 ⊢
      simp [fX4_worth_j59]
      refine h6 _ ?_
      simp [wk]
    · simp only [q] at h6 ⊢
      simp [fX4_worth_j59]
      refine h6 _ ?_
      simp [wk]
    · simp only [q] at h6 ⊢
      simp [fX4_worth_j59]
      refine h6 _ ?_
      simp [wk]
theorem wS_congr {t u : Nat → Int32} {n : Nat} (h : ∀ j, j < n → t j = u j) : ∀ i, i ≤ n → wS t i = wS u i := by
  intro i
  induction i with
  | zero => intro _; rfl
  | succ i ih =>
    intro hi
    have h1 := ih (by omega)
    have h2 := h i (by omega)
    have h3 : bf t i = bf u i := by
      unfold bf
      by_cases q : i = 0
      · rw [if_pos q, if_pos q]
      · rw [if_neg q, if_neg q]; exact h _ (by omega)
    unfold wS
    rw [h1, h2, h3]
theorem stones_iff {f : hPl} {s : Int32} (h1 : 2 ≤ s.toInt) (h2 : s.toInt ≤ 10) : (s < 6 ∧ s.toInt < 6 ∧ fX4_isOfStones f s = some 0) ∨ (¬ s < 6 ∧ 6 ≤ s.toInt ∧ fX4_isOfStones f s = some 1) := by
  have e6 : (6 : Int32).toInt = 6 := by decide
  have e10 : (10 : Int32).toInt = 10 := by decide
  by_cases h : s < 6
  · have := Int32.lt_iff_toInt_lt.mp h
    exact Or.inl ⟨h, by omega, by simp [fX4_isOfStones, h]⟩
  · have h3 : ¬ s.toInt < (6 : Int32).toInt := fun q => h (Int32.lt_iff_toInt_lt.mpr q)
    have h4 : ¬ (10 : Int32) < s := fun q => by have := Int32.lt_iff_toInt_lt.mp q; omega
    exact Or.inr ⟨h, by omega, by simp [fX4_isOfStones, h, h4]⟩
theorem R_worth : hR1 RI fX3_worth fX4_worth := by
  intro i qx fx qm fm p h
  obtain ⟨B, C, φ, ψ, L, K, mn, la, sa, ma, ia, cn, mem, car, kp, kr, hr, pr, R⟩ := h
  have hM := R.1
  have hC := R.2.1
  rcases hplace p with h1 | ⟨P, hP, rfl⟩
  · exact ⟨-1, by simp [fX3_worth, hC.ob, trayOn_no h1], by simp [fX4_worth, (fx_place_no (f := fm) h1).2]⟩
  have hpm := (fx_place_yes (f := fm) hP).2
  rcases R.pl hP with ⟨h1, h2, h3⟩ | ⟨k, h1, hu, hk, h2, h3, h4, h5⟩
  · exact ⟨-1, by simp [fX3_worth, hC.ob, R.trayOn hP, h3, as_none], by simp [fX4_worth, hpm, hM.ob, hM.sortOn0 hP h2, fX4_isOfStones]⟩
  rcases h5 with ⟨h5, h6, h7⟩ | ⟨t1, t2, t3, t4, t5, ⟨row, t6, t7⟩, t8⟩
  · exact ⟨-1, by simp [fX3_worth, hC.ob, R.trayOn hP, h3, as_lamp h7], by simp [fX4_worth, hpm, hM.ob, hM.sortOn hP hk h2, h5, fX4_isOfStones]⟩
  rcases stones_iff (f := fm) t1 t2 with ⟨q1, q2, q3⟩ | ⟨q1, q2, q3⟩
  · exact ⟨-1, by simp [fX3_worth, hC.ob, R.trayOn hP, h3, as_tray t6, t6.ob, t6.stones, q1], by simp [fX4_worth, hpm, hM.ob, hM.sortOn hP hk h2, q3]⟩
  · have g0 := t8 q2
    have g1 : ∀ j, j < mn k → GD (row j) := fun j hj => by rw [t7 j hj]; exact g0 j hj
    have f1 := x_worth t6 t3 g1 (mn k) 0 64 (by omega) (by omega)
    have f2 := m_worth hM hP hk h2 t3 h4 g0 (mn k) 0 64 (by omega) (by omega)
    have f3 := wS_congr (t := fun j => h10 (row j)) (u := fun j => h10 (mem (40 * k + j))) (n := mn k) (fun j hj => by show h10 (row j) = _; rw [t7 j hj]) (mn k) (Nat.le_refl _)
    rw [f3] at f1
    rw [nI_0] at f1 f2
    have f1 : fX3_worth_j27 64 fx (some (φ k)) 0 0 0 = _ := f1
    have f2 : fX4_worth_j24 64 fm qm (nI P) 0 0 = _ := f2
    exact ⟨_, by simp [fX3_worth, hC.ob, R.trayOn hP, h3, as_tray t6, t6.ob, t6.stones, q1]; exact f1, by simp [fX4_worth, hpm, hM.ob, hM.sortOn hP hk h2, q3]; exact f2⟩
end
section
/-- the sorts of two strands, one from its end -/
def mOk (t u : Nat → Int32) (n j : Nat) : Prop := t j = u (n - 1 - j)
theorem sub_idx {n i : Nat} (h : i < n) : nI n - 1 - nI i = nI (n - 1 - i) := by
  rw [nI_one, pk_sub (by omega), pk_sub (by omega)]
theorem x_mirror {fx : hPl} {a a' b b' n : Nat} {s s' : Int32} {row row' : Nat → Int64} (h : TT fx a s b n row) (h' : TT fx a' s' b' n row') (hn : n ≤ 40) : ∀ (d i fuel : Nat), i + d = n → d < fuel →
    ((∀ j, i ≤ j → j < n → mOk (fun q => h10 (row q)) (fun q => h10 (row' q)) n j) → fX3_mirror_j60 fuel fx (some a) (some a') (nI n) (nI i) = some 1) ∧ ((¬ ∀ j, i ≤ j → j < n → mOk (fun q => h10 (row q)) (fun q => h10 (row' q)) n j) → fX3_mirror_j60 fuel fx (some a) (some a') (nI n) (nI i) = some 0) := by
  intro d
  induction d with
  | zero =>
    intro i fuel hi hf
    obtain ⟨m, rfl⟩ : ∃ m, fuel = m + 1 := ⟨fuel - 1, by omega⟩
    have h1 : nI n ≤ nI i := nI_le (by omega) (by omega)
    refine ⟨fun _ => ?_, fun hq => absurd (fun j h1 h2 => absurd h1 (by omega)) hq⟩
    show fX3_mirror_j60s _ fx (some a) (some a') _ _ = _
    simp [fX3_mirror_j60s, h1]
  | succ d ih =>
    intro i fuel hi hf
    obtain ⟨m, rfl⟩ : ∃ m, fuel = m + 1 := ⟨fuel - 1, by omega⟩
    have h1 : ¬ nI n ≤ nI i := nI_ge (by omega) (by omega)
    obtain ⟨g1, g2⟩ := ih (i + 1) m (by omega) (by omega)
    have e1 := h.kind hn (show i < n by omega)
    have e2 := h'.kind hn (show n - 1 - i < n by omega)
    have step : fX3_mirror_j60 (m + 1) fx (some a) (some a') (nI n) (nI i) = if h10 (row i) = h10 (row' (n - 1 - i)) then fX3_mirror_j60 m fx (some a) (some a') (nI n) (nI (i + 1)) else some 0 := by
      show fX3_mirror_j60s _ fx (some a) (some a') _ _ = _
      simp only [fX3_mirror_j60s, if_neg h1, Option.bind_some, h.ob, h'.ob, e1, sub_idx (show i < n by omega), e2, nI_1]
    rw [step]
    by_cases h2 : h10 (row i) = h10 (row' (n - 1 - i))
    · rw [if_pos h2]
      refine ⟨fun hq => g1 (fun j q1 q2 => hq j (by omega) q2), fun hq => g2 (fun hq2 => hq (fun j q1 q2 => ?_))⟩
      by_cases hij : j = i
      · subst hij; exact h2
      · exact hq2 j (by omega) q2
    · rw [if_neg h2]
      exact ⟨fun hq => absurd (hq i (Nat.le_refl _) (by omega)) h2, fun _ => rfl⟩
theorem m_mirror {qm : Nat} {fm : hPl} {B : Nat → Nat} {la sa ma ia cn : Nat → Int32} {mem car kp : Nat → Int64} {ke : Int32} (hM : MX qm fm B la sa ma ia cn mem car kp ke) {P P' k k' n : Nat} (hP : P < 8) (hP' : P' < 8) (hk : k < 10) (hk' : k' < 10) (hl : la P = nI k) (hl' : la P' = nI k') (hn : n ≤ 40) : ∀ (d i fuel : Nat), i + d = n → d < fuel →
    ((∀ j, i ≤ j → j < n → mOk (fun q => h10 (mem (40 * k + q))) (fun q => h10 (mem (40 * k' + q))) n j) → fX4_mirror_j61 fuel fm qm (nI P) (nI P') (nI n) 1 (nI i) = some 1) ∧ ((¬ ∀ j, i ≤ j → j < n → mOk (fun q => h10 (mem (40 * k + q))) (fun q => h10 (mem (40 * k' + q))) n j) → fX4_mirror_j61 fuel fm qm (nI P) (nI P') (nI n) 1 (nI i) = some 0) ∧ fX4_mirror_j61 fuel fm qm (nI P) (nI P') (nI n) 0 (nI i) = some 0 := by
  intro d
  induction d with
  | zero =>
    intro i fuel hi hf
    obtain ⟨m, rfl⟩ : ∃ m, fuel = m + 1 := ⟨fuel - 1, by omega⟩
    have h1 : nI n ≤ nI i := nI_le (by omega) (by omega)
    refine ⟨fun _ => ?_, fun hq => absurd (fun j h1 h2 => absurd h1 (by omega)) hq, ?_⟩
    · show fX4_mirror_j61s _ fm qm _ _ _ _ _ = _
      simp [fX4_mirror_j61s, h1]
    · show fX4_mirror_j61s _ fm qm _ _ _ _ _ = _
      simp [fX4_mirror_j61s, h1]
  | succ d ih =>
    intro i fuel hi hf
    obtain ⟨m, rfl⟩ : ∃ m, fuel = m + 1 := ⟨fuel - 1, by omega⟩
    have h1 : ¬ nI n ≤ nI i := nI_ge (by omega) (by omega)
    obtain ⟨g1, g2, g3⟩ := ih (i + 1) m (by omega) (by omega)
    have e1 := hM.kindAt hP hk hl (show i < 40 by omega)
    have e2 := hM.kindAt hP' hk' hl' (show n - 1 - i < 40 by omega)
    have step0 : fX4_mirror_j61 (m + 1) fm qm (nI P) (nI P') (nI n) 0 (nI i) = some 0 := by
      show fX4_mirror_j61s _ fm qm _ _ _ _ _ = _
      simp only [fX4_mirror_j61s, if_neg h1, nI_1, if_true]
      exact g3
    have step : fX4_mirror_j61 (m + 1) fm qm (nI P) (nI P') (nI n) 1 (nI i) = if h10 (mem (40 * k + i)) = h10 (mem (40 * k' + (n - 1 - i))) then fX4_mirror_j61 m fm qm (nI P) (nI P') (nI n) 1 (nI (i + 1)) else fX4_mirror_j61 m fm qm (nI P) (nI P') (nI n) 0 (nI (i + 1)) := by
      show fX4_mirror_j61s _ fm qm _ _ _ _ _ = _
      simp only [fX4_mirror_j61s, if_neg h1, Option.bind_some, hM.ob, e1, sub_idx (show i < n by omega), e2, nI_1]
      rw [if_neg (by decide)]
    refine ⟨?_, ?_, step0⟩ <;> rw [step]
    · intro hq
      rw [if_pos (show h10 (mem (40 * k + i)) = h10 (mem (40 * k' + (n - 1 - i))) from hq i (Nat.le_refl _) (by omega))]
      exact g1 (fun j q1 q2 => hq j (by omega) q2)
    · intro hq
      by_cases h2 : h10 (mem (40 * k + i)) = h10 (mem (40 * k' + (n - 1 - i)))
      · rw [if_pos h2]
        refine g2 (fun hq2 => hq (fun j q1 q2 => ?_))
        by_cases hij : j = i
        · subst hij; exact h2
        · exact hq2 j (by omega) q2
      · rw [if_neg h2]
        exact g3
/-- a place with a strand, or without one -/
theorem RB.strand {i qx : Nat} {fx : hPl} {qm : Nat} {fm : hPl} {B C φ ψ : Nat → Nat} {L : Nat → Option Nat} {K : Option Nat} {mn : Nat → Nat} {la sa ma ia cn : Nat → Int32} {mem car kp kr hr : Nat → Int64} {pr : Nat → Option Nat} (R : RB i qx fx qm fm B C φ ψ L K mn la sa ma ia cn mem car kp kr hr pr) (p : Int32) :
    ((∃ o, fX3_trayOn fx qx p = some o ∧ (o = none ∨ ∃ a, o = some a ∧ hob fx a 1 = some () ∧ fX2_isOfStones fx a = some 0)) ∧ (fX4_isPlace fm p = some 0 ∨ (fX4_isPlace fm p = some 1 ∧ ∃ s, fX4_sortOn fm qm p = some s ∧ fX4_isOfStones fm s = some 0))) ∨
    ∃ P k row, P < 8 ∧ p = nI P ∧ k < 10 ∧ la P = nI k ∧ ma k = nI (mn k) ∧ mn k ≤ 40 ∧ TT fx (φ k) (sa k) (ψ k) (mn k) row ∧ (∀ j, j < mn k → row j = mem (40 * k + j)) ∧ fX3_trayOn fx qx p = some (some (φ k)) ∧ fX2_isOfStones fx (φ k) = some 1 ∧ fX4_isPlace fm p = some 1 ∧ fX4_isOfStones fm (sa k) = some 1 := by
  have hM := R.1
  rcases hplace p with h1 | ⟨P, hP, rfl⟩
  · exact Or.inl ⟨⟨none, trayOn_no h1, Or.inl rfl⟩, Or.inl (fx_place_no h1).2⟩
  have hpm := (fx_place_yes (f := fm) hP).2
  rcases R.pl hP with ⟨h1, h2, h3⟩ | ⟨k, h1, hu, hk, h2, h3, h4, h5⟩
  · exact Or.inl ⟨⟨none, by rw [R.trayOn hP, h3, as_none], Or.inl rfl⟩, Or.inr ⟨hpm, 0, hM.sortOn0 hP h2, by simp [fX4_isOfStones]⟩⟩
  rcases h5 with ⟨h5, h6, h7⟩ | ⟨t1, t2, t3, t4, t5, ⟨row, t6, t7⟩, t8⟩
  · exact Or.inl ⟨⟨none, by rw [R.trayOn hP, h3, as_lamp h7], Or.inl rfl⟩, Or.inr ⟨hpm, sa k, hM.sortOn hP hk h2, by simp [h5, fX4_isOfStones]⟩⟩
  rcases stones_iff (f := fm) t1 t2 with ⟨q1, q2, q3⟩ | ⟨q1, q2, q3⟩
  · exact Or.inl ⟨⟨some (φ k), by rw [R.trayOn hP, h3, as_tray t6], Or.inr ⟨φ k, rfl, t6.ob, by rw [t6.stones, if_pos q1]⟩⟩, Or.inr ⟨hpm, sa k, hM.sortOn hP hk h2, q3⟩⟩
  · exact Or.inr ⟨P, k, row, hP, rfl, hk, h2, h4, t3, t6, t7, by rw [R.trayOn hP, h3, as_tray t6], by rw [t6.stones, if_neg q1], hpm, q3⟩
theorem R_mirror : hR2 RI fX3_mirror fX4_mirror := by
  intro i qx fx qm fm p p' h
  obtain ⟨B, C, φ, ψ, L, K, mn, la, sa, ma, ia, cn, mem, car, kp, kr, hr, pr, R⟩ := h
  have hM := R.1
  have hC := R.2.1
  rcases R.strand p with ⟨⟨o, x1, x2⟩, m1⟩ | ⟨P, k, row, hP, rfl, hk, hl, hma, hn, hT, hrow, x1, x2, m1, m2⟩
  · rcases R.strand p' with ⟨⟨o', y1, y2⟩, n1⟩ | ⟨P', k', row', hP', rfl, hk', hl', hma', hn', hT', hrow', y1, y2, n1, n2⟩
    · refine ⟨0, ?_, ?_⟩
      · rcases x2 with rfl | ⟨a, rfl, x3, x4⟩
        · simp [fX3_mirror, hC.ob, x1, y1]
        · rcases y2 with rfl | ⟨a', rfl, y3, y4⟩ <;> simp [fX3_mirror, hC.ob, x1, y1, x3, x4]
      · rcases m1 with m1 | ⟨m1, s, m2, m3⟩
        · simp [fX4_mirror, m1]
        · rcases n1 with n1 | ⟨n1, s', n2, n3⟩ <;> simp [fX4_mirror, m1, n1, hM.ob, m2, m3]
    · refine ⟨0, ?_, ?_⟩
      · rcases x2 with rfl | ⟨a, rfl, x3, x4⟩
        · simp [fX3_mirror, hC.ob, x1, y1]
        · simp [fX3_mirror, hC.ob, x1, y1, x3, x4]
      · rcases m1 with m1 | ⟨m1, s, m2, m3⟩
        · simp [fX4_mirror, m1]
        · simp [fX4_mirror, m1, n1, hM.ob, m2, m3]
  · have ms := hM.sortOn hP hk hl
    have mm := hM.manyOn hP hk hl
    rcases R.strand p' with ⟨⟨o', y1, y2⟩, n1⟩ | ⟨P', k', row', hP', rfl, hk', hl', hma', hn', hT', hrow', y1, y2, n1, n2⟩
    · refine ⟨0, ?_, ?_⟩
      · rcases y2 with rfl | ⟨a', rfl, y3, y4⟩
        · simp [fX3_mirror, hC.ob, x1, y1]
        · simp [fX3_mirror, hC.ob, x1, y1, hT.ob, x2, y3, y4]
      · rcases n1 with n1 | ⟨n1, s', n2, n3⟩
        · simp [fX4_mirror, m1, n1]
        · simp [fX4_mirror, m1, n1, hM.ob, ms, m2, n2, n3]
    · have ms' := hM.sortOn hP' hk' hl'
      have mm' := hM.manyOn hP' hk' hl'
      by_cases hnn : mn k = mn k'
      · have hT2 : TT fx (φ k') (sa k') (ψ k') (mn k) row' := by rw [hnn]; exact hT'
        obtain ⟨f1, f2⟩ := x_mirror hT hT2 hn (mn k) 0 64 (by omega) (by omega)
        obtain ⟨g1, g2, -⟩ := m_mirror hM hP hP' hk hk' hl hl' hn (mn k) 0 64 (by omega) (by omega)
        rw [nI_0] at f1 f2 g1 g2
        have hsame : ∀ j, j < mn k → (mOk (fun q => h10 (row q)) (fun q => h10 (row' q)) (mn k) j ↔ mOk (fun q => h10 (mem (40 * k + q))) (fun q => h10 (mem (40 * k' + q))) (mn k) j) := by
          intro j hj
          unfold mOk
          show (h10 (row j) = h10 (row' (mn k - 1 - j))) ↔ _
          rw [hrow j hj, hrow' (mn k - 1 - j) (by omega)]
        have e1 : fX3_mirror fx qx (nI P) (nI P') = fX3_mirror_j60 64 fx (some (φ k)) (some (φ k')) (nI (mn k)) 0 := by
          simp [fX3_mirror, hC.ob, x1, y1, hT.ob, hT'.ob, x2, y2, hT.size, hT'.size, hnn]
        have e2 : fX4_mirror fm qm (nI P) (nI P') = fX4_mirror_j61 64 fm qm (nI P) (nI P') (nI (mn k)) 1 0 := by
          simp [fX4_mirror, m1, n1, hM.ob, ms, ms', m2, n2, mm, mm', hma, hma', hnn]
        by_cases hall : ∀ j, 0 ≤ j → j < mn k → mOk (fun q => h10 (row q)) (fun q => h10 (row' q)) (mn k) j
        · exact ⟨1, by rw [e1]; exact f1 hall, by rw [e2]; exact g1 (fun j q1 q2 => (hsame j q2).mp (hall j q1 q2))⟩
        · exact ⟨0, by rw [e1]; exact f2 hall, by rw [e2]; exact g2 (fun hq => hall (fun j q1 q2 => (hsame j q2).mpr (hq j q1 q2)))⟩
      · have q1 : ¬ nI (mn k') = nI (mn k) := nI_ne (by omega) (by omega) (fun q => hnn q.symm)
        have q2 : ¬ nI (mn k) = nI (mn k') := nI_ne (by omega) (by omega) hnn
        exact ⟨0, by simp [fX3_mirror, hC.ob, x1, y1, hT.ob, hT'.ob, x2, y2, hT.size, hT'.size, q1], by simp [fX4_mirror, m1, n1, hM.ob, ms, ms', m2, n2, mm, mm', hma, hma', q2]⟩
end
section
theorem TL.kept {fx fx' : hPl} {a : Nat} {v : Int32} (h : TL fx a v) (ha : fx' a = fx a) : TL fx' a v := ha.trans h
theorem TT.kept {fx fx' : hPl} {a b n : Nat} {s : Int32} {row : Nat → Int64} (h : TT fx a s b n row) (ha : fx' a = fx a) (hb : fx' b = fx b) : TT fx' a s b n row := ⟨ha.trans h.1, hb.trans h.2⟩
/-- a shelf's thing stays when its cells do -/
theorem TH.kept {fx fx' : hPl} {C : Nat → Nat} {a b n : Nat} {s li mk : Int32} {rw' : Nat → Int64} (h : TH fx C a b n s li mk rw') (ha : (∃ ci fs, ci < 2 ∧ fx a = some (oC ci fs)) → fx' a = fx a) (hb : 2 ≤ s.toInt → (∃ n row, fx b = some (aJ n row)) → fx' b = fx b) : TH fx' C a b n s li mk rw' := by
  obtain ⟨h1, h2, h3⟩ := h
  refine ⟨h1, h2, ?_⟩
  rcases h3 with ⟨h3, h4, h5⟩ | ⟨t1, t2, t3, t4, t5, ⟨row, t6, t7⟩, t8⟩
  · exact Or.inl ⟨h3, h4, h5.kept (ha ⟨0, _, by omega, h5⟩)⟩
  · exact Or.inr ⟨t1, t2, t3, t4, t5, ⟨row, t6.kept (ha ⟨1, _, by omega, t6.1⟩) (hb t1 ⟨_, _, t6.2⟩), t7⟩, t8⟩
theorem CX.kept {qx : Nat} {fx fx' : hPl} {C : Nat → Nat} {pr : Nat → Option Nat} {kt : Option Nat} {kr hr : Nat → Int64} {cn : Nat → Int32} (h : CX qx fx C pr kt kr hr cn) (hq : fx' qx = fx qx) (h0 : fx' (C 0) = fx (C 0)) (h1 : fx' (C 1) = fx (C 1)) (h2 : fx' (C 2) = fx (C 2)) (h3 : fx' (C 3) = fx (C 3)) : CX qx fx' C pr kt kr hr cn :=
  ⟨hq.trans h.1, h0.trans h.2.1, h1.trans h.2.2.1, h2.trans h.2.2.2.1, h3.trans h.2.2.2.2.1, h.2.2.2.2.2⟩
theorem oC_ne_aJ {ci n : Nat} {fs : List Value} {r : Nat → Int64} : (oC ci fs) ≠ (aJ n r) := fun h => by cases h
theorem oC_ne_aQ {ci n : Nat} {fs : List Value} {r : Nat → Option Nat} : (oC ci fs) ≠ (aQ n r) := fun h => by cases h
theorem aJ_ne_aQ {n n' : Nat} {r : Nat → Int64} {r' : Nat → Option Nat} : (aJ n r) ≠ (aQ n' r') := fun h => by cases h
theorem oC_ne {c c' : Nat} {fs fs' : List Value} (h : c ≠ c') : (oC c fs) ≠ (oC c' fs') := fun e => by
  have := Sum.inr.inj e
  exact h (congrArg Prod.fst this)
/-! light -/
theorem R_light : hS1 RI fX3_light fX4_light := by
  intro i z qx fx qm fm p hi hb h
  obtain ⟨B, C, φ, ψ, L, K, mn, la, sa, ma, ia, cn, mem, car, kp, kr, hr, pr, R⟩ := h
  have hM := R.1
  have hC := R.2.1
  have hI : RI (i + 1) qx fx qm fm := R_mono _ _ _ _ _ ⟨B, C, φ, ψ, L, K, mn, la, sa, ma, ia, cn, mem, car, kp, kr, hr, pr, R⟩
  rcases hplace p with h1 | ⟨P, hP, rfl⟩
  · exact ⟨-1, fx, z, fm, z, by simp [fX3_light, (fx_place_no (f := fx) h1).1], by simp [fX4_light, (fx_place_no (f := fm) h1).2], hI⟩
  have hpx := (fx_place_yes (f := fx) hP).1
  have hpm := (fx_place_yes (f := fm) hP).2
  rcases R.pl hP with ⟨h1, h2, h3⟩ | ⟨k, h1, hu, hk, h2, h3, h4, h5⟩
  · exact ⟨-1, fx, z, fm, z, by simp [fX3_light, hpx, hC.q0, hC.lp hP, h3, hii], by simp [fX4_light, hpm, hM.ob, hM.sortOn0 hP h2], hI⟩
  rcases h5 with ⟨h5, h6, h7⟩ | ⟨t1, t2, t3, t4, t5, ⟨row, t6, t7⟩, t8⟩
  · have hg : hgI fx (φ k) 0 1 = some (ia k) := g_I h7 rfl
    have hp : hput fx (φ k) 0 1 (.int (ia k + 1)) = some (hup fx (φ k) (oC 0 [.int 1, .int (ia k + 1)])) := g_put h7 (by simp)
    have hg2 : hgI (hup fx (φ k) (oC 0 [.int 1, .int (ia k + 1)])) (φ k) 0 1 = some (ia k + 1) := g_I hup_s rfl
    obtain ⟨fm', m1, m2⟩ := hM.s3 hk (ia k + 1)
    refine ⟨ia k + 1, hup fx (φ k) (oC 0 [.int 1, .int (ia k + 1)]), z, fm', z, ?_, ?_, B, C, φ, ψ, L, K, mn, la, sa, ma, upd ia k (ia k + 1), cn, mem, car, kp, kr, hr, pr, m2, ?_, R.2.2.1, ?_, R.2.2.2.2.1, R.2.2.2.2.2.1, ?_⟩
    · simp [fX3_light, hpx, hC.q0, hC.lp hP, h3, hii, h7.kd, g_ob h7, hg, hp, hg2]
    · simp [fX4_light, hpm, hM.ob, hM.sortOn hP hk h2, h5, hM.q3, hM.q0, hM.l0 hP, h2, hM.l3 hk, m1, m2.q3, m2.q0, m2.l0 hP, m2.l3 hk, upd]
    · exact hC.kept (hup_n (hne hC.1 h7 (oC_ne (by omega)))) (hup_n (hne hC.2.1 h7 (fun e => by cases e))) (hup_n (hne hC.2.2.1 h7 (oC_ne (by omega)))) (hup_n (hne hC.2.2.2.1 h7 (fun e => by cases e))) (hup_n (hne hC.2.2.2.2.1 h7 (fun e => by cases e)))
    · intro k2 hu2
      obtain ⟨g1, g2⟩ := R.2.2.2.1 k2 hu2
      refine ⟨g1, ?_⟩
      by_cases hkk : k2 = k
      · subst hkk
        exact ⟨g2.1, g2.2.1, Or.inl ⟨h5, h6, by rw [pk_us]; exact hup_s⟩⟩
      · rw [pk_un hkk]
        exact g2.kept (fun _ => hup_n (R.2.2.2.2.1 k2 k hu2 hu hkk).1) (fun _ ⟨n, row, hq⟩ => hup_n (hne hq h7 (fun e => by cases e)))
    · obtain ⟨t, g1, g2⟩ := R.2.2.2.2.2.2
      exact ⟨t, by omega, g2⟩
  · have h8 : ¬ sa k = 1 := fun e => by rw [e] at t1; exact absurd t1 (by decide)
    exact ⟨-1, fx, z, fm, z, by simp [fX3_light, hpx, hC.q0, hC.lp hP, h3, hii, t6.kd], by simp [fX4_light, hpm, hM.ob, hM.sortOn hP hk h2, h8], hI⟩
/-! share -/
theorem th_pr {i qx : Nat} {fx : hPl} {qm : Nat} {fm : hPl} {B C φ ψ : Nat → Nat} {L : Nat → Option Nat} {K : Option Nat} {mn : Nat → Nat} {la sa ma ia cn : Nat → Int32} {mem car kp kr hr : Nat → Int64} {pr : Nat → Option Nat} (R : RB i qx fx qm fm B C φ ψ L K mn la sa ma ia cn mem car kp kr hr pr) {P : Nat} (hP : P < 8) : hth fx (pr P) = some () := by
  rcases R.pl hP with ⟨h1, h2, h3⟩ | ⟨k, h1, hu, hk, h2, h3, h4, h5⟩
  · rw [h3]; rfl
  · rw [h3]
    rcases h5 with ⟨h5, h6, h7⟩ | ⟨t1, t2, t3, t4, t5, ⟨row, t6, t7⟩, t8⟩
    · simp [hth, h7.kd]
    · simp [hth, t6.kd]
/-- the row of places changes alone -/
theorem CX.places {qx : Nat} {fx : hPl} {C : Nat → Nat} {pr : Nat → Option Nat} {kt : Option Nat} {kr hr : Nat → Int64} {cn : Nat → Int32} (h : CX qx fx C pr kt kr hr cn) (pr' : Nat → Option Nat) : CX qx (hup fx (C 0) (aQ 8 pr')) C pr' kt kr hr cn :=
  ⟨by rw [hup_n (hne h.1 h.2.1 (fun e => by cases e))]; exact h.1, hup_s, by rw [hup_n (hne h.2.2.1 h.2.1 (fun e => by cases e))]; exact h.2.2.1, by rw [hup_n (hne h.2.2.2.1 h.2.1 (fun e => by cases e))]; exact h.2.2.2.1, by rw [hup_n (hne h.2.2.2.2.1 h.2.1 (fun e => by cases e))]; exact h.2.2.2.2.1, h.2.2.2.2.2⟩
/-- places change alone, over no new shelves -/
theorem RB.places {i qx : Nat} {fx : hPl} {qm : Nat} {fm fm' : hPl} {B C φ ψ : Nat → Nat} {L : Nat → Option Nat} {K : Option Nat} {mn : Nat → Nat} {la sa ma ia cn : Nat → Int32} {mem car kp kr hr : Nat → Int64} {pr : Nat → Option Nat} (R : RB i qx fx qm fm B C φ ψ L K mn la sa ma ia cn mem car kp kr hr pr) {Q : Nat} {o : Option Nat} (ho : ∀ k, o = some k → US L K k) {la' : Nat → Int32} (hla : la' = upd la Q (hsh o)) (hM' : MX qm fm' B la' sa ma ia cn mem car kp (hsh K)) :
    RB (i + 1) qx (hup fx (C 0) (aQ 8 (va_up pr Q (o.map φ)))) qm fm' B C φ ψ (va_up L Q o) K mn la' sa ma ia cn mem car kp kr hr (va_up pr Q (o.map φ)) := by
  have hC := R.2.1
  have hus : ∀ k, US (va_up L Q o) K k → US L K k := by
    intro k hu
    rcases hu with ⟨p, hp, hq⟩ | hq
    · by_cases hpq : p = Q
      · subst hpq
        simp [va_up] at hq
        exact ho k hq
      · simp [va_up, hpq] at hq
        exact Or.inl ⟨p, hp, hq⟩
    · exact Or.inr hq
  refine ⟨hM', hC.places _, ?_, ?_, ?_, R.2.2.2.2.2.1, ?_⟩
  · intro p hp
    rw [hla]
    by_cases hpq : p = Q
    · subst hpq
      simp [va_up, pk_us]
    · rw [pk_un hpq]
      simp [va_up, hpq]
      exact R.2.2.1 p hp
  · intro k hu
    obtain ⟨g1, g2⟩ := R.2.2.2.1 k (hus k hu)
    exact ⟨g1, g2.kept (fun ⟨ci, fs, _, hq⟩ => hup_n (hne hq hC.2.1 (fun e => by cases e))) (fun _ ⟨n, row, hq⟩ => hup_n (hne hq hC.2.1 (fun e => by cases e)))⟩
  · intro k k' hu hu' hkk
    exact R.2.2.2.2.1 k k' (hus k hu) (hus k' hu') hkk
  · obtain ⟨t, g1, g2⟩ := R.2.2.2.2.2.2
    exact ⟨t, by omega, g2⟩
theorem R_share : hS2 RI fX3_share fX4_share := by
  intro i z qx fx qm fm p q hi hb h
  obtain ⟨B, C, φ, ψ, L, K, mn, la, sa, ma, ia, cn, mem, car, kp, kr, hr, pr, R⟩ := h
  have hM := R.1
  have hC := R.2.1
  have hI : RI (i + 1) qx fx qm fm := R_mono _ _ _ _ _ ⟨B, C, φ, ψ, L, K, mn, la, sa, ma, ia, cn, mem, car, kp, kr, hr, pr, R⟩
  rcases hplace p with h1 | ⟨P, hP, rfl⟩
  · exact ⟨0, fx, z, fm, z, by simp [fX3_share, (fx_place_no (f := fx) h1).1], by simp [fX4_share, (fx_place_no (f := fm) h1).2], hI⟩
  have hpx := (fx_place_yes (f := fx) hP).1
  have hpm := (fx_place_yes (f := fm) hP).2
  rcases hplace q with h1 | ⟨Q, hQ, rfl⟩
  · exact ⟨0, fx, z, fm, z, by simp [fX3_share, hpx, (fx_place_no (f := fx) h1).1], by simp [fX4_share, hpm, (fx_place_no (f := fm) h1).2], hI⟩
  have hqx := (fx_place_yes (f := fx) hQ).1
  have hqm := (fx_place_yes (f := fm) hQ).2
  obtain ⟨fm', m1, m2⟩ := hM.s0 hQ (la P)
  have e1 := (R.2.2.1 P hP).1
  have e2 := (R.2.2.1 P hP).2
  have hs : hsQ fx (C 0) (nI Q) (pr P) = some (hup fx (C 0) (aQ 8 (va_up pr Q (pr P)))) := g_sQ hC.2.1 hQ (by omega)
  have hR := R.places (Q := Q) (o := L P) (fun k hk => Or.inl ⟨P, hP, hk⟩) (la' := upd la Q (la P)) (by rw [e1]) m2
  rw [← e2] at hR
  exact ⟨1, _, z, fm', z, by simp [fX3_share, hpx, hqx, hC.q0, hC.lp hP, th_pr R hP, hs], by simp [fX4_share, hpm, hqm, hM.q0, hM.l0 hP, m1], B, C, φ, ψ, _, K, mn, _, sa, ma, ia, cn, mem, car, kp, kr, hr, _, hR⟩
end
section
theorem hp_bb (x : Int32) : x.toInt8.toInt32 &&& 255 = x &&& 255 := by
  apply Int32.toBitVec_inj.mp
  rw [Int32.toBitVec_and, Int32.toBitVec_and, Int8.toBitVec_toInt32, Int32.toBitVec_toInt8]
  apply BitVec.eq_of_getLsbD_eq
  intro i hi
  rw [BitVec.getLsbD_and, BitVec.getLsbD_and]
  have hm : ∀ i < 32, 8 ≤ i → (255 : Int32).toBitVec.getLsbD i = false := by decide
  rcases Nat.lt_or_ge i 8 with z | z
  · rw [BitVec.getLsbD_signExtend, BitVec.getLsbD_signExtend, if_pos z, if_pos hi]
    simp only [z, hi, decide_true, Bool.true_and]
  · rw [hm i hi z]; simp
theorem hp_b8 : ∀ n, n < 256 → (Int8.ofNat n).toInt32 = ((Int8.ofNat n).toInt32 &&& 255 &&& 127) - ((Int8.ofNat n).toInt32 &&& 255 &&& 128) := by decide +kernel
theorem hp_of8 (b : Int8) : ∃ n, n < 256 ∧ b = Int8.ofNat n := by
  refine ⟨b.toBitVec.toNat, b.toBitVec.isLt, ?_⟩
  apply Int8.toBitVec_inj.mp
  simp [Int8.toBitVec_ofNat']
theorem hp_and (x m : Int32) (h : (255 : Int32) &&& m = m) : x &&& 255 &&& m = x &&& m := by
  rw [Int32.and_assoc, h]
theorem hbyte (v : Int32) : v.toInt8.toInt32 = (v &&& 127) - (v &&& 128) := by
  obtain ⟨n, hn, hb⟩ := hp_of8 v.toInt8
  have h1 := hp_b8 n hn
  rw [← hb, hp_bb] at h1
  rw [h1, hp_and v 127 (by decide), hp_and v 128 (by decide)]
/-- what set() writes -/
def nv (s v : Int32) : Int64 := if s = 3 then v.toInt64 * 1000003 else if s = 4 then v.toInt8.toInt32.toInt64 else if s = 5 then (v &&& 1).toInt64 else v.toInt64
theorem num_cases {s : Int32} (h1 : 2 ≤ s.toInt) (h2 : s.toInt < 6) : s = 2 ∨ s = 3 ∨ s = 4 ∨ s = 5 := by
  have k : ∀ y : Int32, s.toInt = y.toInt → s = y := fun y h => Int32.toInt_inj.mp h
  rcases (show s.toInt = 2 ∨ s.toInt = 3 ∨ s.toInt = 4 ∨ s.toInt = 5 by omega) with h | h | h | h
  · exact Or.inl (k 2 h)
  · exact Or.inr (Or.inl (k 3 h))
  · exact Or.inr (Or.inr (Or.inl (k 4 h)))
  · exact Or.inr (Or.inr (Or.inr (k 5 h)))
theorem x_num {fx : hPl} {s v : Int32} (h : s = 2 ∨ s = 3 ∨ s = 4 ∨ s = 5) : fX3_numberFor fx s v = some (nv s v) := by
  rcases h with rfl | rfl | rfl | rfl <;> simp [fX3_numberFor, nv]
/-- what the class keeps, apart from the reference -/
def RC (i qx : Nat) (fx : hPl) (C φ ψ : Nat → Nat) (L : Nat → Option Nat) (K : Option Nat) (mn : Nat → Nat) (la sa ma ia cn : Nat → Int32) (mem kp kr hr : Nat → Int64) (pr : Nat → Option Nat) : Prop :=
  CX qx fx C pr (K.map φ) kr hr cn ∧ (∀ p, p < 8 → la p = hsh (L p) ∧ pr p = (L p).map φ) ∧
  (∀ k, US L K k → k < 10 ∧ TH fx C (φ k) (ψ k) (mn k) (sa k) (ia k) (ma k) (fun j => mem (40 * k + j))) ∧
  (∀ k k', US L K k → US L K k' → k ≠ k' → φ k ≠ φ k' ∧ (2 ≤ (sa k).toInt → 2 ≤ (sa k').toInt → ψ k ≠ ψ k')) ∧
  (∀ k, K = some k → 2 ≤ (sa k).toInt ∧ (∀ j, j < mn k → kr j = kp j) ∧ (6 ≤ (sa k).toInt → ∀ j, j < mn k → GD (kp j))) ∧
  ∃ t, t ≤ i ∧ cn 0 = nI t
section RCs
variable {i qx : Nat} {fx : hPl} {C φ ψ : Nat → Nat} {L : Nat → Option Nat} {K : Option Nat} {mn : Nat → Nat} {la sa ma ia cn : Nat → Int32} {mem kp kr hr : Nat → Int64} {pr : Nat → Option Nat}
theorem RC.more (R : RC i qx fx C φ ψ L K mn la sa ma ia cn mem kp kr hr pr) : RC (i + 1) qx fx C φ ψ L K mn la sa ma ia cn mem kp kr hr pr := by
  obtain ⟨h1, h2, h3, h4, h5, t, h6, h7⟩ := R
  exact ⟨h1, h2, h3, h4, h5, t, by omega, h7⟩
/-- the members of one Tray change -/
theorem RC.cells (R : RC i qx fx C φ ψ L K mn la sa ma ia cn mem kp kr hr pr) {k : Nat} (hu : US L K k) {row row' mem' : Nat → Int64} (hT : TT fx (φ k) (sa k) (ψ k) (mn k) row) (h1 : ∀ x, (x < 40 * k ∨ 40 * k + 40 ≤ x) → mem' x = mem x) (h2 : ∀ j, j < mn k → row' j = mem' (40 * k + j)) (h3 : 6 ≤ (sa k).toInt → ∀ j, j < mn k → GD (mem' (40 * k + j))) :
    RC i qx (hup fx (ψ k) (aJ (mn k) row')) C φ ψ L K mn la sa ma ia cn mem' kp kr hr pr := by
  obtain ⟨hC, a1, a2, a3, a4, a5⟩ := R
  obtain ⟨hk, b1, b2, b3⟩ := a2 k hu
  have htr : TR fx C (φ k) (ψ k) (mn k) (sa k) (fun j => mem (40 * k + j)) := by
    rcases b3 with ⟨c1, c2, c3⟩ | c
    · have h9 := hT.1
      rw [show fx (φ k) = _ from c3] at h9
      cases h9
    · exact c
  obtain ⟨t1, t2, t3, t4, t5, -, -⟩ := htr
  refine ⟨hC.kept (hup_n (hne hC.1 hT.2 (fun e => by cases e))) (hup_n (hne hC.2.1 hT.2 (fun e => by cases e))) (hup_n (hne hC.2.2.1 hT.2 (fun e => by cases e))) (hup_n t4.symm) (hup_n t5.symm), a1, ?_, a3, a4, a5⟩
  intro k2 hu2
  obtain ⟨g1, g2⟩ := a2 k2 hu2
  refine ⟨g1, ?_⟩
  by_cases hkk : k2 = k
  · subst hkk
    exact ⟨b1, b2, Or.inr ⟨t1, t2, t3, t4, t5, ⟨row', ⟨by rw [hup_n (hne hT.1 hT.2 (fun e => by cases e))]; exact hT.1, hup_s⟩, h2⟩, h3⟩⟩
  · have g3 : TH (hup fx (ψ k) (aJ (mn k) row')) C (φ k2) (ψ k2) (mn k2) (sa k2) (ia k2) (ma k2) (fun j => mem (40 * k2 + j)) := g2.kept (fun ⟨ci, fs, _, hq⟩ => hup_n (hne hq hT.2 (fun e => by cases e))) (fun hs _ => hup_n ((a3 k2 k hu2 hu hkk).2 hs t1))
    obtain ⟨d1, d2, d3⟩ := g3
    refine ⟨d1, d2, ?_⟩
    rcases d3 with d3 | ⟨e1, e2, e3, e4, e5, ⟨r2, e6, e7⟩, e8⟩
    · exact Or.inl d3
    · have hsame : ∀ j, j < mn k2 → mem' (40 * k2 + j) = mem (40 * k2 + j) := by
        intro j hj
        apply h1
        have : mn k2 ≤ 40 := e3
        rcases Nat.lt_or_gt_of_ne hkk with q | q
        · left; omega
        · right; omega
      exact Or.inr ⟨e1, e2, e3, e4, e5, ⟨r2, e6, fun j hj => (e7 j hj).trans (hsame j hj).symm⟩, fun hs j hj => by show GD (mem' (40 * k2 + j)); rw [hsame j hj]; exact e8 hs j hj⟩
theorem CX.bench (h : CX qx fx C pr (K.map φ) kr hr cn) (kt' : Option Nat) (cn' : Nat → Int32) : CX qx (hup fx qx (oC 2 [.ref (C 0), .ref (C 1), .ref (C 2), va_rf kt', .int (cn' 0), .int (cn' 1), .int (cn' 2), .int (cn' 3), .int (cn' 4), .int (cn' 5), .int (cn' 6)])) C pr kt' kr hr cn' :=
  ⟨hup_s, by rw [hup_n (hne h.2.1 h.1 (fun e => by cases e))]; exact h.2.1, by rw [hup_n (hne h.2.2.1 h.1 (oC_ne (by omega)))]; exact h.2.2.1, by rw [hup_n (hne h.2.2.2.1 h.1 (fun e => by cases e))]; exact h.2.2.2.1, by rw [hup_n (hne h.2.2.2.2.1 h.1 (fun e => by cases e))]; exact h.2.2.2.2.1, h.2.2.2.2.2⟩
/-- the bench's own fields change: what is kept (of a used shelf, or nothing), the counts -/
theorem RC.bench (R : RC i qx fx C φ ψ L K mn la sa ma ia cn mem kp kr hr pr) {i' : Nat} {K' : Option Nat} {cn' : Nat → Int32} {kp' : Nat → Int64} (hK : ∀ k, K' = some k → US L K k ∧ 2 ≤ (sa k).toInt ∧ (∀ j, j < mn k → kr j = kp' j) ∧ (6 ≤ (sa k).toInt → ∀ j, j < mn k → GD (kp' j))) (hc : ∃ t, t ≤ i' ∧ cn' 0 = nI t) :
    RC i' qx (hup fx qx (oC 2 [.ref (C 0), .ref (C 1), .ref (C 2), va_rf (K'.map φ), .int (cn' 0), .int (cn' 1), .int (cn' 2), .int (cn' 3), .int (cn' 4), .int (cn' 5), .int (cn' 6)])) C φ ψ L K' mn la sa ma ia cn' mem kp' kr hr pr := by
  obtain ⟨hC, a1, a2, a3, a4, a5⟩ := R
  have hus : ∀ k, US L K' k → US L K k := by
    intro k hu
    rcases hu with hu | hu
    · exact Or.inl hu
    · exact (hK k hu).1
  refine ⟨hC.bench _ _, a1, ?_, fun k k' hu hu' hkk => a3 k k' (hus k hu) (hus k' hu') hkk, fun k hk => (hK k hk).2, hc⟩
  intro k hu
  obtain ⟨g1, g2⟩ := a2 k (hus k hu)
  exact ⟨g1, g2.kept (fun ⟨ci, fs, hci, hq⟩ => hup_n (hne hq hC.1 (oC_ne (by omega)))) (fun _ ⟨n, row, hq⟩ => hup_n (hne hq hC.1 (fun e => by cases e)))⟩
/-- the hand's member changes -/
theorem RC.hand (R : RC i qx fx C φ ψ L K mn la sa ma ia cn mem kp kr hr pr) (hr' : Nat → Int64) : RC i qx (hup fx (C 3) (aJ 1 hr')) C φ ψ L K mn la sa ma ia cn mem kp kr hr' pr := by
  obtain ⟨hC, a1, a2, a3, a4, a5⟩ := R
  refine ⟨⟨by rw [hup_n (hne hC.1 hC.2.2.2.2.1 (fun e => by cases e))]; exact hC.1, by rw [hup_n (hne hC.2.1 hC.2.2.2.2.1 (fun e => by cases e))]; exact hC.2.1, by rw [hup_n (hne hC.2.2.1 hC.2.2.2.2.1 (fun e => by cases e))]; exact hC.2.2.1, by rw [hup_n hC.2.2.2.2.2]; exact hC.2.2.2.1, hup_s, hC.2.2.2.2.2⟩, a1, ?_, a3, a4, a5⟩
  intro k hu
  obtain ⟨g1, g2⟩ := a2 k hu
  refine ⟨g1, g2.kept (fun ⟨ci, fs, hci, hq⟩ => hup_n (hne hq hC.2.2.2.2.1 (fun e => by cases e))) (fun hs _ => hup_n ?_)⟩
  rcases g2.2.2 with ⟨c1, -, -⟩ | c
  · rw [c1] at hs; exact absurd hs (by decide)
  · exact c.2.2.2.2.1
/-- the row that keeps changes, and what is kept with it -/
theorem RC.krow (R : RC i qx fx C φ ψ L K mn la sa ma ia cn mem kp kr hr pr) (kr' : Nat → Int64) : RC i qx (hup fx (C 2) (aJ 40 kr')) C φ ψ L K mn la sa ma ia cn mem kr' kr' hr pr ∨ ∃ k, K = some k := by
  cases K with
  | some k => exact Or.inr ⟨k, rfl⟩
  | none =>
    left
    obtain ⟨hC, a1, a2, a3, a4, a5⟩ := R
    refine ⟨⟨by rw [hup_n (hne hC.1 hC.2.2.2.1 (fun e => by cases e))]; exact hC.1, by rw [hup_n (hne hC.2.1 hC.2.2.2.1 (fun e => by cases e))]; exact hC.2.1, by rw [hup_n (hne hC.2.2.1 hC.2.2.2.1 (fun e => by cases e))]; exact hC.2.2.1, hup_s, by rw [hup_n (fun e => hC.2.2.2.2.2 e.symm)]; exact hC.2.2.2.2.1, hC.2.2.2.2.2⟩, a1, ?_, a3, fun k hk => (by cases hk), a5⟩
    intro k hu
    obtain ⟨g1, g2⟩ := a2 k hu
    refine ⟨g1, g2.kept (fun ⟨ci, fs, hci, hq⟩ => hup_n (hne hq hC.2.2.2.1 (fun e => by cases e))) (fun hs _ => hup_n ?_)⟩
    rcases g2.2.2 with ⟨c1, -, -⟩ | c
    · rw [c1] at hs; exact absurd hs (by decide)
    · exact c.2.2.2.1
end RCs
theorem numbers_iff {f : hPl} {s : Int32} (h1 : 2 ≤ s.toInt) (h2 : s.toInt ≤ 10) : (s.toInt < 6 ∧ fX4_isOfNumbers f s = some 1) ∨ (6 ≤ s.toInt ∧ fX4_isOfNumbers f s = some 0) := by
  have e2 : (2 : Int32).toInt = 2 := by decide
  have e5 : (5 : Int32).toInt = 5 := by decide
  have h3 : ¬ s < 2 := fun q => by have := Int32.lt_iff_toInt_lt.mp q; omega
  by_cases h : (5 : Int32) < s
  · have := Int32.lt_iff_toInt_lt.mp h
    exact Or.inr ⟨by omega, by simp [fX4_isOfNumbers, h3, h]⟩
  · have h4 : ¬ (5 : Int32).toInt < s.toInt := fun q => h (Int32.lt_iff_toInt_lt.mpr q)
    exact Or.inl ⟨by omega, by simp [fX4_isOfNumbers, h3, h]⟩
theorem m_set {qm : Nat} {fm : hPl} {z : Nat} {P x : Int32} {v s : Int32} (h : s = 2 ∨ s = 3 ∨ s = 4 ∨ s = 5) : (if s = 3 then fX4_set_j71 fm z qm P x v s ((v.toInt64) * (1000003 : Int64)) else fX4_set_j71 fm z qm P x v s (v.toInt64)) = fX4_set_j102 fm z qm P x (nv s v) := by
  rcases h with rfl | rfl | rfl | rfl
  · simp [fX4_set_j71, fX4_set_j90, nv]
  · simp [fX4_set_j71, fX4_set_j90, nv]
  · rw [if_neg (by decide)]
    unfold fX4_set_j71
    rw [if_pos rfl]
    unfold fX4_set_j90
    rw [if_neg (by decide), ← hbyte]
    simp [nv]
  · simp [fX4_set_j71, fX4_set_j90, nv]
theorem R_set : hS3 RI fX3_set fX4_set := by
  intro i z qx fx qm fm p x v hi hb h
  obtain ⟨B, C, φ, ψ, L, K, mn, la, sa, ma, ia, cn, mem, car, kp, kr, hr, pr, R⟩ := h
  have hM := R.1
  have hC := R.2.1
  have hI : RI (i + 1) qx fx qm fm := R_mono _ _ _ _ _ ⟨B, C, φ, ψ, L, K, mn, la, sa, ma, ia, cn, mem, car, kp, kr, hr, pr, R⟩
  rcases hplace p with h1 | ⟨P, hP, rfl⟩
  · exact ⟨-1, fx, z, fm, z, by simp [fX3_set, (fx_place_no (f := fx) h1).1], by simp [fX4_set, (fx_place_no (f := fm) h1).2], hI⟩
  have hpx := (fx_place_yes (f := fx) hP).1
  have hpm := (fx_place_yes (f := fm) hP).2
  rcases R.pl hP with ⟨h1, h2, h3⟩ | ⟨k, h1, hu, hk, h2, h3, h4, h5⟩
  · exact ⟨1, fx, z, fm, z, by simp [fX3_set, hpx, hC.q0, hC.lp hP, h3], by simp [fX4_set, hpm, hM.q0, hM.l0 hP, h2], hI⟩
  have hk1 := hsh_aux (show k < 2 ^ 31 by omega)
  rcases h5 with ⟨h5, h6, h7⟩ | ⟨t1, t2, t3, t4, t5, ⟨row, t6, t7⟩, t8⟩
  · exact ⟨2, fx, z, fm, z, by simp [fX3_set, hpx, hC.q0, hC.lp hP, h3, as_lamp h7], by simp [fX4_set, hpm, hM.q0, hM.l0 hP, h2, hk1, hM.ob, hM.sortOn hP hk h2, h5, fX4_isOfNumbers], hI⟩
  rcases numbers_iff (f := fm) t1 t2 with ⟨n1, n2⟩ | ⟨n1, n2⟩
  · have hs6 : sa k < 6 := Int32.lt_iff_toInt_lt.mpr (by have e6 : (6 : Int32).toInt = 6 := (by decide); omega)
    have hnum := num_cases t1 n1
    have hxn := x_num (fx := fx) (v := v) hnum
    by_cases hx : x < 0
    · exact ⟨3, fx, z, fm, z, by simp [fX3_set, hpx, hC.q0, hC.lp hP, h3, as_tray t6, t6.ob, t6.stones, hs6, t6.gs, hxn, t6.write_out t3 (Or.inl hx)], by simp [fX4_set, hpm, hM.q0, hM.l0 hP, h2, hk1, hM.ob, hM.sortOn hP hk h2, n2, hx], hI⟩
    · obtain ⟨j, hj, rfl⟩ := nI_of hx
      by_cases hjn : j < mn k
      · have h9 : nI j < nI (mn k) := nI_lt hjn (by omega)
        obtain ⟨fm', m1, m2⟩ := hM.s4 (show 40 * k + j < 400 by omega) (nv (sa k) v)
        have hRC : RC i qx fx C φ ψ L K mn la sa ma ia cn mem kp kr hr pr := R.2
        have hR := (hRC.cells hu t6 (row' := vp_updL row j (nv (sa k) v)) (mem' := vp_updL mem (40 * k + j) (nv (sa k) v)) (fun y hy => pk_uLn (by omega)) (fun j2 hj2 => by
          by_cases q : j2 = j
          · subst q; rw [pk_uLs, pk_uLs]
          · rw [pk_uLn q, pk_uLn (by omega)]; exact t7 j2 hj2) (fun hs => absurd hs (by omega))).more
        refine ⟨0, _, z, fm', z, ?_, ?_, B, C, φ, ψ, L, K, mn, la, sa, ma, ia, cn, _, car, kp, kr, hr, pr, m2, hR⟩
        · simp [fX3_set, hpx, hC.q0, hC.lp hP, h3, as_tray t6, t6.ob, t6.stones, hs6, t6.gs, hxn, t6.write t3 hjn]
        · simp only [fX4_set, hpm, Option.bind_some, hM.q0, hM.l0 hP, h2, if_neg hk1, hM.ob, hM.sortOn hP hk h2, n2, if_neg hx, hM.manyOn hP hk h2, h4, if_pos h9]
          rw [if_neg (by decide), if_neg (by decide), m_set hnum]
          simp [fX4_set_j102, hM.q4, hM.q0, hM.l0 hP, h2, nI_40, m1]
      · have h9 : ¬ nI j < nI (mn k) := nI_nlt (by omega) hj
        exact ⟨3, fx, z, fm, z, by simp [fX3_set, hpx, hC.q0, hC.lp hP, h3, as_tray t6, t6.ob, t6.stones, hs6, t6.gs, hxn, t6.write_out t3 (Or.inr (nI_le (show mn k ≤ j by omega) hj))], by simp [fX4_set, hpm, hM.q0, hM.l0 hP, h2, hk1, hM.ob, hM.sortOn hP hk h2, n2, hx, hM.manyOn hP hk h2, h4, h9], hI⟩
  · have hs6 : ¬ sa k < 6 := fun q => by
      have := Int32.lt_iff_toInt_lt.mp q
      have e6 : (6 : Int32).toInt = 6 := by decide
      omega
    exact ⟨2, fx, z, fm, z, by simp [fX3_set, hpx, hC.q0, hC.lp hP, h3, as_tray t6, t6.ob, t6.stones, hs6], by simp [fX4_set, hpm, hM.q0, hM.l0 hP, h2, hk1, hM.ob, hM.sortOn hP hk h2, n2], hI⟩
end
section
theorem hup_comm {f : hPl} {a b : Nat} {x y : hCe} (h : a ≠ b) : hup (hup f a x) b y = hup (hup f b y) a x := by
  funext q
  unfold hup
  by_cases h1 : q = b
  · subst h1; simp [Ne.symm h]
  · by_cases h2 : q = a
    · subst h2; simp [h]
    · simp [h1, h2]
theorem hup_hup {f : hPl} {a : Nat} {x y : hCe} : hup (hup f a x) a y = hup f a y := by
  funext q
  unfold hup
  by_cases h1 : q = a <;> simp [h1]
theorem cpy_0 {v m : Nat → Int64} {s b : Nat} : va_cpy v m s b 0 = m := by
  funext q
  unfold va_cpy
  rw [if_neg (by omega)]
theorem cpy_step {v m : Nat → Int64} {b t : Nat} : vp_updL (va_cpy v m 0 b t) (b + t) (v t) = va_cpy v m 0 b (t + 1) := by
  funext q
  unfold vp_updL
  by_cases h : q = b + t
  · subst h
    rw [if_pos rfl, pk_cpy_in (by omega) (by omega)]
    congr 1
    omega
  · rw [if_neg h]
    by_cases h1 : b ≤ q ∧ q < b + t
    · rw [pk_cpy_in h1.1 h1.2, pk_cpy_in h1.1 (by omega)]
    · rw [pk_cpy_out (by omega), pk_cpy_out (by omega)]
theorem x_copyFrom {f : hPl} {z a b n c m : Nat} {s : Int32} {row kr : Nat → Int64} (hT : TT f a s b n row) (hc : f c = some (aJ m kr)) (hn : n ≤ m) (hm : m < 2 ^ 31) : fX2_copyFrom f z a (some c) = some ((), hup f b (aJ n (va_cpy kr row 0 0 n)), z) := by
  have h1 : ¬ nI m < nI n := nI_nlt hn hm
  have h2 := g_cp (sp := 0) (dp := 0) (n := n) hc hT.2 (by omega) (by omega) hm (by omega)
  rw [nI_0] at h2
  simp [fX2_copyFrom, hT.q, hT.ln, g_ln hc, h1, h2]
theorem x_copyTo {f : hPl} {z a b n c m : Nat} {s : Int32} {row kr : Nat → Int64} (hT : TT f a s b n row) (hc : f c = some (aJ m kr)) (hn : n ≤ m) (hm : m < 2 ^ 31) : fX2_copyTo f z a (some c) = some ((), hup f c (aJ m (va_cpy row kr 0 0 n)), z) := by
  have h1 : ¬ nI m < nI n := nI_nlt hn hm
  have h2 := g_cp (sp := 0) (dp := 0) (n := n) hT.2 hc (by omega) (by omega) (by omega) hm
  rw [nI_0] at h2
  simp [fX2_copyTo, hT.q, hT.ln, g_ln hc, h1, h2]
theorem m_back {qm z : Nat} {B : Nat → Nat} {la sa ma ia cn : Nat → Int32} {mem car kp : Nat → Int64} {k n : Nat} (hk : k < 10) (hn : n ≤ 40) : ∀ (d i fuel : Nat) (fm : hPl), i + d = n → d < fuel → MX qm fm B la sa ma ia cn (va_cpy kp mem 0 (40 * k) i) car kp (nI k) → ∃ fm', fX4_back_j22 fuel fm z qm (nI n) (nI i) = some (nI n, fm', z) ∧ MX qm fm' B la sa ma ia cn (va_cpy kp mem 0 (40 * k) n) car kp (-1) := by
  intro d
  induction d with
  | zero =>
    intro i fuel fm hi hf hM
    obtain ⟨m, rfl⟩ : ∃ m, fuel = m + 1 := ⟨fuel - 1, by omega⟩
    have hin : i = n := by omega
    subst hin
    obtain ⟨fm', m1, m2⟩ := hM.s7 (-1)
    refine ⟨fm', ?_, m2⟩
    show fX4_back_j22s _ fm z qm _ _ = _
    simp [fX4_back_j22s, m1]
  | succ d ih =>
    intro i fuel fm hi hf hM
    obtain ⟨m, rfl⟩ : ∃ m, fuel = m + 1 := ⟨fuel - 1, by omega⟩
    have h1 : ¬ nI n ≤ nI i := nI_ge (by omega) (by omega)
    obtain ⟨fm1, m1, m2⟩ := hM.s4 (show 40 * k + i < 400 by omega) (kp i)
    rw [cpy_step] at m2
    obtain ⟨fm', g1, g2⟩ := ih (i + 1) m fm1 (by omega) (by omega) m2
    refine ⟨fm', ?_, g2⟩
    show fX4_back_j22s _ fm z qm _ _ = _
    simp [fX4_back_j22s, h1, hM.q4, hM.gk, hM.q6, hM.l6 (show i < 40 by omega), nI_40, m1, nI_1, g1]
theorem R_back : hS0 RI fX3_back fX4_back := by
  intro i z qx fx qm fm hi hb h
  obtain ⟨B, C, φ, ψ, L, K, mn, la, sa, ma, ia, cn, mem, car, kp, kr, hr, pr, R⟩ := h
  have hM := R.1
  have hC := R.2.1
  have hRC : RC i qx fx C φ ψ L K mn la sa ma ia cn mem kp kr hr pr := R.2
  have hI : RI (i + 1) qx fx qm fm := R_mono _ _ _ _ _ ⟨B, C, φ, ψ, L, K, mn, la, sa, ma, ia, cn, mem, car, kp, kr, hr, pr, R⟩
  cases K with
  | none => exact ⟨-1, fx, z, fm, z, by simp [fX3_back, hC.q3], by simp [fX4_back, hM.gk, hsh], hI⟩
  | some k =>
    have hu : US L (some k) k := Or.inr rfl
    obtain ⟨hk, e1, e2, e3⟩ := hRC.2.2.1 k hu
    obtain ⟨k1, k2, k3⟩ := hRC.2.2.2.2.1 k rfl
    have htr : TR fx C (φ k) (ψ k) (mn k) (sa k) (fun j => mem (40 * k + j)) := by
      rcases e3 with ⟨c1, -, -⟩ | c
      · rw [c1] at k1; exact absurd k1 (by decide)
      · exact c
    obtain ⟨t1, t2, t3, t4, t5, ⟨row, t6, t7⟩, t8⟩ := htr
    have hin : ∀ j, j < mn k → va_cpy kp mem 0 (40 * k) (mn k) (40 * k + j) = kp j := by
      intro j hj
      rw [pk_cpy_in (by omega) (by omega)]
      congr 1
      omega
    have hR1 := hRC.cells hu t6 (row' := va_cpy kr row 0 0 (mn k)) (mem' := va_cpy kp mem 0 (40 * k) (mn k)) (fun x hx => pk_cpy_out (by omega)) (fun j hj => by rw [hin j hj, pk_cpy_in (by omega) (by omega), ← k2 j hj]; congr 1; omega) (fun hs j hj => by rw [hin j hj]; exact k3 hs j hj)
    have hR2 := hR1.bench (i' := i + 1) (K' := none) (cn' := cn) (kp' := kp) (fun k hk => by cases hk) (by obtain ⟨t, g1, g2⟩ := hRC.2.2.2.2.2; exact ⟨t, by omega, g2⟩)
    have hput1 : hput fx qx 2 3 .null = some (hup fx qx (oC 2 [.ref (C 0), .ref (C 1), .ref (C 2), va_rf ((none : Option Nat).map φ), .int (cn 0), .int (cn 1), .int (cn 2), .int (cn 3), .int (cn 4), .int (cn 5), .int (cn 6)])) := g_put hC.1 (by simp)
    generalize hX : oC 2 [.ref (C 0), .ref (C 1), .ref (C 2), va_rf ((none : Option Nat).map φ), .int (cn 0), .int (cn 1), .int (cn 2), .int (cn 3), .int (cn 4), .int (cn 5), .int (cn 6)] = X at hput1 hR2
    have hC4 : CX qx (hup fx qx X) C pr none kr hr cn := by
      have := hC.bench none cn
      rw [← hX]
      exact this
    have hqψ : qx ≠ ψ k := hne hC.1 t6.2 (fun e => by cases e)
    have hT4 : TT (hup fx qx X) (φ k) (sa k) (ψ k) (mn k) row := t6.kept (hup_n (hne t6.1 hC.1 (oC_ne (by omega)))) (hup_n hqψ.symm)
    have hcp := x_copyFrom (z := z) hT4 hC4.2.2.2.1 t3 (by omega)
    have hT5 : TT (hup (hup fx qx X) (ψ k) (aJ (mn k) (va_cpy kr row 0 0 (mn k)))) (φ k) (sa k) (ψ k) (mn k) (va_cpy kr row 0 0 (mn k)) := ⟨by rw [hup_n (hne hT4.1 hT4.2 (fun e => by cases e))]; exact hT4.1, hup_s⟩
    rw [← hup_comm hqψ] at hR2
    have hM0 : MX qm fm B la sa ma ia cn (va_cpy kp mem 0 (40 * k) 0) car kp (nI k) := by rw [cpy_0]; exact hM
    obtain ⟨fm', m1, m2⟩ := m_back (z := z) hk t3 (mn k) 0 64 fm (by omega) (by omega) hM0
    rw [nI_0] at m1
    refine ⟨nI (mn k), _, z, fm', z, ?_, ?_, B, C, φ, ψ, L, none, mn, la, sa, ma, ia, cn, _, car, kp, kr, hr, pr, m2, hR2⟩
    · simp [fX3_back, hC.q3, hput1, hC4.q2, hT4.ob, hcp, hT5.ob, hT5.size]
    · have h9 := hsh_aux (show k < 2 ^ 31 by omega)
      simp [fX4_back, hM.gk, hsh, h9, hM.q2, hM.l2 hk, e1, m1]
end
section
/-! which shelves are used -/
theorem m_usedL {qm : Nat} {fm : hPl} {B : Nat → Nat} {la sa ma ia cn : Nat → Int32} {mem car kp : Nat → Int64} {ke : Int32} (hM : MX qm fm B la sa ma ia cn mem car kp ke) {v : Int32} : ∀ (d i fuel : Nat), i + d = 8 → d < fuel → fX4_isUsed_j16 fuel fm qm v 1 (nI i) = some 1 ∧ ((∃ p, i ≤ p ∧ p < 8 ∧ la p = v) → fX4_isUsed_j16 fuel fm qm v 0 (nI i) = some 1) ∧ ((¬ ∃ p, i ≤ p ∧ p < 8 ∧ la p = v) → fX4_isUsed_j16 fuel fm qm v 0 (nI i) = some 0) := by
  intro d
  induction d with
  | zero =>
    intro i fuel hi hf
    obtain ⟨m, rfl⟩ : ∃ m, fuel = m + 1 := ⟨fuel - 1, by omega⟩
    have h1 : (8 : Int32) ≤ nI i := by rw [show (8 : Int32) = nI 8 from by decide]; exact nI_le (by omega) (by omega)
    refine ⟨?_, fun ⟨p, q1, q2, _⟩ => absurd q1 (by omega), fun _ => ?_⟩
    · show fX4_isUsed_j16s _ fm qm v 1 (nI i) = _
      simp [fX4_isUsed_j16s, h1]
    · show fX4_isUsed_j16s _ fm qm v 0 (nI i) = _
      simp [fX4_isUsed_j16s, h1]
  | succ d ih =>
    intro i fuel hi hf
    obtain ⟨m, rfl⟩ : ∃ m, fuel = m + 1 := ⟨fuel - 1, by omega⟩
    have h1 : ¬ (8 : Int32) ≤ nI i := by rw [show (8 : Int32) = nI 8 from by decide]; exact nI_ge (by omega) (by omega)
    obtain ⟨g1, g2, g3⟩ := ih (i + 1) m (by omega) (by omega)
    have hi8 : i < 8 := by omega
    refine ⟨?_, ?_, ?_⟩
    · show fX4_isUsed_j16s _ fm qm v 1 (nI i) = _
      simp [fX4_isUsed_j16s, h1, nI_1, g1]
    · rintro ⟨p, q1, q2, q3⟩
      show fX4_isUsed_j16s _ fm qm v 0 (nI i) = _
      by_cases h2 : la i = v
      · simp [fX4_isUsed_j16s, h1, hM.q0, hM.l0 hi8, h2, nI_1, g1]
      · have h3 := g2 ⟨p, by
          rcases Nat.lt_or_ge i p with q | q
          · omega
          · have : p = i := by omega
            subst this
            exact absurd q3 h2, q2, q3⟩
        simp [fX4_isUsed_j16s, h1, hM.q0, hM.l0 hi8, h2, nI_1, h3]
    · intro hq
      have h2 : ¬ la i = v := fun h => hq ⟨i, Nat.le_refl _, hi8, h⟩
      have h3 := g3 (fun ⟨p, q1, q2, q3⟩ => hq ⟨p, by omega, q2, q3⟩)
      show fX4_isUsed_j16s _ fm qm v 0 (nI i) = _
      simp [fX4_isUsed_j16s, h1, hM.q0, hM.l0 hi8, h2, nI_1, h3]
theorem hsh_iff {o : Option Nat} {k : Nat} (ho : ∀ j, o = some j → j < 10) (hk : k < 10) : nI k = hsh o ↔ o = some k := by
  cases o with
  | none => exact ⟨fun h => absurd h (hsh_aux (by omega)), fun h => by cases h⟩
  | some j =>
    have hj := ho j rfl
    show nI k = nI j ↔ _
    rw [nI_eq (by omega) (by omega)]
    exact ⟨fun h => by rw [h], fun h => (Option.some.inj h).symm⟩
theorem m_used {qm : Nat} {fm : hPl} {B : Nat → Nat} {la sa ma ia cn : Nat → Int32} {mem car kp : Nat → Int64} {L : Nat → Option Nat} {K : Option Nat} (hM : MX qm fm B la sa ma ia cn mem car kp (hsh K)) (hla : ∀ p, p < 8 → la p = hsh (L p)) (hL : ∀ p, p < 8 → ∀ j, L p = some j → j < 10) (hK : ∀ j, K = some j → j < 10) {k : Nat} (hk : k < 10) : (US L K k → fX4_isUsed fm qm (nI k) = some 1) ∧ (¬ US L K k → fX4_isUsed fm qm (nI k) = some 0) := by
  obtain ⟨g1, g2, g3⟩ := m_usedL hM (v := nI k) 8 0 64 (by omega) (by omega)
  rw [nI_0] at g1 g2 g3
  have e1 : ∀ p, p < 8 → (la p = nI k ↔ L p = some k) := fun p hp => by
    rw [hla p hp]
    exact ⟨fun h => (hsh_iff (hL p hp) hk).mp h.symm, fun h => ((hsh_iff (hL p hp) hk).mpr h).symm⟩
  have e2 := hsh_iff hK hk
  refine ⟨fun hu => ?_, fun hu => ?_⟩
  · by_cases h1 : nI k = hsh K
    · simp [fX4_isUsed, hM.gk, h1.symm, g1]
    · rcases hu with ⟨p, hp, hq⟩ | hq
      · simp [fX4_isUsed, hM.gk, h1, g2 ⟨p, by omega, hp, (e1 p hp).mpr hq⟩]
      · exact absurd (e2.mpr hq) h1
  · have h1 : ¬ nI k = hsh K := fun h => hu (Or.inr (e2.mp h))
    simp [fX4_isUsed, hM.gk, h1, g3 (fun ⟨p, _, hp, hq⟩ => hu (Or.inl ⟨p, hp, (e1 p hp).mp hq⟩))]
/-! nine shelves, eight at most in use -/
theorem pigeon : ∀ (n : Nat) (u : List Nat), (∀ k, k < n → k ∈ u) → n ≤ u.length := by
  intro n
  induction n with
  | zero => intro u _; omega
  | succ n ih =>
    intro u h
    have h1 := h n (by omega)
    have h2 := ih (u.erase n) (fun k hk => (List.mem_erase_of_ne (by omega)).mpr (h k (by omega)))
    rw [List.length_erase_of_mem h1] at h2
    have h3 : 0 < u.length := List.length_pos_of_mem h1
    omega
theorem filt7 : ∀ P, P < 8 → ((List.range 8).filter (fun q => decide (q ≠ P))).length = 7 := by decide
theorem free_shelf (L : Nat → Option Nat) (K : Option Nat) {P : Nat} (hP : P < 8) : ∃ k, k < 9 ∧ ¬ US (va_up L P none) K k := by
  refine Classical.byContradiction fun hno => ?_
  have hall : ∀ k, k < 9 → US (va_up L P none) K k := fun k hk => Classical.byContradiction fun h => hno ⟨k, hk, h⟩
  have h1 := pigeon 9 (((List.range 8).filter (fun q => decide (q ≠ P))).filterMap L ++ K.toList) (fun k hk => by
    rcases hall k hk with ⟨p, hp, hq⟩ | hq
    · by_cases hpP : p = P
      · subst hpP; simp [va_up] at hq
      · simp [va_up, hpP] at hq
        refine List.mem_append_left _ (List.mem_filterMap.mpr ⟨p, List.mem_filter.mpr ⟨List.mem_range.mpr hp, by simp [hpP]⟩, hq⟩)
    · exact List.mem_append_right _ (by simp [hq]))
  have h2 := List.length_filterMap_le L ((List.range 8).filter (fun q => decide (q ≠ P)))
  rw [filt7 P hP] at h2
  rw [List.length_append] at h1
  have h3 : K.toList.length ≤ 1 := by cases K <;> simp
  omega
/-! the reference lays a thing -/
theorem m_zero {qm z : Nat} {B : Nat → Nat} {la sa ma ia cn : Nat → Int32} {mem car kp : Nat → Int64} {ke : Int32} {P k : Nat} (hP : P < 8) (hk : k < 10) : ∀ (d i fuel : Nat) (fm : hPl), i + d = 40 → d < fuel → MX qm fm B la sa ma ia cn (va_cpy (fun _ => 0) mem 0 (40 * k) i) car kp ke → ∃ fm', fX4_lay_j112 fuel fm z qm (nI P) (nI k) (nI i) = some (1, fm', z) ∧ MX qm fm' B (upd la P (nI k)) sa ma ia cn (va_cpy (fun _ => 0) mem 0 (40 * k) 40) car kp ke := by
  intro d
  induction d with
  | zero =>
    intro i fuel fm hi hf hM
    obtain ⟨m, rfl⟩ : ∃ m, fuel = m + 1 := ⟨fuel - 1, by omega⟩
    have hin : i = 40 := by omega
    subst hin
    obtain ⟨fm', m1, m2⟩ := hM.s0 hP (nI k)
    refine ⟨fm', ?_, m2⟩
    have h1 : (40 : Int32) ≤ nI 40 := by decide
    show fX4_lay_j112s _ fm z qm _ _ _ = _
    simp [fX4_lay_j112s, h1, hM.q0, m1]
  | succ d ih =>
    intro i fuel fm hi hf hM
    obtain ⟨m, rfl⟩ : ∃ m, fuel = m + 1 := ⟨fuel - 1, by omega⟩
    have h1 : ¬ (40 : Int32) ≤ nI i := by rw [show (40 : Int32) = nI 40 from by decide]; exact nI_ge (by omega) (by omega)
    obtain ⟨fm1, m1, m2⟩ := hM.s4 (show 40 * k + i < 400 by omega) ((fun _ => 0 : Nat → Int64) i)
    rw [cpy_step] at m2
    obtain ⟨fm', g1, g2⟩ := ih (i + 1) m fm1 (by omega) (by omega) m2
    refine ⟨fm', ?_, g2⟩
    show fX4_lay_j112s _ fm z qm _ _ _ = _
    simp [fX4_lay_j112s, h1, hM.q4, nI_40, m1, nI_1, g1]
theorem m_lay74 {qm z : Nat} {fm : hPl} {B : Nat → Nat} {la sa ma ia cn : Nat → Int32} {mem car kp : Nat → Int64} {ke : Int32} (hM : MX qm fm B la sa ma ia cn mem car kp ke) {P k : Nat} (hP : P < 8) (hk : k < 10) {s n m' : Int32} (hs : (fX4_isTray fm s = some 0 ∧ m' = 0) ∨ (fX4_isTray fm s = some 1 ∧ m' = n)) : ∃ fm', fX4_lay_j74 fm z qm (nI P) s n (nI k) = some (1, fm', z) ∧ MX qm fm' B (upd la P (nI k)) (upd sa k s) (upd ma k m') (upd ia k 0) cn (va_cpy (fun _ => 0) mem 0 (40 * k) 40) car kp ke := by
  obtain ⟨f1, a1, a2⟩ := hM.s1 hk s
  obtain ⟨f2, b1, b2⟩ := a2.s2 hk m'
  obtain ⟨f3, c1, c2⟩ := b2.s3 hk 0
  have c3 : MX qm f3 B la (upd sa k s) (upd ma k m') (upd ia k 0) cn (va_cpy (fun _ => 0) mem 0 (40 * k) 0) car kp ke := by rw [cpy_0]; exact c2
  obtain ⟨fm', d1, d2⟩ := m_zero (z := z) hP hk 40 0 64 f3 (by omega) (by omega) c3
  rw [nI_0] at d1
  refine ⟨fm', ?_, d2⟩
  have hs' : (fX4_isTray f1 s = some 0 ∧ m' = 0) ∨ (fX4_isTray f1 s = some 1 ∧ m' = n) := hs
  rcases hs' with ⟨hs1, rfl⟩ | ⟨hs1, rfl⟩
  · simp [fX4_lay_j74, hM.q1, a1, a2.q2, hs1, fX4_lay_j100, b1, b2.q3, c1, d1]
  · simp [fX4_lay_j74, hM.q1, a1, a2.q2, hs1, fX4_lay_j100, b1, b2.q3, c1, d1]
theorem m_find {qm z : Nat} {fm : hPl} {B : Nat → Nat} {la sa ma ia cn : Nat → Int32} {mem car kp : Nat → Int64} {L : Nat → Option Nat} {K : Option Nat} (hM : MX qm fm B la sa ma ia cn mem car kp (hsh K)) (hla : ∀ p, p < 8 → la p = hsh (L p)) (hL : ∀ p, p < 8 → ∀ j, L p = some j → j < 10) (hK : ∀ j, K = some j → j < 10) {k : Nat} (hk : k < 9) (hun : ¬ US L K k) (hle : ∀ j, j < k → US L K j) {p s n : Int32} : ∀ (d i fuel : Nat), i + d = k → d < fuel → fX4_lay_j52 fuel fm z qm p s n (nI i) = fX4_lay_j74 fm z qm p s n (nI k) := by
  intro d
  induction d with
  | zero =>
    intro i fuel hi hf
    obtain ⟨m, rfl⟩ : ∃ m, fuel = m + 1 := ⟨fuel - 1, by omega⟩
    have hin : i = k := by omega
    subst hin
    have h1 : ¬ (9 : Int32) ≤ nI i := by rw [show (9 : Int32) = nI 9 from by decide]; exact nI_ge (by omega) (by omega)
    have h2 := (m_used hM hla hL hK (show i < 10 by omega)).2 hun
    show fX4_lay_j52s _ fm z qm _ _ _ _ = _
    simp [fX4_lay_j52s, h1, hM.ob, h2]
  | succ d ih =>
    intro i fuel hi hf
    obtain ⟨m, rfl⟩ : ∃ m, fuel = m + 1 := ⟨fuel - 1, by omega⟩
    have h1 : ¬ (9 : Int32) ≤ nI i := by rw [show (9 : Int32) = nI 9 from by decide]; exact nI_ge (by omega) (by omega)
    have h2 := (m_used hM hla hL hK (show i < 10 by omega)).1 (hle i (by omega))
    have h3 := ih (i + 1) m (by omega) (by omega)
    show fX4_lay_j52s _ fm z qm _ _ _ _ = _
    simp [fX4_lay_j52s, h1, hM.ob, h2, nI_1, h3]
/-- the class lays a thing -/
theorem RC.put {i qx : Nat} {fx : hPl} {C φ ψ : Nat → Nat} {L : Nat → Option Nat} {K : Option Nat} {mn : Nat → Nat} {la sa ma ia cn : Nat → Int32} {mem kp kr hr : Nat → Int64} {pr : Nat → Option Nat} (R : RC i qx fx C φ ψ L K mn la sa ma ia cn mem kp kr hr pr) {P k a0 b0 n0 : Nat} {s0 : Int32} {fx2 : hPl} {mem' : Nat → Int64} (hP : P < 8) (hk : k < 10) (hun : ¬ US (va_up L P none) K k) (hold : ∀ a e, fx a = some e → fx2 a = some e) (hfa : fx a0 = none) (hfb : fx b0 = none) (hnew : TH fx2 C a0 b0 n0 s0 0 (nI n0) (fun j => mem' (40 * k + j))) (hmem : ∀ x, (x < 40 * k ∨ 40 * k + 40 ≤ x) → mem' x = mem x) :
    RC i qx (hup fx2 (C 0) (aQ 8 (va_up pr P (some a0)))) C (va_up φ k a0) (va_up ψ k b0) (va_up L P (some k)) K (va_up mn k n0) (upd la P (nI k)) (upd sa k s0) (upd ma k (nI n0)) (upd ia k 0) cn mem' kp kr hr (va_up pr P (some a0)) := by
  obtain ⟨hC, a1, a2, a3, a4, a5⟩ := R
  have hKk : ∀ j, K = some j → j ≠ k := fun j hj e => hun (Or.inr (by rw [hj, e]))
  have hkt : K.map (va_up φ k a0) = K.map φ := by
    cases K with
    | none => rfl
    | some j =>
      have := hKk j rfl
      simp [va_up, this]
  have hus : ∀ j, US (va_up L P (some k)) K j → j = k ∨ (j ≠ k ∧ US L K j) := by
    intro j hu
    by_cases hjk : j = k
    · exact Or.inl hjk
    · refine Or.inr ⟨hjk, ?_⟩
      rcases hu with ⟨p, hp, hq⟩ | hq
      · by_cases hpP : p = P
        · subst hpP
          simp [va_up] at hq
          exact absurd hq.symm hjk
        · simp [va_up, hpP] at hq
          exact Or.inl ⟨p, hp, hq⟩
      · exact Or.inr hq
  have hLk : ∀ p, p < 8 → p ≠ P → ∀ j, L p = some j → j ≠ k := fun p hp hpP j hj e => hun (Or.inl ⟨p, hp, by simp [va_up, hpP, hj, e]⟩)
  have hC2 : CX qx fx2 C pr (K.map φ) kr hr cn := ⟨hold _ _ hC.1, hold _ _ hC.2.1, hold _ _ hC.2.2.1, hold _ _ hC.2.2.2.1, hold _ _ hC.2.2.2.2.1, hC.2.2.2.2.2⟩
  refine ⟨by rw [hkt]; exact hC2.places _, ?_, ?_, ?_, ?_, a5⟩
  · intro p hp
    by_cases hpP : p = P
    · subst hpP
      rw [pk_us]
      refine ⟨?_, ?_⟩
      · simp [va_up, hsh]
      · simp [va_up]
    · rw [pk_un hpP]
      obtain ⟨g1, g2⟩ := a1 p hp
      simp only [va_up, if_neg hpP]
      refine ⟨g1, ?_⟩
      rw [g2]
      cases hL : L p with
      | none => rfl
      | some j => simp [va_up, hLk p hp hpP j hL]
  · intro j hu
    rcases hus j hu with rfl | ⟨hjk, hu'⟩
    · refine ⟨hk, ?_⟩
      rw [pk_us, pk_us, pk_us]
      simp only [va_up, if_true]
      exact hnew.kept (fun ⟨ci, fs, _, hq⟩ => hup_n (hne hq hC2.2.1 (fun e => by cases e))) (fun _ ⟨n, row, hq⟩ => hup_n (hne hq hC2.2.1 (fun e => by cases e)))
    · obtain ⟨g1, g2⟩ := a2 j hu'
      refine ⟨g1, ?_⟩
      rw [pk_un hjk, pk_un hjk, pk_un hjk]
      simp only [va_up, if_neg hjk]
      have g3 : TH fx2 C (φ j) (ψ j) (mn j) (sa j) (ia j) (ma j) (fun q => mem (40 * j + q)) := g2.kept (fun ⟨ci, fs, _, hq⟩ => by rw [hq]; exact hold _ _ hq) (fun _ ⟨n, row, hq⟩ => by rw [hq]; exact hold _ _ hq)
      have g4 : TH (hup fx2 (C 0) (aQ 8 fun j => if j = P then some a0 else pr j)) C (φ j) (ψ j) (mn j) (sa j) (ia j) (ma j) (fun q => mem (40 * j + q)) := g3.kept (fun ⟨ci, fs, _, hq⟩ => hup_n (hne hq hC2.2.1 (fun e => by cases e))) (fun _ ⟨n, row, hq⟩ => hup_n (hne hq hC2.2.1 (fun e => by cases e)))
      obtain ⟨d1, d2, d3⟩ := g4
      refine ⟨d1, d2, ?_⟩
      rcases d3 with d3 | ⟨e1, e2, e3, e4, e5, ⟨r2, e6, e7⟩, e8⟩
      · exact Or.inl d3
      · have hsame : ∀ q, q < mn j → mem' (40 * j + q) = mem (40 * j + q) := by
          intro q hq
          apply hmem
          have : mn j ≤ 40 := e3
          rcases Nat.lt_or_gt_of_ne hjk with w | w
          · left; omega
          · right; omega
        exact Or.inr ⟨e1, e2, e3, e4, e5, ⟨r2, e6, fun q hq => (e7 q hq).trans (hsame q hq).symm⟩, fun hs q hq => by show GD (mem' (40 * j + q)); rw [hsame q hq]; exact e8 hs q hq⟩
  · -- apart
    have hφ : ∀ j, US L K j → φ j ≠ a0 := by
      intro j hu e
      obtain ⟨g1, g2, g3, g4⟩ := a2 j hu
      rcases g4 with ⟨-, -, c⟩ | ⟨-, -, -, -, -, ⟨row, c, -⟩, -⟩
      · rw [e] at c; rw [show fx a0 = _ from c] at hfa; cases hfa
      · have c1 := c.1; rw [e, hfa] at c1; cases c1
    have hψ : ∀ j, US L K j → 2 ≤ (sa j).toInt → ψ j ≠ b0 := by
      intro j hu hs e
      obtain ⟨g1, g2, g3, g4⟩ := a2 j hu
      rcases g4 with ⟨c, -, -⟩ | ⟨-, -, -, -, -, ⟨row, c, -⟩, -⟩
      · rw [c] at hs; exact absurd hs (by decide)
      · have c1 := c.2; rw [e, hfb] at c1; cases c1
    intro j j' hu hu' hjj
    rcases hus j hu with rfl | ⟨hjk, hu1⟩
    · rcases hus j' hu' with rfl | ⟨hjk', hu1'⟩
      · exact absurd rfl hjj
      · rw [pk_us, pk_un hjk']
        simp only [va_up, if_true, if_neg hjk']
        exact ⟨fun e => hφ j' hu1' e.symm, fun _ hs e => hψ j' hu1' hs e.symm⟩
    · rcases hus j' hu' with rfl | ⟨hjk', hu1'⟩
      · rw [pk_us, pk_un hjk]
        simp only [va_up, if_true, if_neg hjk]
        exact ⟨hφ j hu1, fun hs _ => hψ j hu1 hs⟩
      · rw [pk_un hjk, pk_un hjk']
        simp only [va_up, if_neg hjk, if_neg hjk']
        exact a3 j j' hu1 hu1' hjj
  · intro j hj
    have hjk := hKk j hj
    rw [pk_un hjk]
    simp only [va_up, if_neg hjk]
    exact a4 j hj
theorem tray_iff {f : hPl} {s : Int32} (h0 : ¬ s < 0) (h10 : ¬ (10 : Int32) < s) (h1 : ¬ s = 0) : (s = 1 ∧ fX4_isTray f s = some 0) ∨ (¬ s = 1 ∧ 2 ≤ s.toInt ∧ s.toInt ≤ 10 ∧ fX4_isTray f s = some 1) := by
  have e10 : (10 : Int32).toInt = 10 := by decide
  have e2 : (2 : Int32).toInt = 2 := by decide
  have g10 : s.toInt ≤ 10 := by
    have : ¬ (10 : Int32).toInt < s.toInt := fun q => h10 (Int32.lt_iff_toInt_lt.mpr q)
    omega
  have g0 : 0 ≤ s.toInt := by
    have : ¬ s.toInt < (0 : Int32).toInt := fun q => h0 (Int32.lt_iff_toInt_lt.mpr q)
    simpa using this
  have g1 : s.toInt ≠ 0 := fun q => h1 (Int32.toInt_inj.mp (by rw [q]; rfl))
  by_cases h : s = 1
  · subst h
    exact Or.inl ⟨rfl, by simp [fX4_isTray]⟩
  · have g2 : s.toInt ≠ 1 := fun q => h (Int32.toInt_inj.mp (by rw [q]; rfl))
    have g3 : ¬ s < 2 := fun q => by have := Int32.lt_iff_toInt_lt.mp q; omega
    exact Or.inr ⟨h, by omega, g10, by simp [fX4_isTray, g3, h10]⟩
theorem gd0 : GD 0 := Or.inl (by decide +kernel)
end
section
theorem below_none {fx : hPl} {z a : Nat} (h : hBelow fx z) (ha : z ≤ a) : fx a = none := by
  cases hf : fx a with
  | none => rfl
  | some e => have := h a e hf; omega
/-- a Lamp is made -/
theorem x_lamp {f : hPl} {z : Nat} : fX0_init (hup f z (oC 0 [.int 0, .int 0])) (z + 1) z = some ((), hup f z (oC 0 [.int 1, .int 0]), z + 1) := by
  have h1 : hkd (hup f z (oC 0 [.int 0, .int 0])) z = some 0 := g_kd hup_s
  have h2 : hput (hup f z (oC 0 [.int 0, .int 0])) z 0 0 (.int 1) = some (hup (hup f z (oC 0 [.int 0, .int 0])) z (oC 0 [.int 1, .int 0])) := g_put hup_s (by simp)
  simp [fX0_init, fX1_init, hputT, h1, h2, hup_hup]
/-- a Tray is made -/
theorem x_tray {f : hPl} {z n : Nat} {s : Int32} (hn : n ≤ 40) : fX2_init (hup f z (oC 1 [.int 0, .null])) (z + 1) z s (nI n) = some ((), hup (hup f (z + 1) (aJ n (fun _ => 0))) z (oC 1 [.int s, .ref (z + 1)]), z + 2) := by
  have h1 : hkd (hup f z (oC 1 [.int 0, .null])) z = some 1 := g_kd hup_s
  have h2 : hput (hup f z (oC 1 [.int 0, .null])) z 1 0 (.int s) = some (hup (hup f z (oC 1 [.int 0, .null])) z (oC 1 [.int s, .null])) := g_put hup_s (by simp)
  have h3 : hput (hup (hup f z (oC 1 [.int s, .null])) (z + 1) (aJ n (fun _ => 0))) z 1 1 (.ref (z + 1)) = some (hup (hup (hup f z (oC 1 [.int s, .null])) (z + 1) (aJ n (fun _ => 0))) z (oC 1 [.int s, .ref (z + 1)])) := g_put (fs := [.int s, .null]) (by rw [hup_n (by omega)]; exact hup_s) (by simp)
  have h4 : (nI n).toNatClampNeg = n := nI_clamp (by omega)
  have h5 : ¬ nI n < 0 := nI_pos (by omega)
  have h6 : hup (hup (hup f z (oC 1 [.int s, .null])) (z + 1) (aJ n (fun _ => 0))) z (oC 1 [.int s, .ref (z + 1)]) = hup (hup f (z + 1) (aJ n (fun _ => 0))) z (oC 1 [.int s, .ref (z + 1)]) := by
    rw [hup_comm (f := f) (by omega), hup_hup]
  rw [h6] at h3
  simp [fX2_init, fX1_init, hputT, h1, h2, hup_hup, h4, h5, hn, h3]
theorem RI_of {i qx : Nat} {fx : hPl} {qm : Nat} {fm : hPl} {B C φ ψ : Nat → Nat} {L : Nat → Option Nat} {K : Option Nat} {mn : Nat → Nat} {la sa ma ia cn : Nat → Int32} {mem car kp kr hr : Nat → Int64} {pr : Nat → Option Nat} (hM : MX qm fm B la sa ma ia cn mem car kp (hsh K)) (hR : RC i qx fx C φ ψ L K mn la sa ma ia cn mem kp kr hr pr) : RI i qx fx qm fm := ⟨B, C, φ, ψ, L, K, mn, la, sa, ma, ia, cn, mem, car, kp, kr, hr, pr, hM, hR⟩
theorem R_lay : hS3 RI fX3_lay fX4_lay := by
  intro i z qx fx qm fm p s n hi hb h
  obtain ⟨B, C, φ, ψ, L, K, mn, la, sa, ma, ia, cn, mem, car, kp, kr, hr, pr, R⟩ := h
  have hM := R.1
  have hC := R.2.1
  have hRC : RC i qx fx C φ ψ L K mn la sa ma ia cn mem kp kr hr pr := R.2
  have hI : RI (i + 1) qx fx qm fm := R_mono _ _ _ _ _ ⟨B, C, φ, ψ, L, K, mn, la, sa, ma, ia, cn, mem, car, kp, kr, hr, pr, R⟩
  rcases hplace p with h1 | ⟨P, hP, rfl⟩
  · exact ⟨0, fx, z, fm, z, by simp [fX3_lay, (fx_place_no (f := fx) h1).1], by simp [fX4_lay, (fx_place_no (f := fm) h1).2], hI⟩
  have hpx := (fx_place_yes (f := fx) hP).1
  have hpm := (fx_place_yes (f := fm) hP).2
  by_cases hs0 : s < 0
  · exact ⟨0, fx, z, fm, z, by simp [fX3_lay, hpx, hs0], by simp [fX4_lay, hpm, hs0], hI⟩
  by_cases hs10 : (10 : Int32) < s
  · have h1 : ¬ s ≤ 10 := Int32.not_le.mpr hs10
    exact ⟨0, fx, z, fm, z, by simp [fX3_lay, hpx, hs0, h1], by simp [fX4_lay, hpm, hs0, hs10], hI⟩
  have hs10' : s ≤ 10 := Int32.not_lt.mp hs10
  obtain ⟨fm1, m1, m2⟩ := hM.s0 hP (-1)
  -- the place is cleared in the reference
  by_cases hsz : s = 0
  · subst hsz
    have hs : hsQ fx (C 0) (nI P) none = some (hup fx (C 0) (aQ 8 (va_up pr P none))) := g_sQ hC.2.1 hP (by omega)
    have hR := R.places (Q := P) (o := none) (fun k hk => by cases hk) (la' := upd la P (-1)) rfl m2
    exact ⟨1, _, z, fm1, z, by simp [fX3_lay, hpx, hC.q0, hs], by simp [fX4_lay, hpm, fX4_isTray, fX4_lay_j36, hM.q0, m1], B, C, φ, ψ, _, K, mn, _, sa, ma, ia, cn, mem, car, kp, kr, hr, _, hR⟩
  -- a free shelf
  obtain ⟨k, ⟨hk9, hun⟩, hle⟩ := pk_least (fun k => k < 9 ∧ ¬ US (va_up L P none) K k) (free_shelf L K hP)
  have hle' : ∀ j, j < k → US (va_up L P none) K j := fun j hj => Classical.byContradiction fun hq => hle j hj ⟨by omega, hq⟩
  have hL10 : ∀ p, p < 8 → ∀ j, va_up L P none p = some j → j < 10 := by
    intro p hp j hj
    by_cases hpP : p = P
    · subst hpP; simp [va_up] at hj
    · simp [va_up, hpP] at hj
      exact (hRC.2.2.1 j (Or.inl ⟨p, hp, hj⟩)).1
  have hK10 : ∀ j, K = some j → j < 10 := fun j hj => (hRC.2.2.1 j (Or.inr hj)).1
  have hla1 : ∀ p, p < 8 → upd la P (-1) p = hsh (va_up L P none p) := by
    intro p hp
    by_cases hpP : p = P
    · subst hpP; rw [pk_us]; simp [va_up, hsh]
    · rw [pk_un hpP]; simp only [va_up, if_neg hpP]; exact (hRC.2.1 p hp).1
  have hupd : upd (upd la P (-1)) P (nI k) = upd la P (nI k) := by
    funext q
    by_cases hq : q = P
    · subst hq; rw [pk_us, pk_us]
    · rw [pk_un hq, pk_un hq, pk_un hq]
  have hmem : ∀ x, (x < 40 * k ∨ 40 * k + 40 ≤ x) → va_cpy (fun _ => 0) mem 0 (40 * k) 40 x = mem x := fun x hx => pk_cpy_out (by omega)
  have hmem0 : ∀ j, j < 40 → va_cpy (fun _ => 0) mem 0 (40 * k) 40 (40 * k + j) = 0 := fun j hj => pk_cpy_in (by omega) (by omega)
  have hz0 : fx z = none := below_none hb (Nat.le_refl _)
  have hz1 : fx (z + 1) = none := below_none hb (by omega)
  have hnz : ∀ a e, fx a = some e → a ≠ z ∧ a ≠ z + 1 := fun a e he => by have := hb a e he; omega
  have hfind := fun zz s n => m_find (z := zz) (p := nI P) (s := s) (n := n) m2 hla1 hL10 hK10 hk9 hun hle' k 0 64 (by omega) (by omega)
  rw [nI_0] at hfind
  rcases tray_iff (f := fm) hs0 hs10 hsz with ⟨rfl, ht⟩ | ⟨hs1, g1, g2, ht⟩
  · obtain ⟨fm2, n1, n2⟩ := m_lay74 (z := z + 1) m2 hP (show k < 10 by omega) (s := 1) (n := n) (m' := 0) (Or.inl ⟨by simp [fX4_isTray], rfl⟩)
    rw [hupd] at n2
    have hnew : TH (hup fx z (oC 0 [.int 1, .int 0])) C z z 0 1 0 (nI 0) (fun j => va_cpy (fun _ => 0) mem 0 (40 * k) 40 (40 * k + j)) := ⟨rfl, fun e => (hnz _ _ hC.2.2.1).1 e.symm, Or.inl ⟨rfl, rfl, hup_s⟩⟩
    have hR := (hRC.put hP (show k < 10 by omega) hun (fx2 := hup fx z (oC 0 [.int 1, .int 0])) (fun a e he => by rw [hup_n (hnz a e he).1]; exact he) hz0 hz0 hnew hmem).more
    have hC2 : CX qx (hup fx z (oC 0 [.int 1, .int 0])) C pr (K.map φ) kr hr cn := hC.kept (hup_n (hnz _ _ hC.1).1) (hup_n (hnz _ _ hC.2.1).1) (hup_n (hnz _ _ hC.2.2.1).1) (hup_n (hnz _ _ hC.2.2.2.1).1) (hup_n (hnz _ _ hC.2.2.2.2.1).1)
    have hs : hsQ (hup fx z (oC 0 [.int 1, .int 0])) (C 0) (nI P) (some z) = some (hup (hup fx z (oC 0 [.int 1, .int 0])) (C 0) (aQ 8 (va_up pr P (some z)))) := g_sQ hC2.2.1 hP (by omega)
    have hkd1 : hkd (hup fx z (oC 0 [.int 1, .int 0])) z = some 0 := g_kd hup_s
    refine ⟨1, _, z + 1, fm2, z + 1, ?_, ?_, RI_of n2 hR⟩
    · simp [fX3_lay, hpx, hC.q0, x_lamp, hth, hkd1, hs]
    · have e1 := hfind (z + 1) 1 n
      simp [fX4_lay, hpm, ht, fX4_lay_j36, hM.q0, m1, e1, n1]
  · by_cases hn0 : n < 0
    · exact ⟨0, fx, z, fm, z, by simp [fX3_lay, hpx, hs0, hs10', hsz, hs1, hn0], by simp [fX4_lay, hpm, hs0, hs10, ht, hn0], hI⟩
    obtain ⟨N, hN, rfl⟩ := nI_of hn0
    by_cases hn40 : N ≤ 40
    · have h40 : nI N ≤ 40 := by rw [show (40 : Int32) = nI 40 from by decide]; exact nI_le hn40 (by omega)
      obtain ⟨fm2, n1, n2⟩ := m_lay74 (z := z + 2) m2 hP (show k < 10 by omega) (s := s) (n := nI N) (m' := nI N) (Or.inr ⟨ht, rfl⟩)
      rw [hupd] at n2
      generalize hf2 : hup (hup fx (z + 1) (aJ N (fun _ => 0))) z (oC 1 [.int s, .ref (z + 1)]) = f2
      have hold : ∀ a e, fx a = some e → f2 a = some e := fun a e he => by rw [← hf2, hup_n (hnz a e he).1, hup_n (hnz a e he).2]; exact he
      have hT2 : TT f2 z s (z + 1) N (fun _ => 0) := by
        rw [← hf2]
        exact ⟨hup_s, by rw [hup_n (by omega)]; exact hup_s⟩
      have hnew : TH f2 C z (z + 1) N s 0 (nI N) (fun j => va_cpy (fun _ => 0) mem 0 (40 * k) 40 (40 * k + j)) := ⟨rfl, fun e => (hnz _ _ hC.2.2.1).1 e.symm, Or.inr ⟨g1, g2, hn40, fun e => (hnz _ _ hC.2.2.2.1).2 e.symm, fun e => (hnz _ _ hC.2.2.2.2.1).2 e.symm, ⟨fun _ => 0, hT2, fun j hj => (hmem0 j (by omega)).symm⟩, fun _ j hj => by show GD (va_cpy (fun _ => 0) mem 0 (40 * k) 40 (40 * k + j)); rw [hmem0 j (by omega)]; exact gd0⟩⟩
      have hR := (hRC.put hP (show k < 10 by omega) hun (fx2 := f2) hold hz0 hz1 hnew hmem).more
      have hC2 : f2 (C 0) = some (aQ 8 pr) := hold _ _ hC.2.1
      have hs : hsQ f2 (C 0) (nI P) (some z) = some (hup f2 (C 0) (aQ 8 (va_up pr P (some z)))) := g_sQ hC2 hP (by omega)
      have hxt := x_tray (f := fx) (z := z) (s := s) hn40
      rw [hf2] at hxt
      refine ⟨1, _, z + 2, fm2, z + 2, ?_, ?_, RI_of n2 hR⟩
      · simp [fX3_lay, hpx, hs0, hs10', hsz, hs1, hn0, h40, hC.q0, hxt, hth, hT2.kd, hs]
      · have e1 := hfind (z + 2) s (nI N)
        simp [fX4_lay, hpm, hs0, hs10, ht, hn0, h40, fX4_lay_j36, hM.q0, m1, hsz, e1, n1]
    · have h40 : ¬ nI N ≤ 40 := by rw [show (40 : Int32) = nI 40 from by decide]; exact nI_ge (by omega) hN
      exact ⟨0, fx, z, fm, z, by simp [fX3_lay, hpx, hs0, hs10', hsz, hs1, hn0, h40], by simp [fX4_lay, hpm, hs0, hs10, ht, hn0, h40], hI⟩
end
section
theorem hup_a {f : hPl} {a y : Nat} {c e : hCe} (h : f a = some e) (hy : a ≠ y) : hup f y c a = some e := by rw [hup_n hy]; exact h
theorem x_init {f : hPl} {a y : Nat} (hay : a < y) (ha : f a = some (oC 2 hB0)) : ∃ F, fX3_init f y a = some ((), F, y + 4) ∧ CX a F (fun i => if i = 0 then y else if i = 1 then y + 1 else if i = 2 then y + 3 else y + 2) (fun _ => none) none (fun _ => 0) (fun _ => 0) (fun _ => 0) := by
  have c8 : (8 : Int32).toNatClampNeg = 8 := by decide
  have c40 : (40 : Int32).toNatClampNeg = 40 := by decide
  have e3 : hput (hup f y (aQ 8 (fun _ => none))) a 2 0 (.ref y) = some (hup (hup f y (aQ 8 (fun _ => none))) a (oC 2 [.ref y, .null, .null, .null, .int 0, .int 0, .int 0, .int 0, .int 0, .int 0, .int 0])) := g_put (hup_a ha (by omega)) (by simp)
  generalize hf3 : hup (hup f y (aQ 8 (fun _ => none))) a (oC 2 [.ref y, .null, .null, .null, .int 0, .int 0, .int 0, .int 0, .int 0, .int 0, .int 0]) = f3 at e3
  have a3 : f3 a = some (oC 2 [.ref y, .null, .null, .null, .int 0, .int 0, .int 0, .int 0, .int 0, .int 0, .int 0]) := by rw [← hf3]; exact hup_s
  have y3 : f3 y = some (aQ 8 (fun _ => none)) := by rw [← hf3, hup_n (by omega)]; exact hup_s
  have e5 := x_tray (f := f3) (z := y + 1) (s := 6) (n := 1) (by omega)
  rw [← nI_one] at e5
  generalize hf5 : hup (hup f3 (y + 1 + 1) (aJ 1 (fun _ => 0))) (y + 1) (oC 1 [.int 6, .ref (y + 1 + 1)]) = f5 at e5
  have a5 : f5 a = some (oC 2 [.ref y, .null, .null, .null, .int 0, .int 0, .int 0, .int 0, .int 0, .int 0, .int 0]) := by rw [← hf5, hup_n (by omega), hup_n (by omega)]; exact a3
  have y5 : f5 y = some (aQ 8 (fun _ => none)) := by rw [← hf5, hup_n (by omega), hup_n (by omega)]; exact y3
  have t5 : f5 (y + 1) = some (oC 1 [.int 6, .ref (y + 2)]) := by rw [← hf5]; exact hup_s
  have u5 : f5 (y + 2) = some (aJ 1 (fun _ => 0)) := by rw [← hf5, hup_n (by omega)]; exact hup_s
  have e8 : hput f5 a 2 1 (.ref (y + 1)) = some (hup f5 a (oC 2 [.ref y, .ref (y + 1), .null, .null, .int 0, .int 0, .int 0, .int 0, .int 0, .int 0, .int 0])) := g_put a5 (by simp)
  have e11 : hput (hup (hup f5 a (oC 2 [.ref y, .ref (y + 1), .null, .null, .int 0, .int 0, .int 0, .int 0, .int 0, .int 0, .int 0])) (y + 3) (aJ 40 (fun _ => 0))) a 2 2 (.ref (y + 3)) = some (hup (hup (hup f5 a (oC 2 [.ref y, .ref (y + 1), .null, .null, .int 0, .int 0, .int 0, .int 0, .int 0, .int 0, .int 0])) (y + 3) (aJ 40 (fun _ => 0))) a (oC 2 [.ref y, .ref (y + 1), .ref (y + 3), .null, .int 0, .int 0, .int 0, .int 0, .int 0, .int 0, .int 0])) := g_put (hup_a hup_s (by omega)) (by simp)
  generalize hF : hup (hup (hup f5 a (oC 2 [.ref y, .ref (y + 1), .null, .null, .int 0, .int 0, .int 0, .int 0, .int 0, .int 0, .int 0])) (y + 3) (aJ 40 (fun _ => 0))) a (oC 2 [.ref y, .ref (y + 1), .ref (y + 3), .null, .int 0, .int 0, .int 0, .int 0, .int 0, .int 0, .int 0]) = F at e11
  refine ⟨F, ?_, ?_⟩
  · simp only [fX3_init, c8, c40]
    simp [e3, e5, e8, e11]
  · subst hF
    refine ⟨hup_s, ?_, ?_, ?_, ?_, ?_⟩
    · show hup _ _ _ y = _
      rw [hup_n (by omega), hup_n (by omega), hup_n (by omega)]; exact y5
    · show hup _ _ _ (y + 1) = _
      rw [hup_n (by omega), hup_n (by omega), hup_n (by omega)]; exact t5
    · show hup _ _ _ (y + 3) = _
      rw [hup_n (by omega)]; exact hup_s
    · show hup _ _ _ (y + 2) = _
      rw [hup_n (by omega), hup_n (by omega), hup_n (by omega)]; exact u5
    · show y + 3 ≠ y + 2
      omega
theorem s_new {f : hPl} {y k n : Nat} {r : Nat → Int32} {v : Int32} (hk : k < n) (hn : n < 2 ^ 31) : hsI (hup f y (aI n r)) y (nI k) v = some (hup f y (aI n (upd r k v))) := by
  rw [g_sI hup_s hk hn, hup_hup]
theorem p_new {f : hPl} {a y ci k : Nat} {c : hCe} {fs : List Value} {v : Value} (ha : f a = some (oC ci fs)) (hy : a ≠ y) (hk : k < fs.length) : hput (hup f y c) a ci k v = some (hup (hup f y c) a (oC ci (fs.set k v))) := g_put (hup_a ha hy) hk
def la0 : Nat → Int32 := upd (upd (upd (upd (upd (upd (upd (upd (fun _ => 0) 0 (-1)) 1 (-1)) 2 (-1)) 3 (-1)) 4 (-1)) 5 (-1)) 6 (-1)) 7 (-1)
theorem la0_ok : ∀ p, p < 8 → la0 p = -1 := by decide +kernel
theorem m_init {f : hPl} {a y : Nat} (hay : a < y) (ha : f a = some (oC 3 hM0)) : ∃ F, fX4_init f y a = some ((), F, y + 8) ∧ MX a F (fun i => if i = 7 then y + 9 else if i = 8 then y + 7 else y + i) la0 (fun _ => 0) (fun _ => 0) (fun _ => 0) (fun _ => 0) (fun _ => 0) (fun _ => 0) (fun _ => 0) (-1) := by
  have c8 : (8 : Int32).toNatClampNeg = 8 := by decide
  have c10 : (10 : Int32).toNatClampNeg = 10 := by decide
  have c7 : (7 : Int32).toNatClampNeg = 7 := by decide
  have c400 : (400 : Int32).toNatClampNeg = 400 := by decide
  have c40 : (40 : Int32).toNatClampNeg = 40 := by decide
  have s0 := fun r => s_new (f := f) (y := y) (k := 0) (n := 8) (r := r) (v := -1) (by omega) (by omega)
  have s1 := fun r => s_new (f := f) (y := y) (k := 1) (n := 8) (r := r) (v := -1) (by omega) (by omega)
  have s2 := fun r => s_new (f := f) (y := y) (k := 2) (n := 8) (r := r) (v := -1) (by omega) (by omega)
  have s3 := fun r => s_new (f := f) (y := y) (k := 3) (n := 8) (r := r) (v := -1) (by omega) (by omega)
  have s4 := fun r => s_new (f := f) (y := y) (k := 4) (n := 8) (r := r) (v := -1) (by omega) (by omega)
  have s5 := fun r => s_new (f := f) (y := y) (k := 5) (n := 8) (r := r) (v := -1) (by omega) (by omega)
  have s6 := fun r => s_new (f := f) (y := y) (k := 6) (n := 8) (r := r) (v := -1) (by omega) (by omega)
  have s7 := fun r => s_new (f := f) (y := y) (k := 7) (n := 8) (r := r) (v := -1) (by omega) (by omega)
  have n0 : nI 0 = 0 := by decide
  have n1 : nI 1 = 1 := by decide
  have n2 : nI 2 = 2 := by decide
  have n3 : nI 3 = 3 := by decide
  have n4 : nI 4 = 4 := by decide
  have n5 : nI 5 = 5 := by decide
  have n6 : nI 6 = 6 := by decide
  have n7 : nI 7 = 7 := by decide
  rw [n0] at s0; rw [n1] at s1; rw [n2] at s2; rw [n3] at s3; rw [n4] at s4; rw [n5] at s5; rw [n6] at s6; rw [n7] at s7
  have p0 : hput (hup f y (aI 8 la0)) a 3 0 (.ref y) = some (hup (hup f y (aI 8 la0)) a (oC 3 [.ref y, .null, .null, .null, .null, .null, .null, .int 0, .null])) := p_new ha (by omega) (by simp)
  generalize hg0 : hup (hup f y (aI 8 la0)) a (oC 3 [.ref y, .null, .null, .null, .null, .null, .null, .int 0, .null]) = g0 at p0
  have a0 : g0 a = some (oC 3 [.ref y, .null, .null, .null, .null, .null, .null, .int 0, .null]) := by rw [← hg0]; exact hup_s
  have b0 : g0 y = some (aI 8 la0) := by rw [← hg0, hup_n (by omega)]; exact hup_s
  have p1 : hput (hup g0 (y + 1) (aI 10 (fun _ => 0))) a 3 1 (.ref (y + 1)) = some (hup (hup g0 (y + 1) (aI 10 (fun _ => 0))) a (oC 3 [.ref y, .ref (y + 1), .null, .null, .null, .null, .null, .int 0, .null])) := p_new a0 (by omega) (by simp)
  generalize hg1 : hup (hup g0 (y + 1) (aI 10 (fun _ => 0))) a (oC 3 [.ref y, .ref (y + 1), .null, .null, .null, .null, .null, .int 0, .null]) = g1 at p1
  have a1 : g1 a = some (oC 3 [.ref y, .ref (y + 1), .null, .null, .null, .null, .null, .int 0, .null]) := by rw [← hg1]; exact hup_s
  have b1 : g1 (y + 1) = some (aI 10 (fun _ => 0)) := by rw [← hg1, hup_n (by omega)]; exact hup_s
  have q1 : ∀ x, x ≠ a → x ≠ y + 1 → g1 x = g0 x := fun x h1 h2 => by rw [← hg1, hup_n h1, hup_n h2]
  have p2 : hput (hup g1 (y + 1 + 1) (aI 10 (fun _ => 0))) a 3 2 (.ref (y + 1 + 1)) = some (hup (hup g1 (y + 1 + 1) (aI 10 (fun _ => 0))) a (oC 3 [.ref y, .ref (y + 1), .ref (y + 1 + 1), .null, .null, .null, .null, .int 0, .null])) := p_new a1 (by omega) (by simp)
  generalize hg2 : hup (hup g1 (y + 1 + 1) (aI 10 (fun _ => 0))) a (oC 3 [.ref y, .ref (y + 1), .ref (y + 1 + 1), .null, .null, .null, .null, .int 0, .null]) = g2 at p2
  have a2 : g2 a = some (oC 3 [.ref y, .ref (y + 1), .ref (y + 1 + 1), .null, .null, .null, .null, .int 0, .null]) := by rw [← hg2]; exact hup_s
  have b2 : g2 (y + 1 + 1) = some (aI 10 (fun _ => 0)) := by rw [← hg2, hup_n (by omega)]; exact hup_s
  have q2 : ∀ x, x ≠ a → x ≠ y + 1 + 1 → g2 x = g1 x := fun x h1 h2 => by rw [← hg2, hup_n h1, hup_n h2]
  have p3 : hput (hup g2 (y + 1 + 1 + 1) (aI 10 (fun _ => 0))) a 3 3 (.ref (y + 1 + 1 + 1)) = some (hup (hup g2 (y + 1 + 1 + 1) (aI 10 (fun _ => 0))) a (oC 3 [.ref y, .ref (y + 1), .ref (y + 1 + 1), .ref (y + 1 + 1 + 1), .null, .null, .null, .int 0, .null])) := p_new a2 (by omega) (by simp)
  generalize hg3 : hup (hup g2 (y + 1 + 1 + 1) (aI 10 (fun _ => 0))) a (oC 3 [.ref y, .ref (y + 1), .ref (y + 1 + 1), .ref (y + 1 + 1 + 1), .null, .null, .null, .int 0, .null]) = g3 at p3
  have a3 : g3 a = some (oC 3 [.ref y, .ref (y + 1), .ref (y + 1 + 1), .ref (y + 1 + 1 + 1), .null, .null, .null, .int 0, .null]) := by rw [← hg3]; exact hup_s
  have b3 : g3 (y + 1 + 1 + 1) = some (aI 10 (fun _ => 0)) := by rw [← hg3, hup_n (by omega)]; exact hup_s
  have q3 : ∀ x, x ≠ a → x ≠ y + 1 + 1 + 1 → g3 x = g2 x := fun x h1 h2 => by rw [← hg3, hup_n h1, hup_n h2]
  have p4 : hput (hup g3 (y + 1 + 1 + 1 + 1) (aJ 400 (fun _ => 0))) a 3 4 (.ref (y + 1 + 1 + 1 + 1)) = some (hup (hup g3 (y + 1 + 1 + 1 + 1) (aJ 400 (fun _ => 0))) a (oC 3 [.ref y, .ref (y + 1), .ref (y + 1 + 1), .ref (y + 1 + 1 + 1), .ref (y + 1 + 1 + 1 + 1), .null, .null, .int 0, .null])) := p_new a3 (by omega) (by simp)
  generalize hg4 : hup (hup g3 (y + 1 + 1 + 1 + 1) (aJ 400 (fun _ => 0))) a (oC 3 [.ref y, .ref (y + 1), .ref (y + 1 + 1), .ref (y + 1 + 1 + 1), .ref (y + 1 + 1 + 1 + 1), .null, .null, .int 0, .null]) = g4 at p4
  have a4 : g4 a = some (oC 3 [.ref y, .ref (y + 1), .ref (y + 1 + 1), .ref (y + 1 + 1 + 1), .ref (y + 1 + 1 + 1 + 1), .null, .null, .int 0, .null]) := by rw [← hg4]; exact hup_s
  have b4 : g4 (y + 1 + 1 + 1 + 1) = some (aJ 400 (fun _ => 0)) := by rw [← hg4, hup_n (by omega)]; exact hup_s
  have q4 : ∀ x, x ≠ a → x ≠ y + 1 + 1 + 1 + 1 → g4 x = g3 x := fun x h1 h2 => by rw [← hg4, hup_n h1, hup_n h2]
  have p5 : hput (hup g4 (y + 1 + 1 + 1 + 1 + 1) (aJ 40 (fun _ => 0))) a 3 5 (.ref (y + 1 + 1 + 1 + 1 + 1)) = some (hup (hup g4 (y + 1 + 1 + 1 + 1 + 1) (aJ 40 (fun _ => 0))) a (oC 3 [.ref y, .ref (y + 1), .ref (y + 1 + 1), .ref (y + 1 + 1 + 1), .ref (y + 1 + 1 + 1 + 1), .ref (y + 1 + 1 + 1 + 1 + 1), .null, .int 0, .null])) := p_new a4 (by omega) (by simp)
  generalize hg5 : hup (hup g4 (y + 1 + 1 + 1 + 1 + 1) (aJ 40 (fun _ => 0))) a (oC 3 [.ref y, .ref (y + 1), .ref (y + 1 + 1), .ref (y + 1 + 1 + 1), .ref (y + 1 + 1 + 1 + 1), .ref (y + 1 + 1 + 1 + 1 + 1), .null, .int 0, .null]) = g5 at p5
  have a5 : g5 a = some (oC 3 [.ref y, .ref (y + 1), .ref (y + 1 + 1), .ref (y + 1 + 1 + 1), .ref (y + 1 + 1 + 1 + 1), .ref (y + 1 + 1 + 1 + 1 + 1), .null, .int 0, .null]) := by rw [← hg5]; exact hup_s
  have b5 : g5 (y + 1 + 1 + 1 + 1 + 1) = some (aJ 40 (fun _ => 0)) := by rw [← hg5, hup_n (by omega)]; exact hup_s
  have q5 : ∀ x, x ≠ a → x ≠ y + 1 + 1 + 1 + 1 + 1 → g5 x = g4 x := fun x h1 h2 => by rw [← hg5, hup_n h1, hup_n h2]
  have p6 : hput (hup g5 (y + 1 + 1 + 1 + 1 + 1 + 1) (aJ 40 (fun _ => 0))) a 3 6 (.ref (y + 1 + 1 + 1 + 1 + 1 + 1)) = some (hup (hup g5 (y + 1 + 1 + 1 + 1 + 1 + 1) (aJ 40 (fun _ => 0))) a (oC 3 [.ref y, .ref (y + 1), .ref (y + 1 + 1), .ref (y + 1 + 1 + 1), .ref (y + 1 + 1 + 1 + 1), .ref (y + 1 + 1 + 1 + 1 + 1), .ref (y + 1 + 1 + 1 + 1 + 1 + 1), .int 0, .null])) := p_new a5 (by omega) (by simp)
  generalize hg6 : hup (hup g5 (y + 1 + 1 + 1 + 1 + 1 + 1) (aJ 40 (fun _ => 0))) a (oC 3 [.ref y, .ref (y + 1), .ref (y + 1 + 1), .ref (y + 1 + 1 + 1), .ref (y + 1 + 1 + 1 + 1), .ref (y + 1 + 1 + 1 + 1 + 1), .ref (y + 1 + 1 + 1 + 1 + 1 + 1), .int 0, .null]) = g6 at p6
  have a6 : g6 a = some (oC 3 [.ref y, .ref (y + 1), .ref (y + 1 + 1), .ref (y + 1 + 1 + 1), .ref (y + 1 + 1 + 1 + 1), .ref (y + 1 + 1 + 1 + 1 + 1), .ref (y + 1 + 1 + 1 + 1 + 1 + 1), .int 0, .null]) := by rw [← hg6]; exact hup_s
  have b6 : g6 (y + 1 + 1 + 1 + 1 + 1 + 1) = some (aJ 40 (fun _ => 0)) := by rw [← hg6, hup_n (by omega)]; exact hup_s
  have q6 : ∀ x, x ≠ a → x ≠ y + 1 + 1 + 1 + 1 + 1 + 1 → g6 x = g5 x := fun x h1 h2 => by rw [← hg6, hup_n h1, hup_n h2]
  have p7 : hput g6 a 3 7 (.int (-1)) = some (hup g6 a (oC 3 [.ref y, .ref (y + 1), .ref (y + 1 + 1), .ref (y + 1 + 1 + 1), .ref (y + 1 + 1 + 1 + 1), .ref (y + 1 + 1 + 1 + 1 + 1), .ref (y + 1 + 1 + 1 + 1 + 1 + 1), .int (-1), .null])) := g_put a6 (by simp)
  generalize hg7 : hup g6 a (oC 3 [.ref y, .ref (y + 1), .ref (y + 1 + 1), .ref (y + 1 + 1 + 1), .ref (y + 1 + 1 + 1 + 1), .ref (y + 1 + 1 + 1 + 1 + 1), .ref (y + 1 + 1 + 1 + 1 + 1 + 1), .int (-1), .null]) = g7 at p7
  have a7 : g7 a = some (oC 3 [.ref y, .ref (y + 1), .ref (y + 1 + 1), .ref (y + 1 + 1 + 1), .ref (y + 1 + 1 + 1 + 1), .ref (y + 1 + 1 + 1 + 1 + 1), .ref (y + 1 + 1 + 1 + 1 + 1 + 1), .int (-1), .null]) := by rw [← hg7]; exact hup_s
  have q7 : ∀ x, x ≠ a → g7 x = g6 x := fun x h1 => by rw [← hg7, hup_n h1]
  have p8 : hput (hup g7 (y + 1 + 1 + 1 + 1 + 1 + 1 + 1) (aI 7 (fun _ => 0))) a 3 8 (.ref (y + 1 + 1 + 1 + 1 + 1 + 1 + 1)) = some (hup (hup g7 (y + 1 + 1 + 1 + 1 + 1 + 1 + 1) (aI 7 (fun _ => 0))) a (oC 3 [.ref y, .ref (y + 1), .ref (y + 1 + 1), .ref (y + 1 + 1 + 1), .ref (y + 1 + 1 + 1 + 1), .ref (y + 1 + 1 + 1 + 1 + 1), .ref (y + 1 + 1 + 1 + 1 + 1 + 1), .int (-1), .ref (y + 1 + 1 + 1 + 1 + 1 + 1 + 1)])) := p_new a7 (by omega) (by simp)
  generalize hg8 : hup (hup g7 (y + 1 + 1 + 1 + 1 + 1 + 1 + 1) (aI 7 (fun _ => 0))) a (oC 3 [.ref y, .ref (y + 1), .ref (y + 1 + 1), .ref (y + 1 + 1 + 1), .ref (y + 1 + 1 + 1 + 1), .ref (y + 1 + 1 + 1 + 1 + 1), .ref (y + 1 + 1 + 1 + 1 + 1 + 1), .int (-1), .ref (y + 1 + 1 + 1 + 1 + 1 + 1 + 1)]) = g8 at p8
  have a8 : g8 a = some (oC 3 [.ref y, .ref (y + 1), .ref (y + 1 + 1), .ref (y + 1 + 1 + 1), .ref (y + 1 + 1 + 1 + 1), .ref (y + 1 + 1 + 1 + 1 + 1), .ref (y + 1 + 1 + 1 + 1 + 1 + 1), .int (-1), .ref (y + 1 + 1 + 1 + 1 + 1 + 1 + 1)]) := by rw [← hg8]; exact hup_s
  have b8 : g8 (y + 1 + 1 + 1 + 1 + 1 + 1 + 1) = some (aI 7 (fun _ => 0)) := by rw [← hg8, hup_n (by omega)]; exact hup_s
  have q8 : ∀ x, x ≠ a → x ≠ y + 1 + 1 + 1 + 1 + 1 + 1 + 1 → g8 x = g7 x := fun x h1 h2 => by rw [← hg8, hup_n h1, hup_n h2]
  refine ⟨g8, ?_, ?_⟩
  · have hl0 : upd (upd (upd (upd (upd (upd (upd (upd (fun _ => 0) 0 (-1)) 1 (-1)) 2 (-1)) 3 (-1)) 4 (-1)) 5 (-1)) 6 (-1)) 7 (-1) = la0 := rfl
    simp only [fX4_init, c8, c10, c7, c400, c40]
    simp [s0, s1, s2, s3, s4, s5, s6, s7, hl0, p0, p1, p2, p3, p4, p5, p6, p7, p8]
  · refine ⟨a8, ?_, ?_, ?_, ?_, ?_, ?_, ?_, b8, ?_, ?_⟩
    · show g8 (y + 0) = _
      rw [q8 _ (by omega) (by omega), q7 _ (by omega), q6 _ (by omega) (by omega), q5 _ (by omega) (by omega), q4 _ (by omega) (by omega), q3 _ (by omega) (by omega), q2 _ (by omega) (by omega), q1 _ (by omega) (by omega)]; exact b0
    · show g8 (y + 1) = _
      rw [q8 _ (by omega) (by omega), q7 _ (by omega), q6 _ (by omega) (by omega), q5 _ (by omega) (by omega), q4 _ (by omega) (by omega), q3 _ (by omega) (by omega), q2 _ (by omega) (by omega)]; exact b1
    · show g8 (y + 2) = _
      rw [q8 _ (by omega) (by omega), q7 _ (by omega), q6 _ (by omega) (by omega), q5 _ (by omega) (by omega), q4 _ (by omega) (by omega), q3 _ (by omega) (by omega)]; exact b2
    · show g8 (y + 3) = _
      rw [q8 _ (by omega) (by omega), q7 _ (by omega), q6 _ (by omega) (by omega), q5 _ (by omega) (by omega), q4 _ (by omega) (by omega)]; exact b3
    · show g8 (y + 4) = _
      rw [q8 _ (by omega) (by omega), q7 _ (by omega), q6 _ (by omega) (by omega), q5 _ (by omega) (by omega)]; exact b4
    · show g8 (y + 5) = _
      rw [q8 _ (by omega) (by omega), q7 _ (by omega), q6 _ (by omega) (by omega)]; exact b5
    · show g8 (y + 6) = _
      rw [q8 _ (by omega) (by omega), q7 _ (by omega)]; exact b6
    · intro i j hi hj h
      dsimp only at h
      split at h <;> split at h <;> (try split at h) <;> (try split at h) <;> omega
    · intro i hi
      dsimp only
      split
      · omega
      · split <;> omega
theorem R_init : ∀ z, ∃ fx1 z1, fX3_init (hup hN z (oC 2 hB0)) (z + 1) z = some ((), fx1, z1) ∧ ∀ y, ∃ fm1 y1, fX4_init (hup hN y (oC 3 hM0)) (y + 1) y = some ((), fm1, y1) ∧ RI 0 z fx1 y fm1 := by
  intro z
  obtain ⟨F, h1, h2⟩ := x_init (f := hup hN z (oC 2 hB0)) (a := z) (y := z + 1) (by omega) hup_s
  refine ⟨F, _, h1, fun y => ?_⟩
  obtain ⟨G, g1, g2⟩ := m_init (f := hup hN y (oC 3 hM0)) (a := y) (y := y + 1) (by omega) hup_s
  refine ⟨G, _, g1, ?_⟩
  refine RI_of (φ := fun _ => 0) (ψ := fun _ => 0) (L := fun _ => none) (K := none) (mn := fun _ => 0) g2 ⟨h2, fun p hp => ⟨la0_ok p hp, rfl⟩, fun k hu => ?_, fun k k' hu => ?_, fun k hk => (by cases hk), 0, by omega, rfl⟩
  · rcases hu with ⟨p, hp, hq⟩ | hq <;> cases hq
  · rcases hu with ⟨p, hp, hq⟩ | hq <;> cases hq
end
section
theorem hAll_holds : ∃ I, hAll I := sorry
theorem whole_start {p : Program} {e : Env} {s : State} {m : MethodId} {below : List Frame} {meth : Method} {c : Code} (l : Launch) {b L : Nat} {xs : Nat → Int32} (hL : L ≤ 3072) (C0 : lw_At p s m meth c b L xs) : W p l e room_1 s m #[Value.ref b] below meth c s.heap [] 0 0 (lw_Z below #[Value.ref b] s) (entryFrame m ([Value.ref b] : List Value).toArray 4) := by
  obtain ⟨I, HA⟩ := hAll_holds
  exact whole_of HA l hL C0
set_option maxHeartbeats 4000000 in
theorem lw_walk (l : Launch) (b : Addr) (xs : List Int32) : MetFree l x (headSpec (Jvm.Cond.code x code maxLocals ret :: tables_1) room_1) (lw_P b xs) (fun _ _ _ _ _ => True) lw_Q := by
  refine MetFree.of_bodyS (code := code) (maxLocals := maxLocals) (ret := ret) (by decide) ?_ ?_
  · intro args s m h hn
    obtain ⟨meth, c, h1, h2, h3, h4, h5, h6, -, -⟩ := Cond.code_spec hn (atoms_spec (ws := Jvm.Cond.code x code maxLocals ret :: tables_1) h _ List.mem_cons_self)
    exact ⟨meth, c, h1, h2, h3, h4, h5, h6⟩
  · intro p e s m args below meth c s₁ B hml0 hP _
    obtain ⟨rfl, hx, hbd, hgv⟩ := hP
    obtain ⟨scr, harrAt, hlist, hof, hsmall⟩ := hx
    obtain ⟨hcb, hkn, -, -⟩ := State.arrayAt?_spec harrAt
    have hown : s.vm.findClass R_law = some m.cls := findClass_of_methodNamed B.named
    have hts0 : ∀ c ∈ (Jvm.Cond.code x code maxLocals ret :: tables_1), c.before #[Value.ref b] s = true := atoms_spec (ws := Jvm.Cond.code x code maxLocals ret :: tables_1) B.pre
    have hts : ∀ w ∈ lw_tbl, w.before #[Value.ref b] s = true := k2_hts_sels lw_privs (fun w hw => hts0 w (List.mem_cons_of_mem _ hw)) lw_privs_ok
    have hml : c.maxLocals = 4 := B.maxLocals_eq (hts0 _ List.mem_cons_self)
    have X₀ : Stand p l e room_1 s m #[Value.ref b] below meth c s₁ [] 0 0 := Stand.of_body B
    have hh0 : s₁.heap = s.heap := by rw [B.state]; rfl
    have hsz : scr.slots.size = xs.length := by rw [← Array.length_toList, hlist, List.length_map]
    have hval : ∀ j : Nat, j < xs.length → scr.slots[j]? = some (.int (xs.getD j 0)) := fun j hj => by
      rw [← Array.getElem?_toList, hlist]
      simp [hj]
    have hbl : b < s.heap.size := (Array.getElem?_eq_some_iff.mp hcb).1
    have hX : va_X b xs.length (fun j => xs.getD j 0) s s.heap := ⟨scr, hcb, hof, hkn, hsz, hval⟩
    have K : W p l e room_1 s m #[Value.ref b] below meth c s₁.heap [] 0 0 (lw_Z below #[Value.ref b] s) (entryFrame m ([Value.ref b] : List Value).toArray 4) := by
      rw [hh0]
      exact whole_start l hbd ⟨B.exec, B.bytes, B.returns, hml, hown, hts, hX, hbl, B.notSynchronized, hgv⟩
    obtain ⟨t, a1, o, b1, b2, b3⟩ := K s₁ rfl X₀
    exact ⟨t, o, a1, b1, b2, b3⟩
theorem lw_pre_spec {args : Array Value} {s : State} (h : (Jvm.Cond.and given_1 narrow_1).before args s = true) (hr : rest_1_c.before args s = true) : ∃ (b : Addr) (xs : List Int32), lw_P b xs args s := by
  have hs := flat_of_before _ h
  have hq := flat_of_before _ hr
  have hc : (Cond.count 1).before args s = true := hs _ (by decide +kernel)
  have harr : (Cond.arrayOf (.arg 0) .int).before args s = true := hs _ (by decide +kernel)
  have hle : (Cond.le (.length (.arg 0)) (.int 3072)).before args s = true := hs _ (by decide +kernel)
  have hlen : (Cond.isInt (.length (.arg 0))).before args s = true := hq _ (by decide +kernel)
  have hall : (Cond.all (.arg 0) (.isInt (.elem (.arg 0) (.index 0)))).before args s = true := hq _ (by decide +kernel)
  obtain ⟨b, xs, hb, hx⟩ := State.ints_of_pre rfl harr hlen hall
  have hsm : xs.length < 2 ^ 31 := hx.choose_spec.2.2.2
  have hev : (Term.length (.arg 0)).eval args s none [] s = some (.int xs.length.toInt32) := hx.length_eval hb
  have hv := Cond.le_ints hev (show (Term.int 3072).eval args s none [] s = some (.int 3072) from rfl)
  have hd : xs.length.toInt32 ≤ 3072 := by
    simpa [Cond.before, Cond.holds, hv] using hle
  have hN : xs.length ≤ 3072 := (Int32.ofNat_le_ofNat hsm (by decide)).mp (show Int32.ofNat xs.length ≤ Int32.ofNat 3072 from hd)
  exact ⟨b, xs, Cond.one_arg hc (show args[0]? = some (.ref b) from hb), hx, hN, h⟩
theorem lw_comes (l : Launch) : Comes l x (Jvm.Cond.code x code maxLocals ret :: tables_1) room_1 (fun tb e args s => Calls_1 tb e args s ∧ rest_1 tb e args s ∧ Pre_1 tb e args s)
    (fun _ _ args s o t => lw_Q args s o t) := by
  intro p e ha hc hk s m args below hf hfit hheap happ hpre
  obtain ⟨b, xs, hP⟩ := lw_pre_spec hpre.2.2 hpre.2.1
  obtain ⟨k, o, h1, h2, h3, hQ⟩ := lw_walk l b xs p e ha hc hk s m args below hf ((Spec.applies_iff_loose hf).mp happ).1 hP trivial
  exact ⟨k, o, h1, h2, h3, hQ⟩
theorem lw_frame {s t : State} {o : Outcome} {args : Array Value} (h : Framed s o t [] 600000 7302250) :
    Framed s o t (fieldLocs frame_1_writes args s ++ arrayLocs frame_1_arrays args s ++ staticLocs frame_1_statics s) 600000 7302250 := h
theorem lw_limb (L : Cond) (hL : ∀ (args : Array Value) (s t : State), L.after args s (.returned (some (.int 1))) t = true) :
    ArmFor flags0 classFile x code maxLocals ret World_1 tables_1 room_1 Calls_1 rest_1 Pre_1
      (fun tb e a s o t => postC L tb e a s o t ∧ Framed s o t (fieldLocs frame_1_writes a s ++ arrayLocs frame_1_arrays a s ++ staticLocs frame_1_statics s) 600000 7302250) := by
  intro l _ _ _ p e ha hc hk s m args below hf hfit hheap happ hpre
  obtain ⟨k, o, h1, h2, h3, rfl, hF⟩ := lw_comes l p e ha hc hk s m args below hf hfit hheap happ hpre
  exact ⟨k, _, h1, h2, h3, hL args s _, lw_frame hF⟩
theorem i_vc : Claimed_1_1 ∧ Claimed_1_2 := ⟨lw_limb limb_1_1 (fun args s t => by simp [limb_1_1, Cond.after, Cond.holds, Cond.value]), lw_limb limb_1_2 (fun args s t => Cond.after_iff.mpr (by
  first | (rw [show limb_1_2 = Cond.eq .result (.int 1) from rfl, Cond.eq_ints (x := 1) (y := 1) rfl rfl]; simp; done) | (simp [limb_1_2, Cond.value, Term.eval]; done)))⟩
end
