/-- a private method of a class that the tables say can be made, by its rows of tables_1 -/
def lw_okq (q : MethodName × Nat) : Prop := (q.1.cls ≠ "java/lang/invoke/MethodHandle" ∧ q.1.cls ≠ "java/lang/invoke/VarHandle") ∧ Cond.instantiable q.1.cls q.2 ∈ tables_1 ∧ Cond.privateMethod q.1 ∈ tables_1 ∧ Cond.instanceMethod q.1 ∈ tables_1
theorem lw_p0 : lw_okq (⟨"ShiftBuses$History", "dropOldest", "()V"⟩, 2) := ⟨⟨by decide +kernel, by decide +kernel⟩, List.mem_of_getElem? (i := 156) (by decide +kernel), List.mem_of_getElem? (i := 229) (by decide +kernel), List.mem_of_getElem? (i := 230) (by decide +kernel)⟩
theorem lw_p1 : lw_okq (⟨"ShiftBuses$Works", "minuteOf", "(I)I"⟩, 12) := ⟨⟨by decide +kernel, by decide +kernel⟩, List.mem_of_getElem? (i := 17) (by decide +kernel), List.mem_of_getElem? (i := 292) (by decide +kernel), List.mem_of_getElem? (i := 293) (by decide +kernel)⟩
theorem lw_p2 : lw_okq (⟨"ShiftBuses$Works", "isInTime", "(III)Z"⟩, 12) := ⟨⟨by decide +kernel, by decide +kernel⟩, List.mem_of_getElem? (i := 17) (by decide +kernel), List.mem_of_getElem? (i := 320) (by decide +kernel), List.mem_of_getElem? (i := 321) (by decide +kernel)⟩
theorem lw_p3 : lw_okq (⟨"ShiftBuses$Works", "canRide", "(LShiftBuses$Booking;II)Z"⟩, 12) := ⟨⟨by decide +kernel, by decide +kernel⟩, List.mem_of_getElem? (i := 17) (by decide +kernel), List.mem_of_getElem? (i := 346) (by decide +kernel), List.mem_of_getElem? (i := 347) (by decide +kernel)⟩
theorem lw_p4 : lw_okq (⟨"ShiftBuses$Works", "nextWaiting", "(LShiftBuses$Booking;)LShiftBuses$Booking;"⟩, 12) := ⟨⟨by decide +kernel, by decide +kernel⟩, List.mem_of_getElem? (i := 17) (by decide +kernel), List.mem_of_getElem? (i := 388) (by decide +kernel), List.mem_of_getElem? (i := 389) (by decide +kernel)⟩
theorem lw_p5 : lw_okq (⟨"ShiftBuses$Works", "isLookedAtAheadOf", "(LShiftBuses$Booking;LShiftBuses$Booking;)Z"⟩, 12) := ⟨⟨by decide +kernel, by decide +kernel⟩, List.mem_of_getElem? (i := 17) (by decide +kernel), List.mem_of_getElem? (i := 392) (by decide +kernel), List.mem_of_getElem? (i := 393) (by decide +kernel)⟩
theorem lw_p6 : lw_okq (⟨"ShiftBuses$Works", "isEarlier", "(II)Z"⟩, 12) := ⟨⟨by decide +kernel, by decide +kernel⟩, List.mem_of_getElem? (i := 17) (by decide +kernel), List.mem_of_getElem? (i := 396) (by decide +kernel), List.mem_of_getElem? (i := 397) (by decide +kernel)⟩
theorem lw_p7 : lw_okq (⟨"ShiftBuses", "mergingError", "(III)I"⟩, 5) := ⟨⟨by decide +kernel, by decide +kernel⟩, List.mem_of_getElem? (i := 9) (by decide +kernel), List.mem_of_getElem? (i := 405) (by decide +kernel), List.mem_of_getElem? (i := 406) (by decide +kernel)⟩
theorem lw_p8 : lw_okq (⟨"ShiftBuses$Works", "isInTimeForAll", "(III)Z"⟩, 12) := ⟨⟨by decide +kernel, by decide +kernel⟩, List.mem_of_getElem? (i := 17) (by decide +kernel), List.mem_of_getElem? (i := 416) (by decide +kernel), List.mem_of_getElem? (i := 417) (by decide +kernel)⟩
theorem lw_p9 : lw_okq (⟨"ShiftBuses$Works", "bringRiderHome", "(LShiftBuses$Booking;)V"⟩, 12) := ⟨⟨by decide +kernel, by decide +kernel⟩, List.mem_of_getElem? (i := 17) (by decide +kernel), List.mem_of_getElem? (i := 441) (by decide +kernel), List.mem_of_getElem? (i := 442) (by decide +kernel)⟩
def lw_privs_1 : List (MethodName × Nat) := [(⟨"ShiftBuses$History", "dropOldest", "()V"⟩, 2), (⟨"ShiftBuses$Works", "minuteOf", "(I)I"⟩, 12), (⟨"ShiftBuses$Works", "isInTime", "(III)Z"⟩, 12), (⟨"ShiftBuses$Works", "canRide", "(LShiftBuses$Booking;II)Z"⟩, 12), (⟨"ShiftBuses$Works", "nextWaiting", "(LShiftBuses$Booking;)LShiftBuses$Booking;"⟩, 12), (⟨"ShiftBuses$Works", "isLookedAtAheadOf", "(LShiftBuses$Booking;LShiftBuses$Booking;)Z"⟩, 12), (⟨"ShiftBuses$Works", "isEarlier", "(II)Z"⟩, 12), (⟨"ShiftBuses", "mergingError", "(III)I"⟩, 5), (⟨"ShiftBuses$Works", "isInTimeForAll", "(III)Z"⟩, 12), (⟨"ShiftBuses$Works", "bringRiderHome", "(LShiftBuses$Booking;)V"⟩, 12)]
theorem lw_r1 : ∀ q ∈ lw_privs_1, lw_okq q := List.forall_mem_cons.mpr ⟨lw_p0, List.forall_mem_cons.mpr ⟨lw_p1, List.forall_mem_cons.mpr ⟨lw_p2, List.forall_mem_cons.mpr ⟨lw_p3, List.forall_mem_cons.mpr ⟨lw_p4, List.forall_mem_cons.mpr ⟨lw_p5, List.forall_mem_cons.mpr ⟨lw_p6, List.forall_mem_cons.mpr ⟨lw_p7, List.forall_mem_cons.mpr ⟨lw_p8, List.forall_mem_cons.mpr ⟨lw_p9, fun _ h => absurd h List.not_mem_nil⟩⟩⟩⟩⟩⟩⟩⟩⟩⟩
def lw_privs : List (MethodName × Nat) := lw_privs_1
def lw_tbl : List Cond := k2_sels lw_privs ++ tables_1
theorem lw_privs_ok : ∀ q ∈ lw_privs, lw_okq q := lw_r1

def RX0 : String := "ShiftBuses$Booking"
def TX0 : u_T := fun k => match k with
  | 0 => ("ShiftBuses$Booking", "number", "I", false)
  | 1 => ("ShiftBuses$Booking", "end", "I", false)
  | 2 => ("ShiftBuses$Booking", "line", "I", false)
  | 3 => ("ShiftBuses$Booking", "stop", "I", false)
  | 4 => ("ShiftBuses$Booking", "promised", "Z", false)
  | 5 => ("ShiftBuses$Booking", "rides", "I", false)
  | 6 => ("ShiftBuses$Booking", "taxis", "I", false)
  | _ => ("ShiftBuses$Booking", "walks", "I", false)
def tyX0 : Nat → FieldType := fun k => match k with
  | 0 => .int
  | 1 => .int
  | 2 => .int
  | 3 => .int
  | 4 => .boolean
  | 5 => .int
  | 6 => .int
  | _ => .int
abbrev wsX00 : List Cond := u_ws RX0 TX0 8
theorem nmX0 : ∀ a, a < 8 → ∀ b, b < 8 → a ≠ b → (TX0 a).2.1 ≠ (TX0 b).2.1 := by decide +kernel
theorem tyX0_ok : ∀ k, k < 8 → parseFieldDescriptor (TX0 k).2.2.1 = some (tyX0 k) := by decide +kernel
abbrev cX0_init : ByteArray := prog_2_method_1_code
def yX0_init : MethodName := ⟨RX0, "<init>", "()V"⟩
abbrev cX0_isLive : ByteArray := prog_2_method_2_code
def yX0_isLive : MethodName := ⟨RX0, "isLive", "()Z"⟩
abbrev cX0_isWaiting : ByteArray := prog_2_method_3_code
def yX0_isWaiting : MethodName := ⟨RX0, "isWaiting", "()Z"⟩
abbrev cX0_isRider : ByteArray := prog_2_method_4_code
def yX0_isRider : MethodName := ⟨RX0, "isRider", "()Z"⟩
abbrev cX0_isOfBus : ByteArray := prog_2_method_5_code
def yX0_isOfBus : MethodName := ⟨RX0, "isOfBus", "(III)Z"⟩
abbrev cX0_getsSeatAheadOf : ByteArray := prog_2_method_6_code
def yX0_getsSeatAheadOf : MethodName := ⟨RX0, "getsSeatAheadOf", "(LShiftBuses$Booking;)Z"⟩
abbrev cX0_clear : ByteArray := prog_2_method_7_code
def yX0_clear : MethodName := ⟨RX0, "clear", "()V"⟩
abbrev cX0_copyFrom : ByteArray := prog_2_method_8_code
def yX0_copyFrom : MethodName := ⟨RX0, "copyFrom", "(LShiftBuses$Booking;)V"⟩
def RX1 : String := "ShiftBuses$BookingText"
def TX1 : u_T := fun k => match k with
  | 0 => ("ShiftBuses$BookingText", "characters", "[C", true)
  | 1 => ("ShiftBuses$BookingText", "length", "I", false)
  | 2 => ("ShiftBuses$BookingText", "wishes", "[LShiftBuses$Wish;", true)
  | _ => ("ShiftBuses$BookingText", "wishCount", "I", false)
def tyX1 : Nat → FieldType := fun k => match k with
  | 0 => .array .char
  | 1 => .int
  | 2 => .array (.object "ShiftBuses$Wish")
  | _ => .int
abbrev wsX10 : List Cond := u_ws RX1 TX1 4
theorem nmX1 : ∀ a, a < 4 → ∀ b, b < 4 → a ≠ b → (TX1 a).2.1 ≠ (TX1 b).2.1 := by decide +kernel
theorem tyX1_ok : ∀ k, k < 4 → parseFieldDescriptor (TX1 k).2.2.1 = some (tyX1 k) := by decide +kernel
abbrev cX1_init : ByteArray := prog_3_method_1_code
def yX1_init : MethodName := ⟨RX1, "<init>", "()V"⟩
def RX2 : String := "ShiftBuses$History"
def TX2 : u_T := fun k => match k with
  | 0 => ("ShiftBuses$History", "states", "[LShiftBuses$Works;", true)
  | _ => ("ShiftBuses$History", "size", "I", false)
def tyX2 : Nat → FieldType := fun k => match k with
  | 0 => .array (.object "ShiftBuses$Works")
  | _ => .int
abbrev wsX20 : List Cond := u_ws RX2 TX2 2
theorem nmX2 : ∀ a, a < 2 → ∀ b, b < 2 → a ≠ b → (TX2 a).2.1 ≠ (TX2 b).2.1 := by decide +kernel
theorem tyX2_ok : ∀ k, k < 2 → parseFieldDescriptor (TX2 k).2.2.1 = some (tyX2 k) := by decide +kernel
abbrev cX2_init : ByteArray := prog_4_method_1_code
def yX2_init : MethodName := ⟨RX2, "<init>", "()V"⟩
abbrev cX2_remember : ByteArray := prog_4_method_2_code
def yX2_remember : MethodName := ⟨RX2, "remember", "(LShiftBuses$Works;)V"⟩
abbrev cX2_dropOldest : ByteArray := prog_4_method_3_code
def yX2_dropOldest : MethodName := ⟨RX2, "dropOldest", "()V"⟩
abbrev cX2_takeLatestInto : ByteArray := prog_4_method_4_code
def yX2_takeLatestInto : MethodName := ⟨RX2, "takeLatestInto", "(LShiftBuses$Works;)V"⟩
def RX3 : String := "ShiftBuses$Wish"
def TX3 : u_T := fun k => match k with
  | 0 => ("ShiftBuses$Wish", "end", "I", false)
  | 1 => ("ShiftBuses$Wish", "line", "I", false)
  | _ => ("ShiftBuses$Wish", "stop", "I", false)
def tyX3 : Nat → FieldType := fun k => match k with
  | 0 => .int
  | 1 => .int
  | _ => .int
abbrev wsX30 : List Cond := u_ws RX3 TX3 3
theorem nmX3 : ∀ a, a < 3 → ∀ b, b < 3 → a ≠ b → (TX3 a).2.1 ≠ (TX3 b).2.1 := by decide +kernel
theorem tyX3_ok : ∀ k, k < 3 → parseFieldDescriptor (TX3 k).2.2.1 = some (tyX3 k) := by decide +kernel
abbrev cX3_init : ByteArray := prog_5_method_1_code
def yX3_init : MethodName := ⟨RX3, "<init>", "()V"⟩
def RX4 : String := "ShiftBuses$Works"
def TX4 : u_T := fun k => match k with
  | 0 => ("ShiftBuses$Works", "endCount", "I", false)
  | 1 => ("ShiftBuses$Works", "minutes", "[I", true)
  | 2 => ("ShiftBuses$Works", "partners", "[I", true)
  | 3 => ("ShiftBuses$Works", "settings", "[I", true)
  | 4 => ("ShiftBuses$Works", "bookings", "[LShiftBuses$Booking;", true)
  | 5 => ("ShiftBuses$Works", "bookingsSoFar", "I", false)
  | 6 => ("ShiftBuses$Works", "days", "I", false)
  | 7 => ("ShiftBuses$Works", "rides", "I", false)
  | 8 => ("ShiftBuses$Works", "taxis", "I", false)
  | 9 => ("ShiftBuses$Works", "walks", "I", false)
  | 10 => ("ShiftBuses$Works", "busCosts", "I", false)
  | _ => ("ShiftBuses$Works", "taxiCosts", "I", false)
def tyX4 : Nat → FieldType := fun k => match k with
  | 0 => .int
  | 1 => .array .int
  | 2 => .array .int
  | 3 => .array .int
  | 4 => .array (.object "ShiftBuses$Booking")
  | 5 => .int
  | 6 => .int
  | 7 => .int
  | 8 => .int
  | 9 => .int
  | 10 => .int
  | _ => .int
abbrev wsX40 : List Cond := u_ws RX4 TX4 12
theorem nmX4 : ∀ a, a < 12 → ∀ b, b < 12 → a ≠ b → (TX4 a).2.1 ≠ (TX4 b).2.1 := by decide +kernel
theorem tyX4_ok : ∀ k, k < 12 → parseFieldDescriptor (TX4 k).2.2.1 = some (tyX4 k) := by decide +kernel
abbrev cX4_init : ByteArray := prog_6_method_1_code
def yX4_init : MethodName := ⟨RX4, "<init>", "()V"⟩
abbrev cX4_copyFrom : ByteArray := prog_6_method_2_code
def yX4_copyFrom : MethodName := ⟨RX4, "copyFrom", "(LShiftBuses$Works;)V"⟩
abbrev cX4_copyRow : ByteArray := prog_6_method_3_code
def yX4_copyRow : MethodName := ⟨RX4, "copyRow", "([I[I)V"⟩
abbrev cX4_setting : ByteArray := prog_6_method_4_code
def yX4_setting : MethodName := ⟨RX4, "setting", "(I)I"⟩
abbrev cX4_changeSetting : ByteArray := prog_6_method_5_code
def yX4_changeSetting : MethodName := ⟨RX4, "changeSetting", "(II)V"⟩
abbrev cX4_hasEnd : ByteArray := prog_6_method_6_code
def yX4_hasEnd : MethodName := ⟨RX4, "hasEnd", "(I)Z"⟩
abbrev cX4_openEnd : ByteArray := prog_6_method_7_code
def yX4_openEnd : MethodName := ⟨RX4, "openEnd", "(I)I"⟩
abbrev cX4_minuteOf : ByteArray := prog_6_method_8_code
def yX4_minuteOf : MethodName := ⟨RX4, "minuteOf", "(I)I"⟩
abbrev cX4_isEarlier : ByteArray := prog_6_method_9_code
def yX4_isEarlier : MethodName := ⟨RX4, "isEarlier", "(II)Z"⟩
abbrev cX4_bookingOf : ByteArray := prog_6_method_12_code
def yX4_bookingOf : MethodName := ⟨RX4, "bookingOf", "(I)LShiftBuses$Booking;"⟩
abbrev cX4_enter : ByteArray := prog_6_method_13_code
def yX4_enter : MethodName := ⟨RX4, "enter", "(III)I"⟩
abbrev cX4_workerCount : ByteArray := prog_6_method_14_code
def yX4_workerCount : MethodName := ⟨RX4, "workerCount", "()I"⟩
abbrev cX4_waitingCount : ByteArray := prog_6_method_15_code
def yX4_waitingCount : MethodName := ⟨RX4, "waitingCount", "()I"⟩
abbrev cX4_reason : ByteArray := prog_6_method_16_code
def yX4_reason : MethodName := ⟨RX4, "reason", "(IIILShiftBuses$Booking;)I"⟩
abbrev cX4_lookAtWaiting : ByteArray := prog_6_method_17_code
def yX4_lookAtWaiting : MethodName := ⟨RX4, "lookAtWaiting", "()V"⟩
abbrev cX4_nextWaiting : ByteArray := prog_6_method_18_code
def yX4_nextWaiting : MethodName := ⟨RX4, "nextWaiting", "(LShiftBuses$Booking;)LShiftBuses$Booking;"⟩
abbrev cX4_isLookedAtAheadOf : ByteArray := prog_6_method_19_code
def yX4_isLookedAtAheadOf : MethodName := ⟨RX4, "isLookedAtAheadOf", "(LShiftBuses$Booking;LShiftBuses$Booking;)Z"⟩
abbrev cX4_busIndex : ByteArray := prog_6_method_20_code
def yX4_busIndex : MethodName := ⟨RX4, "busIndex", "(II)I"⟩
abbrev cX4_partnerOf : ByteArray := prog_6_method_21_code
def yX4_partnerOf : MethodName := ⟨RX4, "partnerOf", "(II)I"⟩
abbrev cX4_tie : ByteArray := prog_6_method_22_code
def yX4_tie : MethodName := ⟨RX4, "tie", "(III)V"⟩
abbrev cX4_pairCount : ByteArray := prog_6_method_23_code
def yX4_pairCount : MethodName := ⟨RX4, "pairCount", "()I"⟩
abbrev cX4_startOf : ByteArray := prog_6_method_24_code
def yX4_startOf : MethodName := ⟨RX4, "startOf", "(II)I"⟩
abbrev cX4_startOfBusOf : ByteArray := prog_6_method_25_code
def yX4_startOfBusOf : MethodName := ⟨RX4, "startOfBusOf", "(LShiftBuses$Booking;)I"⟩
abbrev cX4_minutesBehind : ByteArray := prog_6_method_26_code
def yX4_minutesBehind : MethodName := ⟨RX4, "minutesBehind", "(III)I"⟩
abbrev cX4_isInTime : ByteArray := prog_6_method_27_code
def yX4_isInTime : MethodName := ⟨RX4, "isInTime", "(III)Z"⟩
abbrev cX4_takenSeats : ByteArray := prog_6_method_28_code
def yX4_takenSeats : MethodName := ⟨RX4, "takenSeats", "(IIIILShiftBuses$Booking;)I"⟩
abbrev cX4_waitingFor : ByteArray := prog_6_method_29_code
def yX4_waitingFor : MethodName := ⟨RX4, "waitingFor", "(III)I"⟩
abbrev cX4_farthestPromised : ByteArray := prog_6_method_30_code
def yX4_farthestPromised : MethodName := ⟨RX4, "farthestPromised", "(III)I"⟩
abbrev cX4_canMerge : ByteArray := prog_6_method_31_code
def yX4_canMerge : MethodName := ⟨RX4, "canMerge", "(III)Z"⟩
abbrev cX4_isInTimeForAll : ByteArray := prog_6_method_32_code
def yX4_isInTimeForAll : MethodName := ⟨RX4, "isInTimeForAll", "(III)Z"⟩
abbrev cX4_canRide : ByteArray := prog_6_method_33_code
def yX4_canRide : MethodName := ⟨RX4, "canRide", "(LShiftBuses$Booking;II)Z"⟩
abbrev cX4_costToday : ByteArray := prog_6_method_34_code
def yX4_costToday : MethodName := ⟨RX4, "costToday", "(III)I"⟩
abbrev cX4_runBuses : ByteArray := prog_6_method_35_code
def yX4_runBuses : MethodName := ⟨RX4, "runBuses", "()V"⟩
abbrev cX4_bringHome : ByteArray := prog_6_method_36_code
def yX4_bringHome : MethodName := ⟨RX4, "bringHome", "()V"⟩
abbrev cX4_bringRiderHome : ByteArray := prog_6_method_37_code
def yX4_bringRiderHome : MethodName := ⟨RX4, "bringRiderHome", "(LShiftBuses$Booking;)V"⟩
def RX5 : String := "ShiftBuses"
def TX5 : u_T := fun k => match k with
  | 0 => ("ShiftBuses", "works", "LShiftBuses$Works;", true)
  | 1 => ("ShiftBuses", "text", "LShiftBuses$BookingText;", true)
  | 2 => ("ShiftBuses", "history", "LShiftBuses$History;", true)
  | 3 => ("ShiftBuses", "snapshot", "LShiftBuses$Works;", true)
  | _ => ("ShiftBuses", "hasSnapshot", "Z", false)
def tyX5 : Nat → FieldType := fun k => match k with
  | 0 => .object "ShiftBuses$Works"
  | 1 => .object "ShiftBuses$BookingText"
  | 2 => .object "ShiftBuses$History"
  | 3 => .object "ShiftBuses$Works"
  | _ => .boolean
abbrev wsX50 : List Cond := u_ws RX5 TX5 5
theorem nmX5 : ∀ a, a < 5 → ∀ b, b < 5 → a ≠ b → (TX5 a).2.1 ≠ (TX5 b).2.1 := by decide +kernel
theorem tyX5_ok : ∀ k, k < 5 → parseFieldDescriptor (TX5 k).2.2.1 = some (tyX5 k) := by decide +kernel
abbrev cX5_init : ByteArray := prog_1_method_1_code
def yX5_init : MethodName := ⟨RX5, "<init>", "()V"⟩
abbrev cX5_addEnd : ByteArray := prog_1_method_2_code
def yX5_addEnd : MethodName := ⟨RX5, "addEnd", "(I)I"⟩
abbrev cX5_book : ByteArray := prog_1_method_3_code
def yX5_book : MethodName := ⟨RX5, "book", "(III)I"⟩
abbrev cX5_takeBack : ByteArray := prog_1_method_5_code
def yX5_takeBack : MethodName := ⟨RX5, "takeBack", "(I)I"⟩
abbrev cX5_stay : ByteArray := prog_1_method_6_code
def yX5_stay : MethodName := ⟨RX5, "stay", "(II)I"⟩
abbrev cX5_merge : ByteArray := prog_1_method_7_code
def yX5_merge : MethodName := ⟨RX5, "merge", "(III)I"⟩
abbrev cX5_part : ByteArray := prog_1_method_8_code
def yX5_part : MethodName := ⟨RX5, "part", "(II)I"⟩
abbrev cX5_set : ByteArray := prog_1_method_9_code
def yX5_set : MethodName := ⟨RX5, "set", "(II)I"⟩
abbrev cX5_passDay : ByteArray := prog_1_method_10_code
def yX5_passDay : MethodName := ⟨RX5, "passDay", "()I"⟩
abbrev cX5_undo : ByteArray := prog_1_method_13_code
def yX5_undo : MethodName := ⟨RX5, "undo", "()I"⟩
abbrev cX5_keep : ByteArray := prog_1_method_14_code
def yX5_keep : MethodName := ⟨RX5, "keep", "()I"⟩
abbrev cX5_restore : ByteArray := prog_1_method_15_code
def yX5_restore : MethodName := ⟨RX5, "restore", "()I"⟩
abbrev cX5_worker : ByteArray := prog_1_method_16_code
def yX5_worker : MethodName := ⟨RX5, "worker", "(II)I"⟩
abbrev cX5_bus : ByteArray := prog_1_method_17_code
def yX5_bus : MethodName := ⟨RX5, "bus", "(III)I"⟩
abbrev cX5_taken : ByteArray := prog_1_method_18_code
def yX5_taken : MethodName := ⟨RX5, "taken", "(III)I"⟩
abbrev cX5_why : ByteArray := prog_1_method_19_code
def yX5_why : MethodName := ⟨RX5, "why", "(III)I"⟩
abbrev cX5_count : ByteArray := prog_1_method_22_code
def yX5_count : MethodName := ⟨RX5, "count", "(I)I"⟩
abbrev cX5_isLine : ByteArray := prog_1_method_23_code
def yX5_isLine : MethodName := ⟨RX5, "isLine", "(I)Z"⟩
abbrev cX5_isStop : ByteArray := prog_1_method_24_code
def yX5_isStop : MethodName := ⟨RX5, "isStop", "(I)Z"⟩
abbrev cX5_isSettingValue : ByteArray := prog_1_method_25_code
def yX5_isSettingValue : MethodName := ⟨RX5, "isSettingValue", "(II)Z"⟩
abbrev cX5_mergingError : ByteArray := prog_1_method_26_code
def yX5_mergingError : MethodName := ⟨RX5, "mergingError", "(III)I"⟩
def RX6 : String := "ShiftBusesModel"
def TX6 : u_T := fun k => match k with
  | _ => ("", "", "", false)
def tyX6 : Nat → FieldType := fun k => match k with
  | _ => .int
abbrev wsX60 : List Cond := u_ws RX6 TX6 0
theorem nmX6 : ∀ a, a < 0 → ∀ b, b < 0 → a ≠ b → (TX6 a).2.1 ≠ (TX6 b).2.1 := by decide +kernel
theorem tyX6_ok : ∀ k, k < 0 → parseFieldDescriptor (TX6 k).2.2.1 = some (tyX6 k) := by decide +kernel
def RJ9 : String := "java/lang/Math"
def TJ9 : u_T := fun k => match k with
  | _ => ("", "", "", false)
def tyJ9 : Nat → FieldType := fun k => match k with
  | _ => .int
abbrev wsJ90 : List Cond := u_ws RJ9 TJ9 0
theorem nmJ9 : ∀ a, a < 0 → ∀ b, b < 0 → a ≠ b → (TJ9 a).2.1 ≠ (TJ9 b).2.1 := by decide +kernel
theorem tyJ9_ok : ∀ k, k < 0 → parseFieldDescriptor (TJ9 k).2.2.1 = some (tyJ9 k) := by decide +kernel
abbrev cJ9_abs_0f7a4 : ByteArray := prog_9_method_59_code
def yJ9_abs_0f7a4 : MethodName := ⟨RJ9, "abs", "(I)I"⟩
abbrev cJ9_max_7cf53 : ByteArray := prog_9_method_65_code
def yJ9_max_7cf53 : MethodName := ⟨RJ9, "max", "(II)I"⟩
def RL : String := "ShiftBusesLaw"
abbrev cL_cell : ByteArray := method_2_code
def yL_cell : MethodName := ⟨RL, "cell", "([II)I"⟩
abbrev cL_low : ByteArray := method_3_code
def yL_low : MethodName := ⟨RL, "low", "(II)I"⟩
abbrev cL_told : ByteArray := method_4_code
def yL_told : MethodName := ⟨RL, "told", "(LShiftBuses;)J"⟩
abbrev cL_act : ByteArray := method_5_code
def yL_act : MethodName := ⟨RL, "act", "(LShiftBuses;II)I"⟩
abbrev cL_holds : ByteArray := method_6_code
def yL_holds : MethodName := ⟨RL, "holds", "(LShiftBuses;)Z"⟩
abbrev cL_law : ByteArray := code
def yL_law : MethodName := ⟨RL, "law", "([I)Z"⟩
abbrev vwCl : List vw_C := [(RX0, TX0, 8), (RX1, TX1, 4), (RX2, TX2, 2), (RX3, TX3, 3), (RX4, TX4, 12), (RX5, TX5, 5)]
