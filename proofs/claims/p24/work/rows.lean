section
/-- a private method of a class that the tables say can be made, by its rows of tables_1 -/
def lw_okq (q : MethodName × Nat) : Prop := (q.1.cls ≠ "java/lang/invoke/MethodHandle" ∧ q.1.cls ≠ "java/lang/invoke/VarHandle") ∧ Cond.instantiable q.1.cls q.2 ∈ tables_1 ∧ Cond.privateMethod q.1 ∈ tables_1 ∧ Cond.instanceMethod q.1 ∈ tables_1
theorem lw_p0 : lw_okq (⟨"ShiftBuses$History", "dropOldest", "()V"⟩, 2) := ⟨⟨by decide +kernel, by decide +kernel⟩, List.mem_of_getElem? (i := 156) (by decide +kernel), List.mem_of_getElem? (i := 229) (by decide +kernel), List.mem_of_getElem? (i := 230) (by decide +kernel)⟩
theorem lw_p1 : lw_okq (⟨"ShiftBuses$Works", "minuteOf", "(I)I"⟩, 12) := ⟨⟨by decide +kernel, by decide +kernel⟩, List.mem_of_getElem? (i := 17) (by decide +kernel), List.mem_of_getElem? (i := 292) (by decide +kernel), List.mem_of_getElem? (i := 293) (by decide +kernel)⟩
theorem lw_p2 : lw_okq (⟨"ShiftBuses$Works", "isInTime", "(III)Z"⟩, 12) := ⟨⟨by decide +kernel, by decide +kernel⟩, List.mem_of_getElem? (i := 17) (by decide +kernel), List.mem_of_getElem? (i := 320) (by decide +kernel), List.mem_of_getElem? (i := 321) (by decide +kernel)⟩
theorem lw_p3 : lw_okq (⟨"ShiftBuses$Works", "canRide", "(LShiftBuses$Booking;II)Z"⟩, 12) := ⟨⟨by decide +kernel, by decide +kernel⟩, List.mem_of_getElem? (i := 17) (by decide +kernel), List.mem_of_getElem? (i := 346) (by decide +kernel), List.mem_of_getElem? (i := 347) (by decide +kernel)⟩
theorem lw_p4 : lw_okq (⟨"ShiftBuses$Works", "nextWaiting", "(LShiftBuses$Booking;)LShiftBuses$Booking;"⟩, 12) := ⟨⟨by decide +kernel, by decide +kernel⟩, List.mem_of_getElem? (i := 17) (by decide +kernel), List.mem_of_getElem? (i := 388) (by decide +kernel), List.mem_of_getElem? (i := 389) (by decide +kernel)⟩
theorem lw_p5 : lw_okq (⟨"ShiftBuses$Works", "isLookedAtAheadOf", "(LShiftBuses$Booking;LShiftBuses$Booking;)Z"⟩, 12) := ⟨⟨by decide +kernel, by decide +kernel⟩, List.mem_of_getElem? (i := 17) (by decide +kernel), List.mem_of_getElem? (i := 392) (by decide +kernel), List.mem_of_getElem? (i := 393) (by decide +kernel)⟩
theorem lw_p6 : lw_okq (⟨"ShiftBuses$Works", "isEarlier", "(II)Z"⟩, 12) := ⟨⟨by decide +kernel, by decide +kernel⟩, List.mem_of_getElem? (i := 17) (by decide +kernel), List.mem_of_getElem? (i := 396) (by decide +kernel), List.mem_of_getElem? (i := 397) (by decide +kernel)⟩
theorem lw_p7 : lw_okq (⟨"ShiftBuses", "mergingError", "(III)I"⟩, 5) := ⟨⟨by decide +kernel, by decide +kernel⟩, List.mem_of_getElem? (i := 9) (by decide +kernel), List.mem_of_getElem? (i := 405) (by decide +kernel), List.mem_of_getElem? (i := 406) (by decide +kernel)⟩
theorem lw_p8 : lw_okq (⟨"ShiftBuses$Works", "isInTimeForAll", "(III)Z"⟩, 12) := ⟨⟨by decide +kernel, by decide +kernel⟩, List.mem_of_getElem? (i := 17) (by decide +kernel), List.mem_of_getElem? (i := 416) (by decide +kernel), List.mem_of_getElem? (i := 417) (by decide +kernel)⟩
theorem lw_p9 : lw_okq (⟨"ShiftBuses$Works", "bringRiderHome", "(LShiftBuses$Booking;)V"⟩, 12) := ⟨⟨by decide +kernel, by decide +kernel⟩, List.mem_of_getElem? (i := 17) (by decide +kernel), List.mem_of_getElem? (i := 441) (by decide +kernel), List.mem_of_getElem? (i := 442) (by decide +kernel)⟩
def lw_privs_1 : List (MethodName × Nat) := [(⟨"ShiftBuses$History", "dropOldest", "()V"⟩, 2), (⟨"ShiftBuses$Works", "minuteOf", "(I)I"⟩, 12), (⟨"ShiftBuses$Works", "isInTime", "(III)Z"⟩, 12), (⟨"ShiftBuses$Works", "canRide", "(LShiftBuses$Booking;II)Z"⟩, 12), (⟨"ShiftBuses$Works", "nextWaiting", "(LShiftBuses$Booking;)LShiftBuses$Booking;"⟩, 12), (⟨"ShiftBuses$Works", "isLookedAtAheadOf", "(LShiftBuses$Booking;LShiftBuses$Booking;)Z"⟩, 12), (⟨"ShiftBuses$Works", "isEarlier", "(II)Z"⟩, 12), (⟨"ShiftBuses", "mergingError", "(III)I"⟩, 5), (⟨"ShiftBuses$Works", "isInTimeForAll", "(III)Z"⟩, 12), (⟨"ShiftBuses$Works", "bringRiderHome", "(LShiftBuses$Booking;)V"⟩, 12)]
theorem lw_r1 : ∀ q ∈ lw_privs_1, lw_okq q := List.forall_mem_cons.mpr ⟨lw_p0, List.forall_mem_cons.mpr ⟨lw_p1, List.forall_mem_cons.mpr ⟨lw_p2, List.forall_mem_cons.mpr ⟨lw_p3, List.forall_mem_cons.mpr ⟨lw_p4, List.forall_mem_cons.mpr ⟨lw_p5, List.forall_mem_cons.mpr ⟨lw_p6, List.forall_mem_cons.mpr ⟨lw_p7, List.forall_mem_cons.mpr ⟨lw_p8, List.forall_mem_cons.mpr ⟨lw_p9, fun _ h => absurd h List.not_mem_nil⟩⟩⟩⟩⟩⟩⟩⟩⟩⟩
def lw_privs : List (MethodName × Nat) := lw_privs_1
def lw_tbl : List Cond := k2_sels lw_privs ++ tables_1
theorem lw_privs_ok : ∀ q ∈ lw_privs, lw_okq q := lw_r1

def RX0 : String := "ShiftBuses$Booking"
def TX0 : u_T := fun k => match k with
  | 0 => ("ShiftBuses$Booking", "number", "I", false)
  | 1 => ("ShiftBuses$Booking", "end", "I", false)
  | 2 => ("ShiftBuses$Booking", "line", "I", false)
  | 3 => ("ShiftBuses$Booking", "stop", "I", false)
  | 4 => ("ShiftBuses$Booking", "promised", "Z", false)
  | 5 => ("ShiftBuses$Booking", "rides", "I", false)
  | 6 => ("ShiftBuses$Booking", "taxis", "I", false)
  | _ => ("ShiftBuses$Booking", "walks", "I", false)
def tyX0 : Nat → FieldType := fun k => match k with
  | 0 => .int
  | 1 => .int
  | 2 => .int
  | 3 => .int
  | 4 => .boolean
  | 5 => .int
  | 6 => .int
  | _ => .int
abbrev wsX00 : List Cond := u_ws RX0 TX0 8
theorem nmX0 : ∀ a, a < 8 → ∀ b, b < 8 → a ≠ b → (TX0 a).2.1 ≠ (TX0 b).2.1 := by decide +kernel
theorem tyX0_ok : ∀ k, k < 8 → parseFieldDescriptor (TX0 k).2.2.1 = some (tyX0 k) := by decide +kernel
abbrev cX0_init : ByteArray := prog_2_method_1_code
def yX0_init : MethodName := ⟨RX0, "<init>", "()V"⟩
abbrev cX0_isLive : ByteArray := prog_2_method_2_code
def yX0_isLive : MethodName := ⟨RX0, "isLive", "()Z"⟩
abbrev cX0_isWaiting : ByteArray := prog_2_method_3_code
def yX0_isWaiting : MethodName := ⟨RX0, "isWaiting", "()Z"⟩
abbrev cX0_isRider : ByteArray := prog_2_method_4_code
def yX0_isRider : MethodName := ⟨RX0, "isRider", "()Z"⟩
abbrev cX0_isOfBus : ByteArray := prog_2_method_5_code
def yX0_isOfBus : MethodName := ⟨RX0, "isOfBus", "(III)Z"⟩
abbrev cX0_getsSeatAheadOf : ByteArray := prog_2_method_6_code
def yX0_getsSeatAheadOf : MethodName := ⟨RX0, "getsSeatAheadOf", "(LShiftBuses$Booking;)Z"⟩
abbrev cX0_clear : ByteArray := prog_2_method_7_code
def yX0_clear : MethodName := ⟨RX0, "clear", "()V"⟩
abbrev cX0_copyFrom : ByteArray := prog_2_method_8_code
def yX0_copyFrom : MethodName := ⟨RX0, "copyFrom", "(LShiftBuses$Booking;)V"⟩
def RX1 : String := "ShiftBuses$BookingText"
def TX1 : u_T := fun k => match k with
  | 0 => ("ShiftBuses$BookingText", "characters", "[C", true)
  | 1 => ("ShiftBuses$BookingText", "length", "I", false)
  | 2 => ("ShiftBuses$BookingText", "wishes", "[LShiftBuses$Wish;", true)
  | _ => ("ShiftBuses$BookingText", "wishCount", "I", false)
def tyX1 : Nat → FieldType := fun k => match k with
  | 0 => .array .char
  | 1 => .int
  | 2 => .array (.object "ShiftBuses$Wish")
  | _ => .int
abbrev wsX10 : List Cond := u_ws RX1 TX1 4
theorem nmX1 : ∀ a, a < 4 → ∀ b, b < 4 → a ≠ b → (TX1 a).2.1 ≠ (TX1 b).2.1 := by decide +kernel
theorem tyX1_ok : ∀ k, k < 4 → parseFieldDescriptor (TX1 k).2.2.1 = some (tyX1 k) := by decide +kernel
abbrev cX1_init : ByteArray := prog_3_method_1_code
def yX1_init : MethodName := ⟨RX1, "<init>", "()V"⟩
def RX2 : String := "ShiftBuses$History"
def TX2 : u_T := fun k => match k with
  | 0 => ("ShiftBuses$History", "states", "[LShiftBuses$Works;", true)
  | _ => ("ShiftBuses$History", "size", "I", false)
def tyX2 : Nat → FieldType := fun k => match k with
  | 0 => .array (.object "ShiftBuses$Works")
  | _ => .int
abbrev wsX20 : List Cond := u_ws RX2 TX2 2
theorem nmX2 : ∀ a, a < 2 → ∀ b, b < 2 → a ≠ b → (TX2 a).2.1 ≠ (TX2 b).2.1 := by decide +kernel
theorem tyX2_ok : ∀ k, k < 2 → parseFieldDescriptor (TX2 k).2.2.1 = some (tyX2 k) := by decide +kernel
abbrev cX2_init : ByteArray := prog_4_method_1_code
def yX2_init : MethodName := ⟨RX2, "<init>", "()V"⟩
abbrev cX2_remember : ByteArray := prog_4_method_2_code
def yX2_remember : MethodName := ⟨RX2, "remember", "(LShiftBuses$Works;)V"⟩
abbrev cX2_dropOldest : ByteArray := prog_4_method_3_code
def yX2_dropOldest : MethodName := ⟨RX2, "dropOldest", "()V"⟩
abbrev cX2_takeLatestInto : ByteArray := prog_4_method_4_code
def yX2_takeLatestInto : MethodName := ⟨RX2, "takeLatestInto", "(LShiftBuses$Works;)V"⟩
def RX3 : String := "ShiftBuses$Wish"
def TX3 : u_T := fun k => match k with
  | 0 => ("ShiftBuses$Wish", "end", "I", false)
  | 1 => ("ShiftBuses$Wish", "line", "I", false)
  | _ => ("ShiftBuses$Wish", "stop", "I", false)
def tyX3 : Nat → FieldType := fun k => match k with
  | 0 => .int
  | 1 => .int
  | _ => .int
abbrev wsX30 : List Cond := u_ws RX3 TX3 3
theorem nmX3 : ∀ a, a < 3 → ∀ b, b < 3 → a ≠ b → (TX3 a).2.1 ≠ (TX3 b).2.1 := by decide +kernel
theorem tyX3_ok : ∀ k, k < 3 → parseFieldDescriptor (TX3 k).2.2.1 = some (tyX3 k) := by decide +kernel
abbrev cX3_init : ByteArray := prog_5_method_1_code
def yX3_init : MethodName := ⟨RX3, "<init>", "()V"⟩
def RX4 : String := "ShiftBuses$Works"
def TX4 : u_T := fun k => match k with
  | 0 => ("ShiftBuses$Works", "endCount", "I", false)
  | 1 => ("ShiftBuses$Works", "minutes", "[I", true)
  | 2 => ("ShiftBuses$Works", "partners", "[I", true)
  | 3 => ("ShiftBuses$Works", "settings", "[I", true)
  | 4 => ("ShiftBuses$Works", "bookings", "[LShiftBuses$Booking;", true)
  | 5 => ("ShiftBuses$Works", "bookingsSoFar", "I", false)
  | 6 => ("ShiftBuses$Works", "days", "I", false)
  | 7 => ("ShiftBuses$Works", "rides", "I", false)
  | 8 => ("ShiftBuses$Works", "taxis", "I", false)
  | 9 => ("ShiftBuses$Works", "walks", "I", false)
  | 10 => ("ShiftBuses$Works", "busCosts", "I", false)
  | _ => ("ShiftBuses$Works", "taxiCosts", "I", false)
def tyX4 : Nat → FieldType := fun k => match k with
  | 0 => .int
  | 1 => .array .int
  | 2 => .array .int
  | 3 => .array .int
  | 4 => .array (.object "ShiftBuses$Booking")
  | 5 => .int
  | 6 => .int
  | 7 => .int
  | 8 => .int
  | 9 => .int
  | 10 => .int
  | _ => .int
abbrev wsX40 : List Cond := u_ws RX4 TX4 12
theorem nmX4 : ∀ a, a < 12 → ∀ b, b < 12 → a ≠ b → (TX4 a).2.1 ≠ (TX4 b).2.1 := by decide +kernel
theorem tyX4_ok : ∀ k, k < 12 → parseFieldDescriptor (TX4 k).2.2.1 = some (tyX4 k) := by decide +kernel
abbrev cX4_init : ByteArray := prog_6_method_1_code
def yX4_init : MethodName := ⟨RX4, "<init>", "()V"⟩
abbrev cX4_copyFrom : ByteArray := prog_6_method_2_code
def yX4_copyFrom : MethodName := ⟨RX4, "copyFrom", "(LShiftBuses$Works;)V"⟩
abbrev cX4_copyRow : ByteArray := prog_6_method_3_code
def yX4_copyRow : MethodName := ⟨RX4, "copyRow", "([I[I)V"⟩
abbrev cX4_setting : ByteArray := prog_6_method_4_code
def yX4_setting : MethodName := ⟨RX4, "setting", "(I)I"⟩
abbrev cX4_changeSetting : ByteArray := prog_6_method_5_code
def yX4_changeSetting : MethodName := ⟨RX4, "changeSetting", "(II)V"⟩
abbrev cX4_hasEnd : ByteArray := prog_6_method_6_code
def yX4_hasEnd : MethodName := ⟨RX4, "hasEnd", "(I)Z"⟩
abbrev cX4_openEnd : ByteArray := prog_6_method_7_code
def yX4_openEnd : MethodName := ⟨RX4, "openEnd", "(I)I"⟩
abbrev cX4_minuteOf : ByteArray := prog_6_method_8_code
def yX4_minuteOf : MethodName := ⟨RX4, "minuteOf", "(I)I"⟩
abbrev cX4_isEarlier : ByteArray := prog_6_method_9_code
def yX4_isEarlier : MethodName := ⟨RX4, "isEarlier", "(II)Z"⟩
abbrev cX4_bookingOf : ByteArray := prog_6_method_12_code
def yX4_bookingOf : MethodName := ⟨RX4, "bookingOf", "(I)LShiftBuses$Booking;"⟩
abbrev cX4_enter : ByteArray := prog_6_method_13_code
def yX4_enter : MethodName := ⟨RX4, "enter", "(III)I"⟩
abbrev cX4_workerCount : ByteArray := prog_6_method_14_code
def yX4_workerCount : MethodName := ⟨RX4, "workerCount", "()I"⟩
abbrev cX4_waitingCount : ByteArray := prog_6_method_15_code
def yX4_waitingCount : MethodName := ⟨RX4, "waitingCount", "()I"⟩
abbrev cX4_reason : ByteArray := prog_6_method_16_code
def yX4_reason : MethodName := ⟨RX4, "reason", "(IIILShiftBuses$Booking;)I"⟩
abbrev cX4_lookAtWaiting : ByteArray := prog_6_method_17_code
def yX4_lookAtWaiting : MethodName := ⟨RX4, "lookAtWaiting", "()V"⟩
abbrev cX4_nextWaiting : ByteArray := prog_6_method_18_code
def yX4_nextWaiting : MethodName := ⟨RX4, "nextWaiting", "(LShiftBuses$Booking;)LShiftBuses$Booking;"⟩
abbrev cX4_isLookedAtAheadOf : ByteArray := prog_6_method_19_code
def yX4_isLookedAtAheadOf : MethodName := ⟨RX4, "isLookedAtAheadOf", "(LShiftBuses$Booking;LShiftBuses$Booking;)Z"⟩
abbrev cX4_busIndex : ByteArray := prog_6_method_20_code
def yX4_busIndex : MethodName := ⟨RX4, "busIndex", "(II)I"⟩
abbrev cX4_partnerOf : ByteArray := prog_6_method_21_code
def yX4_partnerOf : MethodName := ⟨RX4, "partnerOf", "(II)I"⟩
abbrev cX4_tie : ByteArray := prog_6_method_22_code
def yX4_tie : MethodName := ⟨RX4, "tie", "(III)V"⟩
abbrev cX4_pairCount : ByteArray := prog_6_method_23_code
def yX4_pairCount : MethodName := ⟨RX4, "pairCount", "()I"⟩
abbrev cX4_startOf : ByteArray := prog_6_method_24_code
def yX4_startOf : MethodName := ⟨RX4, "startOf", "(II)I"⟩
abbrev cX4_startOfBusOf : ByteArray := prog_6_method_25_code
def yX4_startOfBusOf : MethodName := ⟨RX4, "startOfBusOf", "(LShiftBuses$Booking;)I"⟩
abbrev cX4_minutesBehind : ByteArray := prog_6_method_26_code
def yX4_minutesBehind : MethodName := ⟨RX4, "minutesBehind", "(III)I"⟩
abbrev cX4_isInTime : ByteArray := prog_6_method_27_code
def yX4_isInTime : MethodName := ⟨RX4, "isInTime", "(III)Z"⟩
abbrev cX4_takenSeats : ByteArray := prog_6_method_28_code
def yX4_takenSeats : MethodName := ⟨RX4, "takenSeats", "(IIIILShiftBuses$Booking;)I"⟩
abbrev cX4_waitingFor : ByteArray := prog_6_method_29_code
def yX4_waitingFor : MethodName := ⟨RX4, "waitingFor", "(III)I"⟩
abbrev cX4_farthestPromised : ByteArray := prog_6_method_30_code
def yX4_farthestPromised : MethodName := ⟨RX4, "farthestPromised", "(III)I"⟩
abbrev cX4_canMerge : ByteArray := prog_6_method_31_code
def yX4_canMerge : MethodName := ⟨RX4, "canMerge", "(III)Z"⟩
abbrev cX4_isInTimeForAll : ByteArray := prog_6_method_32_code
def yX4_isInTimeForAll : MethodName := ⟨RX4, "isInTimeForAll", "(III)Z"⟩
abbrev cX4_canRide : ByteArray := prog_6_method_33_code
def yX4_canRide : MethodName := ⟨RX4, "canRide", "(LShiftBuses$Booking;II)Z"⟩
abbrev cX4_costToday : ByteArray := prog_6_method_34_code
def yX4_costToday : MethodName := ⟨RX4, "costToday", "(III)I"⟩
abbrev cX4_runBuses : ByteArray := prog_6_method_35_code
def yX4_runBuses : MethodName := ⟨RX4, "runBuses", "()V"⟩
abbrev cX4_bringHome : ByteArray := prog_6_method_36_code
def yX4_bringHome : MethodName := ⟨RX4, "bringHome", "()V"⟩
abbrev cX4_bringRiderHome : ByteArray := prog_6_method_37_code
def yX4_bringRiderHome : MethodName := ⟨RX4, "bringRiderHome", "(LShiftBuses$Booking;)V"⟩
def RX5 : String := "ShiftBuses"
def TX5 : u_T := fun k => match k with
  | 0 => ("ShiftBuses", "works", "LShiftBuses$Works;", true)
  | 1 => ("ShiftBuses", "text", "LShiftBuses$BookingText;", true)
  | 2 => ("ShiftBuses", "history", "LShiftBuses$History;", true)
  | 3 => ("ShiftBuses", "snapshot", "LShiftBuses$Works;", true)
  | _ => ("ShiftBuses", "hasSnapshot", "Z", false)
def tyX5 : Nat → FieldType := fun k => match k with
  | 0 => .object "ShiftBuses$Works"
  | 1 => .object "ShiftBuses$BookingText"
  | 2 => .object "ShiftBuses$History"
  | 3 => .object "ShiftBuses$Works"
  | _ => .boolean
abbrev wsX50 : List Cond := u_ws RX5 TX5 5
theorem nmX5 : ∀ a, a < 5 → ∀ b, b < 5 → a ≠ b → (TX5 a).2.1 ≠ (TX5 b).2.1 := by decide +kernel
theorem tyX5_ok : ∀ k, k < 5 → parseFieldDescriptor (TX5 k).2.2.1 = some (tyX5 k) := by decide +kernel
abbrev cX5_init : ByteArray := prog_1_method_1_code
def yX5_init : MethodName := ⟨RX5, "<init>", "()V"⟩
abbrev cX5_addEnd : ByteArray := prog_1_method_2_code
def yX5_addEnd : MethodName := ⟨RX5, "addEnd", "(I)I"⟩
abbrev cX5_book : ByteArray := prog_1_method_3_code
def yX5_book : MethodName := ⟨RX5, "book", "(III)I"⟩
abbrev cX5_takeBack : ByteArray := prog_1_method_5_code
def yX5_takeBack : MethodName := ⟨RX5, "takeBack", "(I)I"⟩
abbrev cX5_stay : ByteArray := prog_1_method_6_code
def yX5_stay : MethodName := ⟨RX5, "stay", "(II)I"⟩
abbrev cX5_merge : ByteArray := prog_1_method_7_code
def yX5_merge : MethodName := ⟨RX5, "merge", "(III)I"⟩
abbrev cX5_part : ByteArray := prog_1_method_8_code
def yX5_part : MethodName := ⟨RX5, "part", "(II)I"⟩
abbrev cX5_set : ByteArray := prog_1_method_9_code
def yX5_set : MethodName := ⟨RX5, "set", "(II)I"⟩
abbrev cX5_passDay : ByteArray := prog_1_method_10_code
def yX5_passDay : MethodName := ⟨RX5, "passDay", "()I"⟩
abbrev cX5_undo : ByteArray := prog_1_method_13_code
def yX5_undo : MethodName := ⟨RX5, "undo", "()I"⟩
abbrev cX5_keep : ByteArray := prog_1_method_14_code
def yX5_keep : MethodName := ⟨RX5, "keep", "()I"⟩
abbrev cX5_restore : ByteArray := prog_1_method_15_code
def yX5_restore : MethodName := ⟨RX5, "restore", "()I"⟩
abbrev cX5_worker : ByteArray := prog_1_method_16_code
def yX5_worker : MethodName := ⟨RX5, "worker", "(II)I"⟩
abbrev cX5_bus : ByteArray := prog_1_method_17_code
def yX5_bus : MethodName := ⟨RX5, "bus", "(III)I"⟩
abbrev cX5_taken : ByteArray := prog_1_method_18_code
def yX5_taken : MethodName := ⟨RX5, "taken", "(III)I"⟩
abbrev cX5_why : ByteArray := prog_1_method_19_code
def yX5_why : MethodName := ⟨RX5, "why", "(III)I"⟩
abbrev cX5_count : ByteArray := prog_1_method_22_code
def yX5_count : MethodName := ⟨RX5, "count", "(I)I"⟩
abbrev cX5_isLine : ByteArray := prog_1_method_23_code
def yX5_isLine : MethodName := ⟨RX5, "isLine", "(I)Z"⟩
abbrev cX5_isStop : ByteArray := prog_1_method_24_code
def yX5_isStop : MethodName := ⟨RX5, "isStop", "(I)Z"⟩
abbrev cX5_isSettingValue : ByteArray := prog_1_method_25_code
def yX5_isSettingValue : MethodName := ⟨RX5, "isSettingValue", "(II)Z"⟩
abbrev cX5_mergingError : ByteArray := prog_1_method_26_code
def yX5_mergingError : MethodName := ⟨RX5, "mergingError", "(III)I"⟩
def RX6 : String := "ShiftBusesModel"
def TX6 : u_T := fun k => match k with
  | _ => ("", "", "", false)
def tyX6 : Nat → FieldType := fun k => match k with
  | _ => .int
abbrev wsX60 : List Cond := u_ws RX6 TX6 0
theorem nmX6 : ∀ a, a < 0 → ∀ b, b < 0 → a ≠ b → (TX6 a).2.1 ≠ (TX6 b).2.1 := by decide +kernel
theorem tyX6_ok : ∀ k, k < 0 → parseFieldDescriptor (TX6 k).2.2.1 = some (tyX6 k) := by decide +kernel
def RJ9 : String := "java/lang/Math"
def TJ9 : u_T := fun k => match k with
  | _ => ("", "", "", false)
def tyJ9 : Nat → FieldType := fun k => match k with
  | _ => .int
abbrev wsJ90 : List Cond := u_ws RJ9 TJ9 0
theorem nmJ9 : ∀ a, a < 0 → ∀ b, b < 0 → a ≠ b → (TJ9 a).2.1 ≠ (TJ9 b).2.1 := by decide +kernel
theorem tyJ9_ok : ∀ k, k < 0 → parseFieldDescriptor (TJ9 k).2.2.1 = some (tyJ9 k) := by decide +kernel
abbrev cJ9_abs_0f7a4 : ByteArray := prog_9_method_59_code
def yJ9_abs_0f7a4 : MethodName := ⟨RJ9, "abs", "(I)I"⟩
abbrev cJ9_max_7cf53 : ByteArray := prog_9_method_65_code
def yJ9_max_7cf53 : MethodName := ⟨RJ9, "max", "(II)I"⟩
def RL : String := "ShiftBusesLaw"
abbrev cL_cell : ByteArray := method_2_code
def yL_cell : MethodName := ⟨RL, "cell", "([II)I"⟩
abbrev cL_low : ByteArray := method_3_code
def yL_low : MethodName := ⟨RL, "low", "(II)I"⟩
abbrev cL_told : ByteArray := method_4_code
def yL_told : MethodName := ⟨RL, "told", "(LShiftBuses;)J"⟩
abbrev cL_act : ByteArray := method_5_code
def yL_act : MethodName := ⟨RL, "act", "(LShiftBuses;II)I"⟩
abbrev cL_holds : ByteArray := method_6_code
def yL_holds : MethodName := ⟨RL, "holds", "(LShiftBuses;)Z"⟩
abbrev cL_law : ByteArray := code
def yL_law : MethodName := ⟨RL, "law", "([I)Z"⟩
abbrev vwCl : List vw_C := [(RX0, TX0, 8), (RX1, TX1, 4), (RX2, TX2, 2), (RX3, TX3, 3), (RX4, TX4, 12), (RX5, TX5, 5)]
end
section
abbrev qz_N : Type := Nat × Nat × Nat
abbrev qz_V : Type := Int32 ⊕ (Option qz_N ⊕ Int64)
abbrev qz_M : Type := Nat × (qz_N → Nat → Int32) × (qz_N → Nat → Option qz_N)
abbrev qz_I : Type := MethodName × ByteArray × Nat × Option FieldType × Nat × Nat × Bool × Nat × Nat
/-- the good words of the tables -/
def qz_tb : List Cond := lw_tbl.filter goodWord
theorem qz_in {w : Cond} (i : Nat) (h : lw_tbl[i]? = some w) (g : goodWord w = true) : w ∈ qz_tb := List.mem_filter.mpr ⟨List.mem_of_getElem? h, g⟩
theorem qz_fm {α : Type} {P : α → Prop} {l : List α} {x : α} (h : ∀ e ∈ l, P e) (hx : x ∈ l) : P x := h x hx
theorem qz_lk {α β : Type} [BEq α] [LawfulBEq α] {l : List (α × β)} {a : α} {b : β} (h : l.lookup a = some b) : (a, b) ∈ l := by
  induction l with
  | nil => simp at h
  | cons x l ih =>
    obtain ⟨x1, x2⟩ := x
    rw [List.lookup_cons] at h
    split at h
    · next hc =>
      have : a = x1 := by simpa using hc
      cases h
      rw [this]
      exact List.mem_cons_self
    · exact List.mem_cons_of_mem _ (ih h)
def qz_ow (c : Nat) : String := match c with
  | 0 => RX0
  | 1 => RX1
  | 2 => RX2
  | 3 => RX3
  | 4 => RX4
  | 5 => RX5
  | 7 => RJ9
  | _ => RL
def qz_T (c : Nat) : u_T := match c with
  | 0 => TX0
  | 1 => TX1
  | 2 => TX2
  | 3 => TX3
  | 4 => TX4
  | _ => TX5
def qz_ty (c : Nat) : Nat → FieldType := match c with
  | 0 => tyX0
  | 1 => tyX1
  | 2 => tyX2
  | 3 => tyX3
  | 4 => tyX4
  | _ => tyX5
def qz_nf (c : Nat) : Nat := match c with
  | 0 => 8
  | 1 => 4
  | 2 => 2
  | 3 => 3
  | 4 => 12
  | _ => 5
def qz_rf (c k : Nat) : Bool := match c with
  | 0 => false
  | 1 => k == 0 || k == 2
  | 2 => k == 0
  | 3 => false
  | 4 => k == 1 || k == 2 || k == 3 || k == 4
  | _ => k == 0 || k == 1 || k == 2 || k == 3
def qz_bl (c k : Nat) : Bool := match c with
  | 0 => k == 4
  | 1 => false
  | 2 => false
  | 3 => false
  | 4 => false
  | _ => k == 4
def qz_fn (c k : Nat) : Bool := match c with
  | 0 => false
  | 1 => k == 0 || k == 2
  | 2 => k == 0
  | 3 => false
  | 4 => k == 1 || k == 2 || k == 3 || k == 4
  | _ => k == 0 || k == 1 || k == 2 || k == 3
def qz_flL : List ((Nat × Nat) × (Nat × Nat)) := [((0, 9), (0, 0)), ((0, 13), (0, 1)), ((0, 16), (0, 2)), ((0, 19), (0, 3)), ((0, 22), (0, 4)), ((0, 26), (0, 5)), ((0, 29), (0, 6)), ((0, 32), (0, 7)), ((1, 9), (1, 0)), ((1, 15), (1, 1)), ((1, 21), (1, 2)), ((1, 25), (1, 3)), ((2, 11), (2, 0)), ((2, 17), (2, 1)), ((3, 7), (3, 0)), ((3, 13), (3, 1)), ((3, 16), (3, 2)), ((4, 9), (4, 0)), ((4, 15), (4, 1)), ((4, 19), (4, 2)), ((4, 25), (4, 3)), ((4, 30), (4, 4)), ((4, 34), (4, 5)), ((4, 37), (4, 6)), ((4, 40), (4, 7)), ((4, 43), (4, 8)), ((4, 46), (4, 9)), ((4, 49), (4, 10)), ((4, 52), (4, 11)), ((4, 79), (0, 0)), ((4, 86), (0, 1)), ((4, 89), (0, 2)), ((4, 92), (0, 3)), ((4, 95), (0, 4)), ((4, 173), (0, 7)), ((4, 174), (0, 5)), ((4, 175), (0, 6)), ((5, 10), (5, 0)), ((5, 19), (5, 1)), ((5, 26), (5, 2)), ((5, 30), (5, 3)), ((5, 33), (5, 4)), ((5, 37), (4, 0)), ((5, 95), (0, 1)), ((5, 98), (0, 4)), ((5, 126), (4, 8)), ((5, 135), (4, 6)), ((5, 138), (1, 1)), ((5, 145), (2, 1)), ((5, 154), (0, 2)), ((5, 157), (0, 3)), ((5, 171), (0, 5)), ((5, 174), (0, 6)), ((5, 175), (0, 7)), ((5, 197), (4, 7)), ((5, 198), (4, 9)), ((5, 199), (4, 10)), ((5, 202), (4, 11)), ((5, 205), (4, 5))]
def qz_fl (c i : Nat) : Option (Nat × Nat) := qz_flL.lookup (c, i)
def qz_FO (e : (Nat × Nat) × (Nat × Nat)) : Prop := e.2.1 < 6 ∧ e.2.2 < qz_nf e.2.1 ∧ Cond.fieldLink (qz_ow e.1.1) e.1.2 (qz_T e.2.1 e.2.2).1 (qz_T e.2.1 e.2.2).2.1 (qz_T e.2.1 e.2.2).2.2.1 ∈ qz_tb
theorem qz_fo0 : qz_FO ((0, 9), (0, 0)) := ⟨by decide, by decide, qz_in 41 (by decide +kernel) (by decide +kernel)⟩
theorem qz_fo1 : qz_FO ((0, 13), (0, 1)) := ⟨by decide, by decide, qz_in 43 (by decide +kernel) (by decide +kernel)⟩
theorem qz_fo2 : qz_FO ((0, 16), (0, 2)) := ⟨by decide, by decide, qz_in 46 (by decide +kernel) (by decide +kernel)⟩
theorem qz_fo3 : qz_FO ((0, 19), (0, 3)) := ⟨by decide, by decide, qz_in 49 (by decide +kernel) (by decide +kernel)⟩
theorem qz_fo4 : qz_FO ((0, 22), (0, 4)) := ⟨by decide, by decide, qz_in 52 (by decide +kernel) (by decide +kernel)⟩
theorem qz_fo5 : qz_FO ((0, 26), (0, 5)) := ⟨by decide, by decide, qz_in 55 (by decide +kernel) (by decide +kernel)⟩
theorem qz_fo6 : qz_FO ((0, 29), (0, 6)) := ⟨by decide, by decide, qz_in 58 (by decide +kernel) (by decide +kernel)⟩
theorem qz_fo7 : qz_FO ((0, 32), (0, 7)) := ⟨by decide, by decide, qz_in 61 (by decide +kernel) (by decide +kernel)⟩
theorem qz_fo8 : qz_FO ((1, 9), (1, 0)) := ⟨by decide, by decide, qz_in 151 (by decide +kernel) (by decide +kernel)⟩
theorem qz_fo9 : qz_FO ((1, 15), (1, 1)) := ⟨by decide, by decide, qz_in 152 (by decide +kernel) (by decide +kernel)⟩
theorem qz_fo10 : qz_FO ((1, 21), (1, 2)) := ⟨by decide, by decide, qz_in 154 (by decide +kernel) (by decide +kernel)⟩
theorem qz_fo11 : qz_FO ((1, 25), (1, 3)) := ⟨by decide, by decide, qz_in 155 (by decide +kernel) (by decide +kernel)⟩
theorem qz_fo12 : qz_FO ((2, 11), (2, 0)) := ⟨by decide, by decide, qz_in 174 (by decide +kernel) (by decide +kernel)⟩
theorem qz_fo13 : qz_FO ((2, 17), (2, 1)) := ⟨by decide, by decide, qz_in 175 (by decide +kernel) (by decide +kernel)⟩
theorem qz_fo14 : qz_FO ((3, 7), (3, 0)) := ⟨by decide, by decide, qz_in 140 (by decide +kernel) (by decide +kernel)⟩
theorem qz_fo15 : qz_FO ((3, 13), (3, 1)) := ⟨by decide, by decide, qz_in 141 (by decide +kernel) (by decide +kernel)⟩
theorem qz_fo16 : qz_FO ((3, 16), (3, 2)) := ⟨by decide, by decide, qz_in 142 (by decide +kernel) (by decide +kernel)⟩
theorem qz_fo17 : qz_FO ((4, 9), (4, 0)) := ⟨by decide, by decide, qz_in 82 (by decide +kernel) (by decide +kernel)⟩
theorem qz_fo18 : qz_FO ((4, 15), (4, 1)) := ⟨by decide, by decide, qz_in 84 (by decide +kernel) (by decide +kernel)⟩
theorem qz_fo19 : qz_FO ((4, 19), (4, 2)) := ⟨by decide, by decide, qz_in 85 (by decide +kernel) (by decide +kernel)⟩
theorem qz_fo20 : qz_FO ((4, 25), (4, 3)) := ⟨by decide, by decide, qz_in 86 (by decide +kernel) (by decide +kernel)⟩
theorem qz_fo21 : qz_FO ((4, 30), (4, 4)) := ⟨by decide, by decide, qz_in 87 (by decide +kernel) (by decide +kernel)⟩
theorem qz_fo22 : qz_FO ((4, 34), (4, 5)) := ⟨by decide, by decide, qz_in 88 (by decide +kernel) (by decide +kernel)⟩
theorem qz_fo23 : qz_FO ((4, 37), (4, 6)) := ⟨by decide, by decide, qz_in 90 (by decide +kernel) (by decide +kernel)⟩
theorem qz_fo24 : qz_FO ((4, 40), (4, 7)) := ⟨by decide, by decide, qz_in 92 (by decide +kernel) (by decide +kernel)⟩
theorem qz_fo25 : qz_FO ((4, 43), (4, 8)) := ⟨by decide, by decide, qz_in 94 (by decide +kernel) (by decide +kernel)⟩
theorem qz_fo26 : qz_FO ((4, 46), (4, 9)) := ⟨by decide, by decide, qz_in 96 (by decide +kernel) (by decide +kernel)⟩
theorem qz_fo27 : qz_FO ((4, 49), (4, 10)) := ⟨by decide, by decide, qz_in 98 (by decide +kernel) (by decide +kernel)⟩
theorem qz_fo28 : qz_FO ((4, 52), (4, 11)) := ⟨by decide, by decide, qz_in 100 (by decide +kernel) (by decide +kernel)⟩
theorem qz_fo29 : qz_FO ((4, 79), (0, 0)) := ⟨by decide, by decide, qz_in 42 (by decide +kernel) (by decide +kernel)⟩
theorem qz_fo30 : qz_FO ((4, 86), (0, 1)) := ⟨by decide, by decide, qz_in 45 (by decide +kernel) (by decide +kernel)⟩
theorem qz_fo31 : qz_FO ((4, 89), (0, 2)) := ⟨by decide, by decide, qz_in 47 (by decide +kernel) (by decide +kernel)⟩
theorem qz_fo32 : qz_FO ((4, 92), (0, 3)) := ⟨by decide, by decide, qz_in 50 (by decide +kernel) (by decide +kernel)⟩
theorem qz_fo33 : qz_FO ((4, 95), (0, 4)) := ⟨by decide, by decide, qz_in 54 (by decide +kernel) (by decide +kernel)⟩
theorem qz_fo34 : qz_FO ((4, 173), (0, 7)) := ⟨by decide, by decide, qz_in 63 (by decide +kernel) (by decide +kernel)⟩
theorem qz_fo35 : qz_FO ((4, 174), (0, 5)) := ⟨by decide, by decide, qz_in 57 (by decide +kernel) (by decide +kernel)⟩
theorem qz_fo36 : qz_FO ((4, 175), (0, 6)) := ⟨by decide, by decide, qz_in 60 (by decide +kernel) (by decide +kernel)⟩
theorem qz_fo37 : qz_FO ((5, 10), (5, 0)) := ⟨by decide, by decide, qz_in 182 (by decide +kernel) (by decide +kernel)⟩
theorem qz_fo38 : qz_FO ((5, 19), (5, 1)) := ⟨by decide, by decide, qz_in 183 (by decide +kernel) (by decide +kernel)⟩
theorem qz_fo39 : qz_FO ((5, 26), (5, 2)) := ⟨by decide, by decide, qz_in 184 (by decide +kernel) (by decide +kernel)⟩
theorem qz_fo40 : qz_FO ((5, 30), (5, 3)) := ⟨by decide, by decide, qz_in 185 (by decide +kernel) (by decide +kernel)⟩
theorem qz_fo41 : qz_FO ((5, 33), (5, 4)) := ⟨by decide, by decide, qz_in 186 (by decide +kernel) (by decide +kernel)⟩
theorem qz_fo42 : qz_FO ((5, 37), (4, 0)) := ⟨by decide, by decide, qz_in 83 (by decide +kernel) (by decide +kernel)⟩
theorem qz_fo43 : qz_FO ((5, 95), (0, 1)) := ⟨by decide, by decide, qz_in 44 (by decide +kernel) (by decide +kernel)⟩
theorem qz_fo44 : qz_FO ((5, 98), (0, 4)) := ⟨by decide, by decide, qz_in 53 (by decide +kernel) (by decide +kernel)⟩
theorem qz_fo45 : qz_FO ((5, 126), (4, 8)) := ⟨by decide, by decide, qz_in 95 (by decide +kernel) (by decide +kernel)⟩
theorem qz_fo46 : qz_FO ((5, 135), (4, 6)) := ⟨by decide, by decide, qz_in 91 (by decide +kernel) (by decide +kernel)⟩
theorem qz_fo47 : qz_FO ((5, 138), (1, 1)) := ⟨by decide, by decide, qz_in 153 (by decide +kernel) (by decide +kernel)⟩
theorem qz_fo48 : qz_FO ((5, 145), (2, 1)) := ⟨by decide, by decide, qz_in 176 (by decide +kernel) (by decide +kernel)⟩
theorem qz_fo49 : qz_FO ((5, 154), (0, 2)) := ⟨by decide, by decide, qz_in 48 (by decide +kernel) (by decide +kernel)⟩
theorem qz_fo50 : qz_FO ((5, 157), (0, 3)) := ⟨by decide, by decide, qz_in 51 (by decide +kernel) (by decide +kernel)⟩
theorem qz_fo51 : qz_FO ((5, 171), (0, 5)) := ⟨by decide, by decide, qz_in 56 (by decide +kernel) (by decide +kernel)⟩
theorem qz_fo52 : qz_FO ((5, 174), (0, 6)) := ⟨by decide, by decide, qz_in 59 (by decide +kernel) (by decide +kernel)⟩
theorem qz_fo53 : qz_FO ((5, 175), (0, 7)) := ⟨by decide, by decide, qz_in 62 (by decide +kernel) (by decide +kernel)⟩
theorem qz_fo54 : qz_FO ((5, 197), (4, 7)) := ⟨by decide, by decide, qz_in 93 (by decide +kernel) (by decide +kernel)⟩
theorem qz_fo55 : qz_FO ((5, 198), (4, 9)) := ⟨by decide, by decide, qz_in 97 (by decide +kernel) (by decide +kernel)⟩
theorem qz_fo56 : qz_FO ((5, 199), (4, 10)) := ⟨by decide, by decide, qz_in 99 (by decide +kernel) (by decide +kernel)⟩
theorem qz_fo57 : qz_FO ((5, 202), (4, 11)) := ⟨by decide, by decide, qz_in 101 (by decide +kernel) (by decide +kernel)⟩
theorem qz_fo58 : qz_FO ((5, 205), (4, 5)) := ⟨by decide, by decide, qz_in 89 (by decide +kernel) (by decide +kernel)⟩
set_option maxRecDepth 20000 in
theorem qz_flL_ok : ∀ e ∈ qz_flL, qz_FO e := List.forall_mem_cons.mpr ⟨qz_fo0, List.forall_mem_cons.mpr ⟨qz_fo1, List.forall_mem_cons.mpr ⟨qz_fo2, List.forall_mem_cons.mpr ⟨qz_fo3, List.forall_mem_cons.mpr ⟨qz_fo4, List.forall_mem_cons.mpr ⟨qz_fo5, List.forall_mem_cons.mpr ⟨qz_fo6, List.forall_mem_cons.mpr ⟨qz_fo7, List.forall_mem_cons.mpr ⟨qz_fo8, List.forall_mem_cons.mpr ⟨qz_fo9, List.forall_mem_cons.mpr ⟨qz_fo10, List.forall_mem_cons.mpr ⟨qz_fo11, List.forall_mem_cons.mpr ⟨qz_fo12, List.forall_mem_cons.mpr ⟨qz_fo13, List.forall_mem_cons.mpr ⟨qz_fo14, List.forall_mem_cons.mpr ⟨qz_fo15, List.forall_mem_cons.mpr ⟨qz_fo16, List.forall_mem_cons.mpr ⟨qz_fo17, List.forall_mem_cons.mpr ⟨qz_fo18, List.forall_mem_cons.mpr ⟨qz_fo19, List.forall_mem_cons.mpr ⟨qz_fo20, List.forall_mem_cons.mpr ⟨qz_fo21, List.forall_mem_cons.mpr ⟨qz_fo22, List.forall_mem_cons.mpr ⟨qz_fo23, List.forall_mem_cons.mpr ⟨qz_fo24, List.forall_mem_cons.mpr ⟨qz_fo25, List.forall_mem_cons.mpr ⟨qz_fo26, List.forall_mem_cons.mpr ⟨qz_fo27, List.forall_mem_cons.mpr ⟨qz_fo28, List.forall_mem_cons.mpr ⟨qz_fo29, List.forall_mem_cons.mpr ⟨qz_fo30, List.forall_mem_cons.mpr ⟨qz_fo31, List.forall_mem_cons.mpr ⟨qz_fo32, List.forall_mem_cons.mpr ⟨qz_fo33, List.forall_mem_cons.mpr ⟨qz_fo34, List.forall_mem_cons.mpr ⟨qz_fo35, List.forall_mem_cons.mpr ⟨qz_fo36, List.forall_mem_cons.mpr ⟨qz_fo37, List.forall_mem_cons.mpr ⟨qz_fo38, List.forall_mem_cons.mpr ⟨qz_fo39, List.forall_mem_cons.mpr ⟨qz_fo40, List.forall_mem_cons.mpr ⟨qz_fo41, List.forall_mem_cons.mpr ⟨qz_fo42, List.forall_mem_cons.mpr ⟨qz_fo43, List.forall_mem_cons.mpr ⟨qz_fo44, List.forall_mem_cons.mpr ⟨qz_fo45, List.forall_mem_cons.mpr ⟨qz_fo46, List.forall_mem_cons.mpr ⟨qz_fo47, List.forall_mem_cons.mpr ⟨qz_fo48, List.forall_mem_cons.mpr ⟨qz_fo49, List.forall_mem_cons.mpr ⟨qz_fo50, List.forall_mem_cons.mpr ⟨qz_fo51, List.forall_mem_cons.mpr ⟨qz_fo52, List.forall_mem_cons.mpr ⟨qz_fo53, List.forall_mem_cons.mpr ⟨qz_fo54, List.forall_mem_cons.mpr ⟨qz_fo55, List.forall_mem_cons.mpr ⟨qz_fo56, List.forall_mem_cons.mpr ⟨qz_fo57, List.forall_mem_cons.mpr ⟨qz_fo58, fun _ h => absurd h List.not_mem_nil⟩⟩⟩⟩⟩⟩⟩⟩⟩⟩⟩⟩⟩⟩⟩⟩⟩⟩⟩⟩⟩⟩⟩⟩⟩⟩⟩⟩⟩⟩⟩⟩⟩⟩⟩⟩⟩⟩⟩⟩⟩⟩⟩⟩⟩⟩⟩⟩⟩⟩⟩⟩⟩⟩⟩⟩⟩⟩⟩
theorem qz_fl_ok {c i x y : Nat} (h : qz_fl c i = some (x, y)) : qz_FO ((c, i), (x, y)) := qz_fm qz_flL_ok (qz_lk h)
theorem qz_f_0_9 : qz_fl 0 9 = some (0, 0) := by decide +kernel
theorem qz_f_0_13 : qz_fl 0 13 = some (0, 1) := by decide +kernel
theorem qz_f_0_16 : qz_fl 0 16 = some (0, 2) := by decide +kernel
theorem qz_f_0_19 : qz_fl 0 19 = some (0, 3) := by decide +kernel
theorem qz_f_0_22 : qz_fl 0 22 = some (0, 4) := by decide +kernel
theorem qz_f_0_26 : qz_fl 0 26 = some (0, 5) := by decide +kernel
theorem qz_f_0_29 : qz_fl 0 29 = some (0, 6) := by decide +kernel
theorem qz_f_0_32 : qz_fl 0 32 = some (0, 7) := by decide +kernel
theorem qz_f_1_9 : qz_fl 1 9 = some (1, 0) := by decide +kernel
theorem qz_f_1_15 : qz_fl 1 15 = some (1, 1) := by decide +kernel
theorem qz_f_1_21 : qz_fl 1 21 = some (1, 2) := by decide +kernel
theorem qz_f_1_25 : qz_fl 1 25 = some (1, 3) := by decide +kernel
theorem qz_f_2_11 : qz_fl 2 11 = some (2, 0) := by decide +kernel
theorem qz_f_2_17 : qz_fl 2 17 = some (2, 1) := by decide +kernel
theorem qz_f_3_7 : qz_fl 3 7 = some (3, 0) := by decide +kernel
theorem qz_f_3_13 : qz_fl 3 13 = some (3, 1) := by decide +kernel
theorem qz_f_3_16 : qz_fl 3 16 = some (3, 2) := by decide +kernel
theorem qz_f_4_9 : qz_fl 4 9 = some (4, 0) := by decide +kernel
theorem qz_f_4_15 : qz_fl 4 15 = some (4, 1) := by decide +kernel
theorem qz_f_4_19 : qz_fl 4 19 = some (4, 2) := by decide +kernel
theorem qz_f_4_25 : qz_fl 4 25 = some (4, 3) := by decide +kernel
theorem qz_f_4_30 : qz_fl 4 30 = some (4, 4) := by decide +kernel
theorem qz_f_4_34 : qz_fl 4 34 = some (4, 5) := by decide +kernel
theorem qz_f_4_37 : qz_fl 4 37 = some (4, 6) := by decide +kernel
theorem qz_f_4_40 : qz_fl 4 40 = some (4, 7) := by decide +kernel
theorem qz_f_4_43 : qz_fl 4 43 = some (4, 8) := by decide +kernel
theorem qz_f_4_46 : qz_fl 4 46 = some (4, 9) := by decide +kernel
theorem qz_f_4_49 : qz_fl 4 49 = some (4, 10) := by decide +kernel
theorem qz_f_4_52 : qz_fl 4 52 = some (4, 11) := by decide +kernel
theorem qz_f_4_79 : qz_fl 4 79 = some (0, 0) := by decide +kernel
theorem qz_f_4_86 : qz_fl 4 86 = some (0, 1) := by decide +kernel
theorem qz_f_4_89 : qz_fl 4 89 = some (0, 2) := by decide +kernel
theorem qz_f_4_92 : qz_fl 4 92 = some (0, 3) := by decide +kernel
theorem qz_f_4_95 : qz_fl 4 95 = some (0, 4) := by decide +kernel
theorem qz_f_4_173 : qz_fl 4 173 = some (0, 7) := by decide +kernel
theorem qz_f_4_174 : qz_fl 4 174 = some (0, 5) := by decide +kernel
theorem qz_f_4_175 : qz_fl 4 175 = some (0, 6) := by decide +kernel
theorem qz_f_5_10 : qz_fl 5 10 = some (5, 0) := by decide +kernel
theorem qz_f_5_19 : qz_fl 5 19 = some (5, 1) := by decide +kernel
theorem qz_f_5_26 : qz_fl 5 26 = some (5, 2) := by decide +kernel
theorem qz_f_5_30 : qz_fl 5 30 = some (5, 3) := by decide +kernel
theorem qz_f_5_33 : qz_fl 5 33 = some (5, 4) := by decide +kernel
theorem qz_f_5_37 : qz_fl 5 37 = some (4, 0) := by decide +kernel
theorem qz_f_5_95 : qz_fl 5 95 = some (0, 1) := by decide +kernel
theorem qz_f_5_98 : qz_fl 5 98 = some (0, 4) := by decide +kernel
theorem qz_f_5_126 : qz_fl 5 126 = some (4, 8) := by decide +kernel
theorem qz_f_5_135 : qz_fl 5 135 = some (4, 6) := by decide +kernel
theorem qz_f_5_138 : qz_fl 5 138 = some (1, 1) := by decide +kernel
theorem qz_f_5_145 : qz_fl 5 145 = some (2, 1) := by decide +kernel
theorem qz_f_5_154 : qz_fl 5 154 = some (0, 2) := by decide +kernel
theorem qz_f_5_157 : qz_fl 5 157 = some (0, 3) := by decide +kernel
theorem qz_f_5_171 : qz_fl 5 171 = some (0, 5) := by decide +kernel
theorem qz_f_5_174 : qz_fl 5 174 = some (0, 6) := by decide +kernel
theorem qz_f_5_175 : qz_fl 5 175 = some (0, 7) := by decide +kernel
theorem qz_f_5_197 : qz_fl 5 197 = some (4, 7) := by decide +kernel
theorem qz_f_5_198 : qz_fl 5 198 = some (4, 9) := by decide +kernel
theorem qz_f_5_199 : qz_fl 5 199 = some (4, 10) := by decide +kernel
theorem qz_f_5_202 : qz_fl 5 202 = some (4, 11) := by decide +kernel
theorem qz_f_5_205 : qz_fl 5 205 = some (4, 5) := by decide +kernel
def qz_sn (k : Nat) : String := match k with
  | 30 => "FIRST_SETTINGS"
  | 31 => "LEAST_SETTINGS"
  | _ => "MOST_SETTINGS"
def qz_st (c i : Nat) : Option Nat := match c, i with
  | 4, 22 => some 30
  | 5, 208 => some 31
  | 5, 212 => some 32
  | _, _ => none
def qz_nwL : List ((Nat × Nat) × Nat) := [((8, 13), 5), ((5, 7), 4), ((4, 28), 0), ((5, 16), 1), ((1, 19), 3), ((5, 23), 2), ((2, 9), 4)]
def qz_nw (c i : Nat) : Option Nat := qz_nwL.lookup (c, i)
def qz_NO (e : (Nat × Nat) × Nat) : Prop := e.2 < 6 ∧ Cond.classLink (qz_ow e.1.1) e.1.2 (qz_ow e.2) ∈ qz_tb
theorem qz_no0 : qz_NO ((8, 13), 5) := ⟨by decide, qz_in 18 (by decide +kernel) (by decide +kernel)⟩
theorem qz_no1 : qz_NO ((5, 7), 4) := ⟨by decide, qz_in 26 (by decide +kernel) (by decide +kernel)⟩
theorem qz_no2 : qz_NO ((4, 28), 0) := ⟨by decide, qz_in 34 (by decide +kernel) (by decide +kernel)⟩
theorem qz_no3 : qz_NO ((5, 16), 1) := ⟨by decide, qz_in 127 (by decide +kernel) (by decide +kernel)⟩
theorem qz_no4 : qz_NO ((1, 19), 3) := ⟨by decide, qz_in 133 (by decide +kernel) (by decide +kernel)⟩
theorem qz_no5 : qz_NO ((5, 23), 2) := ⟨by decide, qz_in 165 (by decide +kernel) (by decide +kernel)⟩
theorem qz_no6 : qz_NO ((2, 9), 4) := ⟨by decide, qz_in 171 (by decide +kernel) (by decide +kernel)⟩
set_option maxRecDepth 20000 in
theorem qz_nwL_ok : ∀ e ∈ qz_nwL, qz_NO e := List.forall_mem_cons.mpr ⟨qz_no0, List.forall_mem_cons.mpr ⟨qz_no1, List.forall_mem_cons.mpr ⟨qz_no2, List.forall_mem_cons.mpr ⟨qz_no3, List.forall_mem_cons.mpr ⟨qz_no4, List.forall_mem_cons.mpr ⟨qz_no5, List.forall_mem_cons.mpr ⟨qz_no6, fun _ h => absurd h List.not_mem_nil⟩⟩⟩⟩⟩⟩⟩
theorem qz_nw_ok {c i x : Nat} (h : qz_nw c i = some x) : qz_NO ((c, i), x) := qz_fm qz_nwL_ok (qz_lk h)
theorem qz_n_8_13 : qz_nw 8 13 = some 5 := by decide +kernel
theorem qz_n_5_7 : qz_nw 5 7 = some 4 := by decide +kernel
theorem qz_n_4_28 : qz_nw 4 28 = some 0 := by decide +kernel
theorem qz_n_5_16 : qz_nw 5 16 = some 1 := by decide +kernel
theorem qz_n_1_19 : qz_nw 1 19 = some 3 := by decide +kernel
theorem qz_n_5_23 : qz_nw 5 23 = some 2 := by decide +kernel
theorem qz_n_2_9 : qz_nw 2 9 = some 4 := by decide +kernel
def qz_CO (c : Nat) : Prop := vwCl[c]? = some (qz_ow c, qz_T c, qz_nf c) ∧ (∀ w ∈ u_ws (qz_ow c) (qz_T c) (qz_nf c), w ∈ qz_tb) ∧ (∀ k, k < qz_nf c → parseFieldDescriptor (qz_T c k).2.2.1 = some (qz_ty c k)) ∧ (∀ a, a < qz_nf c → ∀ b, b < qz_nf c → a ≠ b → (qz_T c a).2.1 ≠ (qz_T c b).2.1) ∧ Cond.instantiable (qz_ow c) (qz_nf c) ∈ qz_tb ∧ Cond.initialized (qz_ow c) ∈ qz_tb ∧ (∀ k, k < qz_nf c → (qz_T c k).1 = qz_ow c ∧ (qz_T c k).2.2.2 = qz_fn c k)
theorem qz_uw {C : String} {T : u_T} {N : Nat} (f : Nat → Nat) (h : ∀ k, k < N → lw_tbl[f k]? = some (u_lay C T k)) (g : ∀ k, k < N → goodWord (u_lay C T k) = true) : ∀ w ∈ u_ws C T N, w ∈ qz_tb := by
  intro w hw
  obtain ⟨k, hk, rfl⟩ := List.mem_map.mp hw
  have hk := List.mem_range.mp hk
  exact qz_in _ (h k hk) (g k hk)
def qz_wp0 (k : Nat) : Nat := ([64, 66, 68, 70, 72, 74, 76, 78] : List Nat).getD k 0
set_option maxRecDepth 20000 in
theorem qz_co0 : qz_CO 0 := ⟨rfl, qz_uw qz_wp0 (by decide +kernel) (by decide +kernel), tyX0_ok, nmX0, qz_in 36 (by decide +kernel) (by decide +kernel), qz_in 13 (by decide +kernel) (by decide +kernel), by decide +kernel⟩
def qz_wp1 (k : Nat) : Nat := ([156, 158, 160, 162] : List Nat).getD k 0
set_option maxRecDepth 20000 in
theorem qz_co1 : qz_CO 1 := ⟨rfl, qz_uw qz_wp1 (by decide +kernel) (by decide +kernel), tyX1_ok, nmX1, qz_in 128 (by decide +kernel) (by decide +kernel), qz_in 14 (by decide +kernel) (by decide +kernel), by decide +kernel⟩
def qz_wp2 (k : Nat) : Nat := ([177, 179] : List Nat).getD k 0
set_option maxRecDepth 20000 in
theorem qz_co2 : qz_CO 2 := ⟨rfl, qz_uw qz_wp2 (by decide +kernel) (by decide +kernel), tyX2_ok, nmX2, qz_in 166 (by decide +kernel) (by decide +kernel), qz_in 16 (by decide +kernel) (by decide +kernel), by decide +kernel⟩
def qz_wp3 (k : Nat) : Nat := ([143, 145, 147] : List Nat).getD k 0
set_option maxRecDepth 20000 in
theorem qz_co3 : qz_CO 3 := ⟨rfl, qz_uw qz_wp3 (by decide +kernel) (by decide +kernel), tyX3_ok, nmX3, qz_in 135 (by decide +kernel) (by decide +kernel), qz_in 15 (by decide +kernel) (by decide +kernel), by decide +kernel⟩
def qz_wp4 (k : Nat) : Nat := ([102, 104, 106, 108, 110, 112, 114, 116, 118, 120, 122, 124] : List Nat).getD k 0
set_option maxRecDepth 20000 in
theorem qz_co4 : qz_CO 4 := ⟨rfl, qz_uw qz_wp4 (by decide +kernel) (by decide +kernel), tyX4_ok, nmX4, qz_in 27 (by decide +kernel) (by decide +kernel), qz_in 12 (by decide +kernel) (by decide +kernel), by decide +kernel⟩
def qz_wp5 (k : Nat) : Nat := ([187, 189, 191, 193, 195] : List Nat).getD k 0
set_option maxRecDepth 20000 in
theorem qz_co5 : qz_CO 5 := ⟨rfl, qz_uw qz_wp5 (by decide +kernel) (by decide +kernel), tyX5_ok, nmX5, qz_in 19 (by decide +kernel) (by decide +kernel), qz_in 11 (by decide +kernel) (by decide +kernel), by decide +kernel⟩
theorem qz_co {c : Nat} (h : c < 6) : qz_CO c := by
  match c, h with
  | 0, _ => exact qz_co0
  | 1, _ => exact qz_co1
  | 2, _ => exact qz_co2
  | 3, _ => exact qz_co3
  | 4, _ => exact qz_co4
  | 5, _ => exact qz_co5
  | k + 6, h => exact absurd h (by omega)
def qz_infL : List qz_I := [
  (yX0_init, cX0_init, 1, none, 0, 1, false, 1, 20),
  (yX0_isLive, cX0_isLive, 1, some FieldType.boolean, 0, 1, false, 0, 0),
  (yX0_isWaiting, cX0_isWaiting, 1, some FieldType.boolean, 0, 1, false, 1, 20),
  (yX0_isRider, cX0_isRider, 1, some FieldType.boolean, 0, 1, false, 1, 20),
  (yX0_isOfBus, cX0_isOfBus, 4, some FieldType.boolean, 0, 4, false, 1, 20),
  (yX0_getsSeatAheadOf, cX0_getsSeatAheadOf, 2, some FieldType.boolean, 0, 2, false, 0, 0),
  (yX0_clear, cX0_clear, 1, none, 0, 1, false, 0, 0),
  (yX0_copyFrom, cX0_copyFrom, 2, none, 0, 2, false, 0, 0),
  (yX1_init, cX1_init, 2, none, 1, 1, false, 2, 40),
  (yX2_init, cX2_init, 2, none, 2, 1, false, 3, 61),
  (yX2_remember, cX2_remember, 2, none, 2, 2, false, 2, 44),
  (yX2_dropOldest, cX2_dropOldest, 3, none, 2, 1, false, 0, 0),
  (yX2_takeLatestInto, cX2_takeLatestInto, 3, none, 2, 2, false, 2, 44),
  (yX3_init, cX3_init, 1, none, 3, 1, false, 1, 20),
  (yX4_init, cX4_init, 2, none, 4, 1, false, 2, 40),
  (yX4_copyFrom, cX4_copyFrom, 3, none, 4, 2, false, 1, 22),
  (yX4_copyRow, cX4_copyRow, 3, none, 4, 2, true, 0, 0),
  (yX4_setting, cX4_setting, 2, some FieldType.int, 4, 2, false, 0, 0),
  (yX4_changeSetting, cX4_changeSetting, 3, none, 4, 3, false, 0, 0),
  (yX4_hasEnd, cX4_hasEnd, 2, some FieldType.boolean, 4, 2, false, 0, 0),
  (yX4_openEnd, cX4_openEnd, 3, some FieldType.int, 4, 2, false, 0, 0),
  (yX4_minuteOf, cX4_minuteOf, 2, some FieldType.int, 4, 2, false, 0, 0),
  (yX4_isEarlier, cX4_isEarlier, 4, some FieldType.boolean, 4, 3, false, 1, 21),
  (yX4_bookingOf, cX4_bookingOf, 6, some (FieldType.object "ShiftBuses$Booking"), 4, 2, false, 1, 20),
  (yX4_enter, cX4_enter, 9, some FieldType.int, 4, 4, false, 4, 98),
  (yX4_workerCount, cX4_workerCount, 6, some FieldType.int, 4, 1, false, 1, 20),
  (yX4_waitingCount, cX4_waitingCount, 6, some FieldType.int, 4, 1, false, 2, 40),
  (yX4_reason, cX4_reason, 6, some FieldType.int, 4, 5, false, 3, 73),
  (yX4_lookAtWaiting, cX4_lookAtWaiting, 4, none, 4, 1, false, 4, 98),
  (yX4_nextWaiting, cX4_nextWaiting, 7, some (FieldType.object "ShiftBuses$Booking"), 4, 2, false, 3, 66),
  (yX4_isLookedAtAheadOf, cX4_isLookedAtAheadOf, 3, some FieldType.boolean, 4, 3, false, 2, 44),
  (yX4_busIndex, cX4_busIndex, 2, some FieldType.int, 4, 2, true, 1, 20),
  (yX4_partnerOf, cX4_partnerOf, 4, some FieldType.int, 4, 3, false, 2, 41),
  (yX4_tie, cX4_tie, 5, none, 4, 4, false, 2, 41),
  (yX4_pairCount, cX4_pairCount, 6, some FieldType.int, 4, 1, false, 0, 0),
  (yX4_startOf, cX4_startOf, 3, some FieldType.int, 4, 3, false, 1, 21),
  (yX4_startOfBusOf, cX4_startOfBusOf, 2, some FieldType.int, 4, 2, false, 3, 64),
  (yX4_minutesBehind, cX4_minutesBehind, 4, some FieldType.int, 4, 4, false, 1, 21),
  (yX4_isInTime, cX4_isInTime, 4, some FieldType.boolean, 4, 4, false, 2, 44),
  (yX4_takenSeats, cX4_takenSeats, 11, some FieldType.int, 4, 6, false, 2, 43),
  (yX4_waitingFor, cX4_waitingFor, 9, some FieldType.int, 4, 4, false, 2, 43),
  (yX4_farthestPromised, cX4_farthestPromised, 9, some FieldType.int, 4, 4, false, 2, 43),
  (yX4_canMerge, cX4_canMerge, 4, some FieldType.boolean, 4, 4, false, 4, 95),
  (yX4_isInTimeForAll, cX4_isInTimeForAll, 9, some FieldType.boolean, 4, 4, false, 3, 67),
  (yX4_canRide, cX4_canRide, 10, some FieldType.boolean, 4, 4, false, 3, 67),
  (yX4_costToday, cX4_costToday, 9, some FieldType.int, 4, 4, false, 4, 96),
  (yX4_runBuses, cX4_runBuses, 5, none, 4, 1, false, 5, 124),
  (yX4_bringHome, cX4_bringHome, 5, none, 4, 1, false, 5, 117),
  (yX4_bringRiderHome, cX4_bringRiderHome, 2, none, 4, 2, false, 4, 96),
  (yX5_init, cX5_init, 1, none, 5, 1, false, 4, 82),
  (yX5_addEnd, cX5_addEnd, 2, some FieldType.int, 5, 2, false, 3, 65),
  (yX5_book, cX5_book, 4, some FieldType.int, 5, 4, false, 5, 126),
  (yX5_takeBack, cX5_takeBack, 3, some FieldType.int, 5, 2, false, 5, 121),
  (yX5_stay, cX5_stay, 4, some FieldType.int, 5, 3, false, 5, 121),
  (yX5_merge, cX5_merge, 5, some FieldType.int, 5, 4, false, 6, 141),
  (yX5_part, cX5_part, 4, some FieldType.int, 5, 3, false, 5, 121),
  (yX5_set, cX5_set, 4, some FieldType.int, 5, 3, false, 5, 121),
  (yX5_passDay, cX5_passDay, 2, some FieldType.int, 5, 1, false, 6, 148),
  (yX5_undo, cX5_undo, 1, some FieldType.int, 5, 1, false, 3, 66),
  (yX5_keep, cX5_keep, 1, some FieldType.int, 5, 1, false, 2, 45),
  (yX5_restore, cX5_restore, 1, some FieldType.int, 5, 1, false, 3, 65),
  (yX5_worker, cX5_worker, 4, some FieldType.int, 5, 3, false, 4, 98),
  (yX5_bus, cX5_bus, 5, some FieldType.int, 5, 4, false, 5, 124),
  (yX5_taken, cX5_taken, 4, some FieldType.int, 5, 4, false, 3, 73),
  (yX5_why, cX5_why, 4, some FieldType.int, 5, 4, false, 4, 98),
  (yX5_count, cX5_count, 2, some FieldType.int, 5, 2, false, 3, 65),
  (yX5_isLine, cX5_isLine, 1, some FieldType.boolean, 5, 1, true, 0, 0),
  (yX5_isStop, cX5_isStop, 1, some FieldType.boolean, 5, 1, true, 0, 0),
  (yX5_isSettingValue, cX5_isSettingValue, 2, some FieldType.boolean, 5, 2, true, 0, 0),
  (yX5_mergingError, cX5_mergingError, 4, some FieldType.int, 5, 4, false, 5, 118),
  (yL_cell, cL_cell, 2, some FieldType.int, 8, 2, true, 0, 0),
  (yL_low, cL_low, 2, some FieldType.int, 8, 2, true, 0, 0),
  (yL_told, cL_told, 5, some FieldType.long, 8, 1, true, 6, 148),
  (yL_act, cL_act, 6, some FieldType.int, 8, 3, true, 7, 169),
  (yL_holds, cL_holds, 16, some FieldType.boolean, 8, 1, true, 6, 148),
  (yL_law, cL_law, 17, some .boolean, 8, 1, true, 10, 388)]
def qz_inf (k : Nat) : qz_I := qz_infL.getD k (yL_law, cL_law, 17, some .boolean, 8, 1, true, 10, 388)
def qz_y (k : Nat) : MethodName := (qz_inf k).1
def qz_b (k : Nat) : ByteArray := (qz_inf k).2.1
def qz_ml (k : Nat) : Nat := (qz_inf k).2.2.1
def qz_rt (k : Nat) : Option FieldType := (qz_inf k).2.2.2.1
def qz_cn (k : Nat) : Nat := (qz_inf k).2.2.2.2.1
def qz_na (k : Nat) : Nat := (qz_inf k).2.2.2.2.2.1
def qz_sa (k : Nat) : Bool := (qz_inf k).2.2.2.2.2.2.1
def qz_rF (k : Nat) : Nat := (qz_inf k).2.2.2.2.2.2.2.1
def qz_rL (k : Nat) : Nat := (qz_inf k).2.2.2.2.2.2.2.2
def qz_ini (k : Nat) : Bool := (qz_y k).name == "<init>"
/-- the methods that have longs among their locals -/
def qz_lm (k : Nat) : Bool := k == 72 || k == 75
def qz_ll (k : Nat) : Nat := if qz_lm k = true then 2 * qz_ml k else qz_ml k
def qz_k4L : List ((Nat × Nat) × Int32) := [((8, 7), (2147483647 : Int32))]
def qz_k4 (c i : Nat) : Option Int32 := qz_k4L.lookup (c, i)
def qz_k4O (e : (Nat × Nat) × Int32) : Prop := Cond.constant (qz_ow e.1.1) e.1.2 e.2 ∈ qz_tb
theorem qz_k4o0 : qz_k4O ((8, 7), (2147483647 : Int32)) := qz_in 369 (by decide +kernel) (by decide +kernel)
set_option maxRecDepth 20000 in
theorem qz_k4L_ok : ∀ e ∈ qz_k4L, qz_k4O e := List.forall_mem_cons.mpr ⟨qz_k4o0, fun _ h => absurd h List.not_mem_nil⟩
theorem qz_k4_ok {c i : Nat} {x : Int32} (h : qz_k4 c i = some x) : qz_k4O ((c, i), x) := qz_fm qz_k4L_ok (qz_lk h)
def qz_k8L : List ((Nat × Nat) × Int64) := [((8, 8), (3 : Int64)), ((8, 10), (31 : Int64))]
def qz_k8 (c i : Nat) : Option Int64 := qz_k8L.lookup (c, i)
def qz_k8O (e : (Nat × Nat) × Int64) : Prop := Cond.constantLong (qz_ow e.1.1) e.1.2 e.2 ∈ qz_tb
theorem qz_k8o0 : qz_k8O ((8, 8), (3 : Int64)) := qz_in 269 (by decide +kernel) (by decide +kernel)
theorem qz_k8o1 : qz_k8O ((8, 10), (31 : Int64)) := qz_in 270 (by decide +kernel) (by decide +kernel)
set_option maxRecDepth 20000 in
theorem qz_k8L_ok : ∀ e ∈ qz_k8L, qz_k8O e := List.forall_mem_cons.mpr ⟨qz_k8o0, List.forall_mem_cons.mpr ⟨qz_k8o1, fun _ h => absurd h List.not_mem_nil⟩⟩
theorem qz_k8_ok {c i : Nat} {x : Int64} (h : qz_k8 c i = some x) : qz_k8O ((c, i), x) := qz_fm qz_k8L_ok (qz_lk h)
abbrev qz_nm : Nat := 75
/-- a method that may be called -/
def qz_MO (k : Nat) : Prop := plainName (qz_y k).cls = true ∧ Cond.code (qz_y k) (qz_b k) (qz_ml k) (qz_rt k) ∈ qz_tb ∧ Cond.initialized (qz_y k).cls ∈ qz_tb ∧ ((qz_y k).cls ≠ "java/lang/invoke/MethodHandle" ∧ (qz_y k).cls ≠ "java/lang/invoke/VarHandle") ∧ (parseMethodDescriptor (qz_y k).desc).map (fun d => d.parameters.length) = some (qz_na k - (if qz_sa k = true then 0 else 1)) ∧ (qz_sa k = true → Cond.static (qz_y k) ∈ qz_tb) ∧ (qz_sa k = false → Cond.instanceMethod (qz_y k) ∈ qz_tb ∧ (qz_ini k = true ∨ Cond.selects (qz_ow (qz_cn k)) (qz_y k) (qz_y k) ∈ qz_tb) ∧ qz_cn k < 6 ∧ 1 ≤ qz_na k) ∧ (qz_y k).cls = qz_ow (qz_cn k) ∧ qz_na k ≤ qz_ml k ∧ (qz_ini k = true → qz_rt k = none)
set_option maxRecDepth 20000 in
theorem qz_mo0 : qz_MO 0 := ⟨by decide +kernel, qz_in 39 (by decide +kernel) (by decide +kernel), qz_in 13 (by decide +kernel) (by decide +kernel), ⟨by decide +kernel, by decide +kernel⟩, by decide +kernel, fun h => absurd h (by decide +kernel), fun _ => ⟨qz_in 38 (by decide +kernel) (by decide +kernel), Or.inl (by decide +kernel), by decide +kernel, by decide +kernel⟩, by decide +kernel, by decide +kernel, by decide +kernel⟩
set_option maxRecDepth 20000 in
theorem qz_mo1 : qz_MO 1 := ⟨by decide +kernel, qz_in 229 (by decide +kernel) (by decide +kernel), qz_in 13 (by decide +kernel) (by decide +kernel), ⟨by decide +kernel, by decide +kernel⟩, by decide +kernel, fun h => absurd h (by decide +kernel), fun _ => ⟨qz_in 227 (by decide +kernel) (by decide +kernel), Or.inr (qz_in 228 (by decide +kernel) (by decide +kernel)), by decide +kernel, by decide +kernel⟩, by decide +kernel, by decide +kernel, by decide +kernel⟩
set_option maxRecDepth 20000 in
theorem qz_mo2 : qz_MO 2 := ⟨by decide +kernel, qz_in 253 (by decide +kernel) (by decide +kernel), qz_in 13 (by decide +kernel) (by decide +kernel), ⟨by decide +kernel, by decide +kernel⟩, by decide +kernel, fun h => absurd h (by decide +kernel), fun _ => ⟨qz_in 251 (by decide +kernel) (by decide +kernel), Or.inr (qz_in 252 (by decide +kernel) (by decide +kernel)), by decide +kernel, by decide +kernel⟩, by decide +kernel, by decide +kernel, by decide +kernel⟩
set_option maxRecDepth 20000 in
theorem qz_mo3 : qz_MO 3 := ⟨by decide +kernel, qz_in 324 (by decide +kernel) (by decide +kernel), qz_in 13 (by decide +kernel) (by decide +kernel), ⟨by decide +kernel, by decide +kernel⟩, by decide +kernel, fun h => absurd h (by decide +kernel), fun _ => ⟨qz_in 322 (by decide +kernel) (by decide +kernel), Or.inr (qz_in 323 (by decide +kernel) (by decide +kernel)), by decide +kernel, by decide +kernel⟩, by decide +kernel, by decide +kernel, by decide +kernel⟩
set_option maxRecDepth 20000 in
theorem qz_mo4 : qz_MO 4 := ⟨by decide +kernel, qz_in 328 (by decide +kernel) (by decide +kernel), qz_in 13 (by decide +kernel) (by decide +kernel), ⟨by decide +kernel, by decide +kernel⟩, by decide +kernel, fun h => absurd h (by decide +kernel), fun _ => ⟨qz_in 326 (by decide +kernel) (by decide +kernel), Or.inr (qz_in 327 (by decide +kernel) (by decide +kernel)), by decide +kernel, by decide +kernel⟩, by decide +kernel, by decide +kernel, by decide +kernel⟩
set_option maxRecDepth 20000 in
theorem qz_mo5 : qz_MO 5 := ⟨by decide +kernel, qz_in 362 (by decide +kernel) (by decide +kernel), qz_in 13 (by decide +kernel) (by decide +kernel), ⟨by decide +kernel, by decide +kernel⟩, by decide +kernel, fun h => absurd h (by decide +kernel), fun _ => ⟨qz_in 360 (by decide +kernel) (by decide +kernel), Or.inr (qz_in 361 (by decide +kernel) (by decide +kernel)), by decide +kernel, by decide +kernel⟩, by decide +kernel, by decide +kernel, by decide +kernel⟩
set_option maxRecDepth 20000 in
theorem qz_mo6 : qz_MO 6 := ⟨by decide +kernel, qz_in 461 (by decide +kernel) (by decide +kernel), qz_in 13 (by decide +kernel) (by decide +kernel), ⟨by decide +kernel, by decide +kernel⟩, by decide +kernel, fun h => absurd h (by decide +kernel), fun _ => ⟨qz_in 459 (by decide +kernel) (by decide +kernel), Or.inr (qz_in 460 (by decide +kernel) (by decide +kernel)), by decide +kernel, by decide +kernel⟩, by decide +kernel, by decide +kernel, by decide +kernel⟩
set_option maxRecDepth 20000 in
theorem qz_mo7 : qz_MO 7 := ⟨by decide +kernel, qz_in 216 (by decide +kernel) (by decide +kernel), qz_in 13 (by decide +kernel) (by decide +kernel), ⟨by decide +kernel, by decide +kernel⟩, by decide +kernel, fun h => absurd h (by decide +kernel), fun _ => ⟨qz_in 214 (by decide +kernel) (by decide +kernel), Or.inr (qz_in 215 (by decide +kernel) (by decide +kernel)), by decide +kernel, by decide +kernel⟩, by decide +kernel, by decide +kernel, by decide +kernel⟩
set_option maxRecDepth 20000 in
theorem qz_mo8 : qz_MO 8 := ⟨by decide +kernel, qz_in 131 (by decide +kernel) (by decide +kernel), qz_in 14 (by decide +kernel) (by decide +kernel), ⟨by decide +kernel, by decide +kernel⟩, by decide +kernel, fun h => absurd h (by decide +kernel), fun _ => ⟨qz_in 130 (by decide +kernel) (by decide +kernel), Or.inl (by decide +kernel), by decide +kernel, by decide +kernel⟩, by decide +kernel, by decide +kernel, by decide +kernel⟩
set_option maxRecDepth 20000 in
theorem qz_mo9 : qz_MO 9 := ⟨by decide +kernel, qz_in 169 (by decide +kernel) (by decide +kernel), qz_in 16 (by decide +kernel) (by decide +kernel), ⟨by decide +kernel, by decide +kernel⟩, by decide +kernel, fun h => absurd h (by decide +kernel), fun _ => ⟨qz_in 168 (by decide +kernel) (by decide +kernel), Or.inl (by decide +kernel), by decide +kernel, by decide +kernel⟩, by decide +kernel, by decide +kernel, by decide +kernel⟩
set_option maxRecDepth 20000 in
theorem qz_mo10 : qz_MO 10 := ⟨by decide +kernel, qz_in 237 (by decide +kernel) (by decide +kernel), qz_in 16 (by decide +kernel) (by decide +kernel), ⟨by decide +kernel, by decide +kernel⟩, by decide +kernel, fun h => absurd h (by decide +kernel), fun _ => ⟨qz_in 235 (by decide +kernel) (by decide +kernel), Or.inr (qz_in 236 (by decide +kernel) (by decide +kernel)), by decide +kernel, by decide +kernel⟩, by decide +kernel, by decide +kernel, by decide +kernel⟩
set_option maxRecDepth 20000 in
theorem qz_mo11 : qz_MO 11 := ⟨by decide +kernel, qz_in 241 (by decide +kernel) (by decide +kernel), qz_in 16 (by decide +kernel) (by decide +kernel), ⟨by decide +kernel, by decide +kernel⟩, by decide +kernel, fun h => absurd h (by decide +kernel), fun _ => ⟨qz_in 240 (by decide +kernel) (by decide +kernel), Or.inr (qz_in 0 (by decide +kernel) (by decide +kernel)), by decide +kernel, by decide +kernel⟩, by decide +kernel, by decide +kernel, by decide +kernel⟩
set_option maxRecDepth 20000 in
theorem qz_mo12 : qz_MO 12 := ⟨by decide +kernel, qz_in 205 (by decide +kernel) (by decide +kernel), qz_in 16 (by decide +kernel) (by decide +kernel), ⟨by decide +kernel, by decide +kernel⟩, by decide +kernel, fun h => absurd h (by decide +kernel), fun _ => ⟨qz_in 203 (by decide +kernel) (by decide +kernel), Or.inr (qz_in 204 (by decide +kernel) (by decide +kernel)), by decide +kernel, by decide +kernel⟩, by decide +kernel, by decide +kernel, by decide +kernel⟩
set_option maxRecDepth 20000 in
theorem qz_mo13 : qz_MO 13 := ⟨by decide +kernel, qz_in 138 (by decide +kernel) (by decide +kernel), qz_in 15 (by decide +kernel) (by decide +kernel), ⟨by decide +kernel, by decide +kernel⟩, by decide +kernel, fun h => absurd h (by decide +kernel), fun _ => ⟨qz_in 137 (by decide +kernel) (by decide +kernel), Or.inl (by decide +kernel), by decide +kernel, by decide +kernel⟩, by decide +kernel, by decide +kernel, by decide +kernel⟩
set_option maxRecDepth 20000 in
theorem qz_mo14 : qz_MO 14 := ⟨by decide +kernel, qz_in 30 (by decide +kernel) (by decide +kernel), qz_in 12 (by decide +kernel) (by decide +kernel), ⟨by decide +kernel, by decide +kernel⟩, by decide +kernel, fun h => absurd h (by decide +kernel), fun _ => ⟨qz_in 29 (by decide +kernel) (by decide +kernel), Or.inl (by decide +kernel), by decide +kernel, by decide +kernel⟩, by decide +kernel, by decide +kernel, by decide +kernel⟩
set_option maxRecDepth 20000 in
theorem qz_mo15 : qz_MO 15 := ⟨by decide +kernel, qz_in 209 (by decide +kernel) (by decide +kernel), qz_in 12 (by decide +kernel) (by decide +kernel), ⟨by decide +kernel, by decide +kernel⟩, by decide +kernel, fun h => absurd h (by decide +kernel), fun _ => ⟨qz_in 207 (by decide +kernel) (by decide +kernel), Or.inr (qz_in 208 (by decide +kernel) (by decide +kernel)), by decide +kernel, by decide +kernel⟩, by decide +kernel, by decide +kernel, by decide +kernel⟩
set_option maxRecDepth 20000 in
theorem qz_mo16 : qz_MO 16 := ⟨by decide +kernel, qz_in 212 (by decide +kernel) (by decide +kernel), qz_in 12 (by decide +kernel) (by decide +kernel), ⟨by decide +kernel, by decide +kernel⟩, by decide +kernel, fun _ => qz_in 211 (by decide +kernel) (by decide +kernel), fun h => absurd h (by decide +kernel), by decide +kernel, by decide +kernel, by decide +kernel⟩
set_option maxRecDepth 20000 in
theorem qz_mo17 : qz_MO 17 := ⟨by decide +kernel, qz_in 262 (by decide +kernel) (by decide +kernel), qz_in 12 (by decide +kernel) (by decide +kernel), ⟨by decide +kernel, by decide +kernel⟩, by decide +kernel, fun h => absurd h (by decide +kernel), fun _ => ⟨qz_in 260 (by decide +kernel) (by decide +kernel), Or.inr (qz_in 261 (by decide +kernel) (by decide +kernel)), by decide +kernel, by decide +kernel⟩, by decide +kernel, by decide +kernel, by decide +kernel⟩
set_option maxRecDepth 20000 in
theorem qz_mo18 : qz_MO 18 := ⟨by decide +kernel, qz_in 392 (by decide +kernel) (by decide +kernel), qz_in 12 (by decide +kernel) (by decide +kernel), ⟨by decide +kernel, by decide +kernel⟩, by decide +kernel, fun h => absurd h (by decide +kernel), fun _ => ⟨qz_in 390 (by decide +kernel) (by decide +kernel), Or.inr (qz_in 391 (by decide +kernel) (by decide +kernel)), by decide +kernel, by decide +kernel⟩, by decide +kernel, by decide +kernel, by decide +kernel⟩
set_option maxRecDepth 20000 in
theorem qz_mo19 : qz_MO 19 := ⟨by decide +kernel, qz_in 300 (by decide +kernel) (by decide +kernel), qz_in 12 (by decide +kernel) (by decide +kernel), ⟨by decide +kernel, by decide +kernel⟩, by decide +kernel, fun h => absurd h (by decide +kernel), fun _ => ⟨qz_in 298 (by decide +kernel) (by decide +kernel), Or.inr (qz_in 299 (by decide +kernel) (by decide +kernel)), by decide +kernel, by decide +kernel⟩, by decide +kernel, by decide +kernel, by decide +kernel⟩
set_option maxRecDepth 20000 in
theorem qz_mo20 : qz_MO 20 := ⟨by decide +kernel, qz_in 377 (by decide +kernel) (by decide +kernel), qz_in 12 (by decide +kernel) (by decide +kernel), ⟨by decide +kernel, by decide +kernel⟩, by decide +kernel, fun h => absurd h (by decide +kernel), fun _ => ⟨qz_in 375 (by decide +kernel) (by decide +kernel), Or.inr (qz_in 376 (by decide +kernel) (by decide +kernel)), by decide +kernel, by decide +kernel⟩, by decide +kernel, by decide +kernel, by decide +kernel⟩
set_option maxRecDepth 20000 in
theorem qz_mo21 : qz_MO 21 := ⟨by decide +kernel, qz_in 304 (by decide +kernel) (by decide +kernel), qz_in 12 (by decide +kernel) (by decide +kernel), ⟨by decide +kernel, by decide +kernel⟩, by decide +kernel, fun h => absurd h (by decide +kernel), fun _ => ⟨qz_in 303 (by decide +kernel) (by decide +kernel), Or.inr (qz_in 1 (by decide +kernel) (by decide +kernel)), by decide +kernel, by decide +kernel⟩, by decide +kernel, by decide +kernel, by decide +kernel⟩
set_option maxRecDepth 20000 in
theorem qz_mo22 : qz_MO 22 := ⟨by decide +kernel, qz_in 408 (by decide +kernel) (by decide +kernel), qz_in 12 (by decide +kernel) (by decide +kernel), ⟨by decide +kernel, by decide +kernel⟩, by decide +kernel, fun h => absurd h (by decide +kernel), fun _ => ⟨qz_in 407 (by decide +kernel) (by decide +kernel), Or.inr (qz_in 6 (by decide +kernel) (by decide +kernel)), by decide +kernel, by decide +kernel⟩, by decide +kernel, by decide +kernel, by decide +kernel⟩
set_option maxRecDepth 20000 in
theorem qz_mo23 : qz_MO 23 := ⟨by decide +kernel, qz_in 278 (by decide +kernel) (by decide +kernel), qz_in 12 (by decide +kernel) (by decide +kernel), ⟨by decide +kernel, by decide +kernel⟩, by decide +kernel, fun h => absurd h (by decide +kernel), fun _ => ⟨qz_in 276 (by decide +kernel) (by decide +kernel), Or.inr (qz_in 277 (by decide +kernel) (by decide +kernel)), by decide +kernel, by decide +kernel⟩, by decide +kernel, by decide +kernel, by decide +kernel⟩
set_option maxRecDepth 20000 in
theorem qz_mo24 : qz_MO 24 := ⟨by decide +kernel, qz_in 476 (by decide +kernel) (by decide +kernel), qz_in 12 (by decide +kernel) (by decide +kernel), ⟨by decide +kernel, by decide +kernel⟩, by decide +kernel, fun h => absurd h (by decide +kernel), fun _ => ⟨qz_in 474 (by decide +kernel) (by decide +kernel), Or.inr (qz_in 475 (by decide +kernel) (by decide +kernel)), by decide +kernel, by decide +kernel⟩, by decide +kernel, by decide +kernel, by decide +kernel⟩
set_option maxRecDepth 20000 in
theorem qz_mo25 : qz_MO 25 := ⟨by decide +kernel, qz_in 225 (by decide +kernel) (by decide +kernel), qz_in 12 (by decide +kernel) (by decide +kernel), ⟨by decide +kernel, by decide +kernel⟩, by decide +kernel, fun h => absurd h (by decide +kernel), fun _ => ⟨qz_in 223 (by decide +kernel) (by decide +kernel), Or.inr (qz_in 224 (by decide +kernel) (by decide +kernel)), by decide +kernel, by decide +kernel⟩, by decide +kernel, by decide +kernel, by decide +kernel⟩
set_option maxRecDepth 20000 in
theorem qz_mo26 : qz_MO 26 := ⟨by decide +kernel, qz_in 249 (by decide +kernel) (by decide +kernel), qz_in 12 (by decide +kernel) (by decide +kernel), ⟨by decide +kernel, by decide +kernel⟩, by decide +kernel, fun h => absurd h (by decide +kernel), fun _ => ⟨qz_in 247 (by decide +kernel) (by decide +kernel), Or.inr (qz_in 248 (by decide +kernel) (by decide +kernel)), by decide +kernel, by decide +kernel⟩, by decide +kernel, by decide +kernel, by decide +kernel⟩
set_option maxRecDepth 20000 in
theorem qz_mo27 : qz_MO 27 := ⟨by decide +kernel, qz_in 316 (by decide +kernel) (by decide +kernel), qz_in 12 (by decide +kernel) (by decide +kernel), ⟨by decide +kernel, by decide +kernel⟩, by decide +kernel, fun h => absurd h (by decide +kernel), fun _ => ⟨qz_in 314 (by decide +kernel) (by decide +kernel), Or.inr (qz_in 315 (by decide +kernel) (by decide +kernel)), by decide +kernel, by decide +kernel⟩, by decide +kernel, by decide +kernel, by decide +kernel⟩
set_option maxRecDepth 20000 in
theorem qz_mo28 : qz_MO 28 := ⟨by decide +kernel, qz_in 396 (by decide +kernel) (by decide +kernel), qz_in 12 (by decide +kernel) (by decide +kernel), ⟨by decide +kernel, by decide +kernel⟩, by decide +kernel, fun h => absurd h (by decide +kernel), fun _ => ⟨qz_in 394 (by decide +kernel) (by decide +kernel), Or.inr (qz_in 395 (by decide +kernel) (by decide +kernel)), by decide +kernel, by decide +kernel⟩, by decide +kernel, by decide +kernel, by decide +kernel⟩
set_option maxRecDepth 20000 in
theorem qz_mo29 : qz_MO 29 := ⟨by decide +kernel, qz_in 400 (by decide +kernel) (by decide +kernel), qz_in 12 (by decide +kernel) (by decide +kernel), ⟨by decide +kernel, by decide +kernel⟩, by decide +kernel, fun h => absurd h (by decide +kernel), fun _ => ⟨qz_in 399 (by decide +kernel) (by decide +kernel), Or.inr (qz_in 4 (by decide +kernel) (by decide +kernel)), by decide +kernel, by decide +kernel⟩, by decide +kernel, by decide +kernel, by decide +kernel⟩
set_option maxRecDepth 20000 in
theorem qz_mo30 : qz_MO 30 := ⟨by decide +kernel, qz_in 404 (by decide +kernel) (by decide +kernel), qz_in 12 (by decide +kernel) (by decide +kernel), ⟨by decide +kernel, by decide +kernel⟩, by decide +kernel, fun h => absurd h (by decide +kernel), fun _ => ⟨qz_in 403 (by decide +kernel) (by decide +kernel), Or.inr (qz_in 5 (by decide +kernel) (by decide +kernel)), by decide +kernel, by decide +kernel⟩, by decide +kernel, by decide +kernel, by decide +kernel⟩
set_option maxRecDepth 20000 in
theorem qz_mo31 : qz_MO 31 := ⟨by decide +kernel, qz_in 289 (by decide +kernel) (by decide +kernel), qz_in 12 (by decide +kernel) (by decide +kernel), ⟨by decide +kernel, by decide +kernel⟩, by decide +kernel, fun _ => qz_in 288 (by decide +kernel) (by decide +kernel), fun h => absurd h (by decide +kernel), by decide +kernel, by decide +kernel, by decide +kernel⟩
set_option maxRecDepth 20000 in
theorem qz_mo32 : qz_MO 32 := ⟨by decide +kernel, qz_in 286 (by decide +kernel) (by decide +kernel), qz_in 12 (by decide +kernel) (by decide +kernel), ⟨by decide +kernel, by decide +kernel⟩, by decide +kernel, fun h => absurd h (by decide +kernel), fun _ => ⟨qz_in 284 (by decide +kernel) (by decide +kernel), Or.inr (qz_in 285 (by decide +kernel) (by decide +kernel)), by decide +kernel, by decide +kernel⟩, by decide +kernel, by decide +kernel, by decide +kernel⟩
set_option maxRecDepth 20000 in
theorem qz_mo33 : qz_MO 33 := ⟨by decide +kernel, qz_in 432 (by decide +kernel) (by decide +kernel), qz_in 12 (by decide +kernel) (by decide +kernel), ⟨by decide +kernel, by decide +kernel⟩, by decide +kernel, fun h => absurd h (by decide +kernel), fun _ => ⟨qz_in 430 (by decide +kernel) (by decide +kernel), Or.inr (qz_in 431 (by decide +kernel) (by decide +kernel)), by decide +kernel, by decide +kernel⟩, by decide +kernel, by decide +kernel, by decide +kernel⟩
set_option maxRecDepth 20000 in
theorem qz_mo34 : qz_MO 34 := ⟨by decide +kernel, qz_in 258 (by decide +kernel) (by decide +kernel), qz_in 12 (by decide +kernel) (by decide +kernel), ⟨by decide +kernel, by decide +kernel⟩, by decide +kernel, fun h => absurd h (by decide +kernel), fun _ => ⟨qz_in 256 (by decide +kernel) (by decide +kernel), Or.inr (qz_in 257 (by decide +kernel) (by decide +kernel)), by decide +kernel, by decide +kernel⟩, by decide +kernel, by decide +kernel, by decide +kernel⟩
set_option maxRecDepth 20000 in
theorem qz_mo35 : qz_MO 35 := ⟨by decide +kernel, qz_in 296 (by decide +kernel) (by decide +kernel), qz_in 12 (by decide +kernel) (by decide +kernel), ⟨by decide +kernel, by decide +kernel⟩, by decide +kernel, fun h => absurd h (by decide +kernel), fun _ => ⟨qz_in 294 (by decide +kernel) (by decide +kernel), Or.inr (qz_in 295 (by decide +kernel) (by decide +kernel)), by decide +kernel, by decide +kernel⟩, by decide +kernel, by decide +kernel, by decide +kernel⟩
set_option maxRecDepth 20000 in
theorem qz_mo36 : qz_MO 36 := ⟨by decide +kernel, qz_in 282 (by decide +kernel) (by decide +kernel), qz_in 12 (by decide +kernel) (by decide +kernel), ⟨by decide +kernel, by decide +kernel⟩, by decide +kernel, fun h => absurd h (by decide +kernel), fun _ => ⟨qz_in 280 (by decide +kernel) (by decide +kernel), Or.inr (qz_in 281 (by decide +kernel) (by decide +kernel)), by decide +kernel, by decide +kernel⟩, by decide +kernel, by decide +kernel, by decide +kernel⟩
set_option maxRecDepth 20000 in
theorem qz_mo37 : qz_MO 37 := ⟨by decide +kernel, qz_in 311 (by decide +kernel) (by decide +kernel), qz_in 12 (by decide +kernel) (by decide +kernel), ⟨by decide +kernel, by decide +kernel⟩, by decide +kernel, fun h => absurd h (by decide +kernel), fun _ => ⟨qz_in 309 (by decide +kernel) (by decide +kernel), Or.inr (qz_in 310 (by decide +kernel) (by decide +kernel)), by decide +kernel, by decide +kernel⟩, by decide +kernel, by decide +kernel, by decide +kernel⟩
set_option maxRecDepth 20000 in
theorem qz_mo38 : qz_MO 38 := ⟨by decide +kernel, qz_in 332 (by decide +kernel) (by decide +kernel), qz_in 12 (by decide +kernel) (by decide +kernel), ⟨by decide +kernel, by decide +kernel⟩, by decide +kernel, fun h => absurd h (by decide +kernel), fun _ => ⟨qz_in 331 (by decide +kernel) (by decide +kernel), Or.inr (qz_in 2 (by decide +kernel) (by decide +kernel)), by decide +kernel, by decide +kernel⟩, by decide +kernel, by decide +kernel, by decide +kernel⟩
set_option maxRecDepth 20000 in
theorem qz_mo39 : qz_MO 39 := ⟨by decide +kernel, qz_in 320 (by decide +kernel) (by decide +kernel), qz_in 12 (by decide +kernel) (by decide +kernel), ⟨by decide +kernel, by decide +kernel⟩, by decide +kernel, fun h => absurd h (by decide +kernel), fun _ => ⟨qz_in 318 (by decide +kernel) (by decide +kernel), Or.inr (qz_in 319 (by decide +kernel) (by decide +kernel)), by decide +kernel, by decide +kernel⟩, by decide +kernel, by decide +kernel, by decide +kernel⟩
set_option maxRecDepth 20000 in
theorem qz_mo40 : qz_MO 40 := ⟨by decide +kernel, qz_in 346 (by decide +kernel) (by decide +kernel), qz_in 12 (by decide +kernel) (by decide +kernel), ⟨by decide +kernel, by decide +kernel⟩, by decide +kernel, fun h => absurd h (by decide +kernel), fun _ => ⟨qz_in 344 (by decide +kernel) (by decide +kernel), Or.inr (qz_in 345 (by decide +kernel) (by decide +kernel)), by decide +kernel, by decide +kernel⟩, by decide +kernel, by decide +kernel, by decide +kernel⟩
set_option maxRecDepth 20000 in
theorem qz_mo41 : qz_MO 41 := ⟨by decide +kernel, qz_in 350 (by decide +kernel) (by decide +kernel), qz_in 12 (by decide +kernel) (by decide +kernel), ⟨by decide +kernel, by decide +kernel⟩, by decide +kernel, fun h => absurd h (by decide +kernel), fun _ => ⟨qz_in 348 (by decide +kernel) (by decide +kernel), Or.inr (qz_in 349 (by decide +kernel) (by decide +kernel)), by decide +kernel, by decide +kernel⟩, by decide +kernel, by decide +kernel, by decide +kernel⟩
set_option maxRecDepth 20000 in
theorem qz_mo42 : qz_MO 42 := ⟨by decide +kernel, qz_in 421 (by decide +kernel) (by decide +kernel), qz_in 12 (by decide +kernel) (by decide +kernel), ⟨by decide +kernel, by decide +kernel⟩, by decide +kernel, fun h => absurd h (by decide +kernel), fun _ => ⟨qz_in 419 (by decide +kernel) (by decide +kernel), Or.inr (qz_in 420 (by decide +kernel) (by decide +kernel)), by decide +kernel, by decide +kernel⟩, by decide +kernel, by decide +kernel, by decide +kernel⟩
set_option maxRecDepth 20000 in
theorem qz_mo43 : qz_MO 43 := ⟨by decide +kernel, qz_in 428 (by decide +kernel) (by decide +kernel), qz_in 12 (by decide +kernel) (by decide +kernel), ⟨by decide +kernel, by decide +kernel⟩, by decide +kernel, fun h => absurd h (by decide +kernel), fun _ => ⟨qz_in 427 (by decide +kernel) (by decide +kernel), Or.inr (qz_in 8 (by decide +kernel) (by decide +kernel)), by decide +kernel, by decide +kernel⟩, by decide +kernel, by decide +kernel, by decide +kernel⟩
set_option maxRecDepth 20000 in
theorem qz_mo44 : qz_MO 44 := ⟨by decide +kernel, qz_in 358 (by decide +kernel) (by decide +kernel), qz_in 12 (by decide +kernel) (by decide +kernel), ⟨by decide +kernel, by decide +kernel⟩, by decide +kernel, fun h => absurd h (by decide +kernel), fun _ => ⟨qz_in 357 (by decide +kernel) (by decide +kernel), Or.inr (qz_in 3 (by decide +kernel) (by decide +kernel)), by decide +kernel, by decide +kernel⟩, by decide +kernel, by decide +kernel, by decide +kernel⟩
set_option maxRecDepth 20000 in
theorem qz_mo45 : qz_MO 45 := ⟨by decide +kernel, qz_in 354 (by decide +kernel) (by decide +kernel), qz_in 12 (by decide +kernel) (by decide +kernel), ⟨by decide +kernel, by decide +kernel⟩, by decide +kernel, fun h => absurd h (by decide +kernel), fun _ => ⟨qz_in 352 (by decide +kernel) (by decide +kernel), Or.inr (qz_in 353 (by decide +kernel) (by decide +kernel)), by decide +kernel, by decide +kernel⟩, by decide +kernel, by decide +kernel, by decide +kernel⟩
set_option maxRecDepth 20000 in
theorem qz_mo46 : qz_MO 46 := ⟨by decide +kernel, qz_in 444 (by decide +kernel) (by decide +kernel), qz_in 12 (by decide +kernel) (by decide +kernel), ⟨by decide +kernel, by decide +kernel⟩, by decide +kernel, fun h => absurd h (by decide +kernel), fun _ => ⟨qz_in 442 (by decide +kernel) (by decide +kernel), Or.inr (qz_in 443 (by decide +kernel) (by decide +kernel)), by decide +kernel, by decide +kernel⟩, by decide +kernel, by decide +kernel, by decide +kernel⟩
set_option maxRecDepth 20000 in
theorem qz_mo47 : qz_MO 47 := ⟨by decide +kernel, qz_in 449 (by decide +kernel) (by decide +kernel), qz_in 12 (by decide +kernel) (by decide +kernel), ⟨by decide +kernel, by decide +kernel⟩, by decide +kernel, fun h => absurd h (by decide +kernel), fun _ => ⟨qz_in 447 (by decide +kernel) (by decide +kernel), Or.inr (qz_in 448 (by decide +kernel) (by decide +kernel)), by decide +kernel, by decide +kernel⟩, by decide +kernel, by decide +kernel, by decide +kernel⟩
set_option maxRecDepth 20000 in
theorem qz_mo48 : qz_MO 48 := ⟨by decide +kernel, qz_in 453 (by decide +kernel) (by decide +kernel), qz_in 12 (by decide +kernel) (by decide +kernel), ⟨by decide +kernel, by decide +kernel⟩, by decide +kernel, fun h => absurd h (by decide +kernel), fun _ => ⟨qz_in 452 (by decide +kernel) (by decide +kernel), Or.inr (qz_in 9 (by decide +kernel) (by decide +kernel)), by decide +kernel, by decide +kernel⟩, by decide +kernel, by decide +kernel, by decide +kernel⟩
set_option maxRecDepth 20000 in
theorem qz_mo49 : qz_MO 49 := ⟨by decide +kernel, qz_in 22 (by decide +kernel) (by decide +kernel), qz_in 11 (by decide +kernel) (by decide +kernel), ⟨by decide +kernel, by decide +kernel⟩, by decide +kernel, fun h => absurd h (by decide +kernel), fun _ => ⟨qz_in 21 (by decide +kernel) (by decide +kernel), Or.inl (by decide +kernel), by decide +kernel, by decide +kernel⟩, by decide +kernel, by decide +kernel, by decide +kernel⟩
set_option maxRecDepth 20000 in
theorem qz_mo50 : qz_MO 50 := ⟨by decide +kernel, qz_in 373 (by decide +kernel) (by decide +kernel), qz_in 11 (by decide +kernel) (by decide +kernel), ⟨by decide +kernel, by decide +kernel⟩, by decide +kernel, fun h => absurd h (by decide +kernel), fun _ => ⟨qz_in 371 (by decide +kernel) (by decide +kernel), Or.inr (qz_in 372 (by decide +kernel) (by decide +kernel)), by decide +kernel, by decide +kernel⟩, by decide +kernel, by decide +kernel, by decide +kernel⟩
set_option maxRecDepth 20000 in
theorem qz_mo51 : qz_MO 51 := ⟨by decide +kernel, qz_in 469 (by decide +kernel) (by decide +kernel), qz_in 11 (by decide +kernel) (by decide +kernel), ⟨by decide +kernel, by decide +kernel⟩, by decide +kernel, fun h => absurd h (by decide +kernel), fun _ => ⟨qz_in 467 (by decide +kernel) (by decide +kernel), Or.inr (qz_in 468 (by decide +kernel) (by decide +kernel)), by decide +kernel, by decide +kernel⟩, by decide +kernel, by decide +kernel, by decide +kernel⟩
set_option maxRecDepth 20000 in
theorem qz_mo52 : qz_MO 52 := ⟨by decide +kernel, qz_in 457 (by decide +kernel) (by decide +kernel), qz_in 11 (by decide +kernel) (by decide +kernel), ⟨by decide +kernel, by decide +kernel⟩, by decide +kernel, fun h => absurd h (by decide +kernel), fun _ => ⟨qz_in 455 (by decide +kernel) (by decide +kernel), Or.inr (qz_in 456 (by decide +kernel) (by decide +kernel)), by decide +kernel, by decide +kernel⟩, by decide +kernel, by decide +kernel, by decide +kernel⟩
set_option maxRecDepth 20000 in
theorem qz_mo53 : qz_MO 53 := ⟨by decide +kernel, qz_in 465 (by decide +kernel) (by decide +kernel), qz_in 11 (by decide +kernel) (by decide +kernel), ⟨by decide +kernel, by decide +kernel⟩, by decide +kernel, fun h => absurd h (by decide +kernel), fun _ => ⟨qz_in 463 (by decide +kernel) (by decide +kernel), Or.inr (qz_in 464 (by decide +kernel) (by decide +kernel)), by decide +kernel, by decide +kernel⟩, by decide +kernel, by decide +kernel, by decide +kernel⟩
set_option maxRecDepth 20000 in
theorem qz_mo54 : qz_MO 54 := ⟨by decide +kernel, qz_in 413 (by decide +kernel) (by decide +kernel), qz_in 11 (by decide +kernel) (by decide +kernel), ⟨by decide +kernel, by decide +kernel⟩, by decide +kernel, fun h => absurd h (by decide +kernel), fun _ => ⟨qz_in 411 (by decide +kernel) (by decide +kernel), Or.inr (qz_in 412 (by decide +kernel) (by decide +kernel)), by decide +kernel, by decide +kernel⟩, by decide +kernel, by decide +kernel, by decide +kernel⟩
set_option maxRecDepth 20000 in
theorem qz_mo55 : qz_MO 55 := ⟨by decide +kernel, qz_in 436 (by decide +kernel) (by decide +kernel), qz_in 11 (by decide +kernel) (by decide +kernel), ⟨by decide +kernel, by decide +kernel⟩, by decide +kernel, fun h => absurd h (by decide +kernel), fun _ => ⟨qz_in 434 (by decide +kernel) (by decide +kernel), Or.inr (qz_in 435 (by decide +kernel) (by decide +kernel)), by decide +kernel, by decide +kernel⟩, by decide +kernel, by decide +kernel, by decide +kernel⟩
set_option maxRecDepth 20000 in
theorem qz_mo56 : qz_MO 56 := ⟨by decide +kernel, qz_in 381 (by decide +kernel) (by decide +kernel), qz_in 11 (by decide +kernel) (by decide +kernel), ⟨by decide +kernel, by decide +kernel⟩, by decide +kernel, fun h => absurd h (by decide +kernel), fun _ => ⟨qz_in 379 (by decide +kernel) (by decide +kernel), Or.inr (qz_in 380 (by decide +kernel) (by decide +kernel)), by decide +kernel, by decide +kernel⟩, by decide +kernel, by decide +kernel, by decide +kernel⟩
set_option maxRecDepth 20000 in
theorem qz_mo57 : qz_MO 57 := ⟨by decide +kernel, qz_in 440 (by decide +kernel) (by decide +kernel), qz_in 11 (by decide +kernel) (by decide +kernel), ⟨by decide +kernel, by decide +kernel⟩, by decide +kernel, fun h => absurd h (by decide +kernel), fun _ => ⟨qz_in 438 (by decide +kernel) (by decide +kernel), Or.inr (qz_in 439 (by decide +kernel) (by decide +kernel)), by decide +kernel, by decide +kernel⟩, by decide +kernel, by decide +kernel, by decide +kernel⟩
set_option maxRecDepth 20000 in
theorem qz_mo58 : qz_MO 58 := ⟨by decide +kernel, qz_in 201 (by decide +kernel) (by decide +kernel), qz_in 11 (by decide +kernel) (by decide +kernel), ⟨by decide +kernel, by decide +kernel⟩, by decide +kernel, fun h => absurd h (by decide +kernel), fun _ => ⟨qz_in 199 (by decide +kernel) (by decide +kernel), Or.inr (qz_in 200 (by decide +kernel) (by decide +kernel)), by decide +kernel, by decide +kernel⟩, by decide +kernel, by decide +kernel, by decide +kernel⟩
set_option maxRecDepth 20000 in
theorem qz_mo59 : qz_MO 59 := ⟨by decide +kernel, qz_in 220 (by decide +kernel) (by decide +kernel), qz_in 11 (by decide +kernel) (by decide +kernel), ⟨by decide +kernel, by decide +kernel⟩, by decide +kernel, fun h => absurd h (by decide +kernel), fun _ => ⟨qz_in 218 (by decide +kernel) (by decide +kernel), Or.inr (qz_in 219 (by decide +kernel) (by decide +kernel)), by decide +kernel, by decide +kernel⟩, by decide +kernel, by decide +kernel, by decide +kernel⟩
set_option maxRecDepth 20000 in
theorem qz_mo60 : qz_MO 60 := ⟨by decide +kernel, qz_in 233 (by decide +kernel) (by decide +kernel), qz_in 11 (by decide +kernel) (by decide +kernel), ⟨by decide +kernel, by decide +kernel⟩, by decide +kernel, fun h => absurd h (by decide +kernel), fun _ => ⟨qz_in 231 (by decide +kernel) (by decide +kernel), Or.inr (qz_in 232 (by decide +kernel) (by decide +kernel)), by decide +kernel, by decide +kernel⟩, by decide +kernel, by decide +kernel, by decide +kernel⟩
set_option maxRecDepth 20000 in
theorem qz_mo61 : qz_MO 61 := ⟨by decide +kernel, qz_in 274 (by decide +kernel) (by decide +kernel), qz_in 11 (by decide +kernel) (by decide +kernel), ⟨by decide +kernel, by decide +kernel⟩, by decide +kernel, fun h => absurd h (by decide +kernel), fun _ => ⟨qz_in 272 (by decide +kernel) (by decide +kernel), Or.inr (qz_in 273 (by decide +kernel) (by decide +kernel)), by decide +kernel, by decide +kernel⟩, by decide +kernel, by decide +kernel, by decide +kernel⟩
set_option maxRecDepth 20000 in
theorem qz_mo62 : qz_MO 62 := ⟨by decide +kernel, qz_in 337 (by decide +kernel) (by decide +kernel), qz_in 11 (by decide +kernel) (by decide +kernel), ⟨by decide +kernel, by decide +kernel⟩, by decide +kernel, fun h => absurd h (by decide +kernel), fun _ => ⟨qz_in 335 (by decide +kernel) (by decide +kernel), Or.inr (qz_in 336 (by decide +kernel) (by decide +kernel)), by decide +kernel, by decide +kernel⟩, by decide +kernel, by decide +kernel, by decide +kernel⟩
set_option maxRecDepth 20000 in
theorem qz_mo63 : qz_MO 63 := ⟨by decide +kernel, qz_in 483 (by decide +kernel) (by decide +kernel), qz_in 11 (by decide +kernel) (by decide +kernel), ⟨by decide +kernel, by decide +kernel⟩, by decide +kernel, fun h => absurd h (by decide +kernel), fun _ => ⟨qz_in 481 (by decide +kernel) (by decide +kernel), Or.inr (qz_in 482 (by decide +kernel) (by decide +kernel)), by decide +kernel, by decide +kernel⟩, by decide +kernel, by decide +kernel, by decide +kernel⟩
set_option maxRecDepth 20000 in
theorem qz_mo64 : qz_MO 64 := ⟨by decide +kernel, qz_in 487 (by decide +kernel) (by decide +kernel), qz_in 11 (by decide +kernel) (by decide +kernel), ⟨by decide +kernel, by decide +kernel⟩, by decide +kernel, fun h => absurd h (by decide +kernel), fun _ => ⟨qz_in 485 (by decide +kernel) (by decide +kernel), Or.inr (qz_in 486 (by decide +kernel) (by decide +kernel)), by decide +kernel, by decide +kernel⟩, by decide +kernel, by decide +kernel, by decide +kernel⟩
set_option maxRecDepth 20000 in
theorem qz_mo65 : qz_MO 65 := ⟨by decide +kernel, qz_in 245 (by decide +kernel) (by decide +kernel), qz_in 11 (by decide +kernel) (by decide +kernel), ⟨by decide +kernel, by decide +kernel⟩, by decide +kernel, fun h => absurd h (by decide +kernel), fun _ => ⟨qz_in 243 (by decide +kernel) (by decide +kernel), Or.inr (qz_in 244 (by decide +kernel) (by decide +kernel)), by decide +kernel, by decide +kernel⟩, by decide +kernel, by decide +kernel, by decide +kernel⟩
set_option maxRecDepth 20000 in
theorem qz_mo66 : qz_MO 66 := ⟨by decide +kernel, qz_in 292 (by decide +kernel) (by decide +kernel), qz_in 11 (by decide +kernel) (by decide +kernel), ⟨by decide +kernel, by decide +kernel⟩, by decide +kernel, fun _ => qz_in 291 (by decide +kernel) (by decide +kernel), fun h => absurd h (by decide +kernel), by decide +kernel, by decide +kernel, by decide +kernel⟩
set_option maxRecDepth 20000 in
theorem qz_mo67 : qz_MO 67 := ⟨by decide +kernel, qz_in 472 (by decide +kernel) (by decide +kernel), qz_in 11 (by decide +kernel) (by decide +kernel), ⟨by decide +kernel, by decide +kernel⟩, by decide +kernel, fun _ => qz_in 471 (by decide +kernel) (by decide +kernel), fun h => absurd h (by decide +kernel), by decide +kernel, by decide +kernel, by decide +kernel⟩
set_option maxRecDepth 20000 in
theorem qz_mo68 : qz_MO 68 := ⟨by decide +kernel, qz_in 384 (by decide +kernel) (by decide +kernel), qz_in 11 (by decide +kernel) (by decide +kernel), ⟨by decide +kernel, by decide +kernel⟩, by decide +kernel, fun _ => qz_in 383 (by decide +kernel) (by decide +kernel), fun h => absurd h (by decide +kernel), by decide +kernel, by decide +kernel, by decide +kernel⟩
set_option maxRecDepth 20000 in
theorem qz_mo69 : qz_MO 69 := ⟨by decide +kernel, qz_in 417 (by decide +kernel) (by decide +kernel), qz_in 11 (by decide +kernel) (by decide +kernel), ⟨by decide +kernel, by decide +kernel⟩, by decide +kernel, fun h => absurd h (by decide +kernel), fun _ => ⟨qz_in 416 (by decide +kernel) (by decide +kernel), Or.inr (qz_in 7 (by decide +kernel) (by decide +kernel)), by decide +kernel, by decide +kernel⟩, by decide +kernel, by decide +kernel, by decide +kernel⟩
set_option maxRecDepth 20000 in
theorem qz_mo70 : qz_MO 70 := ⟨by decide +kernel, qz_in 265 (by decide +kernel) (by decide +kernel), qz_in 10 (by decide +kernel) (by decide +kernel), ⟨by decide +kernel, by decide +kernel⟩, by decide +kernel, fun _ => qz_in 264 (by decide +kernel) (by decide +kernel), fun h => absurd h (by decide +kernel), by decide +kernel, by decide +kernel, by decide +kernel⟩
set_option maxRecDepth 20000 in
theorem qz_mo71 : qz_MO 71 := ⟨by decide +kernel, qz_in 368 (by decide +kernel) (by decide +kernel), qz_in 10 (by decide +kernel) (by decide +kernel), ⟨by decide +kernel, by decide +kernel⟩, by decide +kernel, fun _ => qz_in 367 (by decide +kernel) (by decide +kernel), fun h => absurd h (by decide +kernel), by decide +kernel, by decide +kernel, by decide +kernel⟩
set_option maxRecDepth 20000 in
theorem qz_mo72 : qz_MO 72 := ⟨by decide +kernel, qz_in 268 (by decide +kernel) (by decide +kernel), qz_in 10 (by decide +kernel) (by decide +kernel), ⟨by decide +kernel, by decide +kernel⟩, by decide +kernel, fun _ => qz_in 267 (by decide +kernel) (by decide +kernel), fun h => absurd h (by decide +kernel), by decide +kernel, by decide +kernel, by decide +kernel⟩
set_option maxRecDepth 20000 in
theorem qz_mo73 : qz_MO 73 := ⟨by decide +kernel, qz_in 365 (by decide +kernel) (by decide +kernel), qz_in 10 (by decide +kernel) (by decide +kernel), ⟨by decide +kernel, by decide +kernel⟩, by decide +kernel, fun _ => qz_in 364 (by decide +kernel) (by decide +kernel), fun h => absurd h (by decide +kernel), by decide +kernel, by decide +kernel, by decide +kernel⟩
set_option maxRecDepth 20000 in
theorem qz_mo74 : qz_MO 74 := ⟨by decide +kernel, qz_in 479 (by decide +kernel) (by decide +kernel), qz_in 10 (by decide +kernel) (by decide +kernel), ⟨by decide +kernel, by decide +kernel⟩, by decide +kernel, fun _ => qz_in 478 (by decide +kernel) (by decide +kernel), fun h => absurd h (by decide +kernel), by decide +kernel, by decide +kernel, by decide +kernel⟩
theorem qz_mo {k : Nat} (h : k < qz_nm) : qz_MO k := by
  have h : k < 75 := h
  have h0 : 0 ≤ k := Nat.zero_le k
  rcases Nat.lt_or_ge k 37 with h0_75 | h0_75
  · rcases Nat.lt_or_ge k 18 with h0_37 | h0_37
    · rcases Nat.lt_or_ge k 9 with h0_18 | h0_18
      · rcases Nat.lt_or_ge k 4 with h0_9 | h0_9
        · rcases Nat.lt_or_ge k 2 with h0_4 | h0_4
          · rcases Nat.lt_or_ge k 1 with h0_2 | h0_2
            · exact (show k = 0 by omega) ▸ qz_mo0
            · exact (show k = 1 by omega) ▸ qz_mo1
          · rcases Nat.lt_or_ge k 3 with h2_4 | h2_4
            · exact (show k = 2 by omega) ▸ qz_mo2
            · exact (show k = 3 by omega) ▸ qz_mo3
        · rcases Nat.lt_or_ge k 6 with h4_9 | h4_9
          · rcases Nat.lt_or_ge k 5 with h4_6 | h4_6
            · exact (show k = 4 by omega) ▸ qz_mo4
            · exact (show k = 5 by omega) ▸ qz_mo5
          · rcases Nat.lt_or_ge k 7 with h6_9 | h6_9
            · exact (show k = 6 by omega) ▸ qz_mo6
            · rcases Nat.lt_or_ge k 8 with h7_9 | h7_9
              · exact (show k = 7 by omega) ▸ qz_mo7
              · exact (show k = 8 by omega) ▸ qz_mo8
      · rcases Nat.lt_or_ge k 13 with h9_18 | h9_18
        · rcases Nat.lt_or_ge k 11 with h9_13 | h9_13
          · rcases Nat.lt_or_ge k 10 with h9_11 | h9_11
            · exact (show k = 9 by omega) ▸ qz_mo9
            · exact (show k = 10 by omega) ▸ qz_mo10
          · rcases Nat.lt_or_ge k 12 with h11_13 | h11_13
            · exact (show k = 11 by omega) ▸ qz_mo11
            · exact (show k = 12 by omega) ▸ qz_mo12
        · rcases Nat.lt_or_ge k 15 with h13_18 | h13_18
          · rcases Nat.lt_or_ge k 14 with h13_15 | h13_15
            · exact (show k = 13 by omega) ▸ qz_mo13
            · exact (show k = 14 by omega) ▸ qz_mo14
          · rcases Nat.lt_or_ge k 16 with h15_18 | h15_18
            · exact (show k = 15 by omega) ▸ qz_mo15
            · rcases Nat.lt_or_ge k 17 with h16_18 | h16_18
              · exact (show k = 16 by omega) ▸ qz_mo16
              · exact (show k = 17 by omega) ▸ qz_mo17
    · rcases Nat.lt_or_ge k 27 with h18_37 | h18_37
      · rcases Nat.lt_or_ge k 22 with h18_27 | h18_27
        · rcases Nat.lt_or_ge k 20 with h18_22 | h18_22
          · rcases Nat.lt_or_ge k 19 with h18_20 | h18_20
            · exact (show k = 18 by omega) ▸ qz_mo18
            · exact (show k = 19 by omega) ▸ qz_mo19
          · rcases Nat.lt_or_ge k 21 with h20_22 | h20_22
            · exact (show k = 20 by omega) ▸ qz_mo20
            · exact (show k = 21 by omega) ▸ qz_mo21
        · rcases Nat.lt_or_ge k 24 with h22_27 | h22_27
          · rcases Nat.lt_or_ge k 23 with h22_24 | h22_24
            · exact (show k = 22 by omega) ▸ qz_mo22
            · exact (show k = 23 by omega) ▸ qz_mo23
          · rcases Nat.lt_or_ge k 25 with h24_27 | h24_27
            · exact (show k = 24 by omega) ▸ qz_mo24
            · rcases Nat.lt_or_ge k 26 with h25_27 | h25_27
              · exact (show k = 25 by omega) ▸ qz_mo25
              · exact (show k = 26 by omega) ▸ qz_mo26
      · rcases Nat.lt_or_ge k 32 with h27_37 | h27_37
        · rcases Nat.lt_or_ge k 29 with h27_32 | h27_32
          · rcases Nat.lt_or_ge k 28 with h27_29 | h27_29
            · exact (show k = 27 by omega) ▸ qz_mo27
            · exact (show k = 28 by omega) ▸ qz_mo28
          · rcases Nat.lt_or_ge k 30 with h29_32 | h29_32
            · exact (show k = 29 by omega) ▸ qz_mo29
            · rcases Nat.lt_or_ge k 31 with h30_32 | h30_32
              · exact (show k = 30 by omega) ▸ qz_mo30
              · exact (show k = 31 by omega) ▸ qz_mo31
        · rcases Nat.lt_or_ge k 34 with h32_37 | h32_37
          · rcases Nat.lt_or_ge k 33 with h32_34 | h32_34
            · exact (show k = 32 by omega) ▸ qz_mo32
            · exact (show k = 33 by omega) ▸ qz_mo33
          · rcases Nat.lt_or_ge k 35 with h34_37 | h34_37
            · exact (show k = 34 by omega) ▸ qz_mo34
            · rcases Nat.lt_or_ge k 36 with h35_37 | h35_37
              · exact (show k = 35 by omega) ▸ qz_mo35
              · exact (show k = 36 by omega) ▸ qz_mo36
  · rcases Nat.lt_or_ge k 56 with h37_75 | h37_75
    · rcases Nat.lt_or_ge k 46 with h37_56 | h37_56
      · rcases Nat.lt_or_ge k 41 with h37_46 | h37_46
        · rcases Nat.lt_or_ge k 39 with h37_41 | h37_41
          · rcases Nat.lt_or_ge k 38 with h37_39 | h37_39
            · exact (show k = 37 by omega) ▸ qz_mo37
            · exact (show k = 38 by omega) ▸ qz_mo38
          · rcases Nat.lt_or_ge k 40 with h39_41 | h39_41
            · exact (show k = 39 by omega) ▸ qz_mo39
            · exact (show k = 40 by omega) ▸ qz_mo40
        · rcases Nat.lt_or_ge k 43 with h41_46 | h41_46
          · rcases Nat.lt_or_ge k 42 with h41_43 | h41_43
            · exact (show k = 41 by omega) ▸ qz_mo41
            · exact (show k = 42 by omega) ▸ qz_mo42
          · rcases Nat.lt_or_ge k 44 with h43_46 | h43_46
            · exact (show k = 43 by omega) ▸ qz_mo43
            · rcases Nat.lt_or_ge k 45 with h44_46 | h44_46
              · exact (show k = 44 by omega) ▸ qz_mo44
              · exact (show k = 45 by omega) ▸ qz_mo45
      · rcases Nat.lt_or_ge k 51 with h46_56 | h46_56
        · rcases Nat.lt_or_ge k 48 with h46_51 | h46_51
          · rcases Nat.lt_or_ge k 47 with h46_48 | h46_48
            · exact (show k = 46 by omega) ▸ qz_mo46
            · exact (show k = 47 by omega) ▸ qz_mo47
          · rcases Nat.lt_or_ge k 49 with h48_51 | h48_51
            · exact (show k = 48 by omega) ▸ qz_mo48
            · rcases Nat.lt_or_ge k 50 with h49_51 | h49_51
              · exact (show k = 49 by omega) ▸ qz_mo49
              · exact (show k = 50 by omega) ▸ qz_mo50
        · rcases Nat.lt_or_ge k 53 with h51_56 | h51_56
          · rcases Nat.lt_or_ge k 52 with h51_53 | h51_53
            · exact (show k = 51 by omega) ▸ qz_mo51
            · exact (show k = 52 by omega) ▸ qz_mo52
          · rcases Nat.lt_or_ge k 54 with h53_56 | h53_56
            · exact (show k = 53 by omega) ▸ qz_mo53
            · rcases Nat.lt_or_ge k 55 with h54_56 | h54_56
              · exact (show k = 54 by omega) ▸ qz_mo54
              · exact (show k = 55 by omega) ▸ qz_mo55
    · rcases Nat.lt_or_ge k 65 with h56_75 | h56_75
      · rcases Nat.lt_or_ge k 60 with h56_65 | h56_65
        · rcases Nat.lt_or_ge k 58 with h56_60 | h56_60
          · rcases Nat.lt_or_ge k 57 with h56_58 | h56_58
            · exact (show k = 56 by omega) ▸ qz_mo56
            · exact (show k = 57 by omega) ▸ qz_mo57
          · rcases Nat.lt_or_ge k 59 with h58_60 | h58_60
            · exact (show k = 58 by omega) ▸ qz_mo58
            · exact (show k = 59 by omega) ▸ qz_mo59
        · rcases Nat.lt_or_ge k 62 with h60_65 | h60_65
          · rcases Nat.lt_or_ge k 61 with h60_62 | h60_62
            · exact (show k = 60 by omega) ▸ qz_mo60
            · exact (show k = 61 by omega) ▸ qz_mo61
          · rcases Nat.lt_or_ge k 63 with h62_65 | h62_65
            · exact (show k = 62 by omega) ▸ qz_mo62
            · rcases Nat.lt_or_ge k 64 with h63_65 | h63_65
              · exact (show k = 63 by omega) ▸ qz_mo63
              · exact (show k = 64 by omega) ▸ qz_mo64
      · rcases Nat.lt_or_ge k 70 with h65_75 | h65_75
        · rcases Nat.lt_or_ge k 67 with h65_70 | h65_70
          · rcases Nat.lt_or_ge k 66 with h65_67 | h65_67
            · exact (show k = 65 by omega) ▸ qz_mo65
            · exact (show k = 66 by omega) ▸ qz_mo66
          · rcases Nat.lt_or_ge k 68 with h67_70 | h67_70
            · exact (show k = 67 by omega) ▸ qz_mo67
            · rcases Nat.lt_or_ge k 69 with h68_70 | h68_70
              · exact (show k = 68 by omega) ▸ qz_mo68
              · exact (show k = 69 by omega) ▸ qz_mo69
        · rcases Nat.lt_or_ge k 72 with h70_75 | h70_75
          · rcases Nat.lt_or_ge k 71 with h70_72 | h70_72
            · exact (show k = 70 by omega) ▸ qz_mo70
            · exact (show k = 71 by omega) ▸ qz_mo71
          · rcases Nat.lt_or_ge k 73 with h72_75 | h72_75
            · exact (show k = 72 by omega) ▸ qz_mo72
            · rcases Nat.lt_or_ge k 74 with h73_75 | h73_75
              · exact (show k = 73 by omega) ▸ qz_mo73
              · exact (show k = 74 by omega) ▸ qz_mo74
def qz_clL : List ((Nat × Nat) × Nat) := [((0, 35), 1), ((1, 28), 13), ((2, 21), 14), ((2, 22), 11), ((2, 25), 15), ((4, 55), 0), ((4, 56), 16), ((4, 60), 7), ((4, 64), 21), ((4, 71), 22), ((4, 75), 1), ((4, 82), 27), ((4, 99), 2), ((4, 102), 19), ((4, 106), 32), ((4, 110), 39), ((4, 114), 17), ((4, 117), 35), ((4, 120), 38), ((4, 124), 29), ((4, 128), 30), ((4, 132), 66), ((4, 135), 31), ((4, 143), 37), ((4, 147), 3), ((4, 150), 4), ((4, 156), 43), ((4, 159), 5), ((4, 163), 44), ((4, 167), 45), ((4, 170), 48), ((5, 9), 14), ((5, 18), 8), ((5, 25), 9), ((5, 41), 10), ((5, 45), 20), ((5, 49), 19), ((5, 53), 66), ((5, 56), 67), ((5, 59), 25), ((5, 63), 24), ((5, 80), 23), ((5, 84), 6), ((5, 89), 28), ((5, 92), 26), ((5, 101), 69), ((5, 104), 33), ((5, 108), 35), ((5, 112), 32), ((5, 115), 68), ((5, 119), 17), ((5, 122), 18), ((5, 129), 46), ((5, 132), 47), ((5, 148), 12), ((5, 151), 15), ((5, 160), 36), ((5, 164), 37), ((5, 167), 27), ((5, 178), 39), ((5, 182), 40), ((5, 185), 41), ((5, 188), 45), ((5, 194), 34), ((5, 215), 42), ((8, 12), 65), ((8, 18), 61), ((8, 22), 62), ((8, 26), 71), ((8, 31), 50), ((8, 34), 56), ((8, 37), 54), ((8, 40), 55), ((8, 43), 57), ((8, 47), 52), ((8, 50), 60), ((8, 53), 53), ((8, 56), 51), ((8, 59), 63), ((8, 62), 64), ((8, 65), 49), ((8, 66), 58), ((8, 69), 59), ((8, 72), 72), ((8, 76), 70), ((8, 80), 73), ((8, 84), 74)]
def qz_cl (c i : Nat) : Option Nat := qz_clL.lookup (c, i)
/-- the links to nest mates -/
def qz_ne : List (Nat × Nat × Nat) := [(1, 28, 13), (4, 55, 0), (4, 132, 66)]
def qz_KO (e : (Nat × Nat) × Nat) : Prop := e.2 < qz_nm ∧ (Cond.methodLink (qz_ow e.1.1) e.1.2 (qz_y e.2) ∈ qz_tb ∨ (e.1.1, e.1.2, e.2) ∈ qz_ne)
theorem qz_ko0 : qz_KO ((0, 35), 1) := ⟨by decide, Or.inl (qz_in 254 (by decide +kernel) (by decide +kernel))⟩
theorem qz_ko1 : qz_KO ((1, 28), 13) := ⟨by decide, Or.inr (by decide)⟩
theorem qz_ko2 : qz_KO ((2, 21), 14) := ⟨by decide, Or.inl (qz_in 173 (by decide +kernel) (by decide +kernel))⟩
theorem qz_ko3 : qz_KO ((2, 22), 11) := ⟨by decide, Or.inl (qz_in 238 (by decide +kernel) (by decide +kernel))⟩
theorem qz_ko4 : qz_KO ((2, 25), 15) := ⟨by decide, Or.inl (qz_in 206 (by decide +kernel) (by decide +kernel))⟩
theorem qz_ko5 : qz_KO ((4, 55), 0) := ⟨by decide, Or.inr (by decide)⟩
theorem qz_ko6 : qz_KO ((4, 56), 16) := ⟨by decide, Or.inl (qz_in 210 (by decide +kernel) (by decide +kernel))⟩
theorem qz_ko7 : qz_KO ((4, 60), 7) := ⟨by decide, Or.inl (qz_in 213 (by decide +kernel) (by decide +kernel))⟩
theorem qz_ko8 : qz_KO ((4, 64), 21) := ⟨by decide, Or.inl (qz_in 301 (by decide +kernel) (by decide +kernel))⟩
theorem qz_ko9 : qz_KO ((4, 71), 22) := ⟨by decide, Or.inl (qz_in 405 (by decide +kernel) (by decide +kernel))⟩
theorem qz_ko10 : qz_KO ((4, 75), 1) := ⟨by decide, Or.inl (qz_in 226 (by decide +kernel) (by decide +kernel))⟩
theorem qz_ko11 : qz_KO ((4, 82), 27) := ⟨by decide, Or.inl (qz_in 409 (by decide +kernel) (by decide +kernel))⟩
theorem qz_ko12 : qz_KO ((4, 99), 2) := ⟨by decide, Or.inl (qz_in 250 (by decide +kernel) (by decide +kernel))⟩
theorem qz_ko13 : qz_KO ((4, 102), 19) := ⟨by decide, Or.inl (qz_in 297 (by decide +kernel) (by decide +kernel))⟩
theorem qz_ko14 : qz_KO ((4, 106), 32) := ⟨by decide, Or.inl (qz_in 283 (by decide +kernel) (by decide +kernel))⟩
theorem qz_ko15 : qz_KO ((4, 110), 39) := ⟨by decide, Or.inl (qz_in 317 (by decide +kernel) (by decide +kernel))⟩
theorem qz_ko16 : qz_KO ((4, 114), 17) := ⟨by decide, Or.inl (qz_in 312 (by decide +kernel) (by decide +kernel))⟩
theorem qz_ko17 : qz_KO ((4, 117), 35) := ⟨by decide, Or.inl (qz_in 293 (by decide +kernel) (by decide +kernel))⟩
theorem qz_ko18 : qz_KO ((4, 120), 38) := ⟨by decide, Or.inl (qz_in 329 (by decide +kernel) (by decide +kernel))⟩
theorem qz_ko19 : qz_KO ((4, 124), 29) := ⟨by decide, Or.inl (qz_in 397 (by decide +kernel) (by decide +kernel))⟩
theorem qz_ko20 : qz_KO ((4, 128), 30) := ⟨by decide, Or.inl (qz_in 401 (by decide +kernel) (by decide +kernel))⟩
theorem qz_ko21 : qz_KO ((4, 132), 66) := ⟨by decide, Or.inr (by decide)⟩
theorem qz_ko22 : qz_KO ((4, 135), 31) := ⟨by decide, Or.inl (qz_in 287 (by decide +kernel) (by decide +kernel))⟩
theorem qz_ko23 : qz_KO ((4, 143), 37) := ⟨by decide, Or.inl (qz_in 333 (by decide +kernel) (by decide +kernel))⟩
theorem qz_ko24 : qz_KO ((4, 147), 3) := ⟨by decide, Or.inl (qz_in 321 (by decide +kernel) (by decide +kernel))⟩
theorem qz_ko25 : qz_KO ((4, 150), 4) := ⟨by decide, Or.inl (qz_in 325 (by decide +kernel) (by decide +kernel))⟩
theorem qz_ko26 : qz_KO ((4, 156), 43) := ⟨by decide, Or.inl (qz_in 425 (by decide +kernel) (by decide +kernel))⟩
theorem qz_ko27 : qz_KO ((4, 159), 5) := ⟨by decide, Or.inl (qz_in 359 (by decide +kernel) (by decide +kernel))⟩
theorem qz_ko28 : qz_KO ((4, 163), 44) := ⟨by decide, Or.inl (qz_in 355 (by decide +kernel) (by decide +kernel))⟩
theorem qz_ko29 : qz_KO ((4, 167), 45) := ⟨by decide, Or.inl (qz_in 445 (by decide +kernel) (by decide +kernel))⟩
theorem qz_ko30 : qz_KO ((4, 170), 48) := ⟨by decide, Or.inl (qz_in 450 (by decide +kernel) (by decide +kernel))⟩
theorem qz_ko31 : qz_KO ((5, 9), 14) := ⟨by decide, Or.inl (qz_in 28 (by decide +kernel) (by decide +kernel))⟩
theorem qz_ko32 : qz_KO ((5, 18), 8) := ⟨by decide, Or.inl (qz_in 129 (by decide +kernel) (by decide +kernel))⟩
theorem qz_ko33 : qz_KO ((5, 25), 9) := ⟨by decide, Or.inl (qz_in 167 (by decide +kernel) (by decide +kernel))⟩
theorem qz_ko34 : qz_KO ((5, 41), 10) := ⟨by decide, Or.inl (qz_in 234 (by decide +kernel) (by decide +kernel))⟩
theorem qz_ko35 : qz_KO ((5, 45), 20) := ⟨by decide, Or.inl (qz_in 374 (by decide +kernel) (by decide +kernel))⟩
theorem qz_ko36 : qz_KO ((5, 49), 19) := ⟨by decide, Or.inl (qz_in 339 (by decide +kernel) (by decide +kernel))⟩
theorem qz_ko37 : qz_KO ((5, 53), 66) := ⟨by decide, Or.inl (qz_in 338 (by decide +kernel) (by decide +kernel))⟩
theorem qz_ko38 : qz_KO ((5, 56), 67) := ⟨by decide, Or.inl (qz_in 470 (by decide +kernel) (by decide +kernel))⟩
theorem qz_ko39 : qz_KO ((5, 59), 25) := ⟨by decide, Or.inl (qz_in 222 (by decide +kernel) (by decide +kernel))⟩
theorem qz_ko40 : qz_KO ((5, 63), 24) := ⟨by decide, Or.inl (qz_in 473 (by decide +kernel) (by decide +kernel))⟩
theorem qz_ko41 : qz_KO ((5, 80), 23) := ⟨by decide, Or.inl (qz_in 275 (by decide +kernel) (by decide +kernel))⟩
theorem qz_ko42 : qz_KO ((5, 84), 6) := ⟨by decide, Or.inl (qz_in 458 (by decide +kernel) (by decide +kernel))⟩
theorem qz_ko43 : qz_KO ((5, 89), 28) := ⟨by decide, Or.inl (qz_in 393 (by decide +kernel) (by decide +kernel))⟩
theorem qz_ko44 : qz_KO ((5, 92), 26) := ⟨by decide, Or.inl (qz_in 246 (by decide +kernel) (by decide +kernel))⟩
theorem qz_ko45 : qz_KO ((5, 101), 69) := ⟨by decide, Or.inl (qz_in 414 (by decide +kernel) (by decide +kernel))⟩
theorem qz_ko46 : qz_KO ((5, 104), 33) := ⟨by decide, Or.inl (qz_in 429 (by decide +kernel) (by decide +kernel))⟩
theorem qz_ko47 : qz_KO ((5, 108), 35) := ⟨by decide, Or.inl (qz_in 341 (by decide +kernel) (by decide +kernel))⟩
theorem qz_ko48 : qz_KO ((5, 112), 32) := ⟨by decide, Or.inl (qz_in 340 (by decide +kernel) (by decide +kernel))⟩
theorem qz_ko49 : qz_KO ((5, 115), 68) := ⟨by decide, Or.inl (qz_in 382 (by decide +kernel) (by decide +kernel))⟩
theorem qz_ko50 : qz_KO ((5, 119), 17) := ⟨by decide, Or.inl (qz_in 259 (by decide +kernel) (by decide +kernel))⟩
theorem qz_ko51 : qz_KO ((5, 122), 18) := ⟨by decide, Or.inl (qz_in 389 (by decide +kernel) (by decide +kernel))⟩
theorem qz_ko52 : qz_KO ((5, 129), 46) := ⟨by decide, Or.inl (qz_in 441 (by decide +kernel) (by decide +kernel))⟩
theorem qz_ko53 : qz_KO ((5, 132), 47) := ⟨by decide, Or.inl (qz_in 446 (by decide +kernel) (by decide +kernel))⟩
theorem qz_ko54 : qz_KO ((5, 148), 12) := ⟨by decide, Or.inl (qz_in 202 (by decide +kernel) (by decide +kernel))⟩
theorem qz_ko55 : qz_KO ((5, 151), 15) := ⟨by decide, Or.inl (qz_in 221 (by decide +kernel) (by decide +kernel))⟩
theorem qz_ko56 : qz_KO ((5, 160), 36) := ⟨by decide, Or.inl (qz_in 279 (by decide +kernel) (by decide +kernel))⟩
theorem qz_ko57 : qz_KO ((5, 164), 37) := ⟨by decide, Or.inl (qz_in 308 (by decide +kernel) (by decide +kernel))⟩
theorem qz_ko58 : qz_KO ((5, 167), 27) := ⟨by decide, Or.inl (qz_in 313 (by decide +kernel) (by decide +kernel))⟩
theorem qz_ko59 : qz_KO ((5, 178), 39) := ⟨by decide, Or.inl (qz_in 342 (by decide +kernel) (by decide +kernel))⟩
theorem qz_ko60 : qz_KO ((5, 182), 40) := ⟨by decide, Or.inl (qz_in 343 (by decide +kernel) (by decide +kernel))⟩
theorem qz_ko61 : qz_KO ((5, 185), 41) := ⟨by decide, Or.inl (qz_in 347 (by decide +kernel) (by decide +kernel))⟩
theorem qz_ko62 : qz_KO ((5, 188), 45) := ⟨by decide, Or.inl (qz_in 351 (by decide +kernel) (by decide +kernel))⟩
theorem qz_ko63 : qz_KO ((5, 194), 34) := ⟨by decide, Or.inl (qz_in 255 (by decide +kernel) (by decide +kernel))⟩
theorem qz_ko64 : qz_KO ((5, 215), 42) := ⟨by decide, Or.inl (qz_in 418 (by decide +kernel) (by decide +kernel))⟩
theorem qz_ko65 : qz_KO ((8, 12), 65) := ⟨by decide, Or.inl (qz_in 242 (by decide +kernel) (by decide +kernel))⟩
theorem qz_ko66 : qz_KO ((8, 18), 61) := ⟨by decide, Or.inl (qz_in 271 (by decide +kernel) (by decide +kernel))⟩
theorem qz_ko67 : qz_KO ((8, 22), 62) := ⟨by decide, Or.inl (qz_in 334 (by decide +kernel) (by decide +kernel))⟩
theorem qz_ko68 : qz_KO ((8, 26), 71) := ⟨by decide, Or.inl (qz_in 366 (by decide +kernel) (by decide +kernel))⟩
theorem qz_ko69 : qz_KO ((8, 31), 50) := ⟨by decide, Or.inl (qz_in 370 (by decide +kernel) (by decide +kernel))⟩
theorem qz_ko70 : qz_KO ((8, 34), 56) := ⟨by decide, Or.inl (qz_in 378 (by decide +kernel) (by decide +kernel))⟩
theorem qz_ko71 : qz_KO ((8, 37), 54) := ⟨by decide, Or.inl (qz_in 410 (by decide +kernel) (by decide +kernel))⟩
theorem qz_ko72 : qz_KO ((8, 40), 55) := ⟨by decide, Or.inl (qz_in 433 (by decide +kernel) (by decide +kernel))⟩
theorem qz_ko73 : qz_KO ((8, 43), 57) := ⟨by decide, Or.inl (qz_in 437 (by decide +kernel) (by decide +kernel))⟩
theorem qz_ko74 : qz_KO ((8, 47), 52) := ⟨by decide, Or.inl (qz_in 454 (by decide +kernel) (by decide +kernel))⟩
theorem qz_ko75 : qz_KO ((8, 50), 60) := ⟨by decide, Or.inl (qz_in 230 (by decide +kernel) (by decide +kernel))⟩
theorem qz_ko76 : qz_KO ((8, 53), 53) := ⟨by decide, Or.inl (qz_in 462 (by decide +kernel) (by decide +kernel))⟩
theorem qz_ko77 : qz_KO ((8, 56), 51) := ⟨by decide, Or.inl (qz_in 466 (by decide +kernel) (by decide +kernel))⟩
theorem qz_ko78 : qz_KO ((8, 59), 63) := ⟨by decide, Or.inl (qz_in 480 (by decide +kernel) (by decide +kernel))⟩
theorem qz_ko79 : qz_KO ((8, 62), 64) := ⟨by decide, Or.inl (qz_in 484 (by decide +kernel) (by decide +kernel))⟩
theorem qz_ko80 : qz_KO ((8, 65), 49) := ⟨by decide, Or.inl (qz_in 20 (by decide +kernel) (by decide +kernel))⟩
theorem qz_ko81 : qz_KO ((8, 66), 58) := ⟨by decide, Or.inl (qz_in 198 (by decide +kernel) (by decide +kernel))⟩
theorem qz_ko82 : qz_KO ((8, 69), 59) := ⟨by decide, Or.inl (qz_in 217 (by decide +kernel) (by decide +kernel))⟩
theorem qz_ko83 : qz_KO ((8, 72), 72) := ⟨by decide, Or.inl (qz_in 266 (by decide +kernel) (by decide +kernel))⟩
theorem qz_ko84 : qz_KO ((8, 76), 70) := ⟨by decide, Or.inl (qz_in 263 (by decide +kernel) (by decide +kernel))⟩
theorem qz_ko85 : qz_KO ((8, 80), 73) := ⟨by decide, Or.inl (qz_in 363 (by decide +kernel) (by decide +kernel))⟩
theorem qz_ko86 : qz_KO ((8, 84), 74) := ⟨by decide, Or.inl (qz_in 477 (by decide +kernel) (by decide +kernel))⟩
set_option maxRecDepth 20000 in
theorem qz_clL_ok : ∀ e ∈ qz_clL, qz_KO e := List.forall_mem_cons.mpr ⟨qz_ko0, List.forall_mem_cons.mpr ⟨qz_ko1, List.forall_mem_cons.mpr ⟨qz_ko2, List.forall_mem_cons.mpr ⟨qz_ko3, List.forall_mem_cons.mpr ⟨qz_ko4, List.forall_mem_cons.mpr ⟨qz_ko5, List.forall_mem_cons.mpr ⟨qz_ko6, List.forall_mem_cons.mpr ⟨qz_ko7, List.forall_mem_cons.mpr ⟨qz_ko8, List.forall_mem_cons.mpr ⟨qz_ko9, List.forall_mem_cons.mpr ⟨qz_ko10, List.forall_mem_cons.mpr ⟨qz_ko11, List.forall_mem_cons.mpr ⟨qz_ko12, List.forall_mem_cons.mpr ⟨qz_ko13, List.forall_mem_cons.mpr ⟨qz_ko14, List.forall_mem_cons.mpr ⟨qz_ko15, List.forall_mem_cons.mpr ⟨qz_ko16, List.forall_mem_cons.mpr ⟨qz_ko17, List.forall_mem_cons.mpr ⟨qz_ko18, List.forall_mem_cons.mpr ⟨qz_ko19, List.forall_mem_cons.mpr ⟨qz_ko20, List.forall_mem_cons.mpr ⟨qz_ko21, List.forall_mem_cons.mpr ⟨qz_ko22, List.forall_mem_cons.mpr ⟨qz_ko23, List.forall_mem_cons.mpr ⟨qz_ko24, List.forall_mem_cons.mpr ⟨qz_ko25, List.forall_mem_cons.mpr ⟨qz_ko26, List.forall_mem_cons.mpr ⟨qz_ko27, List.forall_mem_cons.mpr ⟨qz_ko28, List.forall_mem_cons.mpr ⟨qz_ko29, List.forall_mem_cons.mpr ⟨qz_ko30, List.forall_mem_cons.mpr ⟨qz_ko31, List.forall_mem_cons.mpr ⟨qz_ko32, List.forall_mem_cons.mpr ⟨qz_ko33, List.forall_mem_cons.mpr ⟨qz_ko34, List.forall_mem_cons.mpr ⟨qz_ko35, List.forall_mem_cons.mpr ⟨qz_ko36, List.forall_mem_cons.mpr ⟨qz_ko37, List.forall_mem_cons.mpr ⟨qz_ko38, List.forall_mem_cons.mpr ⟨qz_ko39, List.forall_mem_cons.mpr ⟨qz_ko40, List.forall_mem_cons.mpr ⟨qz_ko41, List.forall_mem_cons.mpr ⟨qz_ko42, List.forall_mem_cons.mpr ⟨qz_ko43, List.forall_mem_cons.mpr ⟨qz_ko44, List.forall_mem_cons.mpr ⟨qz_ko45, List.forall_mem_cons.mpr ⟨qz_ko46, List.forall_mem_cons.mpr ⟨qz_ko47, List.forall_mem_cons.mpr ⟨qz_ko48, List.forall_mem_cons.mpr ⟨qz_ko49, List.forall_mem_cons.mpr ⟨qz_ko50, List.forall_mem_cons.mpr ⟨qz_ko51, List.forall_mem_cons.mpr ⟨qz_ko52, List.forall_mem_cons.mpr ⟨qz_ko53, List.forall_mem_cons.mpr ⟨qz_ko54, List.forall_mem_cons.mpr ⟨qz_ko55, List.forall_mem_cons.mpr ⟨qz_ko56, List.forall_mem_cons.mpr ⟨qz_ko57, List.forall_mem_cons.mpr ⟨qz_ko58, List.forall_mem_cons.mpr ⟨qz_ko59, List.forall_mem_cons.mpr ⟨qz_ko60, List.forall_mem_cons.mpr ⟨qz_ko61, List.forall_mem_cons.mpr ⟨qz_ko62, List.forall_mem_cons.mpr ⟨qz_ko63, List.forall_mem_cons.mpr ⟨qz_ko64, List.forall_mem_cons.mpr ⟨qz_ko65, List.forall_mem_cons.mpr ⟨qz_ko66, List.forall_mem_cons.mpr ⟨qz_ko67, List.forall_mem_cons.mpr ⟨qz_ko68, List.forall_mem_cons.mpr ⟨qz_ko69, List.forall_mem_cons.mpr ⟨qz_ko70, List.forall_mem_cons.mpr ⟨qz_ko71, List.forall_mem_cons.mpr ⟨qz_ko72, List.forall_mem_cons.mpr ⟨qz_ko73, List.forall_mem_cons.mpr ⟨qz_ko74, List.forall_mem_cons.mpr ⟨qz_ko75, List.forall_mem_cons.mpr ⟨qz_ko76, List.forall_mem_cons.mpr ⟨qz_ko77, List.forall_mem_cons.mpr ⟨qz_ko78, List.forall_mem_cons.mpr ⟨qz_ko79, List.forall_mem_cons.mpr ⟨qz_ko80, List.forall_mem_cons.mpr ⟨qz_ko81, List.forall_mem_cons.mpr ⟨qz_ko82, List.forall_mem_cons.mpr ⟨qz_ko83, List.forall_mem_cons.mpr ⟨qz_ko84, List.forall_mem_cons.mpr ⟨qz_ko85, List.forall_mem_cons.mpr ⟨qz_ko86, fun _ h => absurd h List.not_mem_nil⟩⟩⟩⟩⟩⟩⟩⟩⟩⟩⟩⟩⟩⟩⟩⟩⟩⟩⟩⟩⟩⟩⟩⟩⟩⟩⟩⟩⟩⟩⟩⟩⟩⟩⟩⟩⟩⟩⟩⟩⟩⟩⟩⟩⟩⟩⟩⟩⟩⟩⟩⟩⟩⟩⟩⟩⟩⟩⟩⟩⟩⟩⟩⟩⟩⟩⟩⟩⟩⟩⟩⟩⟩⟩⟩⟩⟩⟩⟩⟩⟩⟩⟩⟩⟩⟩⟩
theorem qz_cl_ok {c i x : Nat} (h : qz_cl c i = some x) : qz_KO ((c, i), x) := qz_fm qz_clL_ok (qz_lk h)
theorem qz_c_0_35 : qz_cl 0 35 = some 1 := by decide +kernel
theorem qz_c_1_28 : qz_cl 1 28 = some 13 := by decide +kernel
theorem qz_c_2_21 : qz_cl 2 21 = some 14 := by decide +kernel
theorem qz_c_2_22 : qz_cl 2 22 = some 11 := by decide +kernel
theorem qz_c_2_25 : qz_cl 2 25 = some 15 := by decide +kernel
theorem qz_c_4_55 : qz_cl 4 55 = some 0 := by decide +kernel
theorem qz_c_4_56 : qz_cl 4 56 = some 16 := by decide +kernel
theorem qz_c_4_60 : qz_cl 4 60 = some 7 := by decide +kernel
theorem qz_c_4_64 : qz_cl 4 64 = some 21 := by decide +kernel
theorem qz_c_4_71 : qz_cl 4 71 = some 22 := by decide +kernel
theorem qz_c_4_75 : qz_cl 4 75 = some 1 := by decide +kernel
theorem qz_c_4_82 : qz_cl 4 82 = some 27 := by decide +kernel
theorem qz_c_4_99 : qz_cl 4 99 = some 2 := by decide +kernel
theorem qz_c_4_102 : qz_cl 4 102 = some 19 := by decide +kernel
theorem qz_c_4_106 : qz_cl 4 106 = some 32 := by decide +kernel
theorem qz_c_4_110 : qz_cl 4 110 = some 39 := by decide +kernel
theorem qz_c_4_114 : qz_cl 4 114 = some 17 := by decide +kernel
theorem qz_c_4_117 : qz_cl 4 117 = some 35 := by decide +kernel
theorem qz_c_4_120 : qz_cl 4 120 = some 38 := by decide +kernel
theorem qz_c_4_124 : qz_cl 4 124 = some 29 := by decide +kernel
theorem qz_c_4_128 : qz_cl 4 128 = some 30 := by decide +kernel
theorem qz_c_4_132 : qz_cl 4 132 = some 66 := by decide +kernel
theorem qz_c_4_135 : qz_cl 4 135 = some 31 := by decide +kernel
theorem qz_c_4_143 : qz_cl 4 143 = some 37 := by decide +kernel
theorem qz_c_4_147 : qz_cl 4 147 = some 3 := by decide +kernel
theorem qz_c_4_150 : qz_cl 4 150 = some 4 := by decide +kernel
theorem qz_c_4_156 : qz_cl 4 156 = some 43 := by decide +kernel
theorem qz_c_4_159 : qz_cl 4 159 = some 5 := by decide +kernel
theorem qz_c_4_163 : qz_cl 4 163 = some 44 := by decide +kernel
theorem qz_c_4_167 : qz_cl 4 167 = some 45 := by decide +kernel
theorem qz_c_4_170 : qz_cl 4 170 = some 48 := by decide +kernel
theorem qz_c_5_9 : qz_cl 5 9 = some 14 := by decide +kernel
theorem qz_c_5_18 : qz_cl 5 18 = some 8 := by decide +kernel
theorem qz_c_5_25 : qz_cl 5 25 = some 9 := by decide +kernel
theorem qz_c_5_41 : qz_cl 5 41 = some 10 := by decide +kernel
theorem qz_c_5_45 : qz_cl 5 45 = some 20 := by decide +kernel
theorem qz_c_5_49 : qz_cl 5 49 = some 19 := by decide +kernel
theorem qz_c_5_53 : qz_cl 5 53 = some 66 := by decide +kernel
theorem qz_c_5_56 : qz_cl 5 56 = some 67 := by decide +kernel
theorem qz_c_5_59 : qz_cl 5 59 = some 25 := by decide +kernel
theorem qz_c_5_63 : qz_cl 5 63 = some 24 := by decide +kernel
theorem qz_c_5_80 : qz_cl 5 80 = some 23 := by decide +kernel
theorem qz_c_5_84 : qz_cl 5 84 = some 6 := by decide +kernel
theorem qz_c_5_89 : qz_cl 5 89 = some 28 := by decide +kernel
theorem qz_c_5_92 : qz_cl 5 92 = some 26 := by decide +kernel
theorem qz_c_5_101 : qz_cl 5 101 = some 69 := by decide +kernel
theorem qz_c_5_104 : qz_cl 5 104 = some 33 := by decide +kernel
theorem qz_c_5_108 : qz_cl 5 108 = some 35 := by decide +kernel
theorem qz_c_5_112 : qz_cl 5 112 = some 32 := by decide +kernel
theorem qz_c_5_115 : qz_cl 5 115 = some 68 := by decide +kernel
theorem qz_c_5_119 : qz_cl 5 119 = some 17 := by decide +kernel
theorem qz_c_5_122 : qz_cl 5 122 = some 18 := by decide +kernel
theorem qz_c_5_129 : qz_cl 5 129 = some 46 := by decide +kernel
theorem qz_c_5_132 : qz_cl 5 132 = some 47 := by decide +kernel
theorem qz_c_5_148 : qz_cl 5 148 = some 12 := by decide +kernel
theorem qz_c_5_151 : qz_cl 5 151 = some 15 := by decide +kernel
theorem qz_c_5_160 : qz_cl 5 160 = some 36 := by decide +kernel
theorem qz_c_5_164 : qz_cl 5 164 = some 37 := by decide +kernel
theorem qz_c_5_167 : qz_cl 5 167 = some 27 := by decide +kernel
theorem qz_c_5_178 : qz_cl 5 178 = some 39 := by decide +kernel
theorem qz_c_5_182 : qz_cl 5 182 = some 40 := by decide +kernel
theorem qz_c_5_185 : qz_cl 5 185 = some 41 := by decide +kernel
theorem qz_c_5_188 : qz_cl 5 188 = some 45 := by decide +kernel
theorem qz_c_5_194 : qz_cl 5 194 = some 34 := by decide +kernel
theorem qz_c_5_215 : qz_cl 5 215 = some 42 := by decide +kernel
theorem qz_c_8_12 : qz_cl 8 12 = some 65 := by decide +kernel
theorem qz_c_8_18 : qz_cl 8 18 = some 61 := by decide +kernel
theorem qz_c_8_22 : qz_cl 8 22 = some 62 := by decide +kernel
theorem qz_c_8_26 : qz_cl 8 26 = some 71 := by decide +kernel
theorem qz_c_8_31 : qz_cl 8 31 = some 50 := by decide +kernel
theorem qz_c_8_34 : qz_cl 8 34 = some 56 := by decide +kernel
theorem qz_c_8_37 : qz_cl 8 37 = some 54 := by decide +kernel
theorem qz_c_8_40 : qz_cl 8 40 = some 55 := by decide +kernel
theorem qz_c_8_43 : qz_cl 8 43 = some 57 := by decide +kernel
theorem qz_c_8_47 : qz_cl 8 47 = some 52 := by decide +kernel
theorem qz_c_8_50 : qz_cl 8 50 = some 60 := by decide +kernel
theorem qz_c_8_53 : qz_cl 8 53 = some 53 := by decide +kernel
theorem qz_c_8_56 : qz_cl 8 56 = some 51 := by decide +kernel
theorem qz_c_8_59 : qz_cl 8 59 = some 63 := by decide +kernel
theorem qz_c_8_62 : qz_cl 8 62 = some 64 := by decide +kernel
theorem qz_c_8_65 : qz_cl 8 65 = some 49 := by decide +kernel
theorem qz_c_8_66 : qz_cl 8 66 = some 58 := by decide +kernel
theorem qz_c_8_69 : qz_cl 8 69 = some 59 := by decide +kernel
theorem qz_c_8_72 : qz_cl 8 72 = some 72 := by decide +kernel
theorem qz_c_8_76 : qz_cl 8 76 = some 70 := by decide +kernel
theorem qz_c_8_80 : qz_cl 8 80 = some 73 := by decide +kernel
theorem qz_c_8_84 : qz_cl 8 84 = some 74 := by decide +kernel
/-- the links to Object() -/
def qz_obL : List (Nat × Nat) := [(0, 1), (1, 3), (2, 3), (3, 1), (4, 3), (5, 1)]
def qz_ob (c i : Nat) : Bool := qz_obL.contains (c, i)
def qz_BO (e : Nat × Nat) : Prop := Cond.methodLink (qz_ow e.1) e.2 objectInit ∈ qz_tb
theorem qz_bo0 : qz_BO (0, 1) := qz_in 40 (by decide +kernel) (by decide +kernel)
theorem qz_bo1 : qz_BO (1, 3) := qz_in 132 (by decide +kernel) (by decide +kernel)
theorem qz_bo2 : qz_BO (2, 3) := qz_in 170 (by decide +kernel) (by decide +kernel)
theorem qz_bo3 : qz_BO (3, 1) := qz_in 139 (by decide +kernel) (by decide +kernel)
theorem qz_bo4 : qz_BO (4, 3) := qz_in 31 (by decide +kernel) (by decide +kernel)
theorem qz_bo5 : qz_BO (5, 1) := qz_in 23 (by decide +kernel) (by decide +kernel)
set_option maxRecDepth 20000 in
theorem qz_obL_ok : ∀ e ∈ qz_obL, qz_BO e := List.forall_mem_cons.mpr ⟨qz_bo0, List.forall_mem_cons.mpr ⟨qz_bo1, List.forall_mem_cons.mpr ⟨qz_bo2, List.forall_mem_cons.mpr ⟨qz_bo3, List.forall_mem_cons.mpr ⟨qz_bo4, List.forall_mem_cons.mpr ⟨qz_bo5, fun _ h => absurd h List.not_mem_nil⟩⟩⟩⟩⟩⟩
theorem qz_ob_ok {c i : Nat} (h : qz_ob c i = true) : qz_BO (c, i) := qz_fm qz_obL_ok (by simpa [qz_ob, List.contains_iff_mem] using h)
def qz_mtL : List ((Nat × Nat) × Nat) := [((4, 138), 0), ((4, 153), 1)]
def qz_mt (c i : Nat) : Option Nat := qz_mtL.lookup (c, i)
def qz_TO (e : (Nat × Nat) × Nat) : Prop := (e.2 = 0 ∧ Cond.methodLink (qz_ow e.1.1) e.1.2 Lib.Math.max.name ∈ qz_tb) ∨ (e.2 = 1 ∧ Cond.methodLink (qz_ow e.1.1) e.1.2 Lib.Math.abs.name ∈ qz_tb)
theorem qz_to0 : qz_TO ((4, 138), 0) := Or.inl ⟨rfl, qz_in 305 (by decide +kernel) (by decide +kernel)⟩
theorem qz_to1 : qz_TO ((4, 153), 1) := Or.inr ⟨rfl, qz_in 422 (by decide +kernel) (by decide +kernel)⟩
set_option maxRecDepth 20000 in
theorem qz_mtL_ok : ∀ e ∈ qz_mtL, qz_TO e := List.forall_mem_cons.mpr ⟨qz_to0, List.forall_mem_cons.mpr ⟨qz_to1, fun _ h => absurd h List.not_mem_nil⟩⟩
theorem qz_mt_ok {c i x : Nat} (h : qz_mt c i = some x) : qz_TO ((c, i), x) := qz_fm qz_mtL_ok (qz_lk h)
theorem qz_m_4_138 : qz_mt 4 138 = some 0 := by decide +kernel
theorem qz_m_4_153 : qz_mt 4 153 = some 1 := by decide +kernel
theorem qz_mw_max : Cond.static Lib.Math.max.name ∈ qz_tb ∧ Cond.initialized "java/lang/Math" ∈ qz_tb ∧ Cond.code Lib.Math.max.name Lib.Math.max.code 2 (some .int) ∈ qz_tb := ⟨qz_in 306 (by decide +kernel) (by decide +kernel), qz_in 17 (by decide +kernel) (by decide +kernel), qz_in 307 (by decide +kernel) (by decide +kernel)⟩
theorem qz_mw_abs : Cond.static Lib.Math.abs.name ∈ qz_tb ∧ Cond.initialized "java/lang/Math" ∈ qz_tb ∧ Cond.code Lib.Math.abs.name Lib.Math.abs.code 1 (some .int) ∈ qz_tb := ⟨qz_in 423 (by decide +kernel) (by decide +kernel), qz_in 17 (by decide +kernel) (by decide +kernel), qz_in 424 (by decide +kernel) (by decide +kernel)⟩
theorem qz_oi : Cond.instanceMethod objectInit ∈ qz_tb := qz_in 24 (by decide +kernel) (by decide +kernel)
theorem qz_oc : Cond.code objectInit ⟨#[0xb1]⟩ 1 none ∈ qz_tb := qz_in 25 (by decide +kernel) (by decide +kernel)
theorem qz_ac_int : Cond.arrayClass .int ∈ qz_tb := qz_in 81 (by decide +kernel) (by decide +kernel)
theorem qz_ac_char : Cond.arrayClass .char ∈ qz_tb := qz_in 150 (by decide +kernel) (by decide +kernel)
theorem qz_ao_Booking : lw_tbl[35]? = some (Cond.arrayOver (.object "ShiftBuses$Booking")) := by decide +kernel
theorem qz_ao_Wish : lw_tbl[134]? = some (Cond.arrayOver (.object "ShiftBuses$Wish")) := by decide +kernel
theorem qz_ao_Works : lw_tbl[172]? = some (Cond.arrayOver (.object "ShiftBuses$Works")) := by decide +kernel
theorem qz_nl_1_28 : lw_tbl[136]? = some (Cond.methodLinkNest (qz_ow 1) 28 (qz_y 13) "ShiftBuses") := by decide +kernel
theorem qz_nl_4_55 : lw_tbl[37]? = some (Cond.methodLinkNest (qz_ow 4) 55 (qz_y 0) "ShiftBuses") := by decide +kernel
theorem qz_nl_4_132 : lw_tbl[290]? = some (Cond.methodLinkNest (qz_ow 4) 132 (qz_y 66) "ShiftBuses") := by decide +kernel
theorem qz_nf_4_22 : lw_tbl[32]? = some (Cond.fieldLinkNest (qz_ow 4) 22 RX5 (qz_sn 30) "[I" "ShiftBuses") := by decide +kernel
theorem qz_sf_5_208 : Cond.fieldLink (qz_ow 5) 208 RX5 (qz_sn 31) "[I" ∈ qz_tb := qz_in 385 (by decide +kernel) (by decide +kernel)
theorem qz_sf_5_212 : Cond.fieldLink (qz_ow 5) 212 RX5 (qz_sn 32) "[I" ∈ qz_tb := qz_in 387 (by decide +kernel) (by decide +kernel)
theorem qz_ls_30 : lw_tbl[33]? = some (Cond.laysStatic RX5 (qz_sn 30) "[I") := by decide +kernel
theorem qz_ls_31 : lw_tbl[386]? = some (Cond.laysStatic RX5 (qz_sn 31) "[I") := by decide +kernel
theorem qz_ls_32 : lw_tbl[388]? = some (Cond.laysStatic RX5 (qz_sn 32) "[I") := by decide +kernel
end
section
/-! the interpreter qz: its heap's layout by names, one step, a run -/
def qz_bs (w : Nat) : Nat := if w = 0 then 1 else 66 + 35 * w
def qz_ix (n : qz_N) : Nat := match n.1 with
  | 0 => qz_bs n.2.1 + 5 + n.2.2
  | 1 => 36
  | 2 => 99
  | 3 => 39 + n.2.2
  | 4 => qz_bs n.2.1
  | 5 => 0
  | 10 => qz_bs n.2.1 + 1
  | 11 => qz_bs n.2.1 + 2
  | 12 => qz_bs n.2.1 + 3
  | 13 => qz_bs n.2.1 + 4
  | 14 => 37
  | 15 => 38
  | 16 => 100
  | k => 1000 + k
def qz_vl (n : qz_N) : Bool := match n.1 with
  | 0 => decide (n.2.1 < 6) && decide (n.2.2 < 30)
  | 3 => n.2.1 == 0 && decide (n.2.2 < 60)
  | 4 => decide (n.2.1 < 6) && n.2.2 == 0
  | 10 => decide (n.2.1 < 6) && n.2.2 == 0
  | 11 => decide (n.2.1 < 6) && n.2.2 == 0
  | 12 => decide (n.2.1 < 6) && n.2.2 == 0
  | 13 => decide (n.2.1 < 6) && n.2.2 == 0
  | 1 => n.2.1 == 0 && n.2.2 == 0
  | 2 => n.2.1 == 0 && n.2.2 == 0
  | 5 => n.2.1 == 0 && n.2.2 == 0
  | 14 => n.2.1 == 0 && n.2.2 == 0
  | 15 => n.2.1 == 0 && n.2.2 == 0
  | 16 => n.2.1 == 0 && n.2.2 == 0
  | _ => false
def qz_pt (w r : Nat) : qz_N := if r = 0 then (4, w, 0) else if r < 5 then (9 + r, w, 0) else (0, w, r - 5)
def qz_nm' (o : Nat) : qz_N :=
  if o = 0 then (5, 0, 0) else if o < 36 then qz_pt 0 (o - 1) else if o = 36 then (1, 0, 0) else if o = 37 then (14, 0, 0) else if o = 38 then (15, 0, 0)
  else if o < 99 then (3, 0, o - 39) else if o = 99 then (2, 0, 0) else if o = 100 then (16, 0, 0) else if o < 276 then qz_pt (1 + (o - 101) / 35) ((o - 101) % 35)
  else (99, 0, 0)
theorem qz_bs_eq (w : Nat) (h : w < 6) : qz_bs w = 1 ∨ (1 ≤ w ∧ qz_bs w = 66 + 35 * w) := by
  unfold qz_bs
  split
  · exact Or.inl rfl
  · exact Or.inr ⟨by omega, rfl⟩
theorem qz_npt (w r : Nat) (hw : w < 6) (hr : r < 35) : qz_nm' (qz_bs w + r) = qz_pt w r := by
  unfold qz_bs
  split
  · next h =>
    subst h
    unfold qz_nm'
    rw [if_neg (by omega), if_pos (by omega)]
    congr 1; omega
  · unfold qz_nm'
    rw [if_neg (by omega), if_neg (by omega), if_neg (by omega), if_neg (by omega), if_neg (by omega), if_neg (by omega), if_neg (by omega), if_neg (by omega), if_pos (by omega)]
    congr 1 <;> omega
/-- a name's place gives the name -/
theorem qz_nx (n : qz_N) (h : qz_vl n = true) : qz_nm' (qz_ix n) = n := by
  obtain ⟨k, w, i⟩ := n
  by_cases hk : k < 17
  · have hc : k = 0 ∨ k = 1 ∨ k = 2 ∨ k = 3 ∨ k = 4 ∨ k = 5 ∨ k = 6 ∨ k = 7 ∨ k = 8 ∨ k = 9 ∨ k = 10 ∨ k = 11 ∨ k = 12 ∨ k = 13 ∨ k = 14 ∨ k = 15 ∨ k = 16 := by omega
    rcases hc with rfl | rfl | rfl | rfl | rfl | rfl | rfl | rfl | rfl | rfl | rfl | rfl | rfl | rfl | rfl | rfl | rfl
    · simp [qz_vl] at h
      show qz_nm' (qz_bs w + 5 + i) = _
      rw [show qz_bs w + 5 + i = qz_bs w + (5 + i) by omega, qz_npt w _ h.1 (by omega), qz_pt, if_neg (by omega), if_neg (by omega)]
      congr 2; omega
    · simp [qz_vl] at h; obtain ⟨rfl, rfl⟩ := h; rfl
    · simp [qz_vl] at h; obtain ⟨rfl, rfl⟩ := h; rfl
    · simp [qz_vl] at h
      obtain ⟨rfl, h⟩ := h
      show qz_nm' (39 + i) = _
      unfold qz_nm'
      rw [if_neg (by omega), if_neg (by omega), if_neg (by omega), if_neg (by omega), if_neg (by omega), if_pos (by omega)]
      congr 2; omega
    · simp [qz_vl] at h
      obtain ⟨h, rfl⟩ := h
      exact qz_npt w 0 h (by omega)
    · simp [qz_vl] at h; obtain ⟨rfl, rfl⟩ := h; rfl
    · simp [qz_vl] at h
    · simp [qz_vl] at h
    · simp [qz_vl] at h
    · simp [qz_vl] at h
    · simp [qz_vl] at h
      obtain ⟨h, rfl⟩ := h
      exact qz_npt w 1 h (by omega)
    · simp [qz_vl] at h
      obtain ⟨h, rfl⟩ := h
      exact qz_npt w 2 h (by omega)
    · simp [qz_vl] at h
      obtain ⟨h, rfl⟩ := h
      exact qz_npt w 3 h (by omega)
    · simp [qz_vl] at h
      obtain ⟨h, rfl⟩ := h
      exact qz_npt w 4 h (by omega)
    all_goals (simp [qz_vl] at h; obtain ⟨rfl, rfl⟩ := h; rfl)
  · exfalso
    unfold qz_vl at h
    split at h <;> first | (simp at hk; done) | (simp at h; done) | (simp at h; omega) | omega
theorem qz_ix_inj {n n' : qz_N} (h : qz_vl n = true) (h' : qz_vl n' = true) (e : qz_ix n = qz_ix n') : n = n' := by rw [← qz_nx n h, ← qz_nx n' h', e]
theorem qz_vl_lt {n : qz_N} (h : qz_vl n = true) : n.1 < 17 := by
  obtain ⟨k, w, i⟩ := n
  unfold qz_vl at h
  split at h <;> first | (simp_all; done) | (simp at h; simp; omega) | (simp_all; omega)
/-- the arrays' types: 1 int, 2 char, 4, 5, 6 references -/
def qz_at (k : Nat) : Nat := match k with
  | 10 => 1
  | 11 => 1
  | 12 => 1
  | 13 => 4
  | 14 => 2
  | 15 => 5
  | 16 => 6
  | 30 => 1
  | 31 => 1
  | 32 => 1
  | 33 => 1
  | _ => 0
def qz_al (k : Nat) : Nat := match k with
  | 10 => 10
  | 11 => 20
  | 12 => 4
  | 13 => 30
  | 14 => 60
  | 15 => 60
  | 16 => 4
  | _ => 4
def qz_ln (f : qz_N → Nat → Int32) (n : qz_N) : Nat := if n.1 = 33 then (f (33, 1, 0) 0).toNatClampNeg else qz_al n.1
def qz_ft (t : Nat) : FieldType := match t with
  | 1 => .int
  | 2 => .char
  | 4 => .object "ShiftBuses$Booking"
  | 5 => .object "ShiftBuses$Wish"
  | _ => .object "ShiftBuses$Works"
def qz_ec (t : Nat) : Nat := match t with
  | 4 => 0
  | 5 => 3
  | _ => 4
def qz_ui (M : qz_M) (n : qz_N) (j : Nat) (x : Int32) : qz_M := (M.1, (fun n' j' => if n' = n ∧ j' = j then x else M.2.1 n' j'), M.2.2)
def qz_ur (M : qz_M) (n : qz_N) (j : Nat) (x : Option qz_N) : qz_M := (M.1, M.2.1, fun n' j' => if n' = n ∧ j' = j then x else M.2.2 n' j')
def qz_al' (M : qz_M) : qz_M := (M.1 + 1, (fun n j => if n = qz_nm' M.1 then 0 else M.2.1 n j), fun n j => if n = qz_nm' M.1 then none else M.2.2 n j)
/-- the size of what is made -/
def qz_sz (k : Nat) : Nat := if k < 6 then qz_nf k else qz_al k
def qz_ss : Nat → Nat
  | 0 => 0
  | o + 1 => qz_ss o + qz_sz (qz_nm' o).1
def qz_xi (i : Int32) (n : Nat) : Bool := !decide (i < 0) && decide (i.toNatClampNeg < n)
def qz_tg (pc : Nat) (off : Int) : Option Nat := if 0 ≤ (pc : Int) + off then some ((pc : Int) + off).toNat else none
def qz_cd (c : ClassFile.Cond) (x y : Int32) : Bool := match c with
  | .eq => decide (x = y)
  | .ne => decide (¬ x = y)
  | .lt => decide (x < y)
  | .ge => decide (y ≤ x)
  | .gt => decide (y < x)
  | .le => decide (x ≤ y)
abbrev qz_R : Type := Nat × List (Option qz_V) × List qz_V × qz_M
def qz_bn (f : Int32 → Int32 → Int32) (pc : Nat) (ls : List (Option qz_V)) (st : List qz_V) (M : qz_M) : Option qz_R := match st with
  | .inl y :: .inl x :: r => some (pc + 1, ls, .inl (f x y) :: r, M)
  | _ => none
def qz_br (b : Bool) (pc : Nat) (off : Int) (ls : List (Option qz_V)) (st : List qz_V) (M : qz_M) : Option qz_R := match qz_tg pc off with
  | some t => if b = true then some (t, ls, st, M) else some (pc + 3, ls, st, M)
  | none => none
def qz_li (k n pc : Nat) (ls : List (Option qz_V)) (st : List qz_V) (M : qz_M) : Option qz_R := match ls[k]? with
  | some (some (.inl x)) => some (pc + n, ls, .inl x :: st, M)
  | _ => none
def qz_la (k n pc : Nat) (ls : List (Option qz_V)) (st : List qz_V) (M : qz_M) : Option qz_R := match ls[k]? with
  | some (some (.inr (.inl x))) => some (pc + n, ls, .inr (.inl x) :: st, M)
  | _ => none
/-- a long value -/
def qz_nl (v : qz_V) : Bool := match v with
  | .inr (.inr _) => false
  | _ => true
def qz_ct (v : qz_V) : Nat := match v with
  | .inr (.inr _) => 2
  | _ => 1
/-- what values weigh on the stack -/
def qz_wl (st : List qz_V) : Nat := (st.map qz_ct).sum
/-- the place j behind the nL locals holds no long -/
def qz_g1 (nL : Nat) (ls : List (Option qz_V)) (j : Nat) : Bool := match ls[nL + j]? with
  | some (some _) => false
  | _ => true
/-- no long lies at k or over it -/
def qz_g3 (nL : Nat) (ls : List (Option qz_V)) (k : Nat) : Bool := match k with
  | 0 => true
  | j + 1 => qz_g1 nL ls j
def qz_g2 (nL : Nat) (ls : List (Option qz_V)) (k : Nat) : Bool := qz_g1 nL ls k && qz_g3 nL ls k
def qz_si (nL k n pc : Nat) (ls : List (Option qz_V)) (st : List qz_V) (M : qz_M) : Option qz_R := match st with
  | .inl x :: r => if k < nL ∧ qz_g2 nL ls k = true then some (pc + n, ls.set k (some (.inl x)), r, M) else none
  | _ => none
def qz_sr (nL k n pc : Nat) (ls : List (Option qz_V)) (st : List qz_V) (M : qz_M) : Option qz_R := match st with
  | .inr (.inl x) :: r => if k < nL ∧ qz_g2 nL ls k = true then some (pc + n, ls.set k (some (.inr (.inl x))), r, M) else none
  | _ => none
def qz_ll' (nL k n pc : Nat) (ls : List (Option qz_V)) (st : List qz_V) (M : qz_M) : Option qz_R := match ls[nL + k]? with
  | some (some (.inr (.inr x))) => some (pc + n, ls, .inr (.inr x) :: st, M)
  | _ => none
/-- a long is laid: its two places are free then, its value lies behind them -/
def qz_sl' (nL k : Nat) (ls : List (Option qz_V)) (x : Int64) : List (Option qz_V) := ((ls.set k none).set (k + 1) none).set (nL + k) (some (.inr (.inr x)))
def qz_sl (nL k n pc : Nat) (ls : List (Option qz_V)) (st : List qz_V) (M : qz_M) : Option qz_R := match st with
  | .inr (.inr x) :: r => if k + 1 < nL ∧ nL + k < ls.length ∧ qz_g1 nL ls (k + 1) = true ∧ qz_g3 nL ls k = true then some (pc + n, qz_sl' nL k ls x, r, M) else none
  | _ => none
def qz_bl' (f : Int64 → Int64 → Int64) (pc : Nat) (ls : List (Option qz_V)) (st : List qz_V) (M : qz_M) : Option qz_R := match st with
  | .inr (.inr y) :: .inr (.inr x) :: r => some (pc + 1, ls, .inr (.inr (f x y)) :: r, M)
  | _ => none
def qz_ld (t pc : Nat) (ls : List (Option qz_V)) (st : List qz_V) (M : qz_M) : Option qz_R := match st with
  | .inl i :: .inr (.inl (some n)) :: r => if qz_at n.1 = t ∧ qz_xi i (qz_ln M.2.1 n) = true then some (pc + 1, ls, .inl (M.2.1 n i.toNatClampNeg) :: r, M) else none
  | _ => none
def qz_sd (t : Nat) (f : Int32 → Int32) (pc : Nat) (ls : List (Option qz_V)) (st : List qz_V) (M : qz_M) : Option qz_R := match st with
  | .inl x :: .inl i :: .inr (.inl (some n)) :: r => if qz_at n.1 = t ∧ n.1 < 30 ∧ qz_xi i (qz_al n.1) = true then some (pc + 1, ls, r, qz_ui M n i.toNatClampNeg (f x)) else none
  | _ => none
/-- no static array -/
def qz_dy (x : Option qz_N) : Bool := match x with
  | none => true
  | some n => decide (n.1 < 30)
/-- one step that is neither a call nor a return: c the number of the class whose code it is, ini whether it is a constructor -/
def qz_sp (c nL : Nat) (ini : Bool) (ins : Instr) (pc : Nat) (ls : List (Option qz_V)) (st : List qz_V) (M : qz_M) : Option qz_R := match ins with
  | .iconst i => some (pc + 1, ls, .inl (Int32.ofInt i) :: st, M)
  | .bipush i => some (pc + 2, ls, .inl (Int8.ofInt i).toInt32 :: st, M)
  | .sipush i => some (pc + 3, ls, .inl (Int16.ofInt i).toInt32 :: st, M)
  | .aconst_null => some (pc + 1, ls, .inr (.inl none) :: st, M)
  | .iload k => qz_li k 2 pc ls st M
  | .iload_n k => qz_li k.val 1 pc ls st M
  | .aload k => qz_la k 2 pc ls st M
  | .aload_n k => qz_la k.val 1 pc ls st M
  | .istore k => qz_si nL k 2 pc ls st M
  | .istore_n k => qz_si nL k.val 1 pc ls st M
  | .astore k => qz_sr nL k 2 pc ls st M
  | .astore_n k => qz_sr nL k.val 1 pc ls st M
  | .iinc k n => (match ls[k]? with
    | some (some (.inl x)) => if k < nL ∧ qz_g2 nL ls k = true then some (pc + 3, ls.set k (some (.inl (x + Int32.ofInt n))), st, M) else none
    | _ => none)
  | .iadd => qz_bn (fun x y => x + y) pc ls st M
  | .isub => qz_bn (fun x y => x - y) pc ls st M
  | .imul => qz_bn (fun x y => x * y) pc ls st M
  | .iand => qz_bn (fun x y => x &&& y) pc ls st M
  | .ishr => qz_bn (fun x y => x >>> (y &&& 31)) pc ls st M
  | .ldc i => (match qz_k4 c i with
    | some v => some (pc + 2, ls, .inl v :: st, M)
    | none => none)
  | .ldc2_w i => (match qz_k8 c i with
    | some v => some (pc + 3, ls, .inr (.inr v) :: st, M)
    | none => none)
  | .lload k => qz_ll' nL k 2 pc ls st M
  | .lload_n k => qz_ll' nL k.val 1 pc ls st M
  | .lstore k => qz_sl nL k 2 pc ls st M
  | .lstore_n k => qz_sl nL k.val 1 pc ls st M
  | .ladd => qz_bl' (fun x y => x + y) pc ls st M
  | .lmul => qz_bl' (fun x y => x * y) pc ls st M
  | .i2l => (match st with
    | .inl x :: r => some (pc + 1, ls, .inr (.inr x.toInt64) :: r, M)
    | _ => none)
  | .lcmp => (match st with
    | .inr (.inr y) :: .inr (.inr x) :: r => some (pc + 1, ls, .inl (lg_cmp x y) :: r, M)
    | _ => none)
  | .idiv => (match st with
    | .inl y :: .inl x :: r => if y = 0 then none else some (pc + 1, ls, .inl (x / y) :: r, M)
    | _ => none)
  | .irem => (match st with
    | .inl y :: .inl x :: r => if y = 0 then none else some (pc + 1, ls, .inl (x - x / y * y) :: r, M)
    | _ => none)
  | .ineg => (match st with
    | .inl x :: r => some (pc + 1, ls, .inl (-x) :: r, M)
    | _ => none)
  | .i2c => (match st with
    | .inl x :: r => some (pc + 1, ls, .inl (x.toUInt32 % 65536).toInt32 :: r, M)
    | _ => none)
  | .dup => (match st with
    | x :: r => if qz_nl x = true then some (pc + 1, ls, x :: x :: r, M) else none
    | _ => none)
  | .dup2 => (match st with
    | x :: y :: r => if qz_nl x = true ∧ qz_nl y = true then some (pc + 1, ls, x :: y :: x :: y :: r, M) else none
    | _ => none)
  | .pop => (match st with
    | x :: r => if qz_nl x = true then some (pc + 1, ls, r, M) else none
    | _ => none)
  | .ifCond cd off => (match st with
    | .inl x :: r => qz_br (qz_cd cd x 0) pc off ls r M
    | _ => none)
  | .if_icmp cd off => (match st with
    | .inl y :: .inl x :: r => qz_br (qz_cd cd x y) pc off ls r M
    | _ => none)
  | .if_acmp cd off => (match cd, st with
    | .eq, .inr (.inl y) :: .inr (.inl x) :: r => if qz_dy x = true ∧ qz_dy y = true then qz_br (decide (x = y)) pc off ls r M else none
    | _, _ => none)
  | .ifnull off => (match st with
    | .inr (.inl x) :: r => qz_br (decide (x = none)) pc off ls r M
    | _ => none)
  | .ifnonnull off => (match st with
    | .inr (.inl x) :: r => qz_br (decide (¬ x = none)) pc off ls r M
    | _ => none)
  | .goto off => (match qz_tg pc off with
    | some t => some (t, ls, st, M)
    | none => none)
  | .tableswitch d lo hi offs => (match st with
    | .inl x :: r => (if x.toInt < lo ∨ hi < x.toInt then (match qz_tg pc d with
        | some t => some (t, ls, r, M)
        | none => none)
      else (match offs[(x.toInt - lo).toNat]? with
        | some off => (match qz_tg pc off with
          | some t => some (t, ls, r, M)
          | none => none)
        | none => none))
    | _ => none)
  | .getfield i => (match st with
    | .inr (.inl (some n)) :: r => (match qz_fl c i with
      | some (ci, k) => if n.1 = ci then some (pc + 3, ls, (if qz_rf ci k = true then .inr (.inl (M.2.2 n k)) else .inl (M.2.1 n k)) :: r, M) else none
      | none => none)
    | _ => none)
  | .putfield i => (match st with
    | .inl x :: .inr (.inl (some n)) :: r => (match qz_fl c i with
      | some (ci, k) => if n.1 = ci ∧ qz_rf ci k = false ∧ (qz_bl ci k = true → x = 0 ∨ x = 1) ∧ qz_fn ci k = false then some (pc + 3, ls, r, qz_ui M n k x) else none
      | none => none)
    | .inr (.inl x) :: .inr (.inl (some n)) :: r => (match qz_fl c i with
      | some (ci, k) => if n.1 = ci ∧ qz_rf ci k = true ∧ qz_fn ci k = true ∧ ini = true ∧ ci = c then some (pc + 3, ls, r, qz_ur M n k x) else none
      | none => none)
    | _ => none)
  | .getstatic i => (match qz_st c i with
    | some k => some (pc + 3, ls, .inr (.inl (some (k, 0, 0))) :: st, M)
    | none => none)
  | .iaload => qz_ld 1 pc ls st M
  | .caload => qz_ld 2 pc ls st M
  | .iastore => qz_sd 1 (fun x => x) pc ls st M
  | .castore => qz_sd 2 (fun x => vp_nar .char x) pc ls st M
  | .aaload => (match st with
    | .inl i :: .inr (.inl (some n)) :: r => if 4 ≤ qz_at n.1 ∧ qz_xi i (qz_al n.1) = true then some (pc + 1, ls, .inr (.inl (M.2.2 n i.toNatClampNeg)) :: r, M) else none
    | _ => none)
  | .aastore => (match st with
    | .inr (.inl (some v)) :: .inl i :: .inr (.inl (some n)) :: r => if 4 ≤ qz_at n.1 ∧ v.1 = qz_ec (qz_at n.1) ∧ qz_xi i (qz_al n.1) = true then some (pc + 1, ls, r, qz_ur M n i.toNatClampNeg (some v)) else none
    | _ => none)
  | .arraylength => (match st with
    | .inr (.inl (some n)) :: r => if ¬ qz_at n.1 = 0 then some (pc + 1, ls, .inl (Int32.ofNat (qz_ln M.2.1 n)) :: r, M) else none
    | _ => none)
  | .new i => (match qz_nw c i with
    | some k => if (qz_nm' M.1).1 = k ∧ qz_vl (qz_nm' M.1) = true ∧ qz_ix (qz_nm' M.1) = M.1 then some (pc + 3, ls, .inr (.inl (some (qz_nm' M.1))) :: st, qz_al' M) else none
    | none => none)
  | .newarray a => (match st with
    | .inl x :: r => if qz_vl (qz_nm' M.1) = true ∧ qz_ix (qz_nm' M.1) = M.1 ∧ ¬ x < 0 ∧ x.toNatClampNeg = qz_al (qz_nm' M.1).1 ∧ ((a = .int ∧ qz_at (qz_nm' M.1).1 = 1) ∨ (a = .char ∧ qz_at (qz_nm' M.1).1 = 2)) then some (pc + 2, ls, .inr (.inl (some (qz_nm' M.1))) :: r, qz_al' M) else none
    | _ => none)
  | .anewarray i => (match st with
    | .inl x :: r => (match qz_nw c i with
      | some k => if qz_vl (qz_nm' M.1) = true ∧ qz_ix (qz_nm' M.1) = M.1 ∧ ¬ x < 0 ∧ x.toNatClampNeg = qz_al (qz_nm' M.1).1 ∧ 4 ≤ qz_at (qz_nm' M.1).1 ∧ qz_ec (qz_at (qz_nm' M.1).1) = k then some (pc + 3, ls, .inr (.inl (some (qz_nm' M.1))) :: r, qz_al' M) else none
      | none => none)
    | _ => none)
  | _ => none
/-- the arguments of a call, off the stack -/
def qz_ag (n : Nat) (st : List qz_V) : List qz_V := (st.take n).reverse
def qz_in0 (k : Nat) (as : List qz_V) : List (Option qz_V) := as.map some ++ List.replicate (qz_ll k - as.length) none
/-- the receiver is an object of the class k -/
def qz_rc (k : Nat) (as : List qz_V) : Bool := match as with
  | .inr (.inl (some n)) :: _ => n.1 == k
  | _ => false
/-- a call of the method k' from the method k is in order -/
def qz_co' (k k' : Nat) (st : List qz_V) : Bool := (decide (qz_na k' ≤ st.length) && ((st.take (qz_na k')).all qz_nl && decide (qz_wl (st.drop (qz_na k')) ≤ 8))) && decide (qz_rF k' + 1 ≤ qz_rF k) && decide (8 + (qz_ml k' + 11) + qz_rL k' ≤ qz_rL k)
/-- what a return answers -/
def qz_rv (k : Nat) (ins : Instr) (st : List qz_V) : Option (Option qz_V) := match ins with
  | .ireturn => (match st with
    | [.inl x] => if qz_rt k = some .int ∨ (qz_rt k = some .boolean ∧ (x = 0 ∨ x = 1)) then some (some (.inl x)) else none
    | _ => none)
  | .areturn => (match st with
    | [.inr (.inl x)] => if qz_rt k = some (.object "ShiftBuses$Booking") then some (some (.inr (.inl x))) else none
    | _ => none)
  | .lreturn => (match st with
    | [.inr (.inr x)] => if qz_rt k = some .long then some (some (.inr (.inr x))) else none
    | _ => none)
  | .return_ => (match st with
    | [] => if qz_rt k = none then some none else none
    | _ => none)
  | _ => none
/-- a call's method: by its instruction, and whether the call is in order -/
def qz_kl (k : Nat) (ins : Instr) (st : List qz_V) : Option Nat := match ins with
  | .invokevirtual i => (match qz_cl (qz_cn k) i with
    | some k' => if qz_co' k k' st = true ∧ qz_sa k' = false ∧ qz_ini k' = false ∧ qz_rc (qz_cn k') (qz_ag (qz_na k') st) = true then some k' else none
    | none => none)
  | .invokespecial i => (match qz_cl (qz_cn k) i with
    | some k' => if qz_co' k k' st = true ∧ qz_sa k' = false ∧ qz_ini k' = true ∧ qz_rc (qz_cn k') (qz_ag (qz_na k') st) = true then some k' else none
    | none => none)
  | .invokestatic i => (match qz_cl (qz_cn k) i with
    | some k' => if qz_co' k k' st = true ∧ qz_sa k' = true then some k' else none
    | none => none)
  | _ => none
/-- Object(), Math.max, Math.abs -/
def qz_bi (k : Nat) (ins : Instr) (pc : Nat) (ls : List (Option qz_V)) (st : List qz_V) (M : qz_M) : Option qz_R := match ins with
  | .invokespecial i => (match st with
    | .inr (.inl (some _)) :: r => if qz_ob (qz_cn k) i = true ∧ qz_wl r ≤ 8 ∧ 1 ≤ qz_rF k ∧ 20 ≤ qz_rL k then some (pc + 3, ls, r, M) else none
    | _ => none)
  | .invokestatic i => (match qz_mt (qz_cn k) i with
    | some 0 => (match st with
      | .inl y :: .inl x :: r => if qz_wl r ≤ 8 ∧ 1 ≤ qz_rF k ∧ 21 ≤ qz_rL k then some (pc + 3, ls, .inl (if x < y then y else x) :: r, M) else none
      | _ => none)
    | some 1 => (match st with
      | .inl x :: r => if qz_wl r ≤ 8 ∧ 1 ≤ qz_rF k ∧ 21 ≤ qz_rL k then some (pc + 3, ls, .inl (if 0 ≤ x then x else 0 - x) :: r, M) else none
      | _ => none)
    | _ => none)
  | _ => none
/-- how long the instruction is; a switch: any -/
def qz_il (ins : Instr) (len : Nat) : Bool := match ins with
  | .iload _ => len == 2
  | .aload _ => len == 2
  | .istore _ => len == 2
  | .astore _ => len == 2
  | .bipush _ => len == 2
  | .ldc _ => len == 2
  | .lload _ => len == 2
  | .lstore _ => len == 2
  | .ldc2_w _ => len == 3
  | .newarray _ => len == 2
  | .sipush _ => len == 3
  | .iinc _ _ => len == 3
  | .ifCond _ _ => len == 3
  | .if_icmp _ _ => len == 3
  | .if_acmp _ _ => len == 3
  | .ifnull _ => len == 3
  | .ifnonnull _ => len == 3
  | .goto _ => len == 3
  | .getfield _ => len == 3
  | .putfield _ => len == 3
  | .getstatic _ => len == 3
  | .new _ => len == 3
  | .anewarray _ => len == 3
  | .invokevirtual _ => len == 3
  | .invokespecial _ => len == 3
  | .invokestatic _ => len == 3
  | .tableswitch _ _ _ _ => true
  | _ => len == 1
/-- a run of the method k from pc: its answer and the heap at its end -/
def qz_ex : Nat → Nat → Nat → List (Option qz_V) → List qz_V → qz_M → Option (Option qz_V × qz_M)
  | 0, _, _, _, _, _ => none
  | n + 1, k, pc, ls, st, M => match decode (qz_b k) pc with
    | .ok (ins, len) => if qz_il ins len = true then (match qz_sp (qz_cn k) (qz_ml k) (qz_ini k) ins pc ls st M with
        | some (pc', ls', st', M') => qz_ex n k pc' ls' st' M'
        | none => (match qz_rv k ins st with
          | some r => some (r, M)
          | none => (match qz_bi k ins pc ls st M with
            | some (pc', ls', st', M') => qz_ex n k pc' ls' st' M'
            | none => (match qz_kl k ins st with
              | some k' => (match qz_ex n k' 0 (qz_in0 k' (qz_ag (qz_na k') st)) [] M with
                | some (r, M') => qz_ex n k (pc + 3) ls (r.toList ++ st.drop (qz_na k')) M'
                | none => none)
              | none => none)))) else none
    | .error _ => none
end
section
/-! the interpreter keeps its references well made -/
def qz_sa' (n : qz_N) : Bool := decide (30 ≤ n.1) && (decide (n.1 ≤ 33) && (n.2.1 == 0 && n.2.2 == 0))
def qz_lv (o : Nat) (n : qz_N) : Prop := (n.1 < 30 ∧ qz_vl n = true ∧ qz_ix n < o) ∨ qz_sa' n = true
def qz_vk (o : Nat) (v : qz_V) : Prop := ∀ n, v = .inr (.inl (some n)) → qz_lv o n
def qz_WM (M : qz_M) : Prop := ∀ n j n', M.2.2 n j = some n' → qz_lv M.1 n'
def qz_ok (ls : List (Option qz_V)) (st : List qz_V) (M : qz_M) : Prop := qz_WM M ∧ (∀ v, some v ∈ ls → qz_vk M.1 v) ∧ ∀ v ∈ st, qz_vk M.1 v
def qz_le (M M' : qz_M) : Prop := M.1 ≤ M'.1 ∧ ∀ n : qz_N, 30 ≤ n.1 → M'.2.1 n = M.2.1 n
theorem qz_le.rf {M : qz_M} : qz_le M M := ⟨Nat.le_refl _, fun _ _ => rfl⟩
theorem qz_le.tr {M M' M'' : qz_M} (h : qz_le M M') (h' : qz_le M' M'') : qz_le M M'' := ⟨Nat.le_trans h.1 h'.1, fun n hn => (h'.2 n hn).trans (h.2 n hn)⟩
theorem qz_lv.up {o o' : Nat} {n : qz_N} (h : qz_lv o n) (ho : o ≤ o') : qz_lv o' n := h.elim (fun h => Or.inl ⟨h.1, h.2.1, Nat.lt_of_lt_of_le h.2.2 ho⟩) Or.inr
theorem qz_vk.up {o o' : Nat} {v : qz_V} (h : qz_vk o v) (ho : o ≤ o') : qz_vk o' v := fun n hn => (h n hn).up ho
theorem qz_vki {o : Nat} {x : Int32} : qz_vk o (.inl x) := fun n h => by cases h
theorem qz_vkn {o : Nat} : qz_vk o (.inr (.inl none)) := fun n h => by cases h
theorem qz_vkl {o : Nat} {x : Int64} : qz_vk o (.inr (.inr x)) := fun n h => by cases h
theorem qz_vkr {o : Nat} {r : Option qz_N} (h : ∀ n, r = some n → qz_lv o n) : qz_vk o (.inr (.inl r)) := fun n e => h n (by cases e; rfl)
theorem qz_ok.push {ls : List (Option qz_V)} {st : List qz_V} {M : qz_M} {v : qz_V} (h : qz_ok ls st M) (hv : qz_vk M.1 v) : qz_ok ls (v :: st) M := ⟨h.1, h.2.1, fun w hw => (List.mem_cons.mp hw).elim (fun e => e ▸ hv) (h.2.2 w)⟩
theorem qz_ok.sub {ls : List (Option qz_V)} {st st' : List qz_V} {M : qz_M} (h : qz_ok ls st M) (hs : ∀ v ∈ st', v ∈ st) : qz_ok ls st' M := ⟨h.1, h.2.1, fun w hw => h.2.2 w (hs w hw)⟩
theorem qz_ok.pop {ls : List (Option qz_V)} {st : List qz_V} {M : qz_M} {v : qz_V} (h : qz_ok ls (v :: st) M) : qz_ok ls st M := h.sub (fun _ h => List.mem_cons_of_mem _ h)
theorem qz_ok.hd {ls : List (Option qz_V)} {st : List qz_V} {M : qz_M} {v : qz_V} (h : qz_ok ls (v :: st) M) : qz_vk M.1 v := h.2.2 v List.mem_cons_self
theorem qz_ok.set {ls : List (Option qz_V)} {st : List qz_V} {M : qz_M} {v : qz_V} (h : qz_ok ls st M) (hv : qz_vk M.1 v) (k : Nat) : qz_ok (ls.set k (some v)) st M := ⟨h.1, fun w hw => (List.mem_or_eq_of_mem_set hw).elim (h.2.1 w) (fun e => by cases e; exact hv), h.2.2⟩
theorem qz_ok.sl {ls : List (Option qz_V)} {st : List qz_V} {M : qz_M} {nL : Nat} {x : Int64} (h : qz_ok ls st M) (k : Nat) : qz_ok (qz_sl' nL k ls x) st M := by
  refine ⟨h.1, fun w hw => ?_, h.2.2⟩
  unfold qz_sl' at hw
  rcases List.mem_or_eq_of_mem_set hw with hw | e
  · rcases List.mem_or_eq_of_mem_set hw with hw | e
    · rcases List.mem_or_eq_of_mem_set hw with hw | e
      · exact h.2.1 w hw
      · cases e
    · cases e
  · cases e
    exact qz_vkl
theorem qz_ok.ui {ls : List (Option qz_V)} {st : List qz_V} {M : qz_M} (h : qz_ok ls st M) (n : qz_N) (j : Nat) (x : Int32) : qz_ok ls st (qz_ui M n j x) := h
theorem qz_ok.ur {ls : List (Option qz_V)} {st : List qz_V} {M : qz_M} (h : qz_ok ls st M) (n : qz_N) (j : Nat) {x : Option qz_N} (hx : qz_vk M.1 (.inr (.inl x))) : qz_ok ls st (qz_ur M n j x) := by
  refine ⟨fun n' j' m hm => ?_, h.2⟩
  have hm : (if n' = n ∧ j' = j then x else M.2.2 n' j') = some m := hm
  split at hm
  · exact hx m (by rw [hm])
  · exact h.1 n' j' m hm
theorem qz_ok.al {ls : List (Option qz_V)} {st : List qz_V} {M : qz_M} (h : qz_ok ls st M) (hv : qz_vl (qz_nm' M.1) = true) (hi : qz_ix (qz_nm' M.1) = M.1) : qz_ok ls (.inr (.inl (some (qz_nm' M.1))) :: st) (qz_al' M) := by
  have ho : M.1 ≤ M.1 + 1 := Nat.le_succ _
  refine ⟨fun n' j' m hm => ?_, fun v hw => (h.2.1 v hw).up ho, fun v hw => ?_⟩
  · have hm : (if n' = qz_nm' M.1 then none else M.2.2 n' j') = some m := hm
    split at hm
    · cases hm
    · exact (h.1 n' j' m hm).up ho
  · rcases List.mem_cons.mp hw with rfl | hw
    · intro n e
      cases e
      exact Or.inl ⟨by have := qz_vl_lt hv; omega, hv, by rw [hi]; exact Nat.lt_succ_self _⟩
    · exact (h.2.2 v hw).up ho
theorem qz_le_ui {M : qz_M} {n : qz_N} (hn : n.1 < 30) (j : Nat) (x : Int32) : qz_le M (qz_ui M n j x) := by
  refine ⟨Nat.le_refl _, fun n' hn' => ?_⟩
  funext j'
  show (if n' = n ∧ j' = j then x else M.2.1 n' j') = _
  rw [if_neg]
  rintro ⟨rfl, -⟩
  omega
theorem qz_le_ur {M : qz_M} {n : qz_N} (j : Nat) (x : Option qz_N) : qz_le M (qz_ur M n j x) := ⟨Nat.le_refl _, fun _ _ => rfl⟩
theorem qz_le_al {M : qz_M} (hv : qz_vl (qz_nm' M.1) = true) : qz_le M (qz_al' M) := by
  refine ⟨Nat.le_succ _, fun n' hn' => ?_⟩
  funext j'
  show (if n' = qz_nm' M.1 then 0 else M.2.1 n' j') = _
  rw [if_neg]
  rintro rfl
  have := qz_vl_lt hv
  omega
theorem qz_dyn {o : Nat} {n : qz_N} (h : qz_lv o n) (hn : n.1 < 30) : qz_vl n = true ∧ qz_ix n < o := by
  rcases h with h | h
  · exact h.2
  · simp [qz_sa'] at h
    omega
theorem qz_pk {pc pc' : Nat} {ls ls' : List (Option qz_V)} {st st' : List qz_V} {M M' : qz_M} (h : some (pc, ls, st, M) = some (pc', ls', st', M')) (hk : qz_ok ls st M) {M0 : qz_M} (hl : qz_le M0 M) : qz_ok ls' st' M' ∧ qz_le M0 M' := by
  cases h
  exact ⟨hk, hl⟩
/-- a step -/
theorem qz_sp_ok {c nL : Nat} {ini : Bool} {ins : Instr} {pc pc' : Nat} {ls ls' : List (Option qz_V)} {st st' : List qz_V} {M M' : qz_M} (hs : qz_sp c nL ini ins pc ls st M = some (pc', ls', st', M')) (h : qz_ok ls st M) : qz_ok ls' st' M' ∧ qz_le M M' := by
  have bn : ∀ {f}, qz_bn f pc ls st M = some (pc', ls', st', M') → qz_ok ls' st' M' ∧ qz_le M M' := by
    intro f hs
    unfold qz_bn at hs
    split at hs
    · exact qz_pk hs (h.pop.pop.push qz_vki) .rf
    · cases hs
  have br : ∀ {b off st1}, qz_ok ls st1 M → qz_br b pc off ls st1 M = some (pc', ls', st', M') → qz_ok ls' st' M' ∧ qz_le M M' := by
    intro b off st1 h1 hs
    unfold qz_br at hs
    split at hs
    · split at hs
      · exact qz_pk hs h1 .rf
      · exact qz_pk hs h1 .rf
    · cases hs
  have li : ∀ {k n}, qz_li k n pc ls st M = some (pc', ls', st', M') → qz_ok ls' st' M' ∧ qz_le M M' := by
    intro k n hs
    unfold qz_li at hs
    split at hs
    · exact qz_pk hs (h.push qz_vki) .rf
    · cases hs
  have la : ∀ {k n}, qz_la k n pc ls st M = some (pc', ls', st', M') → qz_ok ls' st' M' ∧ qz_le M M' := by
    intro k n hs
    unfold qz_la at hs
    split at hs
    · next x hx => exact qz_pk hs (h.push (h.2.1 _ (List.mem_of_getElem? hx))) .rf
    · cases hs
  have si : ∀ {k n}, qz_si nL k n pc ls st M = some (pc', ls', st', M') → qz_ok ls' st' M' ∧ qz_le M M' := by
    intro k n hs
    unfold qz_si at hs
    split at hs
    · split at hs
      · exact qz_pk hs (h.pop.set qz_vki k) .rf
      · cases hs
    · cases hs
  have sr : ∀ {k n}, qz_sr nL k n pc ls st M = some (pc', ls', st', M') → qz_ok ls' st' M' ∧ qz_le M M' := by
    intro k n hs
    unfold qz_sr at hs
    split at hs
    · split at hs
      · exact qz_pk hs (h.pop.set h.hd k) .rf
      · cases hs
    · cases hs
  have bl : ∀ {f}, qz_bl' f pc ls st M = some (pc', ls', st', M') → qz_ok ls' st' M' ∧ qz_le M M' := by
    intro f hs
    unfold qz_bl' at hs
    split at hs
    · exact qz_pk hs (h.pop.pop.push qz_vkl) .rf
    · cases hs
  have ll : ∀ {k n}, qz_ll' nL k n pc ls st M = some (pc', ls', st', M') → qz_ok ls' st' M' ∧ qz_le M M' := by
    intro k n hs
    unfold qz_ll' at hs
    split at hs
    · exact qz_pk hs (h.push qz_vkl) .rf
    · cases hs
  have sl : ∀ {k n}, qz_sl nL k n pc ls st M = some (pc', ls', st', M') → qz_ok ls' st' M' ∧ qz_le M M' := by
    intro k n hs
    unfold qz_sl at hs
    split at hs
    · split at hs
      · exact qz_pk hs (h.pop.sl k) .rf
      · cases hs
    · cases hs
  have ld : ∀ {t}, qz_ld t pc ls st M = some (pc', ls', st', M') → qz_ok ls' st' M' ∧ qz_le M M' := by
    intro t hs
    unfold qz_ld at hs
    split at hs
    · split at hs
      · exact qz_pk hs (h.pop.pop.push qz_vki) .rf
      · cases hs
    · cases hs
  have sd : ∀ {t f}, qz_sd t f pc ls st M = some (pc', ls', st', M') → qz_ok ls' st' M' ∧ qz_le M M' := by
    intro t f hs
    unfold qz_sd at hs
    split at hs
    · split at hs
      · next hc => exact qz_pk hs (h.pop.pop.pop.ui _ _ _) (qz_le_ui hc.2.1 _ _)
      · cases hs
    · cases hs
  cases ins with
  | iconst i => exact qz_pk hs (h.push qz_vki) .rf
  | bipush i => exact qz_pk hs (h.push qz_vki) .rf
  | sipush i => exact qz_pk hs (h.push qz_vki) .rf
  | aconst_null => exact qz_pk hs (h.push qz_vkn) .rf
  | iload k => exact li hs
  | iload_n k => exact li hs
  | aload k => exact la hs
  | aload_n k => exact la hs
  | istore k => exact si hs
  | istore_n k => exact si hs
  | astore k => exact sr hs
  | astore_n k => exact sr hs
  | iinc k n =>
    simp only [qz_sp] at hs
    split at hs
    · split at hs
      · exact qz_pk hs (h.set qz_vki _) .rf
      · cases hs
    · cases hs
  | iadd => exact bn hs
  | isub => exact bn hs
  | imul => exact bn hs
  | iand => exact bn hs
  | ishr => exact bn hs
  | ldc i =>
    simp only [qz_sp] at hs
    split at hs
    · exact qz_pk hs (h.push qz_vki) .rf
    · cases hs
  | ldc2_w i =>
    simp only [qz_sp] at hs
    split at hs
    · exact qz_pk hs (h.push qz_vkl) .rf
    · cases hs
  | lload k => exact ll hs
  | lload_n k => exact ll hs
  | lstore k => exact sl hs
  | lstore_n k => exact sl hs
  | ladd => exact bl hs
  | lmul => exact bl hs
  | i2l =>
    simp only [qz_sp] at hs
    split at hs
    · exact qz_pk hs (h.pop.push qz_vkl) .rf
    · cases hs
  | lcmp =>
    simp only [qz_sp] at hs
    split at hs
    · exact qz_pk hs (h.pop.pop.push qz_vki) .rf
    · cases hs
  | idiv =>
    simp only [qz_sp] at hs
    split at hs
    · split at hs
      · cases hs
      · exact qz_pk hs (h.pop.pop.push qz_vki) .rf
    · cases hs
  | irem =>
    simp only [qz_sp] at hs
    split at hs
    · split at hs
      · cases hs
      · exact qz_pk hs (h.pop.pop.push qz_vki) .rf
    · cases hs
  | ineg =>
    simp only [qz_sp] at hs
    split at hs
    · exact qz_pk hs (h.pop.push qz_vki) .rf
    · cases hs
  | i2c =>
    simp only [qz_sp] at hs
    split at hs
    · exact qz_pk hs (h.pop.push qz_vki) .rf
    · cases hs
  | dup =>
    simp only [qz_sp] at hs
    split at hs
    · split at hs
      · exact qz_pk hs (h.push h.hd) .rf
      · cases hs
    · cases hs
  | dup2 =>
    simp only [qz_sp] at hs
    split at hs
    · split at hs
      · exact qz_pk hs ((h.push h.pop.hd).push h.hd) .rf
      · cases hs
    · cases hs
  | pop =>
    simp only [qz_sp] at hs
    split at hs
    · split at hs
      · exact qz_pk hs h.pop .rf
      · cases hs
    · cases hs
  | ifCond cd off =>
    simp only [qz_sp] at hs
    split at hs
    · exact br h.pop hs
    · cases hs
  | if_icmp cd off =>
    simp only [qz_sp] at hs
    split at hs
    · exact br h.pop.pop hs
    · cases hs
  | if_acmp cd off =>
    simp only [qz_sp] at hs
    split at hs
    · split at hs
      · exact br h.pop.pop hs
      · cases hs
    · cases hs
  | ifnull off =>
    simp only [qz_sp] at hs
    split at hs
    · exact br h.pop hs
    · cases hs
  | ifnonnull off =>
    simp only [qz_sp] at hs
    split at hs
    · exact br h.pop hs
    · cases hs
  | goto off =>
    simp only [qz_sp] at hs
    split at hs
    · exact qz_pk hs h .rf
    · cases hs
  | tableswitch d lo hi offs =>
    simp only [qz_sp] at hs
    split at hs
    · split at hs
      · split at hs
        · exact qz_pk hs h.pop .rf
        · cases hs
      · split at hs
        · split at hs
          · exact qz_pk hs h.pop .rf
          · cases hs
        · cases hs
    · cases hs
  | getfield i =>
    simp only [qz_sp] at hs
    split at hs
    · split at hs
      · split at hs
        · refine qz_pk hs (h.pop.push ?_) .rf
          split
          · exact qz_vkr (fun n hn => h.1 _ _ _ hn)
          · exact qz_vki
        · cases hs
      · cases hs
    · cases hs
  | putfield i =>
    simp only [qz_sp] at hs
    split at hs
    · split at hs
      · next hf =>
        split at hs
        · next hc => exact qz_pk hs (h.pop.pop.ui _ _ _) (qz_le_ui (by have := (qz_fl_ok hf).1; have := hc.1; simp only at *; omega) _ _)
        · cases hs
      · cases hs
    · split at hs
      · split at hs
        · exact qz_pk hs (h.pop.pop.ur _ _ h.hd) (qz_le_ur _ _)
        · cases hs
      · cases hs
    · cases hs
  | getstatic i =>
    simp only [qz_sp] at hs
    split at hs
    · next k hk =>
      refine qz_pk hs (h.push (qz_vkr (fun n hn => Or.inr ?_))) .rf
      cases hn
      unfold qz_st at hk
      split at hk <;> first | (cases hk; rfl) | cases hk
    · cases hs
  | iaload => exact ld hs
  | caload => exact ld hs
  | iastore => exact sd hs
  | castore => exact sd hs
  | aaload =>
    simp only [qz_sp] at hs
    split at hs
    · split at hs
      · exact qz_pk hs (h.pop.pop.push (qz_vkr (fun n hn => h.1 _ _ _ hn))) .rf
      · cases hs
    · cases hs
  | aastore =>
    simp only [qz_sp] at hs
    split at hs
    · split at hs
      · exact qz_pk hs (h.pop.pop.pop.ur _ _ h.hd) (qz_le_ur _ _)
      · cases hs
    · cases hs
  | arraylength =>
    simp only [qz_sp] at hs
    split at hs
    · split at hs
      · exact qz_pk hs (h.pop.push qz_vki) .rf
      · cases hs
    · cases hs
  | new i =>
    simp only [qz_sp] at hs
    split at hs
    · split at hs
      · next hc => exact qz_pk hs (h.al hc.2.1 hc.2.2) (qz_le_al hc.2.1)
      · cases hs
    · cases hs
  | newarray a =>
    simp only [qz_sp] at hs
    split at hs
    · split at hs
      · next hc => exact qz_pk hs (h.pop.al hc.1 hc.2.1) (qz_le_al hc.1)
      · cases hs
    · cases hs
  | anewarray i =>
    simp only [qz_sp] at hs
    split at hs
    · split at hs
      · split at hs
        · next hc => exact qz_pk hs (h.pop.al hc.1 hc.2.1) (qz_le_al hc.1)
        · cases hs
      · cases hs
    · cases hs
  | _ => cases hs
theorem qz_bi_ok {k : Nat} {ins : Instr} {pc pc' : Nat} {ls ls' : List (Option qz_V)} {st st' : List qz_V} {M M' : qz_M} (hs : qz_bi k ins pc ls st M = some (pc', ls', st', M')) (h : qz_ok ls st M) : qz_ok ls' st' M' ∧ qz_le M M' := by
  unfold qz_bi at hs
  split at hs
  · split at hs
    · split at hs
      · exact qz_pk hs h.pop .rf
      · cases hs
    · cases hs
  · split at hs
    · split at hs
      · split at hs
        · exact qz_pk hs (h.pop.pop.push qz_vki) .rf
        · cases hs
      · cases hs
    · split at hs
      · split at hs
        · exact qz_pk hs (h.pop.push qz_vki) .rf
        · cases hs
      · cases hs
    · cases hs
  · cases hs
def qz_rk (o : Nat) (r : Option qz_V) : Prop := ∀ v, r = some v → qz_vk o v
theorem qz_rv_ok {k : Nat} {ins : Instr} {ls : List (Option qz_V)} {st : List qz_V} {M : qz_M} {r : Option qz_V} (hs : qz_rv k ins st = some r) (h : qz_ok ls st M) : qz_rk M.1 r := by
  unfold qz_rv at hs
  split at hs
  · split at hs
    · split at hs
      · cases hs
        intro v hv
        cases hv
        exact qz_vki
      · cases hs
    · cases hs
  · split at hs
    · split at hs
      · cases hs
        intro v hv
        cases hv
        exact h.hd
      · cases hs
    · cases hs
  · split at hs
    · split at hs
      · cases hs
        intro v hv
        cases hv
        exact qz_vkl
      · cases hs
    · cases hs
  · split at hs
    · split at hs
      · cases hs
        intro v hv
        cases hv
      · cases hs
    · cases hs
  · cases hs
theorem qz_in0_ok {k n : Nat} {ls : List (Option qz_V)} {st : List qz_V} {M : qz_M} (h : qz_ok ls st M) : qz_ok (qz_in0 k (qz_ag n st)) [] M := by
  refine ⟨h.1, fun v hv => ?_, fun v hv => by cases hv⟩
  unfold qz_in0 qz_ag at hv
  rcases List.mem_append.mp hv with hv | hv
  · obtain ⟨w, hw, e⟩ := List.mem_map.mp hv
    cases e
    exact h.2.2 _ (List.mem_of_mem_take (List.mem_reverse.mp hw))
  · cases (List.mem_replicate.mp hv).2
theorem qz_aft {k : Nat} {ls : List (Option qz_V)} {st : List qz_V} {M M' : qz_M} {r : Option qz_V} (h : qz_ok ls st M) (hl : qz_le M M') (hW : qz_WM M') (hr : qz_rk M'.1 r) : qz_ok ls (r.toList ++ st.drop k) M' := by
  refine ⟨hW, fun v hv => (h.2.1 v hv).up hl.1, fun v hv => ?_⟩
  rcases List.mem_append.mp hv with hv | hv
  · exact hr v (by simpa using hv)
  · exact (h.2.2 v (List.mem_of_mem_drop hv)).up hl.1
/-- a run -/
theorem qz_ex_ok : ∀ (n k pc : Nat) (ls : List (Option qz_V)) (st : List qz_V) (M : qz_M) (r : Option qz_V) (M' : qz_M), qz_ex n k pc ls st M = some (r, M') → qz_ok ls st M → qz_WM M' ∧ qz_rk M'.1 r ∧ qz_le M M' := by
  intro n
  induction n with
  | zero => intro k pc ls st M r M' h; cases h
  | succ n ih =>
    intro k pc ls st M r M' h hk
    unfold qz_ex at h
    split at h
    · split at h
      · split at h
        · next hs =>
          obtain ⟨h1, h2⟩ := qz_sp_ok hs hk
          obtain ⟨h3, h4, h5⟩ := ih _ _ _ _ _ _ _ h h1
          exact ⟨h3, h4, h2.tr h5⟩
        · split at h
          · next hs =>
            cases h
            exact ⟨hk.1, qz_rv_ok hs hk, .rf⟩
          · split at h
            · next hs =>
              obtain ⟨h1, h2⟩ := qz_bi_ok hs hk
              obtain ⟨h3, h4, h5⟩ := ih _ _ _ _ _ _ _ h h1
              exact ⟨h3, h4, h2.tr h5⟩
            · split at h
              · split at h
                · next hs =>
                  obtain ⟨h1, h2, h6⟩ := ih _ _ _ _ _ _ _ hs (qz_in0_ok hk)
                  obtain ⟨h3, h4, h5⟩ := ih _ _ _ _ _ _ _ h (qz_aft hk h6 h1 h2)
                  exact ⟨h3, h4, h6.tr h5⟩
                · cases h
              · cases h
      · cases h
    · cases h
end
section
/-! the interpreter's states on the machine's heap -/
def qz_ad (z : Nat) (tA : Nat → Nat) (n : qz_N) : Nat := if n.1 < 30 then z + qz_ix n else tA n.1
def qz_tv (z : Nat) (tA : Nat → Nat) (v : qz_V) : Value := match v with
  | .inl x => .int x
  | .inr (.inl r) => va_rf (r.map (qz_ad z tA))
  | .inr (.inr x) => .long x
theorem qz_tvc (z : Nat) (tA : Nat → Nat) {v : qz_V} (h : qz_nl v = true) : (qz_tv z tA v).category = 1 := by
  rcases v with x | (_ | n) | x
  · rfl
  · rfl
  · rfl
  · cases h
theorem qz_tvw (z : Nat) (tA : Nat → Nat) (v : qz_V) : (qz_tv z tA v).category = qz_ct v := by
  rcases v with x | (_ | n) | x <;> rfl
theorem qz_tvs (z : Nat) (tA : Nat → Nat) (l : List qz_V) : ((l.map (qz_tv z tA)).map fun v => v.category).sum = qz_wl l := by
  unfold qz_wl
  rw [List.map_map]
  congr 1
  exact List.map_congr_left (fun v _ => qz_tvw z tA v)
theorem qz_ad_dyn {z : Nat} {tA : Nat → Nat} {n : qz_N} (h : n.1 < 30) : qz_ad z tA n = z + qz_ix n := if_pos h
/-- what a name's cell holds -/
def qz_ce (z : Nat) (tA : Nat → Nat) (cy : Nat → ClassId) (M : qz_M) (n : qz_N) : va_E :=
  if n.1 < 6 then .inr (n.1, (List.range (qz_nf n.1)).map (fun j => if qz_rf n.1 j = true then va_rf ((M.2.2 n j).map (qz_ad z tA)) else .int (M.2.1 n j)))
  else if qz_at n.1 < 4 then .inl (cy (qz_at n.1), qz_al n.1, .inl (M.2.1 n)) else .inl (cy (qz_at n.1), qz_al n.1, .inr (.inr (.inr (.inr (fun j => (M.2.2 n j).map (qz_ad z tA))))))
def qz_A (z : Nat) : Nat → Prop := fun q => z ≤ q
def qz_P (z : Nat) (tA : Nat → Nat) (D : va_G) (cy : Nat → ClassId) (M : qz_M) (H : Heap) : Prop := H.size = z + M.1 ∧ ∀ n : qz_N, qz_vl n = true → qz_ix n < M.1 → va_at D vwCl (z + qz_ix n, qz_ce z tA cy M n) H
def qz_ts (cy : Nat → ClassId) : List (ClassId × FieldType) := [(cy 1, .int), (cy 2, .char), (cy 4, .object "ShiftBuses$Booking"), (cy 5, .object "ShiftBuses$Wish"), (cy 6, .object "ShiftBuses$Works")]
def qz_St (z : Nat) (tA : Nat → Nat) (f : qz_N → Nat → Int32) (s : State) : Prop := ∀ k : Nat, 30 ≤ k → k ≤ 33 → va_T .int (tA k) (qz_ln f (k, 0, 0)) (fun j => .int (f (k, 0, 0) j)) (qz_A z) s s.heap
def qz_Kx (z : Nat) (tA : Nat → Nat) (D : va_G) (cy : Nat → ClassId) (s : State) : Prop := va_K D vwCl (qz_ts cy) s ∧ (∀ k : Nat, 30 ≤ k → k ≤ 32 → va_Z RX5 (qz_sn k) "[I" (.ref (tA k)) (qz_A z) s s.heap) ∧ (∀ e ∈ qz_ne, va_Nw (.methodLinkNest (qz_ow e.1) e.2.1 (qz_y e.2.2) "ShiftBuses") s) ∧ va_Nw (.fieldLinkNest RX4 22 RX5 "FIRST_SETTINGS" "[I" "ShiftBuses") s ∧ va_AO "ShiftBuses$Booking" s ∧ va_AO "ShiftBuses$Wish" s ∧ va_AO "ShiftBuses$Works" s
section QZM
variable {z : Nat} {tA : Nat → Nat} {D : va_G} {cy : Nat → ClassId}
theorem qz_St.same {f f' : qz_N → Nat → Int32} {s : State} (h : qz_St z tA f s) (e : ∀ n : qz_N, 30 ≤ n.1 → f' n = f n) : qz_St z tA f' s := by
  intro k h1 h2
  have e1 : f' (k, 0, 0) = f (k, 0, 0) := e (k, 0, 0) h1
  have e2 : f' (33, 1, 0) = f (33, 1, 0) := e (33, 1, 0) (by decide)
  have e3 : qz_ln f' (k, 0, 0) = qz_ln f (k, 0, 0) := by unfold qz_ln; rw [e2]
  rw [e1, e3]
  exact h k h1 h2
theorem qz_St.to {f : qz_N → Nat → Int32} {s U : State} (h : qz_St z tA f s) (hvm : s.vm.Alike U.vm) (hh : ∀ a : Nat, a < s.heap.size → ¬ qz_A z a → U.heap[a]? = s.heap[a]?) : qz_St z tA f U := fun k h1 h2 => ((h k h1 h2).moved hvm).kept hh
theorem qz_Kx.warm {s U : State} {locs : List Loc} (h : qz_Kx z tA D cy s) (hW : s.WarmedH U.vm) (hS : va_S (qz_A z) s.heap U.heap locs) : qz_Kx z tA D cy U := by
  obtain ⟨h1, h2, h3, h4, h5, h6, h7⟩ := h
  exact ⟨h1.moved hW.alike, fun k a b => ((h2 k a b).moved hW.alike).kept hS.2.1, fun e he => va_Nw.warmM hW (h3 e he), va_Nw.warmF hW h4, h5.moved hW.alike, h6.moved hW.alike, h7.moved hW.alike⟩
theorem qz_Kx.same {u U : State} (h : qz_Kx z tA D cy u) (hvm : u.vm = U.vm) (hh : u.heap = U.heap) : qz_Kx z tA D cy U := by
  obtain ⟨h1, h2, h3, h4, h5, h6, h7⟩ := h
  have al : u.vm.Alike U.vm := hvm ▸ Vm.Alike.refl u.vm
  exact ⟨h1.moved al, fun k a b => hh ▸ (h2 k a b).moved al, fun e he => va_Nw.same rfl hvm (h3 e he), va_Nw.same rfl hvm h4, h5.moved al, h6.moved al, h7.moved al⟩
theorem qz_St.eq {f : qz_N → Nat → Int32} {u U : State} (h : qz_St z tA f u) (hvm : u.vm = U.vm) (hh : u.heap = U.heap) : qz_St z tA f U := fun k a b => hh ▸ (h k a b).moved (hvm ▸ Vm.Alike.refl u.vm)
/-! locals: the first nL places are the machine's; a long stands behind them, its two places are free -/
/-- all that the machine's locals hold -/
def qz_fu (lsm : Array Slot) : List (Nat × Value) := (List.range lsm.size).filterMap (fun (j : Nat) => match (lsm[j]? : Option Slot) with
  | some (Slot.val w) => some (j, w)
  | _ => none)
theorem qz_fu_mem {lsm : Array Slot} {j : Nat} {w : Value} : (j, w) ∈ qz_fu lsm ↔ lsm[j]? = some (.val w) := by
  unfold qz_fu
  rw [List.mem_filterMap]
  constructor
  · rintro ⟨i, hi, h⟩
    split at h
    · next w' e =>
      cases h
      exact e
    · cases h
  · intro h
    refine ⟨j, List.mem_range.mpr (Array.getElem?_eq_some_iff.mp h).1, ?_⟩
    rw [h]
theorem qz_fu_has {lsm : Array Slot} {nL : Nat} (h1 : lsm.size = nL) (h2 : lv_wf lsm) : lv_has lsm nL (qz_fu lsm) := ⟨h1, h2, fun q hq => qz_fu_mem.mp hq⟩
def qz_L (z : Nat) (tA : Nat → Nat) (nL : Nat) (ls : List (Option qz_V)) (lsm : Array Slot) : Prop :=
  nL ≤ ls.length ∧ lsm.size = nL ∧ lv_wf lsm ∧ (∀ (j : Nat) (v : qz_V), ls[j]? = some (some v) → qz_nl v = true → lsm[j]? = some (Slot.val (qz_tv z tA v))) ∧ ∀ (j : Nat) (x : Int64), ls[nL + j]? = some (some (.inr (.inr x))) → lsm[j]? = some (Slot.val (.long x))
theorem qz_L.has {nL : Nat} {ls : List (Option qz_V)} {lsm : Array Slot} (h : qz_L z tA nL ls lsm) : lv_has lsm nL (qz_fu lsm) := qz_fu_has h.2.1 h.2.2.1
theorem qz_L.at' {nL k : Nat} {ls : List (Option qz_V)} {lsm : Array Slot} {v : qz_V} (h : qz_L z tA nL ls lsm) (hk : ls[k]? = some (some v)) (hv : qz_nl v = true) : lsm[k]? = some (.val (qz_tv z tA v)) := h.2.2.2.1 k v hk hv
theorem qz_L.atl {nL k : Nat} {ls : List (Option qz_V)} {lsm : Array Slot} {x : Int64} (h : qz_L z tA nL ls lsm) (hk : ls[nL + k]? = some (some (.inr (.inr x)))) : lsm[k]? = some (.val (.long x)) := h.2.2.2.2 k x hk
theorem qz_g1_no {nL j : Nat} {ls : List (Option qz_V)} (h : qz_g1 nL ls j = true) (v : qz_V) : ¬ ls[nL + j]? = some (some v) := by
  intro q
  unfold qz_g1 at h
  rw [q] at h
  cases h
theorem qz_g3_no {nL k j : Nat} {ls : List (Option qz_V)} (h : qz_g3 nL ls k = true) (hj : j + 1 = k) (v : qz_V) : ¬ ls[nL + j]? = some (some v) := by
  subst hj
  exact qz_g1_no h v
theorem qz_L.set {nL k : Nat} {ls : List (Option qz_V)} {lsm lsm' : Array Slot} {v : qz_V} (h : qz_L z tA nL ls lsm) (hk : k < nL) (hg : qz_g2 nL ls k = true) (hv : qz_nl v = true) (h' : lv_has lsm' nL ((k, qz_tv z tA v) :: (qz_fu lsm).filter (fun q => !(q.1 == k) && !(q.1 + 1 == k && q.2.category == 2)))) : qz_L z tA nL (ls.set k (some v)) lsm' := by
  unfold qz_g2 at hg
  rw [Bool.and_eq_true] at hg
  have keep : ∀ (j : Nat) (w : Value), lsm[j]? = some (.val w) → ¬ j = k → ¬ (j + 1 = k ∧ w.category = 2) → lsm'[j]? = some (.val w) := by
    intro j w e n1 n2
    refine h'.2.2 (j, w) (List.mem_cons_of_mem _ (List.mem_filter.mpr ⟨qz_fu_mem.mpr e, ?_⟩))
    have b1 : (j == k) = false := by simp [n1]
    have b2 : (j + 1 == k && w.category == 2) = false := by
      by_cases e1 : j + 1 = k
      · by_cases e2 : w.category = 2
        · exact absurd ⟨e1, e2⟩ n2
        · simp [e2]
      · simp [e1]
    simp only [b1, b2, Bool.not_false, Bool.and_self]
  refine ⟨by rw [List.length_set]; exact h.1, h'.1, h'.2.1, fun j w h1 hw => ?_, fun j x h1 => ?_⟩
  · rw [List.getElem?_set] at h1
    split at h1
    · next e =>
      subst e
      split at h1
      · cases h1
        exact h'.2.2 _ List.mem_cons_self
      · cases h1
    · next e =>
      refine keep j _ (h.2.2.2.1 j w h1 hw) (fun q => e q.symm) (fun q => ?_)
      rw [qz_tvc z tA hw] at q
      exact absurd q.2 (by decide)
  · rw [List.getElem?_set, if_neg (by omega)] at h1
    refine keep j _ (h.2.2.2.2 j x h1) (fun q => ?_) (fun q => ?_)
    · subst q
      exact qz_g1_no hg.1 _ h1
    · exact qz_g3_no hg.2 q.1 _ h1
theorem qz_L.setl {nL k : Nat} {ls : List (Option qz_V)} {lsm lsm' : Array Slot} {x : Int64} (h : qz_L z tA nL ls lsm) (hk : k + 1 < nL) (hg1 : qz_g1 nL ls (k + 1) = true) (hg3 : qz_g3 nL ls k = true) (h' : lv_has lsm' nL ((k, Value.long x) :: (qz_fu lsm).filter (fun q => !(q.1 == k) && (!(q.1 == k + 1) && !(q.1 + 1 == k && q.2.category == 2))))) : qz_L z tA nL (qz_sl' nL k ls x) lsm' := by
  have keep : ∀ (j : Nat) (w : Value), lsm[j]? = some (.val w) → ¬ j = k → ¬ j = k + 1 → ¬ (j + 1 = k ∧ w.category = 2) → lsm'[j]? = some (.val w) := by
    intro j w e n1 n3 n2
    refine h'.2.2 (j, w) (List.mem_cons_of_mem _ (List.mem_filter.mpr ⟨qz_fu_mem.mpr e, ?_⟩))
    have b1 : (j == k) = false := by simp [n1]
    have b3 : (j == k + 1) = false := by simp [n3]
    have b2 : (j + 1 == k && w.category == 2) = false := by
      by_cases e1 : j + 1 = k
      · by_cases e2 : w.category = 2
        · exact absurd ⟨e1, e2⟩ n2
        · simp [e2]
      · simp [e1]
    simp only [b1, b2, b3, Bool.not_false, Bool.and_self]
  have len : (qz_sl' nL k ls x).length = ls.length := by simp [qz_sl']
  have get : ∀ j : Nat, ¬ j = nL + k → (qz_sl' nL k ls x)[j]? = if k + 1 = j then (if k + 1 < ls.length then some none else none) else if k = j then (if k < ls.length then some none else none) else ls[j]? := by
    intro j hj
    unfold qz_sl'
    rw [List.getElem?_set, if_neg (fun q => hj q.symm), List.getElem?_set, List.getElem?_set]
    simp only [List.length_set]
  refine ⟨by rw [len]; exact h.1, h'.1, h'.2.1, fun j w h1 hw => ?_, fun j y h1 => ?_⟩
  · by_cases hj : j = nL + k
    · exfalso
      subst hj
      unfold qz_sl' at h1
      rw [List.getElem?_set, if_pos rfl] at h1
      split at h1
      · cases h1
        cases hw
      · cases h1
    · rw [get j hj] at h1
      split at h1
      · split at h1 <;> cases h1
      · next e1 =>
        split at h1
        · split at h1 <;> cases h1
        · next e2 =>
          refine keep j _ (h.2.2.2.1 j w h1 hw) (fun q => e2 q.symm) (fun q => e1 q.symm) (fun q => ?_)
          rw [qz_tvc z tA hw] at q
          exact absurd q.2 (by decide)
  · by_cases hj : j = k
    · subst hj
      unfold qz_sl' at h1
      rw [List.getElem?_set, if_pos rfl] at h1
      split at h1
      · cases h1
        exact h'.2.2 _ List.mem_cons_self
      · cases h1
    · rw [get _ (by omega), if_neg (by omega), if_neg (by omega)] at h1
      refine keep j _ (h.2.2.2.2 j y h1) hj (fun q => ?_) (fun q => ?_)
      · subst q
        exact qz_g1_no hg1 _ h1
      · exact qz_g3_no hg3 q.1 _ h1
theorem qz_L.start (as : List qz_V) (n n2 : Nat) (hn : as.length ≤ n) (hn2 : n ≤ n2) (ha : as.all qz_nl = true) : qz_L z tA n (as.map some ++ List.replicate (n2 - as.length) none) ((lg_sl (as.map (qz_tv z tA)) ++ List.replicate (n - (lg_sl (as.map (qz_tv z tA))).length) Slot.unset).toArray) := by
  have hl : ∀ as : List qz_V, as.all qz_nl = true → (lg_sl (as.map (qz_tv z tA))).length = as.length := by
    intro as
    induction as with
    | nil => intro _; rfl
    | cons v as ih =>
      intro ha
      rw [List.all_cons, Bool.and_eq_true] at ha
      have : lg_sl ((v :: as).map (qz_tv z tA)) = Slot.val (qz_tv z tA v) :: lg_sl (as.map (qz_tv z tA)) := by simp [lg_sl, qz_tvc z tA ha.1]
      rw [this, List.length_cons, ih ha.2, List.length_cons]
  have hm : ∀ (as : List qz_V) (i j : Nat) (v : qz_V), as.all qz_nl = true → as[j]? = some v → (i + j, qz_tv z tA v) ∈ lv_args i (as.map (qz_tv z tA)) := by
    intro as
    induction as with
    | nil =>
      intro i j v _ h
      simp at h
    | cons v as ih =>
      intro i j w ha h
      rw [List.all_cons, Bool.and_eq_true] at ha
      have e : lv_args i ((v :: as).map (qz_tv z tA)) = (i, qz_tv z tA v) :: lv_args (i + 1) (as.map (qz_tv z tA)) := by simp [lv_args, qz_tvc z tA ha.1]
      rw [e]
      cases j with
      | zero =>
        simp at h
        subst h
        exact List.mem_cons_self
      | succ j =>
        have := ih (i + 1) j w ha.2 (by simpa using h)
        rw [show i + (j + 1) = i + 1 + j by omega]
        exact List.mem_cons_of_mem _ this
  have h := lv_entry (as.map (qz_tv z tA)) (n := n) (by rw [hl as ha]; exact hn)
  have get : ∀ (j : Nat) (v : qz_V), (as.map some ++ List.replicate (n2 - as.length) none)[j]? = some (some v) → as[j]? = some v := by
    intro j v h1
    rw [List.getElem?_append] at h1
    split at h1
    · rw [List.getElem?_map] at h1
      cases hq : as[j]? with
      | none => rw [hq] at h1; cases h1
      | some w => rw [hq] at h1; cases h1; rfl
    · rw [List.getElem?_replicate] at h1
      split at h1 <;> cases h1
  refine ⟨by simp; omega, h.1, h.2.1, fun j v h1 _ => ?_, fun j x h1 => ?_⟩
  · have := hm as 0 j v ha (get j v h1)
    rw [Nat.zero_add] at this
    exact h.2.2 _ this
  · exfalso
    have e := get _ _ h1
    have := List.all_eq_true.mp ha _ (List.mem_of_getElem? e)
    cases this
/-! the heap -/
theorem qz_one {a : Nat} {e : va_E} {H : Heap} (h : va_at D vwCl (a, e) H) : va_P D vwCl [(a, e)] H := by
  intro k q hq
  cases k with
  | zero => cases hq; exact h
  | succ k => simp at hq
theorem qz_P.set {M M' : qz_M} {H H' : Heap} {n : qz_N} (h : qz_P z tA D cy M H) (hv : qz_vl n = true) (hM : M'.1 = M.1) (ho : ∀ n' : qz_N, ¬ n' = n → qz_ce z tA cy M' n' = qz_ce z tA cy M n') (he : va_at D vwCl (z + qz_ix n, qz_ce z tA cy M' n) H') (hz : H'.size = H.size) (oq : ∀ q : Nat, q ≠ z + qz_ix n → H'[q]? = H[q]?) : qz_P z tA D cy M' H' := by
  refine ⟨by rw [hz, hM]; exact h.1, fun n' h1 h2 => ?_⟩
  by_cases e : n' = n
  · subst e; exact he
  · rw [ho n' e]
    refine (h.2 n' h1 (by rw [← hM]; exact h2)).kept (oq _ ?_)
    show z + qz_ix n' ≠ z + qz_ix n
    intro q
    exact e (qz_ix_inj h1 hv (by omega))
theorem qz_ce_ui {M : qz_M} {n n' : qz_N} {j : Nat} {x : Int32} (e : ¬ n' = n) : qz_ce z tA cy (qz_ui M n j x) n' = qz_ce z tA cy M n' := by
  have h : (qz_ui M n j x).2.1 n' = M.2.1 n' := by
    funext j'
    show (if n' = n ∧ j' = j then x else M.2.1 n' j') = _
    rw [if_neg (fun q => e q.1)]
  have h2 : (qz_ui M n j x).2.2 = M.2.2 := rfl
  unfold qz_ce
  rw [h, h2]
theorem qz_ce_ur {M : qz_M} {n n' : qz_N} {j : Nat} {x : Option qz_N} (e : ¬ n' = n) : qz_ce z tA cy (qz_ur M n j x) n' = qz_ce z tA cy M n' := by
  have h : (qz_ur M n j x).2.2 n' = M.2.2 n' := by
    funext j'
    show (if n' = n ∧ j' = j then x else M.2.2 n' j') = _
    rw [if_neg (fun q => e q.1)]
  have h2 : (qz_ur M n j x).2.1 = M.2.1 := rfl
  unfold qz_ce
  rw [h, h2]
/-- the fields of an object, one of them written -/
theorem qz_fs_set {α : Type} (N j : Nat) (g g' : Nat → α) (v : α) (h1 : g' j = v) (h2 : ∀ i, ¬ i = j → g' i = g i) : (List.range N).map g' = ((List.range N).map g).set j v := by
  apply List.ext_getElem?
  intro i
  rw [List.getElem?_set, List.getElem?_map, List.getElem?_map]
  by_cases hi : i < N
  · rw [List.getElem?_range hi]
    split
    · next e => subst e; simp [hi, h1]
    · next e => simp [h2 i (fun q => e q.symm)]
  · have : (List.range N)[i]? = none := by simp; omega
    rw [this]
    split
    · simp; omega
    · rfl
theorem qz_arr_ui {M : qz_M} {n : qz_N} {j : Nat} {x : Int32} : (qz_ui M n j x).2.1 n = upd (M.2.1 n) j x := by
  funext j'
  show (if n = n ∧ j' = j then x else M.2.1 n j') = if j' = j then x else M.2.1 n j'
  simp
theorem qz_def : ∀ c, c < 6 → ∀ j, j < qz_nf c → defaultValue (qz_ty c j) = if qz_rf c j = true then Value.null else .int 0 := by decide +kernel
theorem qz_fit : ∀ c, c < 6 → ∀ j, j < qz_nf c → qz_rf c j = false → (qz_bl c j = true ∧ qz_ty c j = .boolean) ∨ (qz_bl c j = false ∧ qz_ty c j = .int) := by decide +kernel
theorem qz_fitR : ∀ c, c < 6 → ∀ j, j < qz_nf c → qz_rf c j = true → (∃ C, qz_ty c j = .object C) ∨ ∃ t, qz_ty c j = .array t := by
  intro c hc j hj h
  have key : ∀ c, c < 6 → ∀ j, j < qz_nf c → qz_rf c j = true → (match qz_ty c j with
    | .object _ => true
    | .array _ => true
    | _ => false) = true := by decide +kernel
  have := key c hc j hj h
  split at this
  · next C e => exact Or.inl ⟨C, e⟩
  · next t e => exact Or.inr ⟨t, e⟩
  · cases this
theorem qz_atk : ∀ k : Nat, k < 17 → 7 ≤ k → qz_at k < 7 := by decide
theorem qz_at3 : ∀ k : Nat, k < 17 → ¬ qz_at k = 3 := by decide
theorem qz_at0 {k : Nat} (h : ¬ qz_at k = 0) : 7 ≤ k := by
  rcases Nat.lt_or_ge k 7 with q | q
  · exfalso
    have : ∀ k : Nat, k < 7 → qz_at k = 0 := by decide
    exact h (this k q)
  · exact q
theorem qz_sta {o : Nat} {n : qz_N} (h : qz_lv o n) (hn : ¬ n.1 < 30) : 30 ≤ n.1 ∧ n.1 ≤ 33 ∧ n = (n.1, 0, 0) := by
  rcases h with h | h
  · exact absurd h.1 hn
  · obtain ⟨k, w, i⟩ := n
    simp [qz_sa'] at h
    obtain ⟨h1, h2, rfl, rfl⟩ := h
    exact ⟨h1, h2, rfl⟩
theorem qz_xi_in {i : Int32} {n : Nat} (h : qz_xi i n = true) : vp_in i n := by
  simp [qz_xi] at h
  rintro (q | q)
  · exact absurd q (Int32.not_lt.mpr h.1)
  · omega
theorem qz_Kt {s : State} (h : qz_Kx z tA D cy s) {t : Nat} (h1 : 1 ≤ t) (h2 : t < 7) (h3 : ¬ t = 3) : ArrOfT s (cy t) (qz_ft t) ∧ va_RA s (cy t) (qz_ft t) := by
  have h := h.1.2
  have hc : t = 1 ∨ t = 2 ∨ t = 4 ∨ t = 5 ∨ t = 6 := by omega
  rcases hc with rfl | rfl | rfl | rfl | rfl
  · exact h 0 _ rfl
  · exact h 1 _ rfl
  · exact h 2 _ rfl
  · exact h 3 _ rfl
  · exact h 4 _ rfl
theorem qz_ss_le {o o' : Nat} (h : o ≤ o') : qz_ss o ≤ qz_ss o' := by
  induction h with
  | refl => exact Nat.le_refl _
  | step _ ih => exact Nat.le_trans ih (Nat.le_add_right _ _)
end QZM
end
section
/-! one step of the interpreter is a step of the machine -/
section QZR
variable {p : Program} {l : Launch} {e : Env} {R : Room} {s : State} {m : MethodId} {args : Array Value} {below : List Frame} {meth : Method} {c : Code} {Q : State → Prop}
variable {z : Nat} {tA : Nat → Nat} {D : va_G} {cy : Nat → ClassId} {k : Nat}
variable {ce sl pc : Nat} {ls : List (Option qz_V)} {st : List qz_V} {M : qz_M}
def qz_Cx (p : Program) (s : State) (m : MethodId) (args : Array Value) (meth : Method) (c : Code) (z : Nat) (tA : Nat → Nat) (D : va_G) (cy : Nat → ClassId) (k : Nat) : Prop :=
  p.tables.exec = Jvm.exec ∧ c.code = qz_b k ∧ c.maxLocals = qz_ml k ∧ s.vm.findClass (qz_ow (qz_cn k)) = some m.cls ∧ (∀ w ∈ qz_tb, w.before args s = true) ∧ (qz_ini k = true → meth.name = "<init>") ∧ qz_Kx z tA D cy s ∧ z ≤ s.heap.size
def qz_W (p : Program) (l : Launch) (e : Env) (R : Room) (s : State) (m : MethodId) (args : Array Value) (below : List Frame) (meth : Method) (c : Code) (z : Nat) (tA : Nat → Nat) (D : va_G) (cy : Nat → ClassId) (k : Nat) (Q : State → Prop) (ce sl pc : Nat) (ls : List (Option qz_V)) (st : List qz_V) (M : qz_M) : Prop :=
  ∀ (H : Heap) (locs : List Loc) (lsm : Array Slot), qz_L z tA (qz_ml k) ls lsm → qz_P z tA D cy M H → va_S (qz_A z) s.heap H locs → qz_St z tA M.2.1 s → W p l e R s m args below meth c H locs ce sl Q (F0 m pc lsm (st.map (qz_tv z tA)))
theorem qz_r_iconst (hC : qz_Cx p s m args meth c z tA D cy k) {i : Int} (hd : decode (qz_b k) pc = .ok (.iconst i, 1)) (kk : qz_W p l e R s m args below meth c z tA D cy k Q ce sl (pc + 1) ls (.inl (Int32.ofInt i) :: st) M) : qz_W p l e R s m args below meth c z tA D cy k Q ce sl pc ls st M := fun H locs lsm hL hP hS hT => lv_iconst hC.1 hC.2.1 hd rfl (kk H locs lsm hL hP hS hT)
theorem qz_r_bipush (hC : qz_Cx p s m args meth c z tA D cy k) {i : Int} (hd : decode (qz_b k) pc = .ok (.bipush i, 2)) (kk : qz_W p l e R s m args below meth c z tA D cy k Q ce sl (pc + 2) ls (.inl (Int8.ofInt i).toInt32 :: st) M) : qz_W p l e R s m args below meth c z tA D cy k Q ce sl pc ls st M := fun H locs lsm hL hP hS hT => lv_bipush hC.1 hC.2.1 hd rfl (kk H locs lsm hL hP hS hT)
theorem qz_r_sipush (hC : qz_Cx p s m args meth c z tA D cy k) {i : Int} (hd : decode (qz_b k) pc = .ok (.sipush i, 3)) (kk : qz_W p l e R s m args below meth c z tA D cy k Q ce sl (pc + 3) ls (.inl (Int16.ofInt i).toInt32 :: st) M) : qz_W p l e R s m args below meth c z tA D cy k Q ce sl pc ls st M := fun H locs lsm hL hP hS hT => lv_sipush hC.1 hC.2.1 hd rfl (kk H locs lsm hL hP hS hT)
theorem qz_r_null (hC : qz_Cx p s m args meth c z tA D cy k) (hd : decode (qz_b k) pc = .ok (.aconst_null, 1)) (kk : qz_W p l e R s m args below meth c z tA D cy k Q ce sl (pc + 1) ls (.inr (.inl none) :: st) M) : qz_W p l e R s m args below meth c z tA D cy k Q ce sl pc ls st M := fun H locs lsm hL hP hS hT => lv_null hC.1 hC.2.1 hd (kk H locs lsm hL hP hS hT)
theorem qz_r_iload (hC : qz_Cx p s m args meth c z tA D cy k) {i : Nat} {x : Int32} (hd : decode (qz_b k) pc = .ok (.iload i, 2)) (hx : ls[i]? = some (some (.inl x))) (kk : qz_W p l e R s m args below meth c z tA D cy k Q ce sl (pc + 2) ls (.inl x :: st) M) : qz_W p l e R s m args below meth c z tA D cy k Q ce sl pc ls st M := fun H locs lsm hL hP hS hT => lv_iload hC.1 hC.2.1 hd (hL.at' hx rfl) (kk H locs lsm hL hP hS hT)
theorem qz_r_iload_n (hC : qz_Cx p s m args meth c z tA D cy k) {i : Fin 4} {x : Int32} (hd : decode (qz_b k) pc = .ok (.iload_n i, 1)) (hx : ls[i.val]? = some (some (.inl x))) (kk : qz_W p l e R s m args below meth c z tA D cy k Q ce sl (pc + 1) ls (.inl x :: st) M) : qz_W p l e R s m args below meth c z tA D cy k Q ce sl pc ls st M := fun H locs lsm hL hP hS hT => lv_iload_n hC.1 hC.2.1 hd rfl (hL.at' hx rfl) (kk H locs lsm hL hP hS hT)
theorem qz_r_aload (hC : qz_Cx p s m args meth c z tA D cy k) {i : Nat} {x : Option qz_N} (hd : decode (qz_b k) pc = .ok (.aload i, 2)) (hx : ls[i]? = some (some (.inr (.inl x)))) (kk : qz_W p l e R s m args below meth c z tA D cy k Q ce sl (pc + 2) ls (.inr (.inl x) :: st) M) : qz_W p l e R s m args below meth c z tA D cy k Q ce sl pc ls st M := by
  intro H locs lsm hL hP hS hT
  have h := hL.at' hx rfl
  have k1 := kk H locs lsm hL hP hS hT
  cases x with
  | none => exact lv_aloadN hC.1 hC.2.1 hd h k1
  | some n => exact lv_aload hC.1 hC.2.1 hd h k1
theorem qz_r_aload_n (hC : qz_Cx p s m args meth c z tA D cy k) {i : Fin 4} {x : Option qz_N} (hd : decode (qz_b k) pc = .ok (.aload_n i, 1)) (hx : ls[i.val]? = some (some (.inr (.inl x)))) (kk : qz_W p l e R s m args below meth c z tA D cy k Q ce sl (pc + 1) ls (.inr (.inl x) :: st) M) : qz_W p l e R s m args below meth c z tA D cy k Q ce sl pc ls st M := by
  intro H locs lsm hL hP hS hT
  have h := hL.at' hx rfl
  have k1 := kk H locs lsm hL hP hS hT
  cases x with
  | none => exact lv_aload_nN hC.1 hC.2.1 hd rfl h k1
  | some n => exact lv_aload_n hC.1 hC.2.1 hd rfl h k1
theorem qz_r_istore (hC : qz_Cx p s m args meth c z tA D cy k) {i : Nat} {x : Int32} (hd : decode (qz_b k) pc = .ok (.istore i, 2)) (hi : i < qz_ml k) (hg : qz_g2 (qz_ml k) ls i = true) (kk : qz_W p l e R s m args below meth c z tA D cy k Q ce sl (pc + 2) (ls.set i (some (.inl x))) st M) : qz_W p l e R s m args below meth c z tA D cy k Q ce sl pc ls (.inl x :: st) M := fun H locs lsm hL hP hS hT =>
  lv_istore hC.1 hC.2.1 hd hL.has hi rfl (fun lsm' h' => kk H locs lsm' (hL.set (v := .inl x) hi hg rfl h') hP hS hT)
theorem qz_r_istore_n (hC : qz_Cx p s m args meth c z tA D cy k) {i : Fin 4} {x : Int32} (hd : decode (qz_b k) pc = .ok (.istore_n i, 1)) (hi : i.val < qz_ml k) (hg : qz_g2 (qz_ml k) ls i.val = true) (kk : qz_W p l e R s m args below meth c z tA D cy k Q ce sl (pc + 1) (ls.set i.val (some (.inl x))) st M) : qz_W p l e R s m args below meth c z tA D cy k Q ce sl pc ls (.inl x :: st) M := fun H locs lsm hL hP hS hT =>
  lv_istore_n hC.1 hC.2.1 hd rfl hL.has hi rfl (fun lsm' h' => kk H locs lsm' (hL.set (v := .inl x) hi hg rfl h') hP hS hT)
theorem qz_r_astore (hC : qz_Cx p s m args meth c z tA D cy k) {i : Nat} {x : Option qz_N} (hd : decode (qz_b k) pc = .ok (.astore i, 2)) (hi : i < qz_ml k) (hg : qz_g2 (qz_ml k) ls i = true) (kk : qz_W p l e R s m args below meth c z tA D cy k Q ce sl (pc + 2) (ls.set i (some (.inr (.inl x)))) st M) : qz_W p l e R s m args below meth c z tA D cy k Q ce sl pc ls (.inr (.inl x) :: st) M := by
  intro H locs lsm hL hP hS hT
  cases x with
  | none => exact lv_astoreN hC.1 hC.2.1 hd hL.has hi rfl (fun lsm' h' => kk H locs lsm' (hL.set (v := .inr (.inl none)) hi hg rfl h') hP hS hT)
  | some n => exact lv_astore hC.1 hC.2.1 hd hL.has hi rfl (fun lsm' h' => kk H locs lsm' (hL.set (v := .inr (.inl (some n))) hi hg rfl h') hP hS hT)
theorem qz_r_astore_n (hC : qz_Cx p s m args meth c z tA D cy k) {i : Fin 4} {x : Option qz_N} (hd : decode (qz_b k) pc = .ok (.astore_n i, 1)) (hi : i.val < qz_ml k) (hg : qz_g2 (qz_ml k) ls i.val = true) (kk : qz_W p l e R s m args below meth c z tA D cy k Q ce sl (pc + 1) (ls.set i.val (some (.inr (.inl x)))) st M) : qz_W p l e R s m args below meth c z tA D cy k Q ce sl pc ls (.inr (.inl x) :: st) M := by
  intro H locs lsm hL hP hS hT
  cases x with
  | none => exact lv_astore_nN hC.1 hC.2.1 hd rfl hL.has hi rfl (fun lsm' h' => kk H locs lsm' (hL.set (v := .inr (.inl none)) hi hg rfl h') hP hS hT)
  | some n => exact lv_astore_n hC.1 hC.2.1 hd rfl hL.has hi rfl (fun lsm' h' => kk H locs lsm' (hL.set (v := .inr (.inl (some n))) hi hg rfl h') hP hS hT)
theorem qz_r_iinc (hC : qz_Cx p s m args meth c z tA D cy k) {i : Nat} {n : Int} {x : Int32} (hd : decode (qz_b k) pc = .ok (.iinc i n, 3)) (hx : ls[i]? = some (some (.inl x))) (hi : i < qz_ml k) (hg : qz_g2 (qz_ml k) ls i = true) (kk : qz_W p l e R s m args below meth c z tA D cy k Q ce sl (pc + 3) (ls.set i (some (.inl (x + Int32.ofInt n)))) st M) : qz_W p l e R s m args below meth c z tA D cy k Q ce sl pc ls st M := by
  intro H locs lsm hL hP hS hT
  obtain ⟨j, hj⟩ := List.getElem?_of_mem (qz_fu_mem.mpr (hL.at' hx rfl))
  exact lv_iinc hC.1 hC.2.1 hd hL.has hj rfl hi rfl (fun lsm' h' => kk H locs lsm' (hL.set (v := .inl _) hi hg rfl h') hP hS hT)
theorem qz_r_ldc (hC : qz_Cx p s m args meth c z tA D cy k) {i : Nat} {v : Int32} (hd : decode (qz_b k) pc = .ok (.ldc i, 2)) (hv : qz_k4 (qz_cn k) i = some v) (kk : qz_W p l e R s m args below meth c z tA D cy k Q ce sl (pc + 2) ls (.inl v :: st) M) : qz_W p l e R s m args below meth c z tA D cy k Q ce sl pc ls st M := fun H locs lsm hL hP hS hT =>
  W.ldc (g := F0 m pc lsm (st.map (qz_tv z tA))) hC.1 hC.2.1 hC.2.2.2.1 (hC.2.2.2.2.1 _ (qz_k4_ok hv)) rfl hd (kk H locs lsm hL hP hS hT)
theorem qz_r_ldc2 (hC : qz_Cx p s m args meth c z tA D cy k) {i : Nat} {v : Int64} (hd : decode (qz_b k) pc = .ok (.ldc2_w i, 3)) (hv : qz_k8 (qz_cn k) i = some v) (kk : qz_W p l e R s m args below meth c z tA D cy k Q ce sl (pc + 3) ls (.inr (.inr v) :: st) M) : qz_W p l e R s m args below meth c z tA D cy k Q ce sl pc ls st M := fun H locs lsm hL hP hS hT =>
  lv_ldc2 hC.1 hC.2.1 hC.2.2.2.1 (hC.2.2.2.2.1 _ (qz_k8_ok hv)) hd (kk H locs lsm hL hP hS hT)
theorem qz_r_lload (hC : qz_Cx p s m args meth c z tA D cy k) {i : Nat} {x : Int64} (hd : decode (qz_b k) pc = .ok (.lload i, 2)) (hx : ls[qz_ml k + i]? = some (some (.inr (.inr x)))) (kk : qz_W p l e R s m args below meth c z tA D cy k Q ce sl (pc + 2) ls (.inr (.inr x) :: st) M) : qz_W p l e R s m args below meth c z tA D cy k Q ce sl pc ls st M := fun H locs lsm hL hP hS hT => lv_lload hC.1 hC.2.1 hd (hL.atl hx) (kk H locs lsm hL hP hS hT)
theorem qz_r_lload_n (hC : qz_Cx p s m args meth c z tA D cy k) {i : Fin 4} {x : Int64} (hd : decode (qz_b k) pc = .ok (.lload_n i, 1)) (hx : ls[qz_ml k + i.val]? = some (some (.inr (.inr x)))) (kk : qz_W p l e R s m args below meth c z tA D cy k Q ce sl (pc + 1) ls (.inr (.inr x) :: st) M) : qz_W p l e R s m args below meth c z tA D cy k Q ce sl pc ls st M := fun H locs lsm hL hP hS hT => lv_lload_n hC.1 hC.2.1 hd rfl (hL.atl hx) (kk H locs lsm hL hP hS hT)
theorem qz_r_lstore (hC : qz_Cx p s m args meth c z tA D cy k) {i : Nat} {x : Int64} (hd : decode (qz_b k) pc = .ok (.lstore i, 2)) (hi : i + 1 < qz_ml k) (hg1 : qz_g1 (qz_ml k) ls (i + 1) = true) (hg3 : qz_g3 (qz_ml k) ls i = true) (kk : qz_W p l e R s m args below meth c z tA D cy k Q ce sl (pc + 2) (qz_sl' (qz_ml k) i ls x) st M) : qz_W p l e R s m args below meth c z tA D cy k Q ce sl pc ls (.inr (.inr x) :: st) M := fun H locs lsm hL hP hS hT =>
  lv_lstore hC.1 hC.2.1 hd hL.has hi rfl (fun lsm' h' => kk H locs lsm' (hL.setl hi hg1 hg3 h') hP hS hT)
theorem qz_r_lstore_n (hC : qz_Cx p s m args meth c z tA D cy k) {i : Fin 4} {x : Int64} (hd : decode (qz_b k) pc = .ok (.lstore_n i, 1)) (hi : i.val + 1 < qz_ml k) (hg1 : qz_g1 (qz_ml k) ls (i.val + 1) = true) (hg3 : qz_g3 (qz_ml k) ls i.val = true) (kk : qz_W p l e R s m args below meth c z tA D cy k Q ce sl (pc + 1) (qz_sl' (qz_ml k) i.val ls x) st M) : qz_W p l e R s m args below meth c z tA D cy k Q ce sl pc ls (.inr (.inr x) :: st) M := fun H locs lsm hL hP hS hT =>
  lv_lstore_n hC.1 hC.2.1 hd rfl hL.has hi rfl (fun lsm' h' => kk H locs lsm' (hL.setl hi hg1 hg3 h') hP hS hT)
theorem qz_r_ladd (hC : qz_Cx p s m args meth c z tA D cy k) {x y : Int64} (hd : decode (qz_b k) pc = .ok (.ladd, 1)) (kk : qz_W p l e R s m args below meth c z tA D cy k Q ce sl (pc + 1) ls (.inr (.inr (x + y)) :: st) M) : qz_W p l e R s m args below meth c z tA D cy k Q ce sl pc ls (.inr (.inr y) :: .inr (.inr x) :: st) M := fun H locs lsm hL hP hS hT => lv_ladd hC.1 hC.2.1 hd (kk H locs lsm hL hP hS hT)
theorem qz_r_lmul (hC : qz_Cx p s m args meth c z tA D cy k) {x y : Int64} (hd : decode (qz_b k) pc = .ok (.lmul, 1)) (kk : qz_W p l e R s m args below meth c z tA D cy k Q ce sl (pc + 1) ls (.inr (.inr (x * y)) :: st) M) : qz_W p l e R s m args below meth c z tA D cy k Q ce sl pc ls (.inr (.inr y) :: .inr (.inr x) :: st) M := fun H locs lsm hL hP hS hT => lv_lmul hC.1 hC.2.1 hd (kk H locs lsm hL hP hS hT)
theorem qz_r_i2l (hC : qz_Cx p s m args meth c z tA D cy k) {x : Int32} (hd : decode (qz_b k) pc = .ok (.i2l, 1)) (kk : qz_W p l e R s m args below meth c z tA D cy k Q ce sl (pc + 1) ls (.inr (.inr x.toInt64) :: st) M) : qz_W p l e R s m args below meth c z tA D cy k Q ce sl pc ls (.inl x :: st) M := fun H locs lsm hL hP hS hT => lv_i2l hC.1 hC.2.1 hd rfl (kk H locs lsm hL hP hS hT)
theorem qz_r_lcmp (hC : qz_Cx p s m args meth c z tA D cy k) {x y : Int64} (hd : decode (qz_b k) pc = .ok (.lcmp, 1)) (kk : qz_W p l e R s m args below meth c z tA D cy k Q ce sl (pc + 1) ls (.inl (lg_cmp x y) :: st) M) : qz_W p l e R s m args below meth c z tA D cy k Q ce sl pc ls (.inr (.inr y) :: .inr (.inr x) :: st) M := fun H locs lsm hL hP hS hT => W.lcmp hC.1 hC.2.1 hd (kk H locs lsm hL hP hS hT)
theorem qz_r_ishr (hC : qz_Cx p s m args meth c z tA D cy k) {x y : Int32} (hd : decode (qz_b k) pc = .ok (.ishr, 1)) (kk : qz_W p l e R s m args below meth c z tA D cy k Q ce sl (pc + 1) ls (.inl (x >>> (y &&& 31)) :: st) M) : qz_W p l e R s m args below meth c z tA D cy k Q ce sl pc ls (.inl y :: .inl x :: st) M := fun H locs lsm hL hP hS hT => lv_ishr hC.1 hC.2.1 hd (kk H locs lsm hL hP hS hT)
theorem qz_r_iadd (hC : qz_Cx p s m args meth c z tA D cy k) {x y : Int32} (hd : decode (qz_b k) pc = .ok (.iadd, 1)) (kk : qz_W p l e R s m args below meth c z tA D cy k Q ce sl (pc + 1) ls (.inl (x + y) :: st) M) : qz_W p l e R s m args below meth c z tA D cy k Q ce sl pc ls (.inl y :: .inl x :: st) M := fun H locs lsm hL hP hS hT => lv_iadd hC.1 hC.2.1 hd (kk H locs lsm hL hP hS hT)
theorem qz_r_isub (hC : qz_Cx p s m args meth c z tA D cy k) {x y : Int32} (hd : decode (qz_b k) pc = .ok (.isub, 1)) (kk : qz_W p l e R s m args below meth c z tA D cy k Q ce sl (pc + 1) ls (.inl (x - y) :: st) M) : qz_W p l e R s m args below meth c z tA D cy k Q ce sl pc ls (.inl y :: .inl x :: st) M := fun H locs lsm hL hP hS hT => lv_isub hC.1 hC.2.1 hd (kk H locs lsm hL hP hS hT)
theorem qz_r_imul (hC : qz_Cx p s m args meth c z tA D cy k) {x y : Int32} (hd : decode (qz_b k) pc = .ok (.imul, 1)) (kk : qz_W p l e R s m args below meth c z tA D cy k Q ce sl (pc + 1) ls (.inl (x * y) :: st) M) : qz_W p l e R s m args below meth c z tA D cy k Q ce sl pc ls (.inl y :: .inl x :: st) M := fun H locs lsm hL hP hS hT => lv_imul hC.1 hC.2.1 hd (kk H locs lsm hL hP hS hT)
theorem qz_r_iand (hC : qz_Cx p s m args meth c z tA D cy k) {x y : Int32} (hd : decode (qz_b k) pc = .ok (.iand, 1)) (kk : qz_W p l e R s m args below meth c z tA D cy k Q ce sl (pc + 1) ls (.inl (x &&& y) :: st) M) : qz_W p l e R s m args below meth c z tA D cy k Q ce sl pc ls (.inl y :: .inl x :: st) M := fun H locs lsm hL hP hS hT => lv_iand hC.1 hC.2.1 hd (kk H locs lsm hL hP hS hT)
theorem qz_r_idiv (hC : qz_Cx p s m args meth c z tA D cy k) {x y : Int32} (hd : decode (qz_b k) pc = .ok (.idiv, 1)) (hy : ¬ y = 0) (kk : qz_W p l e R s m args below meth c z tA D cy k Q ce sl (pc + 1) ls (.inl (x / y) :: st) M) : qz_W p l e R s m args below meth c z tA D cy k Q ce sl pc ls (.inl y :: .inl x :: st) M := fun H locs lsm hL hP hS hT => lv_idiv hC.1 hC.2.1 hd hy (kk H locs lsm hL hP hS hT)
theorem qz_r_irem (hC : qz_Cx p s m args meth c z tA D cy k) {x y : Int32} (hd : decode (qz_b k) pc = .ok (.irem, 1)) (hy : ¬ y = 0) (kk : qz_W p l e R s m args below meth c z tA D cy k Q ce sl (pc + 1) ls (.inl (x - x / y * y) :: st) M) : qz_W p l e R s m args below meth c z tA D cy k Q ce sl pc ls (.inl y :: .inl x :: st) M := fun H locs lsm hL hP hS hT => lv_irem hC.1 hC.2.1 hd hy (kk H locs lsm hL hP hS hT)
theorem qz_r_ineg (hC : qz_Cx p s m args meth c z tA D cy k) {x : Int32} (hd : decode (qz_b k) pc = .ok (.ineg, 1)) (kk : qz_W p l e R s m args below meth c z tA D cy k Q ce sl (pc + 1) ls (.inl (-x) :: st) M) : qz_W p l e R s m args below meth c z tA D cy k Q ce sl pc ls (.inl x :: st) M := fun H locs lsm hL hP hS hT => lv_ineg hC.1 hC.2.1 hd (kk H locs lsm hL hP hS hT)
theorem qz_r_i2c (hC : qz_Cx p s m args meth c z tA D cy k) {x : Int32} (hd : decode (qz_b k) pc = .ok (.i2c, 1)) (kk : qz_W p l e R s m args below meth c z tA D cy k Q ce sl (pc + 1) ls (.inl (x.toUInt32 % 65536).toInt32 :: st) M) : qz_W p l e R s m args below meth c z tA D cy k Q ce sl pc ls (.inl x :: st) M := fun H locs lsm hL hP hS hT => lv_i2c hC.1 hC.2.1 hd rfl (kk H locs lsm hL hP hS hT)
theorem qz_r_dup (hC : qz_Cx p s m args meth c z tA D cy k) {x : qz_V} (hx : qz_nl x = true) (hd : decode (qz_b k) pc = .ok (.dup, 1)) (kk : qz_W p l e R s m args below meth c z tA D cy k Q ce sl (pc + 1) ls (x :: x :: st) M) : qz_W p l e R s m args below meth c z tA D cy k Q ce sl pc ls (x :: st) M := fun H locs lsm hL hP hS hT => lv_dup hC.1 hC.2.1 hd (qz_tvc _ _ hx) (kk H locs lsm hL hP hS hT)
theorem qz_r_dup2 (hC : qz_Cx p s m args meth c z tA D cy k) {x y : qz_V} (hx : qz_nl x = true) (hy : qz_nl y = true) (hd : decode (qz_b k) pc = .ok (.dup2, 1)) (kk : qz_W p l e R s m args below meth c z tA D cy k Q ce sl (pc + 1) ls (x :: y :: x :: y :: st) M) : qz_W p l e R s m args below meth c z tA D cy k Q ce sl pc ls (x :: y :: st) M := fun H locs lsm hL hP hS hT => lv_dup2_11 hC.1 hC.2.1 hd (qz_tvc _ _ hx) (qz_tvc _ _ hy) (kk H locs lsm hL hP hS hT)
theorem qz_r_pop (hC : qz_Cx p s m args meth c z tA D cy k) {x : qz_V} (hx : qz_nl x = true) (hd : decode (qz_b k) pc = .ok (.pop, 1)) (kk : qz_W p l e R s m args below meth c z tA D cy k Q ce sl (pc + 1) ls st M) : qz_W p l e R s m args below meth c z tA D cy k Q ce sl pc ls (x :: st) M := fun H locs lsm hL hP hS hT => lv_pop hC.1 hC.2.1 hd (qz_tvc _ _ hx) (kk H locs lsm hL hP hS hT)
theorem qz_tg_eq {pc t : Nat} {off : Int} (h : qz_tg pc off = some t) : (pc : Int) + off = (t : Int) := by
  unfold qz_tg at h
  split at h
  · cases h; omega
  · cases h
/-- a branch: by its condition -/
theorem qz_br_inv {b : Bool} {off : Int} {pc' : Nat} {ls' : List (Option qz_V)} {st' : List qz_V} {M' : qz_M} (hs : qz_br b pc off ls st M = some (pc', ls', st', M')) : ∃ t : Nat, (pc : Int) + off = (t : Int) ∧ ls' = ls ∧ st' = st ∧ M' = M ∧ ((b = true ∧ pc' = t) ∨ (b = false ∧ pc' = pc + 3)) := by
  unfold qz_br at hs
  split at hs
  · next t ht =>
    split at hs
    · next hb => cases hs; exact ⟨_, qz_tg_eq ht, rfl, rfl, rfl, Or.inl ⟨hb, rfl⟩⟩
    · next hb => cases hs; exact ⟨_, qz_tg_eq ht, rfl, rfl, rfl, Or.inr ⟨by simpa using hb, rfl⟩⟩
  · cases hs
theorem qz_r_if (hC : qz_Cx p s m args meth c z tA D cy k) {cd : ClassFile.Cond} {off : Int} {x : Int32} {pc' : Nat} {ls' : List (Option qz_V)} {st' : List qz_V} {M' : qz_M} (hd : decode (qz_b k) pc = .ok (.ifCond cd off, 3)) (hs : qz_br (qz_cd cd x 0) pc off ls st M = some (pc', ls', st', M')) (kk : qz_W p l e R s m args below meth c z tA D cy k Q ce sl pc' ls' st' M') : qz_W p l e R s m args below meth c z tA D cy k Q ce sl pc ls (.inl x :: st) M := by
  intro H locs lsm hL hP hS hT
  obtain ⟨t, ht, rfl, rfl, rfl, hb⟩ := qz_br_inv hs
  have k1 := kk H locs lsm hL hP hS hT
  cases cd with
  | eq => exact lv_if_eq hC.1 hC.2.1 hd ht (fun q => by rcases hb with ⟨h1, rfl⟩ | ⟨h1, rfl⟩ <;> first | exact k1 | (simp [qz_cd] at h1; exact absurd q h1)) (fun q => by rcases hb with ⟨h1, rfl⟩ | ⟨h1, rfl⟩ <;> first | (simp [qz_cd] at h1; exact absurd h1 q) | exact k1)
  | ne => exact lv_if_ne hC.1 hC.2.1 hd ht (fun q => by rcases hb with ⟨h1, rfl⟩ | ⟨h1, rfl⟩ <;> first | exact k1 | (simp [qz_cd] at h1; exact absurd h1 q)) (fun q => by rcases hb with ⟨h1, rfl⟩ | ⟨h1, rfl⟩ <;> first | (simp [qz_cd] at h1; exact absurd q h1) | exact k1)
  | lt => exact lv_if_lt hC.1 hC.2.1 hd ht (fun q => by rcases hb with ⟨h1, rfl⟩ | ⟨h1, rfl⟩ <;> first | exact k1 | exact absurd q (of_decide_eq_false h1)) (fun q => by rcases hb with ⟨h1, rfl⟩ | ⟨h1, rfl⟩ <;> first | exact absurd (of_decide_eq_true h1) q | exact k1)
  | ge => exact lv_if_ge hC.1 hC.2.1 hd ht (fun q => by rcases hb with ⟨h1, rfl⟩ | ⟨h1, rfl⟩ <;> first | exact k1 | exact absurd q (of_decide_eq_false h1)) (fun q => by rcases hb with ⟨h1, rfl⟩ | ⟨h1, rfl⟩ <;> first | exact absurd (of_decide_eq_true h1) q | exact k1)
  | gt => exact lv_if_gt hC.1 hC.2.1 hd ht (fun q => by rcases hb with ⟨h1, rfl⟩ | ⟨h1, rfl⟩ <;> first | exact k1 | exact absurd q (of_decide_eq_false h1)) (fun q => by rcases hb with ⟨h1, rfl⟩ | ⟨h1, rfl⟩ <;> first | exact absurd (of_decide_eq_true h1) q | exact k1)
  | le => exact lv_if_le hC.1 hC.2.1 hd ht (fun q => by rcases hb with ⟨h1, rfl⟩ | ⟨h1, rfl⟩ <;> first | exact k1 | exact absurd q (of_decide_eq_false h1)) (fun q => by rcases hb with ⟨h1, rfl⟩ | ⟨h1, rfl⟩ <;> first | exact absurd (of_decide_eq_true h1) q | exact k1)
theorem qz_r_icmp (hC : qz_Cx p s m args meth c z tA D cy k) {cd : ClassFile.Cond} {off : Int} {x y : Int32} {pc' : Nat} {ls' : List (Option qz_V)} {st' : List qz_V} {M' : qz_M} (hd : decode (qz_b k) pc = .ok (.if_icmp cd off, 3)) (hs : qz_br (qz_cd cd x y) pc off ls st M = some (pc', ls', st', M')) (kk : qz_W p l e R s m args below meth c z tA D cy k Q ce sl pc' ls' st' M') : qz_W p l e R s m args below meth c z tA D cy k Q ce sl pc ls (.inl y :: .inl x :: st) M := by
  intro H locs lsm hL hP hS hT
  obtain ⟨t, ht, rfl, rfl, rfl, hb⟩ := qz_br_inv hs
  have k1 := kk H locs lsm hL hP hS hT
  cases cd with
  | eq => exact lv_icmp_eq hC.1 hC.2.1 hd ht (fun q => by rcases hb with ⟨h1, rfl⟩ | ⟨h1, rfl⟩ <;> first | exact k1 | exact absurd q (of_decide_eq_false h1)) (fun q => by rcases hb with ⟨h1, rfl⟩ | ⟨h1, rfl⟩ <;> first | exact absurd (of_decide_eq_true h1) q | exact k1)
  | ne => exact lv_icmp_ne hC.1 hC.2.1 hd ht (fun q => by rcases hb with ⟨h1, rfl⟩ | ⟨h1, rfl⟩ <;> first | exact k1 | exact absurd q (of_decide_eq_false h1)) (fun q => by rcases hb with ⟨h1, rfl⟩ | ⟨h1, rfl⟩ <;> first | exact absurd q (of_decide_eq_true h1) | exact k1)
  | lt => exact lv_icmp_lt hC.1 hC.2.1 hd ht (fun q => by rcases hb with ⟨h1, rfl⟩ | ⟨h1, rfl⟩ <;> first | exact k1 | exact absurd q (of_decide_eq_false h1)) (fun q => by rcases hb with ⟨h1, rfl⟩ | ⟨h1, rfl⟩ <;> first | exact absurd (of_decide_eq_true h1) q | exact k1)
  | ge => exact lv_icmp_ge hC.1 hC.2.1 hd ht (fun q => by rcases hb with ⟨h1, rfl⟩ | ⟨h1, rfl⟩ <;> first | exact k1 | exact absurd q (of_decide_eq_false h1)) (fun q => by rcases hb with ⟨h1, rfl⟩ | ⟨h1, rfl⟩ <;> first | exact absurd (of_decide_eq_true h1) q | exact k1)
  | gt => exact lv_icmp_gt hC.1 hC.2.1 hd ht (fun q => by rcases hb with ⟨h1, rfl⟩ | ⟨h1, rfl⟩ <;> first | exact k1 | exact absurd q (of_decide_eq_false h1)) (fun q => by rcases hb with ⟨h1, rfl⟩ | ⟨h1, rfl⟩ <;> first | exact absurd (of_decide_eq_true h1) q | exact k1)
  | le => exact lv_icmp_le hC.1 hC.2.1 hd ht (fun q => by rcases hb with ⟨h1, rfl⟩ | ⟨h1, rfl⟩ <;> first | exact k1 | exact absurd q (of_decide_eq_false h1)) (fun q => by rcases hb with ⟨h1, rfl⟩ | ⟨h1, rfl⟩ <;> first | exact absurd (of_decide_eq_true h1) q | exact k1)
theorem qz_ad_inj (h1 : qz_Kx z tA D cy s) {o : Nat} {H : Heap} (hz : H.size = z + o) {f : qz_N → Nat → Int32} (hT : qz_St z tA f s) {x y : Option qz_N} (hx : ∀ n, x = some n → n.1 < 30 ∧ qz_lv o n) (hy : ∀ n, y = some n → n.1 < 30 ∧ qz_lv o n) (h : x.map (qz_ad z tA) = y.map (qz_ad z tA)) : x = y := by
  cases x with
  | none => cases y with
    | none => rfl
    | some b => simp at h
  | some a => cases y with
    | none => simp at h
    | some b =>
      obtain ⟨ha, ha'⟩ := hx a rfl
      obtain ⟨hb, hb'⟩ := hy b rfl
      simp only [Option.map_some, Option.some.injEq] at h
      rw [qz_ad_dyn ha, qz_ad_dyn hb] at h
      rw [qz_ix_inj (qz_dyn ha' ha).1 (qz_dyn hb' hb).1 (by omega)]
theorem qz_r_acmp (hC : qz_Cx p s m args meth c z tA D cy k) {off : Int} {x y : Option qz_N} {pc' : Nat} {ls' : List (Option qz_V)} {st' : List qz_V} {M' : qz_M} (hx : ∀ n, x = some n → n.1 < 30 ∧ qz_lv M.1 n) (hy : ∀ n, y = some n → n.1 < 30 ∧ qz_lv M.1 n) (hd : decode (qz_b k) pc = .ok (.if_acmp .eq off, 3)) (hs : qz_br (decide (x = y)) pc off ls st M = some (pc', ls', st', M')) (kk : qz_W p l e R s m args below meth c z tA D cy k Q ce sl pc' ls' st' M') : qz_W p l e R s m args below meth c z tA D cy k Q ce sl pc ls (.inr (.inl y) :: .inr (.inl x) :: st) M := by
  intro H locs lsm hL hP hS hT
  obtain ⟨t, ht, rfl, rfl, rfl, hb⟩ := qz_br_inv hs
  have k1 := kk H locs lsm hL hP hS hT
  exact lv_acmp_eq (rx := x.map (qz_ad z tA)) (ry := y.map (qz_ad z tA)) hC.1 hC.2.1 hd ht
    (fun q => by
      have q := qz_ad_inj hC.2.2.2.2.2.2.1 hP.1 hT hx hy q
      rcases hb with ⟨h1, rfl⟩ | ⟨h1, rfl⟩
      · exact k1
      · exact absurd q (of_decide_eq_false h1))
    (fun q => by
      rcases hb with ⟨h1, rfl⟩ | ⟨h1, rfl⟩
      · exact absurd (by rw [of_decide_eq_true h1]) q
      · exact k1)
theorem qz_r_ifnull (hC : qz_Cx p s m args meth c z tA D cy k) {off : Int} {x : Option qz_N} {pc' : Nat} {ls' : List (Option qz_V)} {st' : List qz_V} {M' : qz_M} (hd : decode (qz_b k) pc = .ok (.ifnull off, 3)) (hs : qz_br (decide (x = none)) pc off ls st M = some (pc', ls', st', M')) (kk : qz_W p l e R s m args below meth c z tA D cy k Q ce sl pc' ls' st' M') : qz_W p l e R s m args below meth c z tA D cy k Q ce sl pc ls (.inr (.inl x) :: st) M := by
  intro H locs lsm hL hP hS hT
  obtain ⟨t, ht, rfl, rfl, rfl, hb⟩ := qz_br_inv hs
  have k1 := kk H locs lsm hL hP hS hT
  cases x with
  | none =>
    rcases hb with ⟨-, rfl⟩ | ⟨h1, -⟩
    · exact lv_ifnullN hC.1 hC.2.1 hd ht k1
    · simp at h1
  | some n =>
    rcases hb with ⟨h1, -⟩ | ⟨-, rfl⟩
    · simp at h1
    · exact lv_ifnull hC.1 hC.2.1 hd k1
theorem qz_r_ifnonnull (hC : qz_Cx p s m args meth c z tA D cy k) {off : Int} {x : Option qz_N} {pc' : Nat} {ls' : List (Option qz_V)} {st' : List qz_V} {M' : qz_M} (hd : decode (qz_b k) pc = .ok (.ifnonnull off, 3)) (hs : qz_br (decide (¬ x = none)) pc off ls st M = some (pc', ls', st', M')) (kk : qz_W p l e R s m args below meth c z tA D cy k Q ce sl pc' ls' st' M') : qz_W p l e R s m args below meth c z tA D cy k Q ce sl pc ls (.inr (.inl x) :: st) M := by
  intro H locs lsm hL hP hS hT
  obtain ⟨t, ht, rfl, rfl, rfl, hb⟩ := qz_br_inv hs
  have k1 := kk H locs lsm hL hP hS hT
  cases x with
  | none =>
    rcases hb with ⟨h1, -⟩ | ⟨-, rfl⟩
    · simp at h1
    · exact lv_ifnonnullN hC.1 hC.2.1 hd k1
  | some n =>
    rcases hb with ⟨-, rfl⟩ | ⟨h1, -⟩
    · exact lv_ifnonnull hC.1 hC.2.1 hd ht k1
    · simp at h1
theorem qz_r_goto (hC : qz_Cx p s m args meth c z tA D cy k) {off : Int} {t : Nat} (hd : decode (qz_b k) pc = .ok (.goto off, 3)) (ht : qz_tg pc off = some t) (kk : qz_W p l e R s m args below meth c z tA D cy k Q ce sl t ls st M) : qz_W p l e R s m args below meth c z tA D cy k Q ce sl pc ls st M := fun H locs lsm hL hP hS hT => lv_goto hC.1 hC.2.1 hd (qz_tg_eq ht) (kk H locs lsm hL hP hS hT)
theorem qz_r_tabO (hC : qz_Cx p s m args meth c z tA D cy k) {d lo hi : Int} {offs : Array Int} {len t : Nat} {x : Int32} (hd : decode (qz_b k) pc = .ok (.tableswitch d lo hi offs, len)) (h : x.toInt < lo ∨ hi < x.toInt) (ht : qz_tg pc d = some t) (kk : qz_W p l e R s m args below meth c z tA D cy k Q ce sl t ls st M) : qz_W p l e R s m args below meth c z tA D cy k Q ce sl pc ls (.inl x :: st) M := fun H locs lsm hL hP hS hT => lv_tableOut hC.1 hC.2.1 hd h (qz_tg_eq ht) (kk H locs lsm hL hP hS hT)
theorem qz_r_tabI (hC : qz_Cx p s m args meth c z tA D cy k) {d lo hi off : Int} {offs : Array Int} {len t : Nat} {x : Int32} (hd : decode (qz_b k) pc = .ok (.tableswitch d lo hi offs, len)) (h : ¬ (x.toInt < lo ∨ hi < x.toInt)) (ho : offs[(x.toInt - lo).toNat]? = some off) (ht : qz_tg pc off = some t) (kk : qz_W p l e R s m args below meth c z tA D cy k Q ce sl t ls st M) : qz_W p l e R s m args below meth c z tA D cy k Q ce sl pc ls (.inl x :: st) M := fun H locs lsm hL hP hS hT => lv_tableIn hC.1 hC.2.1 hd (fun q => h (Or.inl q)) (fun q => h (Or.inr q)) ho (qz_tg_eq ht) (kk H locs lsm hL hP hS hT)
/-! fields -/
theorem qz_fget {N j : Nat} (g : Nat → Value) (hj : j < N) : ((List.range N).map g)[j]? = some (g j) := by rw [List.getElem?_map, List.getElem?_range hj]; rfl
theorem qz_r_getf (hC : qz_Cx p s m args meth c z tA D cy k) {i j : Nat} {n : qz_N} (hd : decode (qz_b k) pc = .ok (.getfield i, 3)) (hf : qz_fl (qz_cn k) i = some (n.1, j)) (hn : qz_lv M.1 n) (kk : qz_W p l e R s m args below meth c z tA D cy k Q ce sl (pc + 3) ls ((if qz_rf n.1 j = true then .inr (.inl (M.2.2 n j)) else .inl (M.2.1 n j)) :: st) M) : qz_W p l e R s m args below meth c z tA D cy k Q ce sl pc ls (.inr (.inl (some n)) :: st) M := by
  intro H locs lsm hL hP hS hT
  obtain ⟨h7, hj, hw⟩ := qz_fl_ok hf
  simp only at h7 hj hw
  obtain ⟨c1, c2, -, -, -, -, -⟩ := qz_co h7
  obtain ⟨hv, hi⟩ := qz_dyn hn (by omega)
  have hat := hP.2 n hv hi
  have he : qz_ce z tA cy M n = .inr (n.1, (List.range (qz_nf n.1)).map (fun j => if qz_rf n.1 j = true then va_rf ((M.2.2 n j).map (qz_ad z tA)) else .int (M.2.1 n j))) := if_pos h7
  rw [he] at hat
  have k1 := kk H locs lsm hL hP hS hT
  have e1 : (Value.ref (qz_ad z tA n)) = .ref (z + qz_ix n) := by rw [qz_ad_dyn (by omega)]
  show W p l e R s m args below meth c H locs ce sl Q (F0 m pc lsm (Value.ref (qz_ad z tA n) :: st.map (qz_tv z tA)))
  rw [e1]
  refine va_get (D := D) (ci := n.1) hC.1 hC.2.1 hC.2.2.2.2.1 c2 hC.2.2.2.1 hC.2.2.2.2.2.2.1.1 (qz_one hat) 0 rfl c1 j hj (hC.2.2.2.2.1 _ hw) (fun _ h9 => h9) (qz_fget _ hj) hd ?_
  rw [List.map_cons] at k1
  by_cases hr : qz_rf n.1 j = true
  · rw [if_pos hr] at k1 ⊢; exact k1
  · rw [if_neg hr] at k1 ⊢; exact k1
theorem qz_r_putfi (hC : qz_Cx p s m args meth c z tA D cy k) {i j : Nat} {n : qz_N} {x : Int32} (hd : decode (qz_b k) pc = .ok (.putfield i, 3)) (hf : qz_fl (qz_cn k) i = some (n.1, j)) (hn : qz_lv M.1 n) (hr : qz_rf n.1 j = false) (hb : qz_bl n.1 j = true → x = 0 ∨ x = 1) (hfn : qz_fn n.1 j = false) (kk : qz_W p l e R s m args below meth c z tA D cy k Q ce sl (pc + 3) ls st (qz_ui M n j x)) : qz_W p l e R s m args below meth c z tA D cy k Q ce sl pc ls (.inl x :: .inr (.inl (some n)) :: st) M := by
  intro H locs lsm hL hP hS hT
  obtain ⟨h7, hj, hw⟩ := qz_fl_ok hf
  simp only at h7 hj hw
  obtain ⟨c1, c2, c3, c4, -, -, c7⟩ := qz_co h7
  obtain ⟨hv, hi⟩ := qz_dyn hn (by omega)
  have hat := hP.2 n hv hi
  have he : qz_ce z tA cy M n = .inr (n.1, (List.range (qz_nf n.1)).map (fun j => if qz_rf n.1 j = true then va_rf ((M.2.2 n j).map (qz_ad z tA)) else .int (M.2.1 n j))) := if_pos h7
  rw [he] at hat
  have he' : qz_ce z tA cy (qz_ui M n j x) n = .inr (n.1, ((List.range (qz_nf n.1)).map (fun j => if qz_rf n.1 j = true then va_rf ((M.2.2 n j).map (qz_ad z tA)) else .int (M.2.1 n j))).set j (.int x)) := by
    unfold qz_ce
    rw [if_pos h7]
    congr 2
    refine qz_fs_set _ _ _ _ _ ?_ ?_
    · rw [if_neg (by rw [hr]; decide)]
      show Value.int (if n = n ∧ j = j then x else _) = _
      rw [if_pos ⟨rfl, rfl⟩]
    · intro i hi
      have e9 : (qz_ui M n j x).2.1 n i = M.2.1 n i := if_neg (fun q => hi q.2)
      rw [e9]
      rfl
  have e1 : (Value.ref (qz_ad z tA n)) = .ref (z + qz_ix n) := by rw [qz_ad_dyn (by omega)]
  show W p l e R s m args below meth c H locs ce sl Q (F0 m pc lsm (.int x :: Value.ref (qz_ad z tA n) :: st.map (qz_tv z tA)))
  rw [e1]
  obtain ⟨hx, hbb, hml, hown, hts, -, hK, hz⟩ := hC
  obtain ⟨r, g1, cell, q1, q2, q3, q4⟩ := hat
  have hrr : r = (qz_ow n.1, qz_T n.1, qz_nf n.1) := Option.some.inj (g1.symm.trans c1)
  subst hrr
  have hap := va_apart (own := qz_ow (qz_cn k)) hts c2 (qz_ty n.1) c3 c4 hK.1 c1
  obtain ⟨hSl, hfc, kC, hkC, hkind⟩ := hK.1.1 n.1 _ c1
  obtain ⟨cf, kf, fi, f, hif, hsl⟩ := hSl j hj
  have hlay := hts _ (c2 _ (u_in_lay hj))
  unfold u_lay at hlay
  rw [if_neg (by rw [(c7 j hj).2, hfn]; decide)] at hlay
  have hst := (u_facts hfc hkC (u_lays hts c2 hj) hif).1
  have hnar : narrow (qz_ty n.1 j) (.int x) = .int x ∧ fits (qz_ty n.1 j) (.int x) = true := by
    rcases qz_fit n.1 h7 j hj hr with ⟨h1, h2⟩ | ⟨h1, h2⟩
    · rw [h2]
      rcases hb h1 with rfl | rfl <;> exact ⟨rfl, rfl⟩
    · rw [h2]; exact ⟨rfl, rfl⟩
  have h6 := u_store hfc hkC hkind hlay hif (c3 j hj) hnar.1 hnar.2
  refine W.putK hx hbb (f := f) ⟨hown, hts _ hw, ⟨_, _, _, hif⟩, hst⟩ (by rw [q2]; exact h6) q1 q3 (by rw [hsl]; exact k2_hasslot (q4 j hj)) rfl rfl hd fun H' e1 e2 e3 => ?_
  rw [hsl] at e1 ⊢
  refine kk H' _ lsm hL (hP.set hv rfl (fun n' e => qz_ce_ui e) ?_ e2 e3) (hS.put e2 e3 (Nat.le_add_right _ _)) (hT.same (fun n' hn' => (qz_le_ui (by omega) _ _).2 n' hn'))
  rw [he']
  exact ⟨_, c1, t_OB.to (V := updV (vp_V _) j (.int x)) ⟨_, e1, q2, q3, t_set q4 hap hj (.int x)⟩ (fun i _ => vp_updV_set (by simpa using hj) (.int x) i)⟩
theorem qz_r_putfr (hC : qz_Cx p s m args meth c z tA D cy k) {i j : Nat} {n : qz_N} {x : Option qz_N} (hd : decode (qz_b k) pc = .ok (.putfield i, 3)) (hf : qz_fl (qz_cn k) i = some (n.1, j)) (hn : qz_lv M.1 n) (hr : qz_rf n.1 j = true) (hfn : qz_fn n.1 j = true) (hini : qz_ini k = true) (hcn : n.1 = qz_cn k) (kk : qz_W p l e R s m args below meth c z tA D cy k Q ce sl (pc + 3) ls st (qz_ur M n j x)) : qz_W p l e R s m args below meth c z tA D cy k Q ce sl pc ls (.inr (.inl x) :: .inr (.inl (some n)) :: st) M := by
  intro H locs lsm hL hP hS hT
  obtain ⟨h7, hj, hw⟩ := qz_fl_ok hf
  simp only at h7 hj hw
  obtain ⟨c1, c2, c3, c4, -, -, c7⟩ := qz_co h7
  obtain ⟨hv, hi⟩ := qz_dyn hn (by omega)
  have hat := hP.2 n hv hi
  have he : qz_ce z tA cy M n = .inr (n.1, (List.range (qz_nf n.1)).map (fun j => if qz_rf n.1 j = true then va_rf ((M.2.2 n j).map (qz_ad z tA)) else .int (M.2.1 n j))) := if_pos h7
  rw [he] at hat
  have he' : qz_ce z tA cy (qz_ur M n j x) n = .inr (n.1, ((List.range (qz_nf n.1)).map (fun j => if qz_rf n.1 j = true then va_rf ((M.2.2 n j).map (qz_ad z tA)) else .int (M.2.1 n j))).set j (va_rf (x.map (qz_ad z tA)))) := by
    unfold qz_ce
    rw [if_pos h7]
    congr 2
    refine qz_fs_set _ _ _ _ _ ?_ ?_
    · rw [if_pos hr]
      show va_rf (Option.map _ (if n = n ∧ j = j then x else _)) = _
      rw [if_pos ⟨rfl, rfl⟩]
    · intro i hi
      have e9 : (qz_ur M n j x).2.2 n i = M.2.2 n i := if_neg (fun q => hi q.2)
      rw [e9]
      rfl
  have e1 : (Value.ref (qz_ad z tA n)) = .ref (z + qz_ix n) := by rw [qz_ad_dyn (by omega)]
  show W p l e R s m args below meth c H locs ce sl Q (F0 m pc lsm (va_rf (x.map (qz_ad z tA)) :: Value.ref (qz_ad z tA n) :: st.map (qz_tv z tA)))
  rw [e1]
  obtain ⟨hx, hbb, hml, hown, hts, hin2, hK, hz⟩ := hC
  obtain ⟨r, g1, cell, q1, q2, q3, q4⟩ := hat
  have hrr : r = (qz_ow n.1, qz_T n.1, qz_nf n.1) := Option.some.inj (g1.symm.trans c1)
  subst hrr
  have hap := va_apart (own := qz_ow (qz_cn k)) hts c2 (qz_ty n.1) c3 c4 hK.1 c1
  obtain ⟨hSl, hfc, kC, hkC, hkind⟩ := hK.1.1 n.1 _ c1
  obtain ⟨cf, kf, fi, f, hif, hsl⟩ := hSl j hj
  have hlay := hts _ (c2 _ (u_in_lay hj))
  unfold u_lay at hlay
  rw [if_pos (by rw [(c7 j hj).2, hfn])] at hlay
  have hst := (u_facts hfc hkC (u_lays hts c2 hj) hif).1
  have hcf : m.cls = cf := by
    obtain ⟨_, _, c', _, _, _, -, -, hf', -, -, -, hown2, -⟩ := Cond.laysFinal_spec hlay
    have e1 : c' = cf := by have := hif.symm.trans hf'; simp at this; exact this.1.symm
    rw [(c7 j hj).1, hcn] at hown2
    rw [← e1]; exact Option.some.inj (hown.symm.trans hown2)
  have hnar : narrow (qz_ty n.1 j) (va_rf (x.map (qz_ad z tA))) = va_rf (x.map (qz_ad z tA)) ∧ fits (qz_ty n.1 j) (va_rf (x.map (qz_ad z tA))) = true := by
    rcases qz_fitR n.1 h7 j hj hr with ⟨C, h2⟩ | ⟨t, h2⟩ <;> rw [h2] <;> cases x <;> exact ⟨rfl, rfl⟩
  have h6 := u_fits hfc hkC hkind (Or.inr hlay) hif (c3 j hj) hnar.1 hnar.2
  refine W.putFinK hx hbb hown (hts _ hw) hif hst hcf (hin2 hini) (by rw [q2]; exact h6) q1 q3 (by rw [hsl]; exact k2_hasslot (q4 j hj)) rfl rfl hd fun H' e1 e2 e3 => ?_
  rw [hsl] at e1 ⊢
  refine kk H' _ lsm hL (hP.set hv rfl (fun n' e => qz_ce_ur e) ?_ e2 e3) (hS.put e2 e3 (Nat.le_add_right _ _)) hT
  rw [he']
  exact ⟨_, c1, t_OB.to (V := updV (vp_V _) j _) ⟨_, e1, q2, q3, t_set q4 hap hj _⟩ (fun i _ => vp_updV_set (by simpa using hj) _ i)⟩
theorem qz_r_getst (hC : qz_Cx p s m args meth c z tA D cy k) {i t : Nat} (hd : decode (qz_b k) pc = .ok (.getstatic i, 3)) (hf : qz_st (qz_cn k) i = some t) (kk : qz_W p l e R s m args below meth c z tA D cy k Q ce sl (pc + 3) ls (.inr (.inl (some (t, 0, 0))) :: st) M) : qz_W p l e R s m args below meth c z tA D cy k Q ce sl pc ls st M := by
  intro H locs lsm hL hP hS hT
  have k1 := kk H locs lsm hL hP hS hT
  obtain ⟨hx, hbb, hml, hown, hts, hin2, hK, hz⟩ := hC
  generalize hck : qz_cn k = ck at hf hown
  unfold qz_st at hf
  split at hf
  · cases hf
    exact va_getsN hx hbb (hK.2.1 30 (by omega) (by omega)) hS hown (va_Nw.use rfl hK.2.2.2.1) (fun _ h => h) hd k1
  · cases hf
    exact va_gets hx hbb (hK.2.1 31 (by omega) (by omega)) hS hown (hts _ qz_sf_5_208) (fun _ h => h) hd k1
  · cases hf
    exact va_gets hx hbb (hK.2.1 32 (by omega) (by omega)) hS hown (hts _ qz_sf_5_212) (fun _ h => h) hd k1
  · cases hf
end QZR
end
section
/-! arrays, and what is made -/
section QZA
variable {p : Program} {l : Launch} {e : Env} {R : Room} {s : State} {m : MethodId} {args : Array Value} {below : List Frame} {meth : Method} {c : Code} {Q : State → Prop}
variable {z : Nat} {tA : Nat → Nat} {D : va_G} {cy : Nat → ClassId} {k : Nat}
variable {ce sl pc : Nat} {ls : List (Option qz_V)} {st : List qz_V} {M : qz_M}
theorem qz_atd {t : Nat} {n : qz_N} (h : qz_at n.1 = t) (ht : ¬ t = 0) (ht1 : ¬ t = 1) {o : Nat} (hn : qz_lv o n) : n.1 < 30 := by
  rcases Nat.lt_or_ge n.1 30 with q | q
  · exact q
  · exfalso
    obtain ⟨h1, h2, -⟩ := qz_sta hn (by omega)
    have : ∀ k : Nat, k < 34 → 30 ≤ k → qz_at k = 1 := by decide
    have := this n.1 (by omega) h1
    omega
theorem qz_cei {t : Nat} {n : qz_N} (h : qz_at n.1 = t) (h1 : 1 ≤ t) (h4 : t < 4) : qz_ce z tA cy M n = .inl (cy t, qz_al n.1, .inl (M.2.1 n)) := by
  have h7 : 7 ≤ n.1 := qz_at0 (by omega)
  unfold qz_ce
  rw [if_neg (by omega), if_pos (by omega), h]
theorem qz_ceq {t : Nat} {n : qz_N} (h : qz_at n.1 = t) (h4 : 4 ≤ t) : qz_ce z tA cy M n = .inl (cy t, qz_al n.1, .inr (.inr (.inr (.inr (fun j => (M.2.2 n j).map (qz_ad z tA)))))) := by
  have h7 : 7 ≤ n.1 := qz_at0 (by omega)
  unfold qz_ce
  rw [if_neg (by omega), if_neg (by omega), h]
theorem qz_lnd {f : qz_N → Nat → Int32} {n : qz_N} (h : n.1 < 30) : qz_ln f n = qz_al n.1 := if_neg (by omega)
theorem qz_adr {n : qz_N} (h : n.1 < 30) : (Value.ref (qz_ad z tA n)) = .ref (z + qz_ix n) := by rw [qz_ad_dyn h]
theorem qz_r_iald (hC : qz_Cx p s m args meth c z tA D cy k) {i : Int32} {n : qz_N} (hd : decode (qz_b k) pc = .ok (.iaload, 1)) (ht : qz_at n.1 = 1) (hi : qz_xi i (qz_ln M.2.1 n) = true) (hn : qz_lv M.1 n) (kk : qz_W p l e R s m args below meth c z tA D cy k Q ce sl (pc + 1) ls (.inl (M.2.1 n i.toNatClampNeg) :: st) M) : qz_W p l e R s m args below meth c z tA D cy k Q ce sl pc ls (.inl i :: .inr (.inl (some n)) :: st) M := by
  intro H locs lsm hL hP hS hT
  have k1 := kk H locs lsm hL hP hS hT
  show W p l e R s m args below meth c H locs ce sl Q (F0 m pc lsm (.int i :: Value.ref (qz_ad z tA n) :: st.map (qz_tv z tA)))
  rcases Nat.lt_or_ge n.1 30 with q | q
  · obtain ⟨hv, hx⟩ := qz_dyn hn q
    have hat := hP.2 n hv hx
    rw [qz_cei ht (by omega) (by omega)] at hat
    rw [qz_adr q]
    rw [qz_lnd q] at hi
    exact va_iald (D := D) hC.1 hC.2.1 hC.2.2.2.2.2.2.1.1 (qz_one hat) 0 0 rfl rfl (qz_xi_in hi) hd k1
  · obtain ⟨h1, h2, e1⟩ := qz_sta hn (by omega)
    have hT1 := hT n.1 h1 h2
    rw [← e1] at hT1
    have e2 : qz_ad z tA n = tA n.1 := if_neg (by omega)
    rw [e2]
    exact va_ti hC.1 hC.2.1 hT1 hS (qz_xi_in hi) rfl hd k1
theorem qz_r_cald (hC : qz_Cx p s m args meth c z tA D cy k) {i : Int32} {n : qz_N} (hd : decode (qz_b k) pc = .ok (.caload, 1)) (ht : qz_at n.1 = 2) (hi : qz_xi i (qz_ln M.2.1 n) = true) (hn : qz_lv M.1 n) (kk : qz_W p l e R s m args below meth c z tA D cy k Q ce sl (pc + 1) ls (.inl (M.2.1 n i.toNatClampNeg) :: st) M) : qz_W p l e R s m args below meth c z tA D cy k Q ce sl pc ls (.inl i :: .inr (.inl (some n)) :: st) M := by
  intro H locs lsm hL hP hS hT
  have k1 := kk H locs lsm hL hP hS hT
  show W p l e R s m args below meth c H locs ce sl Q (F0 m pc lsm (.int i :: Value.ref (qz_ad z tA n) :: st.map (qz_tv z tA)))
  have q := qz_atd ht (by omega) (by omega) hn
  obtain ⟨hv, hx⟩ := qz_dyn hn q
  have hat := hP.2 n hv hx
  rw [qz_cei ht (by omega) (by omega)] at hat
  rw [qz_adr q]
  rw [qz_lnd q] at hi
  exact va_cald (D := D) hC.1 hC.2.1 hC.2.2.2.2.2.2.1.1 (qz_one hat) 0 1 rfl rfl (qz_xi_in hi) hd k1
/-- an int array's cell, one place written -/
theorem qz_cst {t N j : Nat} {f : Nat → Int32} {x : Int32} {H1 : Heap} {a : Nat} (e : H1[a]? = some ((vp_cell (cy t) (N, .inl f)).setSlot j (.int x))) : va_at D vwCl (a, .inl (cy t, N, .inl (upd f j x))) H1 := by
  show H1[a]? = some (vp_cell _ _)
  rw [e, vp_cell_i, vp_cell_i, arrV_store]
  congr 2
  funext q
  by_cases hq : q = j
  · subst hq; simp [updV, upd]
  · simp [updV, upd, hq]
theorem qz_r_iast (hC : qz_Cx p s m args meth c z tA D cy k) {i x : Int32} {n : qz_N} (hd : decode (qz_b k) pc = .ok (.iastore, 1)) (ht : qz_at n.1 = 1) (q : n.1 < 30) (hi : qz_xi i (qz_al n.1) = true) (hn : qz_lv M.1 n) (kk : qz_W p l e R s m args below meth c z tA D cy k Q ce sl (pc + 1) ls st (qz_ui M n i.toNatClampNeg x)) : qz_W p l e R s m args below meth c z tA D cy k Q ce sl pc ls (.inl x :: .inl i :: .inr (.inl (some n)) :: st) M := by
  intro H locs lsm hL hP hS hT
  show W p l e R s m args below meth c H locs ce sl Q (F0 m pc lsm (.int x :: .int i :: Value.ref (qz_ad z tA n) :: st.map (qz_tv z tA)))
  obtain ⟨hv, hx⟩ := qz_dyn hn q
  have hat := hP.2 n hv hx
  rw [qz_cei ht (by omega) (by omega)] at hat
  rw [qz_adr q]
  refine W.iast hC.1 hC.2.1 hat ((qz_Kt hC.2.2.2.2.2.2.1 (t := 1) (by omega) (by omega) (by omega)).1 _ (fun j => .int (M.2.1 n j))) (fun q => by cases q) (by show ¬ (i < 0 ∨ (arrV _ _ _).slots.size ≤ _); rw [arrV_size]; exact qz_xi_in hi) rfl rfl hd fun H1 e1 e2 e3 => ?_
  refine kk H1 _ lsm hL (hP.set hv rfl (fun n' e => qz_ce_ui e) ?_ e2 e3) (hS.put e2 e3 (Nat.le_add_right _ _)) (hT.same (fun n' hn' => (qz_le_ui q _ _).2 n' hn'))
  rw [qz_cei ht (by omega) (by omega), qz_arr_ui]
  exact qz_cst e1
theorem qz_r_cast (hC : qz_Cx p s m args meth c z tA D cy k) {i x : Int32} {n : qz_N} (hd : decode (qz_b k) pc = .ok (.castore, 1)) (ht : qz_at n.1 = 2) (q : n.1 < 30) (hi : qz_xi i (qz_al n.1) = true) (hn : qz_lv M.1 n) (kk : qz_W p l e R s m args below meth c z tA D cy k Q ce sl (pc + 1) ls st (qz_ui M n i.toNatClampNeg (vp_nar .char x))) : qz_W p l e R s m args below meth c z tA D cy k Q ce sl pc ls (.inl x :: .inl i :: .inr (.inl (some n)) :: st) M := by
  intro H locs lsm hL hP hS hT
  show W p l e R s m args below meth c H locs ce sl Q (F0 m pc lsm (.int x :: .int i :: Value.ref (qz_ad z tA n) :: st.map (qz_tv z tA)))
  obtain ⟨hv, hx⟩ := qz_dyn hn q
  have hat := hP.2 n hv hx
  rw [qz_cei ht (by omega) (by omega)] at hat
  rw [qz_adr q]
  refine W.cast hC.1 hC.2.1 hat ((qz_Kt hC.2.2.2.2.2.2.1 (t := 2) (by omega) (by omega) (by omega)).1 _ (fun j => .int (M.2.1 n j))) (fun q => by cases q) (by show ¬ (i < 0 ∨ (arrV _ _ _).slots.size ≤ _); rw [arrV_size]; exact qz_xi_in hi) rfl rfl hd fun H1 e1 e2 e3 => ?_
  refine kk H1 _ lsm hL (hP.set hv rfl (fun n' e => qz_ce_ui e) ?_ e2 e3) (hS.put e2 e3 (Nat.le_add_right _ _)) (hT.same (fun n' hn' => (qz_le_ui q _ _).2 n' hn'))
  rw [qz_cei ht (by omega) (by omega), qz_arr_ui]
  exact qz_cst e1
theorem qz_ato {t : Nat} (h : 4 ≤ t) (h7 : t < 7) : ∃ C, qz_ft t = .object C ∧ C = qz_ow (qz_ec t) ∧ qz_ec t < 6 := by
  have hc : t = 4 ∨ t = 5 ∨ t = 6 := by omega
  rcases hc with rfl | rfl | rfl
  · exact ⟨_, rfl, rfl, by decide⟩
  · exact ⟨_, rfl, rfl, by decide⟩
  · exact ⟨_, rfl, rfl, by decide⟩
theorem qz_r_aald (hC : qz_Cx p s m args meth c z tA D cy k) {i : Int32} {n : qz_N} (hd : decode (qz_b k) pc = .ok (.aaload, 1)) (ht : 4 ≤ qz_at n.1) (hi : qz_xi i (qz_al n.1) = true) (hn : qz_lv M.1 n) (kk : qz_W p l e R s m args below meth c z tA D cy k Q ce sl (pc + 1) ls (.inr (.inl (M.2.2 n i.toNatClampNeg)) :: st) M) : qz_W p l e R s m args below meth c z tA D cy k Q ce sl pc ls (.inl i :: .inr (.inl (some n)) :: st) M := by
  intro H locs lsm hL hP hS hT
  have k1 := kk H locs lsm hL hP hS hT
  show W p l e R s m args below meth c H locs ce sl Q (F0 m pc lsm (.int i :: Value.ref (qz_ad z tA n) :: st.map (qz_tv z tA)))
  have q := qz_atd rfl (by omega) (by omega) hn
  obtain ⟨hv, hx⟩ := qz_dyn hn q
  have h7 := qz_atk n.1 (qz_vl_lt hv) (qz_at0 (by omega))
  have hat := hP.2 n hv hx
  rw [qz_ceq rfl ht] at hat
  rw [qz_adr q]
  obtain ⟨C, hC1, -, -⟩ := qz_ato ht h7
  have hA := (qz_Kt hC.2.2.2.2.2.2.1 (by omega) h7 (qz_at3 n.1 (qz_vl_lt hv))).1
  rw [hC1] at hA
  have hlt : i.toNatClampNeg < qz_al n.1 := Nat.not_le.mp fun q => qz_xi_in hi (Or.inr q)
  exact W.aald (v := va_rf ((M.2.2 n i.toNatClampNeg).map (qz_ad z tA))) (ty := .object C) hC.1 hC.2.1 hat (hA _ (fun j => va_rf ((M.2.2 n j).map (qz_ad z tA)))) rfl (fun q => by cases q) (by show ¬ (i < 0 ∨ (arrV _ _ _).slots.size ≤ _); rw [arrV_size]; exact qz_xi_in hi) (by show (arrV _ _ _).slots[_]? = _; rw [arrV_read _ _ hlt]) rfl rfl hd k1
theorem qz_arr_ur {n : qz_N} {j : Nat} {x : Option qz_N} : (qz_ur M n j x).2.2 n = va_up (M.2.2 n) j x := by
  funext j'
  show (if n = n ∧ j' = j then x else M.2.2 n j') = if j' = j then x else M.2.2 n j'
  simp
theorem qz_r_aast (hC : qz_Cx p s m args meth c z tA D cy k) {i : Int32} {n v : qz_N} (hd : decode (qz_b k) pc = .ok (.aastore, 1)) (ht : 4 ≤ qz_at n.1) (hvk : v.1 = qz_ec (qz_at n.1)) (hi : qz_xi i (qz_al n.1) = true) (hn : qz_lv M.1 n) (hnv : qz_lv M.1 v) (kk : qz_W p l e R s m args below meth c z tA D cy k Q ce sl (pc + 1) ls st (qz_ur M n i.toNatClampNeg (some v))) : qz_W p l e R s m args below meth c z tA D cy k Q ce sl pc ls (.inr (.inl (some v)) :: .inl i :: .inr (.inl (some n)) :: st) M := by
  intro H locs lsm hL hP hS hT
  show W p l e R s m args below meth c H locs ce sl Q (F0 m pc lsm (Value.ref (qz_ad z tA v) :: .int i :: Value.ref (qz_ad z tA n) :: st.map (qz_tv z tA)))
  have q := qz_atd rfl (by omega) (by omega) hn
  obtain ⟨hv, hx⟩ := qz_dyn hn q
  have h7 := qz_atk n.1 (qz_vl_lt hv) (qz_at0 (by omega))
  have hat := hP.2 n hv hx
  rw [qz_ceq rfl ht] at hat
  obtain ⟨C, hC1, hCo, hC7⟩ := qz_ato ht h7
  have qv : v.1 < 6 := by omega
  obtain ⟨hv', hx'⟩ := qz_dyn hnv (by omega)
  have hatv := hP.2 v hv' hx'
  have hev : qz_ce z tA cy M v = .inr (v.1, (List.range (qz_nf v.1)).map (fun j => if qz_rf v.1 j = true then va_rf ((M.2.2 v j).map (qz_ad z tA)) else .int (M.2.1 v j))) := if_pos qv
  rw [hev] at hatv
  obtain ⟨c1, -⟩ := qz_co qv
  rw [qz_adr q, qz_adr (n := v) (by omega)]
  have hA := qz_Kt hC.2.2.2.2.2.2.1 (by omega) h7 (qz_at3 n.1 (qz_vl_lt hv))
  rw [hC1] at hA
  have hK := hC.2.2.2.2.2.2.1.1
  have hlt : i.toNatClampNeg < qz_al n.1 := Nat.not_le.mp fun q => qz_xi_in hi (Or.inr q)
  have h0 : ¬ i < 0 := fun q => qz_xi_in hi (Or.inl q)
  obtain ⟨r', hr', cellV, g1, g2, g3, -⟩ := hatv
  have hcls := (hK.1 v.1 _ c1).2
  obtain ⟨kA, comp, k1, k2, k3, -⟩ := hA.2
  have hcomp : comp = D.1 v.1 := by
    have h9 := hcls.1
    simp only at h9
    rw [hvk, ← hCo] at h9
    rw [hvk]
    exact Option.some.inj (k3.symm.trans h9)
  subst hcomp
  obtain ⟨kC, hkC, -⟩ := hcls.2
  refine W.aast hC.1 hC.2.1 hat (fun q h => by cases h) (fun h => by cases h) k1 k2 rfl hkC ⟨h0, by show _ < (arrV _ _ _).slots.size; rw [arrV_size]; exact hlt⟩ g1 (fun q h => by rw [g3] at h; cases h) (by rw [g2]; exact hkC) (by rw [g2]; exact va_assign hcls) rfl rfl hd fun H1 e1 e2 e3 => ?_
  refine kk H1 _ lsm hL (hP.set hv rfl (fun n' e => qz_ce_ur e) ?_ e2 e3) (hS.put e2 e3 (Nat.le_add_right _ _)) hT
  rw [qz_ceq rfl ht, qz_arr_ur]
  show H1[_]? = some (vp_cell _ _)
  rw [e1, vp_cell_q, vp_cell_q, arrV_store]
  congr 2
  funext q'
  by_cases hq : q' = i.toNatClampNeg
  · subst hq
    simp [updV, va_up, va_rf, qz_ad_dyn (show v.1 < 30 by omega)]
  · simp [updV, va_up, hq]
theorem qz_r_alen (hC : qz_Cx p s m args meth c z tA D cy k) {n : qz_N} (hd : decode (qz_b k) pc = .ok (.arraylength, 1)) (ht : ¬ qz_at n.1 = 0) (hn : qz_lv M.1 n) (kk : qz_W p l e R s m args below meth c z tA D cy k Q ce sl (pc + 1) ls (.inl (Int32.ofNat (qz_ln M.2.1 n)) :: st) M) : qz_W p l e R s m args below meth c z tA D cy k Q ce sl pc ls (.inr (.inl (some n)) :: st) M := by
  intro H locs lsm hL hP hS hT
  have k1 := kk H locs lsm hL hP hS hT
  show W p l e R s m args below meth c H locs ce sl Q (F0 m pc lsm (Value.ref (qz_ad z tA n) :: st.map (qz_tv z tA)))
  rcases Nat.lt_or_ge n.1 30 with q | q
  · obtain ⟨hv, hx⟩ := qz_dyn hn q
    have h7 := qz_atk n.1 (qz_vl_lt hv) (qz_at0 (by omega))
    have hat := hP.2 n hv hx
    rw [qz_adr q]
    rw [qz_lnd q] at k1
    have hts : ∀ t : Nat, 1 ≤ t → t < 7 → ¬ t = 3 → (qz_ts cy)[if t < 3 then t - 1 else t - 2]? = some (cy t, qz_ft t) := by
      intro t h1 h2 h3
      have hc : t = 1 ∨ t = 2 ∨ t = 4 ∨ t = 5 ∨ t = 6 := by omega
      rcases hc with rfl | rfl | rfl | rfl | rfl <;> rfl
    have h3 := qz_at3 n.1 (qz_vl_lt hv)
    rcases Nat.lt_or_ge (qz_at n.1) 4 with h4 | h4
    · rw [qz_cei rfl (by omega) h4] at hat
      exact va_alen (D := D) hC.1 hC.2.1 hC.2.2.2.2.2.2.1.1 (qz_one hat) 0 _ rfl (hts _ (by omega) h7 h3) rfl hd k1
    · rw [qz_ceq rfl h4] at hat
      exact va_alen (D := D) hC.1 hC.2.1 hC.2.2.2.2.2.2.1.1 (qz_one hat) 0 _ rfl (hts _ (by omega) h7 h3) rfl hd k1
  · obtain ⟨h1, h2, e1⟩ := qz_sta hn (by omega)
    have hT1 := hT n.1 h1 h2
    rw [← e1] at hT1
    have e2 : qz_ad z tA n = tA n.1 := if_neg (by omega)
    rw [e2]
    exact va_tlen hC.1 hC.2.1 hT1 hS rfl hd k1
/-! what is made -/
theorem qz_ce_al {n : qz_N} (h : ¬ n = qz_nm' M.1) : qz_ce z tA cy (qz_al' M) n = qz_ce z tA cy M n := by
  have h1 : (qz_al' M).2.1 n = M.2.1 n := by
    funext j
    exact if_neg h
  have h2 : (qz_al' M).2.2 n = M.2.2 n := by
    funext j
    exact if_neg h
  unfold qz_ce
  rw [h1, h2]
theorem qz_P.al {H H1 : Heap} (h : qz_P z tA D cy M H) (hv : qz_vl (qz_nm' M.1) = true) (hi : qz_ix (qz_nm' M.1) = M.1) (he : va_at D vwCl (H.size, qz_ce z tA cy (qz_al' M) (qz_nm' M.1)) H1) (hz : H1.size = H.size + 1) (oq : ∀ q : Nat, q < H.size → H1[q]? = H[q]?) : qz_P z tA D cy (qz_al' M) H1 := by
  refine ⟨by rw [hz, h.1]; rfl, fun n h1 h2 => ?_⟩
  by_cases e : n = qz_nm' M.1
  · subst e
    rw [hi, ← h.1]
    exact he
  · have hlt : qz_ix n < M.1 := by
      have h2 : qz_ix n < M.1 + 1 := h2
      rcases Nat.lt_or_ge (qz_ix n) M.1 with q | q
      · exact q
      · exfalso
        exact e (by rw [← qz_nx n h1, show qz_ix n = M.1 by omega])
    rw [qz_ce_al e]
    exact (h.2 n h1 hlt).kept (oq _ (h.2 n h1 hlt).lt)
theorem qz_St.al {f : qz_M} (h : qz_St z tA f.2.1 s) (hv : qz_vl (qz_nm' f.1) = true) : qz_St z tA (qz_al' f).2.1 s := h.same (fun n hn => (qz_le_al hv).2 n hn)
theorem qz_va_S_al {H H1 : Heap} {locs : List Loc} (hS : va_S (qz_A z) s.heap H locs) (hz : H1.size = H.size + 1) (oq : ∀ q : Nat, q < H.size → H1[q]? = H[q]?) : va_S (qz_A z) s.heap H1 locs := ⟨Nat.le_trans hS.1 (by omega), fun x h1 h2 => (oq x (Nat.lt_of_lt_of_le h1 hS.1)).trans (hS.2.1 x h1 h2), hS.2.2⟩
theorem qz_al_f {n : qz_N} (h : n = qz_nm' M.1) : (qz_al' M).2.1 n = fun _ => 0 := by
  funext j
  exact if_pos h
theorem qz_al_r {n : qz_N} (h : n = qz_nm' M.1) : (qz_al' M).2.2 n = fun _ => none := by
  funext j
  exact if_pos h
theorem qz_r_new (hC : qz_Cx p s m args meth c z tA D cy k) {i : Nat} (hd : decode (qz_b k) pc = .ok (.new i, 3)) (hw : qz_nw (qz_cn k) i = some (qz_nm' M.1).1) (hv : qz_vl (qz_nm' M.1) = true) (hi : qz_ix (qz_nm' M.1) = M.1) (hce : ce + 1 ≤ R.cells) (hsl : sl + qz_sz (qz_nm' M.1).1 ≤ R.slots) (kk : qz_W p l e R s m args below meth c z tA D cy k Q (ce + 1) (sl + qz_sz (qz_nm' M.1).1) (pc + 3) ls (.inr (.inl (some (qz_nm' M.1))) :: st) (qz_al' M)) : qz_W p l e R s m args below meth c z tA D cy k Q ce sl pc ls st M := by
  intro H locs lsm hL hP hS hT
  obtain ⟨h7, hw⟩ := qz_nw_ok hw
  simp only at h7 hw
  obtain ⟨c1, c2, c3, c4, c5, c6, c7⟩ := qz_co h7
  have esz : qz_sz (qz_nm' M.1).1 = qz_nf (qz_nm' M.1).1 := if_pos h7
  rw [esz] at hsl kk
  obtain ⟨hx, hbb, hml, hown, hts, hin2, hK, hz⟩ := hC
  have hKn := hK.1.1 _ _ c1
  have ead : Value.ref H.size = qz_tv z tA (.inr (.inl (some (qz_nm' M.1)))) := by
    show Value.ref H.size = Value.ref (qz_ad z tA (qz_nm' M.1))
    rw [qz_ad_dyn (by omega), hi, hP.1]
  refine W.newcK hx hbb hown (hts _ hw) (hts _ c5) (hts _ c6) rfl hd hce hsl hKn.2.1 rfl fun H1 kC hkC e1 z1 o1 => ?_
  have k1 := kk H1 locs lsm hL (hP.al hv hi ?_ z1 o1) (qz_va_S_al hS z1 o1) (hT.al hv)
  · rw [List.map_cons, ← ead] at k1
    exact k1
  · have he : qz_ce z tA cy (qz_al' M) (qz_nm' M.1) = .inr ((qz_nm' M.1).1, (List.range (qz_nf (qz_nm' M.1).1)).map (fun j => if qz_rf (qz_nm' M.1).1 j = true then Value.null else .int 0)) := by
      unfold qz_ce
      rw [if_pos h7, qz_al_f rfl, qz_al_r rfl]
      rfl
    rw [he]
    refine ⟨_, c1, (u_born (qz_ty (qz_nm' M.1).1) hts c2 hKn hkC e1 c3).to (fun j hj => ?_)⟩
    rw [qz_def _ h7 j hj]
    unfold vp_V
    rw [List.getD_eq_getElem?_getD, List.getElem?_map, List.getElem?_range hj]
    rfl
theorem qz_r_newa (hC : qz_Cx p s m args meth c z tA D cy k) {a : ArrayType} {x : Int32} (hd : decode (qz_b k) pc = .ok (.newarray a, 2)) (hv : qz_vl (qz_nm' M.1) = true) (hi : qz_ix (qz_nm' M.1) = M.1) (hx0 : ¬ x < 0) (hxn : x.toNatClampNeg = qz_al (qz_nm' M.1).1) (ha : (a = .int ∧ qz_at (qz_nm' M.1).1 = 1) ∨ (a = .char ∧ qz_at (qz_nm' M.1).1 = 2)) (hce : ce + 1 ≤ R.cells) (hsl : sl + qz_sz (qz_nm' M.1).1 ≤ R.slots) (kk : qz_W p l e R s m args below meth c z tA D cy k Q (ce + 1) (sl + qz_sz (qz_nm' M.1).1) (pc + 2) ls (.inr (.inl (some (qz_nm' M.1))) :: st) (qz_al' M)) : qz_W p l e R s m args below meth c z tA D cy k Q ce sl pc ls (.inl x :: st) M := by
  intro H locs lsm hL hP hS hT
  have hk7 : 7 ≤ (qz_nm' M.1).1 := qz_at0 (by rcases ha with h | h <;> omega)
  have esz : qz_sz (qz_nm' M.1).1 = qz_al (qz_nm' M.1).1 := if_neg (by omega)
  have hsmall : qz_al (qz_nm' M.1).1 ≤ 1132 := by
    have : ∀ k : Nat, k < 17 → qz_al k ≤ 1132 := by decide
    exact this _ (qz_vl_lt hv)
  rw [esz] at hsl kk
  obtain ⟨hx, hbb, hml, hown, hts, hin2, hK, hz⟩ := hC
  have ead : Value.ref H.size = qz_tv z tA (.inr (.inl (some (qz_nm' M.1)))) := by
    show Value.ref H.size = Value.ref (qz_ad z tA (qz_nm' M.1))
    rw [qz_ad_dyn (by have := qz_vl_lt hv; omega), hi, hP.1]
  have go : ∀ (t : Nat) (ty : FieldType), newarray.typeOf a = ty → qz_ft t = ty → 1 ≤ t → t < 3 → qz_at (qz_nm' M.1).1 = t → defaultValue ty = .int 0 → componentBytes ty ≤ 4 → (Cond.arrayClass ty) ∈ qz_tb → (∀ cA, va_RA s cA ty → s.vm.findClass ("[" ++ ty.toString) = some cA) → W p l e R s m args below meth c H locs ce sl Q (F0 m pc lsm (.int x :: st.map (qz_tv z tA))) := by
    intro t ty e1 e2 h1 h3 hat hdef hcb hwd hRA
    have h4 : t < 4 := by omega
    subst e1
    refine va_newaK hx hbb (hts _ hwd) rfl hd rfl hx0 hxn (Nat.le_trans (Nat.mul_le_mul hsmall hcb) (by decide)) hce hsl rfl fun H1 cA g1 g2 g3 g4 g5 => ?_
    have hcA : cA = cy t := by
      have h9 := (qz_Kt hK (t := t) h1 (by omega) (by omega)).2
      rw [e2] at h9
      exact Option.some.inj (g5.symm.trans (hRA _ h9))
    subst hcA
    have k1 := kk H1 locs lsm hL (hP.al hv hi ?_ g2 g3) (qz_va_S_al hS g2 g3) (hT.al hv)
    · rw [List.map_cons, ← ead] at k1
      exact k1
    · rw [qz_cei hat h1 h4, qz_al_f rfl]
      show H1[_]? = some (vp_cell _ _)
      rw [vp_cell_i, g1, hdef]
  rcases ha with ⟨rfl, h⟩ | ⟨rfl, h⟩
  · exact go 1 .int rfl rfl (by omega) (by omega) h rfl (by decide) qz_ac_int (fun _ h => h)
  · exact go 2 .char rfl rfl (by omega) (by omega) h rfl (by decide) qz_ac_char (fun _ h => h)
theorem qz_r_anew (hC : qz_Cx p s m args meth c z tA D cy k) {i : Nat} {x : Int32} (hd : decode (qz_b k) pc = .ok (.anewarray i, 3)) (hw : qz_nw (qz_cn k) i = some (qz_ec (qz_at (qz_nm' M.1).1))) (hv : qz_vl (qz_nm' M.1) = true) (hi : qz_ix (qz_nm' M.1) = M.1) (hx0 : ¬ x < 0) (hxn : x.toNatClampNeg = qz_al (qz_nm' M.1).1) (h4 : 4 ≤ qz_at (qz_nm' M.1).1) (hce : ce + 1 ≤ R.cells) (hsl : sl + qz_sz (qz_nm' M.1).1 ≤ R.slots) (kk : qz_W p l e R s m args below meth c z tA D cy k Q (ce + 1) (sl + qz_sz (qz_nm' M.1).1) (pc + 3) ls (.inr (.inl (some (qz_nm' M.1))) :: st) (qz_al' M)) : qz_W p l e R s m args below meth c z tA D cy k Q ce sl pc ls (.inl x :: st) M := by
  intro H locs lsm hL hP hS hT
  have hk7 : 7 ≤ (qz_nm' M.1).1 := qz_at0 (by omega)
  have esz : qz_sz (qz_nm' M.1).1 = qz_al (qz_nm' M.1).1 := if_neg (by omega)
  have hsmall : qz_al (qz_nm' M.1).1 ≤ 1132 := by
    have : ∀ k : Nat, k < 17 → qz_al k ≤ 1132 := by decide
    exact this _ (qz_vl_lt hv)
  rw [esz] at hsl kk
  obtain ⟨h7, hw⟩ := qz_nw_ok hw
  simp only at h7 hw
  obtain ⟨hx, hbb, hml, hown, hts, hin2, hK, hz⟩ := hC
  have ead : Value.ref H.size = qz_tv z tA (.inr (.inl (some (qz_nm' M.1)))) := by
    show Value.ref H.size = Value.ref (qz_ad z tA (qz_nm' M.1))
    rw [qz_ad_dyn (by have := qz_vl_lt hv; omega), hi, hP.1]
  have hat7 := qz_atk _ (qz_vl_lt hv) hk7
  obtain ⟨C, hC1, hCo, hC7⟩ := qz_ato h4 hat7
  rw [← hCo] at hw
  have hov : va_AO C s := by
    have hc : qz_at (qz_nm' M.1).1 = 4 ∨ qz_at (qz_nm' M.1).1 = 5 ∨ qz_at (qz_nm' M.1).1 = 6 := by omega
    rcases hc with h | h | h
    · rw [h] at hCo; rw [hCo]; exact hK.2.2.2.2.1
    · rw [h] at hCo; rw [hCo]; exact hK.2.2.2.2.2.1
    · rw [h] at hCo; rw [hCo]; exact hK.2.2.2.2.2.2
  refine W.anew hx hbb hown (hts _ hw) (va_AO.use hov) rfl hd rfl hx0 (by rw [hxn]; exact Nat.le_trans (Nat.mul_le_mul_right 4 hsmall) (by decide)) hce (by rw [hxn]; exact hsl) fun cA kA comp f1 f2 f3 f4 => ?_
  rw [hxn]
  have hcA : cA = cy (qz_at (qz_nm' M.1).1) := by
    have h9 := (qz_Kt hK (t := qz_at (qz_nm' M.1).1) (by omega) hat7 (qz_at3 _ (qz_vl_lt hv))).2
    rw [hC1] at h9
    obtain ⟨_, _, -, -, -, h10⟩ := h9
    exact Option.some.inj (f1.symm.trans h10)
  subst hcA
  generalize hH1 : H.push ({ cls := cy (qz_at (qz_nm' M.1).1), slots := Array.replicate (qz_al (qz_nm' M.1).1) .null, vm := .none } : Cell) = H1
  have z1 : H1.size = H.size + 1 := by rw [← hH1, Array.size_push]
  have e1 : H1[H.size]? = some (arrV (cy (qz_at (qz_nm' M.1).1)) (qz_al (qz_nm' M.1).1) (fun _ => .null)) := by rw [← hH1, Array.getElem?_push_size, ← arrV_new]
  have o1 : ∀ q : Nat, q < H.size → H1[q]? = H[q]? := fun q hq => by rw [← hH1, Array.getElem?_push, if_neg (Nat.ne_of_lt hq)]
  have k1 := kk H1 locs lsm hL (hP.al hv hi ?_ z1 o1) (qz_va_S_al hS z1 o1) (hT.al hv)
  · rw [List.map_cons, ← ead] at k1
    exact k1
  · rw [qz_ceq rfl h4, qz_al_r rfl]
    show H1[_]? = some (vp_cell _ _)
    rw [vp_cell_q, e1]
    rfl
end QZA
end
section
/-! calls, returns, and a whole run -/
section QZC
variable {p : Program} {l : Launch} {e : Env} {R : Room} {s : State} {m : MethodId} {args : Array Value} {below : List Frame} {meth : Method} {c : Code} {Q : State → Prop}
variable {z : Nat} {tA : Nat → Nat} {D : va_G} {cy : Nat → ClassId} {k : Nat}
variable {ce sl pc : Nat} {ls : List (Option qz_V)} {st : List qz_V} {M : qz_M}
def qz_rm (k mc ms : Nat) : Room := { frames := qz_rF k, cells := mc, slots := ms, locals := qz_rL k }
def qz_ws (k : Nat) : List Cond := .code (qz_y k) (qz_b k) (qz_ml k) (qz_rt k) :: qz_tb
def qz_Qc (z : Nat) (tA : Nat → Nat) (D : va_G) (cy : Nat → ClassId) (r : Option qz_V) (M' : qz_M) : Array Value → State → Outcome → State → Prop := fun _ st o t => o = .returned (r.map (qz_tv z tA)) ∧ qz_P z tA D cy M' t.heap ∧ va_F (qz_A z) st t
def qz_Pre (z : Nat) (tA : Nat → Nat) (D : va_G) (cy : Nat → ClassId) (M : qz_M) : State → Prop := fun U => qz_P z tA D cy M U.heap ∧ qz_Kx z tA D cy U ∧ qz_St z tA M.2.1 U
def qz_Mt (l : Launch) (z : Nat) (tA : Nat → Nat) (D : va_G) (cy : Nat → ClassId) (k : Nat) (as : List qz_V) (M : qz_M) (r : Option qz_V) (M' : qz_M) : Prop := Met l (qz_y k) (qz_ws k) (qz_rm k (M'.1 - M.1) (qz_ss M'.1 - qz_ss M.1)) (va_Pc (as.map (qz_tv z tA)) (qz_Pre z tA D cy M)) (qz_Qc z tA D cy r M') (M'.1 - M.1) (qz_ss M'.1 - qz_ss M.1) (qz_A z)
theorem qz_blind {av : List Value} : FrameBlind (va_Pc av (qz_Pre z tA D cy M)) := fun _ _ _ _ q => ⟨q.1, q.2.1, q.2.2.1.same rfl rfl, q.2.2.2.eq rfl rfl⟩
theorem qz_pay {k' : Nat} (hk : k' < qz_nm) (hts : ∀ w ∈ qz_tb, w.before args s = true) : ∀ w ∈ qz_ws k', ∀ (a' : Array Value) (U : State), s.WarmedH U.vm → w.before a' U = true := by
  intro w hw a' U hW
  have hw' : w ∈ qz_tb := (List.mem_cons.mp hw).elim (fun e => e ▸ (qz_mo hk).2.1) id
  exact word_at hW (good_of_word (List.mem_filter.mp hw').2) (hts w hw')
theorem qz_pre (hC : qz_Cx p s m args meth c z tA D cy k) {H : Heap} {locs : List Loc} (hP : qz_P z tA D cy M H) (hS : va_S (qz_A z) s.heap H locs) (hT : qz_St z tA M.2.1 s) {av : List Value} (U : State) (hU : U.heap = H) (hW : s.WarmedH U.vm) : va_Pc av (qz_Pre z tA D cy M) av.toArray U :=
  ⟨rfl, by rw [hU]; exact hP, hC.2.2.2.2.2.2.1.warm hW (by rw [hU]; exact hS), hT.to hW.alike (by rw [hU]; exact hS.2.1)⟩
theorem qz_run {H : Heap} {locs : List Loc} {lsm : Array Slot} {st0 rest : List Value} {mc ms : Nat} {r : Option qz_V} {M' : qz_M} {a : Array Value} (hr : va_Run p l e R s m args below meth c H locs ce sl mc ms (F0 m pc lsm st0) rest (qz_Qc z tA D cy r M' a) (qz_A z)) (hS : va_S (qz_A z) s.heap H locs)
    (kk : ∀ (H1 : Heap) (locs1 : List Loc), qz_P z tA D cy M' H1 → va_S (qz_A z) s.heap H1 locs1 → W p l e R s m args below meth c H1 locs1 (ce + mc) (sl + ms) Q (F0 m (pc + 3) lsm ((r.map (qz_tv z tA)).toList ++ rest))) : W p l e R s m args below meth c H locs ce sl Q (F0 m pc lsm st0) := by
  intro T hT X
  obtain ⟨v, st₀, t, T', L, h0, X', hL, e1, e2, ⟨hv, hp, hz, hk⟩, st⟩ := hr T hT X
  cases hv
  rw [h0] at hz hk
  obtain ⟨t2, a1, b1⟩ := kk T'.heap (locs ++ L) (by rw [e1]; exact hp)
    ⟨Nat.le_trans hS.1 (by rw [e1]; exact hz), fun q h1 h2 => by rw [e1, hk q (Nat.lt_of_lt_of_le h1 hS.1) h2]; exact hS.2.1 q h1 h2, fun q hq => by
      rcases List.mem_append.mp hq with h | h
      · exact hS.2.2 q h
      · exact hL q h⟩ T' rfl X'
  exact ⟨t2, st t2 a1, b1⟩
theorem qz_stk (n : Nat) (st : List qz_V) (f : qz_V → Value) : st.map f = ((qz_ag n st).map f).reverse ++ (st.drop n).map f := by
  unfold qz_ag
  rw [List.map_reverse, List.reverse_reverse, ← List.map_append, List.take_append_drop]
theorem qz_agl {n : Nat} {st : List qz_V} (h : n ≤ st.length) : (qz_ag n st).length = n := by
  unfold qz_ag
  rw [List.length_reverse, List.length_take]
  omega
theorem qz_rml {k' : Nat} (h : qz_co' k k' st = true) : qz_na k' ≤ st.length ∧ qz_wl (st.drop (qz_na k')) ≤ 8 ∧ qz_rF k' + 1 ≤ qz_rF k ∧ 8 + (qz_ml k' + 11) + qz_rL k' ≤ qz_rL k := by
  simp only [qz_co', Bool.and_eq_true, decide_eq_true_eq] at h
  exact ⟨h.1.1.1, h.1.1.2.2, h.1.2, h.2⟩
theorem qz_prm {k' : Nat} (hk : k' < qz_nm) (sig : MethodDescriptor) (h : parseMethodDescriptor (qz_y k').desc = some sig) : qz_na k' - (if qz_sa k' = true then 0 else 1) = sig.parameters.length := by
  have h2 := (qz_mo hk).2.2.2.2.1
  rw [h] at h2
  exact (Option.some.inj h2).symm
theorem qz_r_call (hC : qz_Cx p s m args meth c z tA D cy k) (hRF : qz_rF k ≤ R.frames) (hRL : qz_rL k ≤ R.locals) {ins : Instr} {k' : Nat} {r : Option qz_V} {M' : qz_M} (hd : decode (qz_b k) pc = .ok (ins, 3)) (hk : qz_kl k ins st = some k') (hvs : ∀ v ∈ st, qz_vk M.1 v) (hM : k' < qz_nm → (qz_ag (qz_na k') st).length = qz_na k' → qz_Mt l z tA D cy k' (qz_ag (qz_na k') st) M r M') (hle : qz_le M M') (hce : ce + (M'.1 - M.1) ≤ R.cells) (hsl : sl + (qz_ss M'.1 - qz_ss M.1) ≤ R.slots)
    (kk : qz_W p l e R s m args below meth c z tA D cy k Q (ce + (M'.1 - M.1)) (sl + (qz_ss M'.1 - qz_ss M.1)) (pc + 3) ls (r.toList ++ st.drop (qz_na k')) M') : qz_W p l e R s m args below meth c z tA D cy k Q ce sl pc ls st M := by
  intro H locs lsm hL hP hS hT
  have k1 : ∀ (H1 : Heap) (locs1 : List Loc), qz_P z tA D cy M' H1 → va_S (qz_A z) s.heap H1 locs1 → W p l e R s m args below meth c H1 locs1 (ce + (M'.1 - M.1)) (sl + (qz_ss M'.1 - qz_ss M.1)) Q (F0 m (pc + 3) lsm ((r.map (qz_tv z tA)).toList ++ (st.drop (qz_na k')).map (qz_tv z tA))) := by
    intro H1 locs1 h1 h2
    have := kk H1 locs1 lsm hL h1 h2 (hT.same hle.2)
    rw [List.map_append] at this
    cases r <;> exact this
  have hfix : ∀ w ∈ qz_tb, w.before args s = true := hC.2.2.2.2.1
  have hS' : CallFix p m c (qz_b k) (qz_ml k) s args qz_tb (qz_ow (qz_cn k)) := ⟨hC.1, hC.2.1, hC.2.2.1, hC.2.2.2.1, hfix⟩
  have key : ∀ i, qz_cl (qz_cn k) i = some k' → qz_co' k k' st = true → k' < qz_nm ∧ ((Cond.methodLink (qz_ow (qz_cn k)) i (qz_y k')).before args s = true ∨ va_Nw (.methodLinkNest (qz_ow (qz_cn k)) i (qz_y k') "ShiftBuses") s) := by
    intro i h _
    obtain ⟨h1, h2⟩ : k' < qz_nm ∧ (Cond.methodLink (qz_ow (qz_cn k)) i (qz_y k') ∈ qz_tb ∨ (qz_cn k, i, k') ∈ qz_ne) := qz_cl_ok h
    refine ⟨h1, ?_⟩
    rcases h2 with h2 | h2
    · left
      exact hfix (Cond.methodLink (qz_ow (qz_cn k)) i (qz_y k')) h2
    · right
      have h9 := hC.2.2.2.2.2.2.1.2.2.1 (qz_cn k, i, k') h2
      exact h9
  have roomW : 2 * (F0 m pc lsm (st.map (qz_tv z tA))).monitorRoom + (((st.drop (qz_na k')).map (qz_tv z tA)).map fun v => v.category).sum ≤ 8 ∨ ¬ qz_wl (st.drop (qz_na k')) ≤ 8 := by
    by_cases h : qz_wl (st.drop (qz_na k')) ≤ 8
    · exact Or.inl (lv_room (by rw [qz_tvs]; exact h))
    · exact Or.inr h
  have recv : ∀ (n0 : qz_N) (as : List qz_V), qz_ag (qz_na k') st = .inr (.inl (some n0)) :: as → n0.1 = qz_cn k' → qz_cn k' < 6 → ∃ cellB : Cell, H[qz_ad z tA n0]? = some cellB ∧ cellB.vm.isStatics = false ∧ s.vm.findClass (qz_ow (qz_cn k')) = some cellB.cls := by
    intro n0 as e1 e2 h7
    have hm : (.inr (.inl (some n0)) : qz_V) ∈ st := by
      have : (.inr (.inl (some n0)) : qz_V) ∈ qz_ag (qz_na k') st := by rw [e1]; exact List.mem_cons_self
      exact List.mem_of_mem_take (List.mem_reverse.mp this)
    obtain ⟨hv, hx⟩ := qz_dyn (hvs _ hm n0 rfl) (by omega)
    have hat := hP.2 n0 hv hx
    rw [show qz_ce z tA cy M n0 = .inr (n0.1, (List.range (qz_nf n0.1)).map (fun j => if qz_rf n0.1 j = true then va_rf ((M.2.2 n0 j).map (qz_ad z tA)) else .int (M.2.1 n0 j))) from if_pos (by omega)] at hat
    obtain ⟨c1, -⟩ := qz_co (c := n0.1) (by omega)
    have h9 := va_recv hC.2.2.2.2.2.2.1.1 (qz_one hat) (q0 := 0) c1 rfl
    rw [qz_ad_dyn (by omega), ← e2]
    exact h9
  unfold qz_kl at hk
  split at hk
  · next i =>
    split at hk
    · next k2 hcl =>
      split at hk
      · next hc =>
        cases hk
        obtain ⟨h1, h2, h3, h4⟩ := hc
        obtain ⟨hn, hlk⟩ := key i hcl h1
        obtain ⟨r1, r2, r3, r4⟩ := qz_rml h1
        obtain ⟨m1, m2, m3, m4, m5, m6, m7, m8, m9, m10⟩ := qz_mo hn
        obtain ⟨m7a, m7b, m7c, m7d⟩ := m7 h2
        have hM1 := hM hn (qz_agl r1)
        have hprm := qz_prm hn
        rw [h2] at hprm
        have hal := qz_agl r1
        have hst := qz_stk (qz_na k') st (qz_tv z tA)
        cases hag : qz_ag (qz_na k') st with
        | nil => rw [hag] at h4; cases h4
        | cons v as =>
          rw [hag] at h4 hM1 hst hal
          cases v with
          | inl x => cases h4
          | inr v => cases v with
           | inr x => cases h4
           | inl v => cases v with
            | none => cases h4
            | some n0 =>
              have h4 : n0.1 = qz_cn k' := by simpa [qz_rc] using h4
              have hrc := recv n0 as hag h4 m7c
              have hroom := roomW.resolve_right (fun q => q r2)
              have hsel : Cond.selects (qz_ow (qz_cn k')) (qz_y k') (qz_y k') ∈ qz_tb := m7b.resolve_left (fun q => by rw [h3] at q; cases q)
              have hstk : st.map (qz_tv z tA) = (as.map (qz_tv z tA)).reverse ++ Value.ref (qz_ad z tA n0) :: (st.drop (qz_na k')).map (qz_tv z tA) := by
                rw [hst]
                simp [qz_tv, va_rf]
              have hlen : (as.map (qz_tv z tA)).length = qz_na k' - 1 := by
                rw [List.length_map]
                simp only [List.length_cons] at hal
                omega
              have hb1 : (qz_rm k' (M'.1 - M.1) (qz_ss M'.1 - qz_ss M.1)).frames + 1 ≤ R.frames := Nat.le_trans r3 hRF
              have hb2 : 8 + (qz_ml k' + 11) + (qz_rm k' (M'.1 - M.1) (qz_ss M'.1 - qz_ss M.1)).locals ≤ R.locals := Nat.le_trans r4 hRL
              rcases hlk with hlk | hlk
              · exact qz_run (va_runV (As := as.map (qz_tv z tA)) (rest := (st.drop (qz_na k')).map (qz_tv z tA)) (n := qz_na k' - 1) hS' hM1
                  ⟨⟨rfl, rfl, hb1, hb2, qz_pay hn hfix, List.mem_cons_self, hfix _ m2, hfix _ m3, m4, hprm, hlk⟩, hfix _ m7a, hfix _ hsel⟩
                  ⟨qz_blind, hrc, fun U hU hW => qz_pre hC hP hS hT U hU hW⟩ rfl hlen (by rw [show (F0 m pc lsm (st.map (qz_tv z tA))).locals = lsm from rfl]; exact hL.2.1) hstk hroom hd ⟨hce, hsl⟩) hS k1
              · exact qz_run (va_runVN (As := as.map (qz_tv z tA)) (rest := (st.drop (qz_na k')).map (qz_tv z tA)) (n := qz_na k' - 1) hS' hM1
                  ⟨⟨⟨rfl, rfl, hb1, hb2, qz_pay hn hfix, List.mem_cons_self⟩, hfix _ m2, hfix _ m3, m4, hprm, va_Nw.use rfl hlk⟩, hfix _ m7a, hfix _ hsel⟩
                  ⟨qz_blind, hrc, fun U hU hW => qz_pre hC hP hS hT U hU hW⟩ rfl hlen (by rw [show (F0 m pc lsm (st.map (qz_tv z tA))).locals = lsm from rfl]; exact hL.2.1) hstk hroom hd ⟨hce, hsl⟩) hS k1
      · cases hk
    · cases hk
  · next i =>
    split at hk
    · next k2 hcl =>
      split at hk
      · next hc =>
        cases hk
        obtain ⟨h1, h2, h3, h4⟩ := hc
        obtain ⟨hn, hlk⟩ := key i hcl h1
        obtain ⟨r1, r2, r3, r4⟩ := qz_rml h1
        obtain ⟨m1, m2, m3, m4, m5, m6, m7, m8, m9, m10⟩ := qz_mo hn
        obtain ⟨m7a, m7b, m7c, m7d⟩ := m7 h2
        have hM1 := hM hn (qz_agl r1)
        have hprm := qz_prm hn
        rw [h2] at hprm
        have hal := qz_agl r1
        have hst := qz_stk (qz_na k') st (qz_tv z tA)
        have hnm : (qz_y k').name = "<init>" := by simpa [qz_ini] using h3
        have hrt : qz_rt k' = none := m10 h3
        have hcd : Cond.code (qz_y k') (qz_b k') (qz_ml k') none ∈ qz_ws k' := by rw [← hrt]; exact List.mem_cons_self
        have m2' : (Cond.code (qz_y k') (qz_b k') (qz_ml k') none).before args s = true := by rw [← hrt]; exact hfix _ m2
        cases hag : qz_ag (qz_na k') st with
        | nil => rw [hag] at h4; cases h4
        | cons v as =>
          rw [hag] at h4 hM1 hst hal
          cases v with
          | inl x => cases h4
          | inr v => cases v with
           | inr x => cases h4
           | inl v => cases v with
            | none => cases h4
            | some n0 =>
              have hroom := roomW.resolve_right (fun q => q r2)
              have hstk : st.map (qz_tv z tA) = (as.map (qz_tv z tA)).reverse ++ Value.ref (qz_ad z tA n0) :: (st.drop (qz_na k')).map (qz_tv z tA) := by
                rw [hst]
                simp [qz_tv, va_rf]
              have hlen : (as.map (qz_tv z tA)).length = qz_na k' - 1 := by
                rw [List.length_map]
                simp only [List.length_cons] at hal
                omega
              have hb1 : (qz_rm k' (M'.1 - M.1) (qz_ss M'.1 - qz_ss M.1)).frames + 1 ≤ R.frames := Nat.le_trans r3 hRF
              have hb2 : 8 + (qz_ml k' + 11) + (qz_rm k' (M'.1 - M.1) (qz_ss M'.1 - qz_ss M.1)).locals ≤ R.locals := Nat.le_trans r4 hRL
              rcases hlk with hlk | hlk
              · exact qz_run (va_runI (As := as.map (qz_tv z tA)) (rest := (st.drop (qz_na k')).map (qz_tv z tA)) (n := qz_na k' - 1) hS' hM1
                  ⟨⟨rfl, rfl, hb1, hb2, qz_pay hn hfix, hcd, m2', hfix _ m3, m4, hprm, hlk⟩, hnm, hfix _ m7a⟩
                  ⟨qz_blind, fun U hU hW => qz_pre hC hP hS hT U hU hW⟩ rfl hlen (by rw [show (F0 m pc lsm (st.map (qz_tv z tA))).locals = lsm from rfl]; exact hL.2.1) hstk hroom hd ⟨hce, hsl⟩) hS k1
              · exact qz_run (va_runIN (As := as.map (qz_tv z tA)) (rest := (st.drop (qz_na k')).map (qz_tv z tA)) (n := qz_na k' - 1) hS' hM1
                  ⟨⟨⟨rfl, rfl, hb1, hb2, qz_pay hn hfix, hcd⟩, m2', hfix _ m3, m4, hprm, va_Nw.use rfl hlk⟩, hnm, hfix _ m7a⟩
                  ⟨qz_blind, fun U hU hW => qz_pre hC hP hS hT U hU hW⟩ rfl hlen (by rw [show (F0 m pc lsm (st.map (qz_tv z tA))).locals = lsm from rfl]; exact hL.2.1) hstk hroom hd ⟨hce, hsl⟩) hS k1
      · cases hk
    · cases hk
  · next i =>
    split at hk
    · next k2 hcl =>
      split at hk
      · next hc =>
        cases hk
        obtain ⟨h1, h2⟩ := hc
        obtain ⟨hn, hlk⟩ := key i hcl h1
        obtain ⟨r1, r2, r3, r4⟩ := qz_rml h1
        obtain ⟨m1, m2, m3, m4, m5, m6, m7, m8, m9, m10⟩ := qz_mo hn
        have hM1 := hM hn (qz_agl r1)
        have hprm := qz_prm hn
        rw [h2] at hprm
        have hal := qz_agl r1
        have hst := qz_stk (qz_na k') st (qz_tv z tA)
        have hroom := roomW.resolve_right (fun q => q r2)
        have hlen : ((qz_ag (qz_na k') st).map (qz_tv z tA)).length = qz_na k' - 0 := by
          rw [List.length_map, hal]
          rfl
        have hb1 : (qz_rm k' (M'.1 - M.1) (qz_ss M'.1 - qz_ss M.1)).frames + 1 ≤ R.frames := Nat.le_trans r3 hRF
        have hb2 : 8 + (qz_ml k' + 11) + (qz_rm k' (M'.1 - M.1) (qz_ss M'.1 - qz_ss M.1)).locals ≤ R.locals := Nat.le_trans r4 hRL
        rcases hlk with hlk | hlk
        · exact qz_run (va_runS (As := (qz_ag (qz_na k') st).map (qz_tv z tA)) (rest := (st.drop (qz_na k')).map (qz_tv z tA)) (n := qz_na k' - 0) hS' hM1
            ⟨⟨rfl, rfl, hb1, hb2, qz_pay hn hfix, List.mem_cons_self, hfix _ m2, hfix _ m3, m4, hprm, hlk⟩, hfix _ (m6 h2)⟩
            ⟨qz_blind, fun U hU hW => qz_pre hC hP hS hT U hU hW⟩ rfl hlen (by rw [show (F0 m pc lsm (st.map (qz_tv z tA))).locals = lsm from rfl]; exact hL.2.1) hst hroom hd ⟨hce, hsl⟩) hS k1
        · exact qz_run (va_runSN (As := (qz_ag (qz_na k') st).map (qz_tv z tA)) (rest := (st.drop (qz_na k')).map (qz_tv z tA)) (n := qz_na k' - 0) hS' hM1
            ⟨⟨⟨rfl, rfl, hb1, hb2, qz_pay hn hfix, List.mem_cons_self⟩, hfix _ m2, hfix _ m3, m4, hprm, va_Nw.use rfl hlk⟩, hfix _ (m6 h2), trivial⟩
            ⟨qz_blind, fun U hU hW => qz_pre hC hP hS hT U hU hW⟩ rfl hlen (by rw [show (F0 m pc lsm (st.map (qz_tv z tA))).locals = lsm from rfl]; exact hL.2.1) hst hroom hd ⟨hce, hsl⟩) hS k1
      · cases hk
    · cases hk
  · cases hk
end QZC
end
section
/-! a step by its instruction; a whole run by induction -/
section QZW
variable {p : Program} {l : Launch} {e : Env} {R : Room} {s : State} {m : MethodId} {args : Array Value} {below : List Frame} {meth : Method} {c : Code} {Q : State → Prop}
variable {z : Nat} {tA : Nat → Nat} {D : va_G} {cy : Nat → ClassId} {k : Nat}
variable {ce sl pc : Nat} {ls : List (Option qz_V)} {st : List qz_V} {M : qz_M}
theorem qz_k0 {M M' : qz_M} {pc' : Nat} {ls' : List (Option qz_V)} {st' : List qz_V} (h : M'.1 = M.1) (kk : qz_W p l e R s m args below meth c z tA D cy k Q (ce + (M'.1 - M.1)) (sl + (qz_ss M'.1 - qz_ss M.1)) pc' ls' st' M') : qz_W p l e R s m args below meth c z tA D cy k Q ce sl pc' ls' st' M' := by
  rw [h, Nat.sub_self, Nat.sub_self, Nat.add_zero, Nat.add_zero] at kk
  exact kk
theorem qz_al1 : (qz_al' M).1 - M.1 = 1 := by
  show M.1 + 1 - M.1 = 1
  omega
theorem qz_al2 : qz_ss (qz_al' M).1 - qz_ss M.1 = qz_sz (qz_nm' M.1).1 := by
  show qz_ss M.1 + qz_sz (qz_nm' M.1).1 - qz_ss M.1 = _
  omega
theorem qz_step (hC : qz_Cx p s m args meth c z tA D cy k) {ins : Instr} {len pc' : Nat} {ls' : List (Option qz_V)} {st' : List qz_V} {M' : qz_M} (hok : qz_ok ls st M) (hd : decode (qz_b k) pc = .ok (ins, len)) (hlen : qz_il ins len = true) (hs : qz_sp (qz_cn k) (qz_ml k) (qz_ini k) ins pc ls st M = some (pc', ls', st', M')) (hce : ce + (M'.1 - M.1) ≤ R.cells) (hsl : sl + (qz_ss M'.1 - qz_ss M.1) ≤ R.slots)
    (kk : qz_W p l e R s m args below meth c z tA D cy k Q (ce + (M'.1 - M.1)) (sl + (qz_ss M'.1 - qz_ss M.1)) pc' ls' st' M') : qz_W p l e R s m args below meth c z tA D cy k Q ce sl pc ls st M := by
  have lv : ∀ {n r}, st = .inr (.inl (some n)) :: r → qz_lv M.1 n := fun h => hok.2.2 _ (by rw [h]; exact List.mem_cons_self) _ rfl
  have lv2 : ∀ {v n r}, st = v :: .inr (.inl (some n)) :: r → qz_lv M.1 n := fun h => hok.2.2 _ (by rw [h]; exact List.mem_cons_of_mem _ List.mem_cons_self) _ rfl
  have lv3 : ∀ {v w n r}, st = v :: w :: .inr (.inl (some n)) :: r → qz_lv M.1 n := fun h => hok.2.2 _ (by rw [h]; exact List.mem_cons_of_mem _ (List.mem_cons_of_mem _ List.mem_cons_self)) _ rfl
  cases ins with
  | iconst i =>
    cases (show len = 1 by simpa [qz_il] using hlen)
    cases hs
    exact qz_r_iconst hC hd (qz_k0 rfl kk)
  | bipush i =>
    cases (show len = 2 by simpa [qz_il] using hlen)
    cases hs
    exact qz_r_bipush hC hd (qz_k0 rfl kk)
  | sipush i =>
    cases (show len = 3 by simpa [qz_il] using hlen)
    cases hs
    exact qz_r_sipush hC hd (qz_k0 rfl kk)
  | aconst_null =>
    cases (show len = 1 by simpa [qz_il] using hlen)
    cases hs
    exact qz_r_null hC hd (qz_k0 rfl kk)
  | iload i =>
    cases (show len = 2 by simpa [qz_il] using hlen)
    simp only [qz_sp, qz_li] at hs
    split at hs
    · next hx => cases hs; exact qz_r_iload hC hd hx (qz_k0 rfl kk)
    · cases hs
  | iload_n i =>
    cases (show len = 1 by simpa [qz_il] using hlen)
    simp only [qz_sp, qz_li] at hs
    split at hs
    · next hx => cases hs; exact qz_r_iload_n hC hd hx (qz_k0 rfl kk)
    · cases hs
  | aload i =>
    cases (show len = 2 by simpa [qz_il] using hlen)
    simp only [qz_sp, qz_la] at hs
    split at hs
    · next hx => cases hs; exact qz_r_aload hC hd hx (qz_k0 rfl kk)
    · cases hs
  | aload_n i =>
    cases (show len = 1 by simpa [qz_il] using hlen)
    simp only [qz_sp, qz_la] at hs
    split at hs
    · next hx => cases hs; exact qz_r_aload_n hC hd hx (qz_k0 rfl kk)
    · cases hs
  | istore i =>
    cases (show len = 2 by simpa [qz_il] using hlen)
    simp only [qz_sp, qz_si] at hs
    split at hs
    · split at hs
      · next hx => cases hs; exact qz_r_istore hC hd hx.1 hx.2 (qz_k0 rfl kk)
      · cases hs
    · cases hs
  | istore_n i =>
    cases (show len = 1 by simpa [qz_il] using hlen)
    simp only [qz_sp, qz_si] at hs
    split at hs
    · split at hs
      · next hx => cases hs; exact qz_r_istore_n hC hd hx.1 hx.2 (qz_k0 rfl kk)
      · cases hs
    · cases hs
  | astore i =>
    cases (show len = 2 by simpa [qz_il] using hlen)
    simp only [qz_sp, qz_sr] at hs
    split at hs
    · split at hs
      · next hx => cases hs; exact qz_r_astore hC hd hx.1 hx.2 (qz_k0 rfl kk)
      · cases hs
    · cases hs
  | astore_n i =>
    cases (show len = 1 by simpa [qz_il] using hlen)
    simp only [qz_sp, qz_sr] at hs
    split at hs
    · split at hs
      · next hx => cases hs; exact qz_r_astore_n hC hd hx.1 hx.2 (qz_k0 rfl kk)
      · cases hs
    · cases hs
  | iinc i n =>
    cases (show len = 3 by simpa [qz_il] using hlen)
    simp only [qz_sp] at hs
    split at hs
    · next hx =>
      split at hs
      · next hg => cases hs; exact qz_r_iinc hC hd hx hg.1 hg.2 (qz_k0 rfl kk)
      · cases hs
    · cases hs
  | iadd =>
    cases (show len = 1 by simpa [qz_il] using hlen)
    simp only [qz_sp, qz_bn] at hs
    split at hs
    · cases hs; exact qz_r_iadd hC hd (qz_k0 rfl kk)
    · cases hs
  | isub =>
    cases (show len = 1 by simpa [qz_il] using hlen)
    simp only [qz_sp, qz_bn] at hs
    split at hs
    · cases hs; exact qz_r_isub hC hd (qz_k0 rfl kk)
    · cases hs
  | imul =>
    cases (show len = 1 by simpa [qz_il] using hlen)
    simp only [qz_sp, qz_bn] at hs
    split at hs
    · cases hs; exact qz_r_imul hC hd (qz_k0 rfl kk)
    · cases hs
  | iand =>
    cases (show len = 1 by simpa [qz_il] using hlen)
    simp only [qz_sp, qz_bn] at hs
    split at hs
    · cases hs; exact qz_r_iand hC hd (qz_k0 rfl kk)
    · cases hs
  | ishr =>
    cases (show len = 1 by simpa [qz_il] using hlen)
    simp only [qz_sp, qz_bn] at hs
    split at hs
    · cases hs; exact qz_r_ishr hC hd (qz_k0 rfl kk)
    · cases hs
  | ldc i =>
    cases (show len = 2 by simpa [qz_il] using hlen)
    simp only [qz_sp] at hs
    split at hs
    · next hx => cases hs; exact qz_r_ldc hC hd hx (qz_k0 rfl kk)
    · cases hs
  | ldc2_w i =>
    cases (show len = 3 by simpa [qz_il] using hlen)
    simp only [qz_sp] at hs
    split at hs
    · next hx => cases hs; exact qz_r_ldc2 hC hd hx (qz_k0 rfl kk)
    · cases hs
  | lload i =>
    cases (show len = 2 by simpa [qz_il] using hlen)
    simp only [qz_sp, qz_ll'] at hs
    split at hs
    · next hx => cases hs; exact qz_r_lload hC hd hx (qz_k0 rfl kk)
    · cases hs
  | lload_n i =>
    cases (show len = 1 by simpa [qz_il] using hlen)
    simp only [qz_sp, qz_ll'] at hs
    split at hs
    · next hx => cases hs; exact qz_r_lload_n hC hd hx (qz_k0 rfl kk)
    · cases hs
  | lstore i =>
    cases (show len = 2 by simpa [qz_il] using hlen)
    simp only [qz_sp, qz_sl] at hs
    split at hs
    · split at hs
      · next hx => cases hs; exact qz_r_lstore hC hd hx.1 hx.2.2.1 hx.2.2.2 (qz_k0 rfl kk)
      · cases hs
    · cases hs
  | lstore_n i =>
    cases (show len = 1 by simpa [qz_il] using hlen)
    simp only [qz_sp, qz_sl] at hs
    split at hs
    · split at hs
      · next hx => cases hs; exact qz_r_lstore_n hC hd hx.1 hx.2.2.1 hx.2.2.2 (qz_k0 rfl kk)
      · cases hs
    · cases hs
  | ladd =>
    cases (show len = 1 by simpa [qz_il] using hlen)
    simp only [qz_sp, qz_bl'] at hs
    split at hs
    · cases hs; exact qz_r_ladd hC hd (qz_k0 rfl kk)
    · cases hs
  | lmul =>
    cases (show len = 1 by simpa [qz_il] using hlen)
    simp only [qz_sp, qz_bl'] at hs
    split at hs
    · cases hs; exact qz_r_lmul hC hd (qz_k0 rfl kk)
    · cases hs
  | i2l =>
    cases (show len = 1 by simpa [qz_il] using hlen)
    simp only [qz_sp] at hs
    split at hs
    · cases hs; exact qz_r_i2l hC hd (qz_k0 rfl kk)
    · cases hs
  | lcmp =>
    cases (show len = 1 by simpa [qz_il] using hlen)
    simp only [qz_sp] at hs
    split at hs
    · cases hs; exact qz_r_lcmp hC hd (qz_k0 rfl kk)
    · cases hs
  | idiv =>
    cases (show len = 1 by simpa [qz_il] using hlen)
    simp only [qz_sp] at hs
    split at hs
    · split at hs
      · cases hs
      · next hy => cases hs; exact qz_r_idiv hC hd hy (qz_k0 rfl kk)
    · cases hs
  | irem =>
    cases (show len = 1 by simpa [qz_il] using hlen)
    simp only [qz_sp] at hs
    split at hs
    · split at hs
      · cases hs
      · next hy => cases hs; exact qz_r_irem hC hd hy (qz_k0 rfl kk)
    · cases hs
  | ineg =>
    cases (show len = 1 by simpa [qz_il] using hlen)
    simp only [qz_sp] at hs
    split at hs
    · cases hs; exact qz_r_ineg hC hd (qz_k0 rfl kk)
    · cases hs
  | i2c =>
    cases (show len = 1 by simpa [qz_il] using hlen)
    simp only [qz_sp] at hs
    split at hs
    · cases hs; exact qz_r_i2c hC hd (qz_k0 rfl kk)
    · cases hs
  | dup =>
    cases (show len = 1 by simpa [qz_il] using hlen)
    simp only [qz_sp] at hs
    split at hs
    · split at hs
      · next hx => cases hs; exact qz_r_dup hC hx hd (qz_k0 rfl kk)
      · cases hs
    · cases hs
  | dup2 =>
    cases (show len = 1 by simpa [qz_il] using hlen)
    simp only [qz_sp] at hs
    split at hs
    · split at hs
      · next hx => cases hs; exact qz_r_dup2 hC hx.1 hx.2 hd (qz_k0 rfl kk)
      · cases hs
    · cases hs
  | pop =>
    cases (show len = 1 by simpa [qz_il] using hlen)
    simp only [qz_sp] at hs
    split at hs
    · split at hs
      · next hx => cases hs; exact qz_r_pop hC hx hd (qz_k0 rfl kk)
      · cases hs
    · cases hs
  | ifCond cd off =>
    cases (show len = 3 by simpa [qz_il] using hlen)
    simp only [qz_sp] at hs
    split at hs
    · obtain ⟨-, -, -, -, eM, -⟩ := qz_br_inv hs
      exact qz_r_if hC hd hs (qz_k0 (by rw [eM]) kk)
    · cases hs
  | if_icmp cd off =>
    cases (show len = 3 by simpa [qz_il] using hlen)
    simp only [qz_sp] at hs
    split at hs
    · obtain ⟨-, -, -, -, eM, -⟩ := qz_br_inv hs
      exact qz_r_icmp hC hd hs (qz_k0 (by rw [eM]) kk)
    · cases hs
  | if_acmp cd off =>
    cases (show len = 3 by simpa [qz_il] using hlen)
    simp only [qz_sp] at hs
    split at hs
    · split at hs
      · next x y r hc =>
        obtain ⟨-, -, -, -, eM, -⟩ := qz_br_inv hs
        have dy : ∀ {x : Option qz_N} {n : qz_N}, qz_dy x = true → x = some n → n.1 < 30 := by
          intro x n h1 h2
          subst h2
          simpa [qz_dy] using h1
        exact qz_r_acmp hC (fun n h => ⟨dy hc.1 h, lv2 (by rw [h])⟩) (fun n h => ⟨dy hc.2 h, lv (by rw [h])⟩) hd hs (qz_k0 (by rw [eM]) kk)
      · cases hs
    · cases hs
  | ifnull off =>
    cases (show len = 3 by simpa [qz_il] using hlen)
    simp only [qz_sp] at hs
    split at hs
    · obtain ⟨-, -, -, -, eM, -⟩ := qz_br_inv hs
      exact qz_r_ifnull hC hd hs (qz_k0 (by rw [eM]) kk)
    · cases hs
  | ifnonnull off =>
    cases (show len = 3 by simpa [qz_il] using hlen)
    simp only [qz_sp] at hs
    split at hs
    · obtain ⟨-, -, -, -, eM, -⟩ := qz_br_inv hs
      exact qz_r_ifnonnull hC hd hs (qz_k0 (by rw [eM]) kk)
    · cases hs
  | goto off =>
    cases (show len = 3 by simpa [qz_il] using hlen)
    simp only [qz_sp] at hs
    split at hs
    · next ht => cases hs; exact qz_r_goto hC hd ht (qz_k0 rfl kk)
    · cases hs
  | tableswitch d lo hi offs =>
    simp only [qz_sp] at hs
    split at hs
    · split at hs
      · next h =>
        split at hs
        · next ht => cases hs; exact qz_r_tabO hC hd h ht (qz_k0 rfl kk)
        · cases hs
      · next h =>
        split at hs
        · next ho =>
          split at hs
          · next ht => cases hs; exact qz_r_tabI hC hd h ho ht (qz_k0 rfl kk)
          · cases hs
        · cases hs
    · cases hs
  | getfield i =>
    cases (show len = 3 by simpa [qz_il] using hlen)
    simp only [qz_sp] at hs
    split at hs
    · split at hs
      · next hf =>
        split at hs
        · next hc => subst hc; cases hs; exact qz_r_getf hC hd hf (lv rfl) (qz_k0 rfl kk)
        · cases hs
      · cases hs
    · cases hs
  | putfield i =>
    cases (show len = 3 by simpa [qz_il] using hlen)
    simp only [qz_sp] at hs
    split at hs
    · split at hs
      · next hf =>
        split at hs
        · next hc =>
          obtain ⟨h1, h2, h3, h4⟩ := hc
          subst h1
          cases hs
          exact qz_r_putfi hC hd hf (lv2 rfl) h2 h3 h4 (qz_k0 rfl kk)
        · cases hs
      · cases hs
    · split at hs
      · next hf =>
        split at hs
        · next hc =>
          obtain ⟨h1, h2, h3, h4, h5⟩ := hc
          subst h1
          cases hs
          exact qz_r_putfr hC hd hf (lv2 rfl) h2 h3 h4 h5 (qz_k0 rfl kk)
        · cases hs
      · cases hs
    · cases hs
  | getstatic i =>
    cases (show len = 3 by simpa [qz_il] using hlen)
    simp only [qz_sp] at hs
    split at hs
    · next hf => cases hs; exact qz_r_getst hC hd hf (qz_k0 rfl kk)
    · cases hs
  | iaload =>
    cases (show len = 1 by simpa [qz_il] using hlen)
    simp only [qz_sp, qz_ld] at hs
    split at hs
    · split at hs
      · next hc => cases hs; exact qz_r_iald hC hd hc.1 hc.2 (lv2 rfl) (qz_k0 rfl kk)
      · cases hs
    · cases hs
  | caload =>
    cases (show len = 1 by simpa [qz_il] using hlen)
    simp only [qz_sp, qz_ld] at hs
    split at hs
    · split at hs
      · next hc => cases hs; exact qz_r_cald hC hd hc.1 hc.2 (lv2 rfl) (qz_k0 rfl kk)
      · cases hs
    · cases hs
  | iastore =>
    cases (show len = 1 by simpa [qz_il] using hlen)
    simp only [qz_sp, qz_sd] at hs
    split at hs
    · split at hs
      · next hc => cases hs; exact qz_r_iast hC hd hc.1 hc.2.1 hc.2.2 (lv3 rfl) (qz_k0 rfl kk)
      · cases hs
    · cases hs
  | castore =>
    cases (show len = 1 by simpa [qz_il] using hlen)
    simp only [qz_sp, qz_sd] at hs
    split at hs
    · split at hs
      · next hc => cases hs; exact qz_r_cast hC hd hc.1 hc.2.1 hc.2.2 (lv3 rfl) (qz_k0 rfl kk)
      · cases hs
    · cases hs
  | aaload =>
    cases (show len = 1 by simpa [qz_il] using hlen)
    simp only [qz_sp] at hs
    split at hs
    · split at hs
      · next hc => cases hs; exact qz_r_aald hC hd hc.1 hc.2 (lv2 rfl) (qz_k0 rfl kk)
      · cases hs
    · cases hs
  | aastore =>
    cases (show len = 1 by simpa [qz_il] using hlen)
    simp only [qz_sp] at hs
    split at hs
    · split at hs
      · next hc => cases hs; exact qz_r_aast hC hd hc.1 hc.2.1 hc.2.2 (lv3 rfl) (lv rfl) (qz_k0 rfl kk)
      · cases hs
    · cases hs
  | arraylength =>
    cases (show len = 1 by simpa [qz_il] using hlen)
    simp only [qz_sp] at hs
    split at hs
    · split at hs
      · next hc => cases hs; exact qz_r_alen hC hd hc (lv rfl) (qz_k0 rfl kk)
      · cases hs
    · cases hs
  | new i =>
    cases (show len = 3 by simpa [qz_il] using hlen)
    simp only [qz_sp] at hs
    split at hs
    · next hw =>
      split at hs
      · next hc =>
        obtain ⟨h1, h2, h3⟩ := hc
        subst h1
        cases hs
        rw [qz_al1] at hce kk
        rw [qz_al2] at hsl kk
        exact qz_r_new hC hd hw h2 h3 hce hsl kk
      · cases hs
    · cases hs
  | newarray a =>
    cases (show len = 2 by simpa [qz_il] using hlen)
    simp only [qz_sp] at hs
    split at hs
    · split at hs
      · next hc =>
        obtain ⟨h1, h2, h3, h4, h5⟩ := hc
        cases hs
        rw [qz_al1] at hce kk
        rw [qz_al2] at hsl kk
        exact qz_r_newa hC hd h1 h2 h3 h4 h5 hce hsl kk
      · cases hs
    · cases hs
  | anewarray i =>
    cases (show len = 3 by simpa [qz_il] using hlen)
    simp only [qz_sp] at hs
    split at hs
    · split at hs
      · next hw =>
        split at hs
        · next hc =>
          obtain ⟨h1, h2, h3, h4, h5, h6⟩ := hc
          subst h6
          cases hs
          rw [qz_al1] at hce kk
          rw [qz_al2] at hsl kk
          exact qz_r_anew hC hd hw h1 h2 h3 h4 h5 hce hsl kk
        · cases hs
      · cases hs
    · cases hs
  | _ => cases hs
theorem qz_bist (hC : qz_Cx p s m args meth c z tA D cy k) (hRF : qz_rF k ≤ R.frames) (hRL : qz_rL k ≤ R.locals) {ins : Instr} {len pc' : Nat} {ls' : List (Option qz_V)} {st' : List qz_V} {M' : qz_M} (hd : decode (qz_b k) pc = .ok (ins, len)) (hlen : qz_il ins len = true) (hs : qz_bi k ins pc ls st M = some (pc', ls', st', M')) (hce : ce ≤ R.cells) (hsl : sl ≤ R.slots)
    (kk : qz_W p l e R s m args below meth c z tA D cy k Q ce sl pc' ls' st' M') : qz_W p l e R s m args below meth c z tA D cy k Q ce sl pc ls st M := by
  have hts : ∀ w ∈ qz_tb, w.before args s = true := hC.2.2.2.2.1
  unfold qz_bi at hs
  split at hs
  · cases (show len = 3 by simpa [qz_il] using hlen)
    split at hs
    · split at hs
      · next hc =>
        cases hs
        intro H locs lsm hL hP hS hT
        refine W.objInit hC.1 hC.2.1 hC.2.2.2.1 (hts _ (qz_ob_ok hc.1)) (hts _ qz_oi) (hts _ qz_oc) rfl (by rw [hC.2.2.1]; exact hL.2.1) rfl hd (by have := hc.2.2.1; omega) ?_ (kk H locs lsm hL hP hS hT)
        have := hc.2.1
        have h2 := hc.2.2.2
        rw [qz_tvs]
        show 2 * 0 + _ + 12 ≤ _
        omega
      · cases hs
    · cases hs
  · cases (show len = 3 by simpa [qz_il] using hlen)
    split at hs
    · next hm =>
      split at hs
      · split at hs
        · next hc =>
          cases hs
          intro H locs lsm hL hP hS hT
          have hw : Cond.methodLink (qz_ow (qz_cn k)) _ Lib.Math.max.name ∈ qz_tb := (qz_mt_ok hm).elim (fun h => h.2) (fun h => by cases h.1)
          refine va_mmax hC.1 hC.2.1 (by rw [hC.2.2.1]; exact hL.2.1.symm) hC.2.2.2.1 (hts _ hw) (hts _ qz_mw_max.1) (hts _ qz_mw_max.2.1) (hts _ qz_mw_max.2.2) (by have := hc.2.1; omega) ?_ hce hsl hd (kk H locs lsm hL hP hS hT)
          have h1 := hc.1
          have h2 := hc.2.2
          rw [qz_tvs]
          omega
        · cases hs
      · cases hs
    · next hm =>
      split at hs
      · split at hs
        · next hc =>
          cases hs
          intro H locs lsm hL hP hS hT
          have hw : Cond.methodLink (qz_ow (qz_cn k)) _ Lib.Math.abs.name ∈ qz_tb := (qz_mt_ok hm).elim (fun h => by cases h.1) (fun h => h.2)
          refine va_mabs hC.1 hC.2.1 (by rw [hC.2.2.1]; exact hL.2.1.symm) hC.2.2.2.1 (hts _ hw) (hts _ qz_mw_abs.1) (hts _ qz_mw_abs.2.1) (hts _ qz_mw_abs.2.2) (by have := hc.2.1; omega) ?_ hce hsl hd (kk H locs lsm hL hP hS hT)
          have h1 := hc.1
          have h2 := hc.2.2
          rw [qz_tvs]
          omega
        · cases hs
      · cases hs
    · cases hs
  · cases hs
/-- the return of a method that was called -/
theorem qz_ret (hC : qz_Cx p s m args meth c z tA D cy k) (hr : meth.sig.returnType = qz_rt k) (hlk : meth.locks = false) {ins : Instr} {r : Option qz_V} {H : Heap} {locs : List Loc} {lsm : Array Slot} (hd : decode (qz_b k) pc = .ok (ins, 1)) (hv : qz_rv k ins st = some r) (hP : qz_P z tA D cy M H) (hS : va_S (qz_A z) s.heap H locs) : W p l e R s m args below meth c H locs ce sl (MQ below (qz_Qc z tA D cy r M) args s ce sl (qz_A z)) (F0 m pc lsm (st.map (qz_tv z tA))) := by
  unfold qz_rv at hv
  split at hv
  · split at hv
    · next x =>
      split at hv
      · next hc =>
        cases hv
        rcases hc with h | ⟨h, hx⟩
        · exact W.iret (v := x) hC.1 hC.2.1 (by rw [hr, h]) (fun t ht hW => ⟨rfl, by rw [ht]; exact hP, hS.F ht⟩) hS.2.2 hd hlk
        · exact W.zret (v := x) hC.1 hC.2.1 (by rw [hr, h]) (by rcases hx with rfl | rfl <;> rfl) (fun t ht hW => ⟨rfl, by rw [ht]; exact hP, hS.F ht⟩) hS.2.2 hd hlk
      · cases hv
    · cases hv
  · split at hv
    · next x =>
      split at hv
      · next h =>
        cases hv
        exact W.aret (v := va_rf (x.map (qz_ad z tA))) hC.1 hC.2.1 (by rw [hr, h]) (Or.inl ⟨_, rfl⟩) (by cases x; exact Or.inl rfl; exact Or.inr ⟨_, rfl⟩) (fun t ht hW => ⟨rfl, by rw [ht]; exact hP, hS.F ht⟩) hS.2.2 hd hlk
      · cases hv
    · cases hv
  · split at hv
    · next x =>
      split at hv
      · next h =>
        cases hv
        exact W.lret (v := x) hC.1 hC.2.1 (by rw [hr, h]) (fun t ht hW => ⟨rfl, by rw [ht]; exact hP, hS.F ht⟩) hS.2.2 hd hlk
      · cases hv
    · cases hv
  · split at hv
    · split at hv
      · next h =>
        cases hv
        exact W.vret hC.1 hC.2.1 (by rw [hr, h]) (fun t ht hW => ⟨rfl, by rw [ht]; exact hP, hS.F ht⟩) hS.2.2 hd hlk
      · cases hv
    · cases hv
  · cases hv
theorem qz_rvl {ins : Instr} {len : Nat} {r : Option qz_V} (hv : qz_rv k ins st = some r) (hl : qz_il ins len = true) : len = 1 := by
  unfold qz_rv at hv
  split at hv <;> first | (simpa [qz_il] using hl) | cases hv
theorem qz_con {k' : Nat} (h : qz_co' k k' st = true) : (qz_ag (qz_na k') st).all qz_nl = true := by
  simp only [qz_co', Bool.and_eq_true] at h
  unfold qz_ag
  rw [List.all_reverse]
  exact h.1.1.2.1
theorem qz_kln {ins : Instr} {k' : Nat} (hv : qz_kl k ins st = some k') : (qz_ag (qz_na k') st).all qz_nl = true := by
  unfold qz_kl at hv
  split at hv
  · split at hv
    · split at hv
      · next h => cases hv; exact qz_con h.1
      · cases hv
    · cases hv
  · split at hv
    · split at hv
      · next h => cases hv; exact qz_con h.1
      · cases hv
    · cases hv
  · split at hv
    · split at hv
      · next h => cases hv; exact qz_con h.1
      · cases hv
    · cases hv
  · cases hv
theorem qz_kll {ins : Instr} {len k' : Nat} (hv : qz_kl k ins st = some k') (hl : qz_il ins len = true) : len = 3 := by
  unfold qz_kl at hv
  split at hv <;> first | (simpa [qz_il] using hl) | cases hv
theorem qz_ml_ll (k : Nat) : qz_ml k ≤ qz_ll k := by
  unfold qz_ll
  split <;> omega
def qz_IH (l : Launch) (z : Nat) (tA : Nat → Nat) (D : va_G) (cy : Nat → ClassId) (n : Nat) : Prop := ∀ (k : Nat) (as : List qz_V) (M : qz_M) (r : Option qz_V) (M' : qz_M), k < qz_nm → as.length = qz_na k → as.all qz_nl = true → qz_ex n k 0 (qz_in0 k as) [] M = some (r, M') → qz_ok (qz_in0 k as) [] M → qz_Mt l z tA D cy k as M r M'
theorem qz_walk (hC : qz_Cx p s m args meth c z tA D cy k) (hRF : qz_rF k ≤ R.frames) (hRL : qz_rL k ≤ R.locals) {N : Nat} (ih : ∀ j, j < N → qz_IH l z tA D cy j) {r : Option qz_V} {M' : qz_M} : ∀ (n : Nat), n ≤ N → ∀ (pc : Nat) (ls : List (Option qz_V)) (st : List qz_V) (M : qz_M) (ce sl : Nat), qz_ex n k pc ls st M = some (r, M') → qz_ok ls st M → ce + (M'.1 - M.1) ≤ R.cells → sl + (qz_ss M'.1 - qz_ss M.1) ≤ R.slots →
    (∀ (H : Heap) (locs : List Loc) (lsm : Array Slot) (pc : Nat) (ins : Instr) (st : List qz_V), decode (qz_b k) pc = .ok (ins, 1) → qz_rv k ins st = some r → qz_P z tA D cy M' H → va_S (qz_A z) s.heap H locs → W p l e R s m args below meth c H locs (ce + (M'.1 - M.1)) (sl + (qz_ss M'.1 - qz_ss M.1)) Q (F0 m pc lsm (st.map (qz_tv z tA)))) → qz_W p l e R s m args below meth c z tA D cy k Q ce sl pc ls st M := by
  intro n
  induction n with
  | zero => intro _ pc ls st M ce sl h; cases h
  | succ n ihn =>
    intro hN pc ls st M ce sl h hok hce hsl hret
    unfold qz_ex at h
    split at h
    · next ins len hd =>
      split at h
      · next hlen =>
        split at h
        · next pc1 ls1 st1 M1 hs =>
          obtain ⟨h1, h2⟩ := qz_sp_ok hs hok
          obtain ⟨-, -, h5⟩ := qz_ex_ok _ _ _ _ _ _ _ _ h h1
          have a1 := h2.1
          have a2 := h5.1
          have a3 := qz_ss_le a1
          have a4 := qz_ss_le a2
          refine qz_step hC hok hd hlen hs (by omega) (by omega) (ihn (by omega) _ _ _ _ _ _ h h1 (by omega) (by omega) ?_)
          rw [show ce + (M1.1 - M.1) + (M'.1 - M1.1) = ce + (M'.1 - M.1) by omega, show sl + (qz_ss M1.1 - qz_ss M.1) + (qz_ss M'.1 - qz_ss M1.1) = sl + (qz_ss M'.1 - qz_ss M.1) by omega]
          exact hret
        · split at h
          · next hv =>
            cases h
            cases qz_rvl hv hlen
            intro H locs lsm hL hP hS hT
            have := hret H locs lsm pc _ st hd hv hP hS
            rw [Nat.sub_self, Nat.sub_self, Nat.add_zero, Nat.add_zero] at this
            exact this
          · split at h
            · next pc1 ls1 st1 M1 hs =>
              obtain ⟨h1, h2⟩ := qz_bi_ok hs hok
              have e1 : M1 = M := by
                unfold qz_bi at hs
                split at hs
                · split at hs
                  · split at hs
                    · cases hs; rfl
                    · cases hs
                  · cases hs
                · split at hs
                  · split at hs
                    · split at hs
                      · cases hs; rfl
                      · cases hs
                    · cases hs
                  · split at hs
                    · split at hs
                      · cases hs; rfl
                      · cases hs
                    · cases hs
                  · cases hs
                · cases hs
              subst e1
              exact qz_bist hC hRF hRL hd hlen hs (by omega) (by omega) (ihn (by omega) _ _ _ _ _ _ h h1 hce hsl hret)
            · split at h
              · next k' hk =>
                split at h
                · next r1 M1 hs =>
                  obtain ⟨h1, h2, h6⟩ := qz_ex_ok _ _ _ _ _ _ _ _ hs (qz_in0_ok hok)
                  have h7 := qz_aft (k := qz_na k') hok h6 h1 h2
                  obtain ⟨-, -, h5⟩ := qz_ex_ok _ _ _ _ _ _ _ _ h h7
                  have a1 := h6.1
                  have a2 := h5.1
                  have a3 := qz_ss_le a1
                  have a4 := qz_ss_le a2
                  cases qz_kll hk hlen
                  refine qz_r_call hC hRF hRL hd hk hok.2.2 (fun hn hal => ih n (by omega) _ _ _ _ _ hn hal (qz_kln hk) hs (qz_in0_ok hok)) h6 (by omega) (by omega) (ihn (by omega) _ _ _ _ _ _ h h7 (by omega) (by omega) ?_)
                  rw [show ce + (M1.1 - M.1) + (M'.1 - M1.1) = ce + (M'.1 - M.1) by omega, show sl + (qz_ss M1.1 - qz_ss M.1) + (qz_ss M'.1 - qz_ss M1.1) = sl + (qz_ss M'.1 - qz_ss M.1) by omega]
                  exact hret
                · cases h
              · cases h
      · cases h
    · cases h
/-- every method's contract: what the interpreter answers -/
theorem qz_sim (l : Launch) (z : Nat) (tA : Nat → Nat) (D : va_G) (cy : Nat → ClassId) : ∀ n, qz_IH l z tA D cy n := by
  intro n
  induction n using Nat.strongRecOn with
  | ind N ih =>
    intro k as M r M' hk hal han hex hok
    obtain ⟨m1, m2, m3, m4, m5, m6, m7, m8, m9, m10⟩ := qz_mo hk
    refine Met.ofW (cc := qz_b k) (maxL := qz_ml k) (ret := qz_rt k) m1 rfl ?_
    intro p e s m args below meth c s₁ B hml hv
    obtain ⟨rfl, hP, hK, hT⟩ := hv
    have hts := atoms_spec (ws := qz_ws k) B.pre
    have hown : s.vm.findClass (qz_ow (qz_cn k)) = some m.cls := by
      rw [← m8]
      exact findClass_of_methodNamed B.named
    have hC : qz_Cx p s m ((as.map (qz_tv z tA)).toArray) meth c z tA D cy k := ⟨B.exec, B.bytes, hml, hown, fun w hw => hts w (List.mem_cons_of_mem _ hw), fun h => by
      rw [(name_of_methodNamed B.named B.method).1]
      simpa [qz_ini] using h, hK, by rw [hP.1]; exact Nat.le_add_right _ _⟩
    rw [lg_entry_eq]
    have hst := qz_L.start (z := z) (tA := tA) as (qz_ml k) (qz_ll k) (by rw [hal]; exact m9) (qz_ml_ll k) han
    have hw := qz_walk (R := (headSpec (qz_ws k) (qz_rm k (M'.1 - M.1) (qz_ss M'.1 - qz_ss M.1))).room) (below := below) (l := l) (e := e) (Q := MQ below (qz_Qc z tA D cy r M') ((as.map (qz_tv z tA)).toArray) s (M'.1 - M.1) (qz_ss M'.1 - qz_ss M.1) (qz_A z)) hC (Nat.le_refl _) (Nat.le_refl _) ih N (Nat.le_refl _) 0 (qz_in0 k as) [] M 0 0 hex hok (by rw [Nat.zero_add]; exact Nat.le_refl _) (by rw [Nat.zero_add]; exact Nat.le_refl _)
      (fun H locs lsm pc ins st hd hv hP' hS' => by
        rw [Nat.zero_add, Nat.zero_add]
        exact qz_ret hC B.returns B.notSynchronized hd hv hP' hS')
    exact hw s.heap [] _ hst hP va_S.rf hT
end QZW
end
