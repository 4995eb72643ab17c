section
/-- a private method of a class that the tables say can be made, by its rows of tables_1 -/
def lw_okq (q : MethodName × Nat) : Prop := (q.1.cls ≠ "java/lang/invoke/MethodHandle" ∧ q.1.cls ≠ "java/lang/invoke/VarHandle") ∧ Cond.instantiable q.1.cls q.2 ∈ tables_1 ∧ Cond.privateMethod q.1 ∈ tables_1 ∧ Cond.instanceMethod q.1 ∈ tables_1
theorem lw_p0 : lw_okq (⟨"ShiftBuses$History", "dropOldest", "()V"⟩, 2) := ⟨⟨by decide +kernel, by decide +kernel⟩, List.mem_of_getElem? (i := 165) (by decide +kernel), List.mem_of_getElem? (i := 206) (by decide +kernel), List.mem_of_getElem? (i := 207) (by decide +kernel)⟩
theorem lw_p1 : lw_okq (⟨"ShiftBuses$Works", "minuteOf", "(I)I"⟩, 12) := ⟨⟨by decide +kernel, by decide +kernel⟩, List.mem_of_getElem? (i := 18) (by decide +kernel), List.mem_of_getElem? (i := 289) (by decide +kernel), List.mem_of_getElem? (i := 290) (by decide +kernel)⟩
theorem lw_p2 : lw_okq (⟨"ShiftBuses$BookingText", "wish", "(III)V"⟩, 4) := ⟨⟨by decide +kernel, by decide +kernel⟩, List.mem_of_getElem? (i := 119) (by decide +kernel), List.mem_of_getElem? (i := 307) (by decide +kernel), List.mem_of_getElem? (i := 308) (by decide +kernel)⟩
theorem lw_p3 : lw_okq (⟨"ShiftBuses", "hasAllEnds", "()Z"⟩, 5) := ⟨⟨by decide +kernel, by decide +kernel⟩, List.mem_of_getElem? (i := 10) (by decide +kernel), List.mem_of_getElem? (i := 311) (by decide +kernel), List.mem_of_getElem? (i := 312) (by decide +kernel)⟩
theorem lw_p4 : lw_okq (⟨"ShiftBuses", "enterAll", "()V"⟩, 5) := ⟨⟨by decide +kernel, by decide +kernel⟩, List.mem_of_getElem? (i := 10) (by decide +kernel), List.mem_of_getElem? (i := 315) (by decide +kernel), List.mem_of_getElem? (i := 316) (by decide +kernel)⟩
theorem lw_p5 : lw_okq (⟨"ShiftBuses$Works", "nextWaiting", "(LShiftBuses$Booking;)LShiftBuses$Booking;"⟩, 12) := ⟨⟨by decide +kernel, by decide +kernel⟩, List.mem_of_getElem? (i := 18) (by decide +kernel), List.mem_of_getElem? (i := 335) (by decide +kernel), List.mem_of_getElem? (i := 336) (by decide +kernel)⟩
theorem lw_p6 : lw_okq (⟨"ShiftBuses$Works", "isLookedAtAheadOf", "(LShiftBuses$Booking;LShiftBuses$Booking;)Z"⟩, 12) := ⟨⟨by decide +kernel, by decide +kernel⟩, List.mem_of_getElem? (i := 18) (by decide +kernel), List.mem_of_getElem? (i := 343) (by decide +kernel), List.mem_of_getElem? (i := 344) (by decide +kernel)⟩
theorem lw_p7 : lw_okq (⟨"ShiftBuses$Works", "isEarlier", "(II)Z"⟩, 12) := ⟨⟨by decide +kernel, by decide +kernel⟩, List.mem_of_getElem? (i := 18) (by decide +kernel), List.mem_of_getElem? (i := 347) (by decide +kernel), List.mem_of_getElem? (i := 348) (by decide +kernel)⟩
theorem lw_p8 : lw_okq (⟨"ShiftBuses", "mergingError", "(III)I"⟩, 5) := ⟨⟨by decide +kernel, by decide +kernel⟩, List.mem_of_getElem? (i := 10) (by decide +kernel), List.mem_of_getElem? (i := 363) (by decide +kernel), List.mem_of_getElem? (i := 364) (by decide +kernel)⟩
theorem lw_p9 : lw_okq (⟨"ShiftBuses$Works", "isInTimeForAll", "(III)Z"⟩, 12) := ⟨⟨by decide +kernel, by decide +kernel⟩, List.mem_of_getElem? (i := 18) (by decide +kernel), List.mem_of_getElem? (i := 374) (by decide +kernel), List.mem_of_getElem? (i := 375) (by decide +kernel)⟩
theorem lw_p10 : lw_okq (⟨"ShiftBuses$Works", "isInTime", "(LShiftBuses$Booking;I)Z"⟩, 12) := ⟨⟨by decide +kernel, by decide +kernel⟩, List.mem_of_getElem? (i := 18) (by decide +kernel), List.mem_of_getElem? (i := 378) (by decide +kernel), List.mem_of_getElem? (i := 379) (by decide +kernel)⟩
theorem lw_p11 : lw_okq (⟨"ShiftBuses$Works", "canRide", "(LShiftBuses$Booking;II)Z"⟩, 12) := ⟨⟨by decide +kernel, by decide +kernel⟩, List.mem_of_getElem? (i := 18) (by decide +kernel), List.mem_of_getElem? (i := 420) (by decide +kernel), List.mem_of_getElem? (i := 421) (by decide +kernel)⟩
theorem lw_p12 : lw_okq (⟨"ShiftBuses$Works", "bringRiderHome", "(LShiftBuses$Booking;)V"⟩, 12) := ⟨⟨by decide +kernel, by decide +kernel⟩, List.mem_of_getElem? (i := 18) (by decide +kernel), List.mem_of_getElem? (i := 432) (by decide +kernel), List.mem_of_getElem? (i := 433) (by decide +kernel)⟩
theorem lw_p13 : lw_okq (⟨"ShiftBuses$Works", "rankOf", "(I)I"⟩, 12) := ⟨⟨by decide +kernel, by decide +kernel⟩, List.mem_of_getElem? (i := 18) (by decide +kernel), List.mem_of_getElem? (i := 505) (by decide +kernel), List.mem_of_getElem? (i := 506) (by decide +kernel)⟩
theorem lw_p14 : lw_okq (⟨"ShiftBusesModel", "records", "()V"⟩, 15) := ⟨⟨by decide +kernel, by decide +kernel⟩, List.mem_of_getElem? (i := 517) (by decide +kernel), List.mem_of_getElem? (i := 577) (by decide +kernel), List.mem_of_getElem? (i := 578) (by decide +kernel)⟩
theorem lw_p15 : lw_okq (⟨"ShiftBusesModel", "isEnd", "(I)Z"⟩, 15) := ⟨⟨by decide +kernel, by decide +kernel⟩, List.mem_of_getElem? (i := 517) (by decide +kernel), List.mem_of_getElem? (i := 585) (by decide +kernel), List.mem_of_getElem? (i := 586) (by decide +kernel)⟩
def lw_privs_1 : List (MethodName × Nat) := [(⟨"ShiftBuses$History", "dropOldest", "()V"⟩, 2), (⟨"ShiftBuses$Works", "minuteOf", "(I)I"⟩, 12), (⟨"ShiftBuses$BookingText", "wish", "(III)V"⟩, 4), (⟨"ShiftBuses", "hasAllEnds", "()Z"⟩, 5), (⟨"ShiftBuses", "enterAll", "()V"⟩, 5), (⟨"ShiftBuses$Works", "nextWaiting", "(LShiftBuses$Booking;)LShiftBuses$Booking;"⟩, 12), (⟨"ShiftBuses$Works", "isLookedAtAheadOf", "(LShiftBuses$Booking;LShiftBuses$Booking;)Z"⟩, 12), (⟨"ShiftBuses$Works", "isEarlier", "(II)Z"⟩, 12), (⟨"ShiftBuses", "mergingError", "(III)I"⟩, 5), (⟨"ShiftBuses$Works", "isInTimeForAll", "(III)Z"⟩, 12), (⟨"ShiftBuses$Works", "isInTime", "(LShiftBuses$Booking;I)Z"⟩, 12), (⟨"ShiftBuses$Works", "canRide", "(LShiftBuses$Booking;II)Z"⟩, 12), (⟨"ShiftBuses$Works", "bringRiderHome", "(LShiftBuses$Booking;)V"⟩, 12), (⟨"ShiftBuses$Works", "rankOf", "(I)I"⟩, 12), (⟨"ShiftBusesModel", "records", "()V"⟩, 15), (⟨"ShiftBusesModel", "isEnd", "(I)Z"⟩, 15)]
theorem lw_r1 : ∀ q ∈ lw_privs_1, lw_okq q := List.forall_mem_cons.mpr ⟨lw_p0, List.forall_mem_cons.mpr ⟨lw_p1, List.forall_mem_cons.mpr ⟨lw_p2, List.forall_mem_cons.mpr ⟨lw_p3, List.forall_mem_cons.mpr ⟨lw_p4, List.forall_mem_cons.mpr ⟨lw_p5, List.forall_mem_cons.mpr ⟨lw_p6, List.forall_mem_cons.mpr ⟨lw_p7, List.forall_mem_cons.mpr ⟨lw_p8, List.forall_mem_cons.mpr ⟨lw_p9, List.forall_mem_cons.mpr ⟨lw_p10, List.forall_mem_cons.mpr ⟨lw_p11, List.forall_mem_cons.mpr ⟨lw_p12, List.forall_mem_cons.mpr ⟨lw_p13, List.forall_mem_cons.mpr ⟨lw_p14, List.forall_mem_cons.mpr ⟨lw_p15, fun _ h => absurd h List.not_mem_nil⟩⟩⟩⟩⟩⟩⟩⟩⟩⟩⟩⟩⟩⟩⟩⟩
theorem lw_p16 : lw_okq (⟨"ShiftBusesModel", "books", "(III)I"⟩, 15) := ⟨⟨by decide +kernel, by decide +kernel⟩, List.mem_of_getElem? (i := 517) (by decide +kernel), List.mem_of_getElem? (i := 595) (by decide +kernel), List.mem_of_getElem? (i := 596) (by decide +kernel)⟩
theorem lw_p17 : lw_okq (⟨"ShiftBusesModel", "reasonBut", "(IIII)I"⟩, 15) := ⟨⟨by decide +kernel, by decide +kernel⟩, List.mem_of_getElem? (i := 517) (by decide +kernel), List.mem_of_getElem? (i := 599) (by decide +kernel), List.mem_of_getElem? (i := 600) (by decide +kernel)⟩
theorem lw_p18 : lw_okq (⟨"ShiftBusesModel", "takenBut", "(IIII)I"⟩, 15) := ⟨⟨by decide +kernel, by decide +kernel⟩, List.mem_of_getElem? (i := 517) (by decide +kernel), List.mem_of_getElem? (i := 603) (by decide +kernel), List.mem_of_getElem? (i := 604) (by decide +kernel)⟩
theorem lw_p19 : lw_okq (⟨"ShiftBusesModel", "of", "(II)I"⟩, 15) := ⟨⟨by decide +kernel, by decide +kernel⟩, List.mem_of_getElem? (i := 517) (by decide +kernel), List.mem_of_getElem? (i := 607) (by decide +kernel), List.mem_of_getElem? (i := 608) (by decide +kernel)⟩
theorem lw_p20 : lw_okq (⟨"ShiftBusesModel", "isOn", "(III)Z"⟩, 15) := ⟨⟨by decide +kernel, by decide +kernel⟩, List.mem_of_getElem? (i := 517) (by decide +kernel), List.mem_of_getElem? (i := 611) (by decide +kernel), List.mem_of_getElem? (i := 612) (by decide +kernel)⟩
theorem lw_p21 : lw_okq (⟨"ShiftBusesModel", "partner", "(II)I"⟩, 15) := ⟨⟨by decide +kernel, by decide +kernel⟩, List.mem_of_getElem? (i := 517) (by decide +kernel), List.mem_of_getElem? (i := 615) (by decide +kernel), List.mem_of_getElem? (i := 616) (by decide +kernel)⟩
theorem lw_p22 : lw_okq (⟨"ShiftBusesModel", "startOf", "(II)I"⟩, 15) := ⟨⟨by decide +kernel, by decide +kernel⟩, List.mem_of_getElem? (i := 517) (by decide +kernel), List.mem_of_getElem? (i := 619) (by decide +kernel), List.mem_of_getElem? (i := 620) (by decide +kernel)⟩
theorem lw_p23 : lw_okq (⟨"ShiftBusesModel", "minute", "(I)I"⟩, 15) := ⟨⟨by decide +kernel, by decide +kernel⟩, List.mem_of_getElem? (i := 517) (by decide +kernel), List.mem_of_getElem? (i := 623) (by decide +kernel), List.mem_of_getElem? (i := 624) (by decide +kernel)⟩
theorem lw_p24 : lw_okq (⟨"ShiftBusesModel", "behind", "(III)I"⟩, 15) := ⟨⟨by decide +kernel, by decide +kernel⟩, List.mem_of_getElem? (i := 517) (by decide +kernel), List.mem_of_getElem? (i := 630) (by decide +kernel), List.mem_of_getElem? (i := 631) (by decide +kernel)⟩
theorem lw_p25 : lw_okq (⟨"ShiftBusesModel", "lay", "(III)V"⟩, 15) := ⟨⟨by decide +kernel, by decide +kernel⟩, List.mem_of_getElem? (i := 517) (by decide +kernel), List.mem_of_getElem? (i := 634) (by decide +kernel), List.mem_of_getElem? (i := 635) (by decide +kernel)⟩
theorem lw_p26 : lw_okq (⟨"ShiftBusesModel", "reads", "()I"⟩, 15) := ⟨⟨by decide +kernel, by decide +kernel⟩, List.mem_of_getElem? (i := 517) (by decide +kernel), List.mem_of_getElem? (i := 642) (by decide +kernel), List.mem_of_getElem? (i := 643) (by decide +kernel)⟩
theorem lw_p27 : lw_okq (⟨"ShiftBusesModel", "readsBooking", "()V"⟩, 15) := ⟨⟨by decide +kernel, by decide +kernel⟩, List.mem_of_getElem? (i := 517) (by decide +kernel), List.mem_of_getElem? (i := 646) (by decide +kernel), List.mem_of_getElem? (i := 647) (by decide +kernel)⟩
theorem lw_p28 : lw_okq (⟨"ShiftBusesModel", "sign", "()I"⟩, 15) := ⟨⟨by decide +kernel, by decide +kernel⟩, List.mem_of_getElem? (i := 517) (by decide +kernel), List.mem_of_getElem? (i := 650) (by decide +kernel), List.mem_of_getElem? (i := 651) (by decide +kernel)⟩
theorem lw_p29 : lw_okq (⟨"ShiftBusesModel", "readsStop", "(II)V"⟩, 15) := ⟨⟨by decide +kernel, by decide +kernel⟩, List.mem_of_getElem? (i := 517) (by decide +kernel), List.mem_of_getElem? (i := 654) (by decide +kernel), List.mem_of_getElem? (i := 655) (by decide +kernel)⟩
theorem lw_p30 : lw_okq (⟨"ShiftBusesModel", "placeOf", "(I)I"⟩, 15) := ⟨⟨by decide +kernel, by decide +kernel⟩, List.mem_of_getElem? (i := 517) (by decide +kernel), List.mem_of_getElem? (i := 662) (by decide +kernel), List.mem_of_getElem? (i := 663) (by decide +kernel)⟩
theorem lw_p31 : lw_okq (⟨"ShiftBusesModel", "looksAtAll", "()V"⟩, 15) := ⟨⟨by decide +kernel, by decide +kernel⟩, List.mem_of_getElem? (i := 517) (by decide +kernel), List.mem_of_getElem? (i := 666) (by decide +kernel), List.mem_of_getElem? (i := 667) (by decide +kernel)⟩
def lw_privs_2 : List (MethodName × Nat) := [(⟨"ShiftBusesModel", "books", "(III)I"⟩, 15), (⟨"ShiftBusesModel", "reasonBut", "(IIII)I"⟩, 15), (⟨"ShiftBusesModel", "takenBut", "(IIII)I"⟩, 15), (⟨"ShiftBusesModel", "of", "(II)I"⟩, 15), (⟨"ShiftBusesModel", "isOn", "(III)Z"⟩, 15), (⟨"ShiftBusesModel", "partner", "(II)I"⟩, 15), (⟨"ShiftBusesModel", "startOf", "(II)I"⟩, 15), (⟨"ShiftBusesModel", "minute", "(I)I"⟩, 15), (⟨"ShiftBusesModel", "behind", "(III)I"⟩, 15), (⟨"ShiftBusesModel", "lay", "(III)V"⟩, 15), (⟨"ShiftBusesModel", "reads", "()I"⟩, 15), (⟨"ShiftBusesModel", "readsBooking", "()V"⟩, 15), (⟨"ShiftBusesModel", "sign", "()I"⟩, 15), (⟨"ShiftBusesModel", "readsStop", "(II)V"⟩, 15), (⟨"ShiftBusesModel", "placeOf", "(I)I"⟩, 15), (⟨"ShiftBusesModel", "looksAtAll", "()V"⟩, 15)]
theorem lw_r2 : ∀ q ∈ lw_privs_2, lw_okq q := List.forall_mem_cons.mpr ⟨lw_p16, List.forall_mem_cons.mpr ⟨lw_p17, List.forall_mem_cons.mpr ⟨lw_p18, List.forall_mem_cons.mpr ⟨lw_p19, List.forall_mem_cons.mpr ⟨lw_p20, List.forall_mem_cons.mpr ⟨lw_p21, List.forall_mem_cons.mpr ⟨lw_p22, List.forall_mem_cons.mpr ⟨lw_p23, List.forall_mem_cons.mpr ⟨lw_p24, List.forall_mem_cons.mpr ⟨lw_p25, List.forall_mem_cons.mpr ⟨lw_p26, List.forall_mem_cons.mpr ⟨lw_p27, List.forall_mem_cons.mpr ⟨lw_p28, List.forall_mem_cons.mpr ⟨lw_p29, List.forall_mem_cons.mpr ⟨lw_p30, List.forall_mem_cons.mpr ⟨lw_p31, fun _ h => absurd h List.not_mem_nil⟩⟩⟩⟩⟩⟩⟩⟩⟩⟩⟩⟩⟩⟩⟩⟩
theorem lw_p32 : lw_okq (⟨"ShiftBusesModel", "ranks", "()V"⟩, 15) := ⟨⟨by decide +kernel, by decide +kernel⟩, List.mem_of_getElem? (i := 517) (by decide +kernel), List.mem_of_getElem? (i := 670) (by decide +kernel), List.mem_of_getElem? (i := 671) (by decide +kernel)⟩
theorem lw_p33 : lw_okq (⟨"ShiftBusesModel", "looksAt", "(III)V"⟩, 15) := ⟨⟨by decide +kernel, by decide +kernel⟩, List.mem_of_getElem? (i := 517) (by decide +kernel), List.mem_of_getElem? (i := 674) (by decide +kernel), List.mem_of_getElem? (i := 675) (by decide +kernel)⟩
theorem lw_p34 : lw_okq (⟨"ShiftBusesModel", "waitsAt", "(IIII)Z"⟩, 15) := ⟨⟨by decide +kernel, by decide +kernel⟩, List.mem_of_getElem? (i := 517) (by decide +kernel), List.mem_of_getElem? (i := 678) (by decide +kernel), List.mem_of_getElem? (i := 679) (by decide +kernel)⟩
theorem lw_p35 : lw_okq (⟨"ShiftBusesModel", "waiting", "()I"⟩, 15) := ⟨⟨by decide +kernel, by decide +kernel⟩, List.mem_of_getElem? (i := 517) (by decide +kernel), List.mem_of_getElem? (i := 682) (by decide +kernel), List.mem_of_getElem? (i := 683) (by decide +kernel)⟩
theorem lw_p36 : lw_okq (⟨"ShiftBusesModel", "canMerge", "(III)Z"⟩, 15) := ⟨⟨by decide +kernel, by decide +kernel⟩, List.mem_of_getElem? (i := 517) (by decide +kernel), List.mem_of_getElem? (i := 694) (by decide +kernel), List.mem_of_getElem? (i := 695) (by decide +kernel)⟩
theorem lw_p37 : lw_okq (⟨"ShiftBusesModel", "isOf", "(IIII)Z"⟩, 15) := ⟨⟨by decide +kernel, by decide +kernel⟩, List.mem_of_getElem? (i := 517) (by decide +kernel), List.mem_of_getElem? (i := 698) (by decide +kernel), List.mem_of_getElem? (i := 699) (by decide +kernel)⟩
theorem lw_p38 : lw_okq (⟨"ShiftBusesModel", "layMerged", "(III)V"⟩, 15) := ⟨⟨by decide +kernel, by decide +kernel⟩, List.mem_of_getElem? (i := 517) (by decide +kernel), List.mem_of_getElem? (i := 702) (by decide +kernel), List.mem_of_getElem? (i := 703) (by decide +kernel)⟩
theorem lw_p39 : lw_okq (⟨"ShiftBusesModel", "isAway", "(II)Z"⟩, 15) := ⟨⟨by decide +kernel, by decide +kernel⟩, List.mem_of_getElem? (i := 517) (by decide +kernel), List.mem_of_getElem? (i := 721) (by decide +kernel), List.mem_of_getElem? (i := 722) (by decide +kernel)⟩
theorem lw_p40 : lw_okq (⟨"ShiftBusesModel", "bringsHome", "(II)I"⟩, 15) := ⟨⟨by decide +kernel, by decide +kernel⟩, List.mem_of_getElem? (i := 517) (by decide +kernel), List.mem_of_getElem? (i := 725) (by decide +kernel), List.mem_of_getElem? (i := 726) (by decide +kernel)⟩
theorem lw_p41 : lw_okq (⟨"ShiftBusesModel", "costOf", "(II)I"⟩, 15) := ⟨⟨by decide +kernel, by decide +kernel⟩, List.mem_of_getElem? (i := 517) (by decide +kernel), List.mem_of_getElem? (i := 729) (by decide +kernel), List.mem_of_getElem? (i := 730) (by decide +kernel)⟩
theorem lw_p42 : lw_okq (⟨"ShiftBusesModel", "laysRides", "(IIII)V"⟩, 15) := ⟨⟨by decide +kernel, by decide +kernel⟩, List.mem_of_getElem? (i := 517) (by decide +kernel), List.mem_of_getElem? (i := 733) (by decide +kernel), List.mem_of_getElem? (i := 734) (by decide +kernel)⟩
theorem lw_p43 : lw_okq (⟨"ShiftBusesModel", "cost", "()I"⟩, 15) := ⟨⟨by decide +kernel, by decide +kernel⟩, List.mem_of_getElem? (i := 517) (by decide +kernel), List.mem_of_getElem? (i := 737) (by decide +kernel), List.mem_of_getElem? (i := 738) (by decide +kernel)⟩
theorem lw_p44 : lw_okq (⟨"ShiftBusesModel", "overRiders", "(III)I"⟩, 15) := ⟨⟨by decide +kernel, by decide +kernel⟩, List.mem_of_getElem? (i := 517) (by decide +kernel), List.mem_of_getElem? (i := 769) (by decide +kernel), List.mem_of_getElem? (i := 770) (by decide +kernel)⟩
theorem lw_p45 : lw_okq (⟨"ShiftBusesModel", "pairs", "()I"⟩, 15) := ⟨⟨by decide +kernel, by decide +kernel⟩, List.mem_of_getElem? (i := 517) (by decide +kernel), List.mem_of_getElem? (i := 793) (by decide +kernel), List.mem_of_getElem? (i := 794) (by decide +kernel)⟩
def lw_privs_3 : List (MethodName × Nat) := [(⟨"ShiftBusesModel", "ranks", "()V"⟩, 15), (⟨"ShiftBusesModel", "looksAt", "(III)V"⟩, 15), (⟨"ShiftBusesModel", "waitsAt", "(IIII)Z"⟩, 15), (⟨"ShiftBusesModel", "waiting", "()I"⟩, 15), (⟨"ShiftBusesModel", "canMerge", "(III)Z"⟩, 15), (⟨"ShiftBusesModel", "isOf", "(IIII)Z"⟩, 15), (⟨"ShiftBusesModel", "layMerged", "(III)V"⟩, 15), (⟨"ShiftBusesModel", "isAway", "(II)Z"⟩, 15), (⟨"ShiftBusesModel", "bringsHome", "(II)I"⟩, 15), (⟨"ShiftBusesModel", "costOf", "(II)I"⟩, 15), (⟨"ShiftBusesModel", "laysRides", "(IIII)V"⟩, 15), (⟨"ShiftBusesModel", "cost", "()I"⟩, 15), (⟨"ShiftBusesModel", "overRiders", "(III)I"⟩, 15), (⟨"ShiftBusesModel", "pairs", "()I"⟩, 15)]
theorem lw_r3 : ∀ q ∈ lw_privs_3, lw_okq q := List.forall_mem_cons.mpr ⟨lw_p32, List.forall_mem_cons.mpr ⟨lw_p33, List.forall_mem_cons.mpr ⟨lw_p34, List.forall_mem_cons.mpr ⟨lw_p35, List.forall_mem_cons.mpr ⟨lw_p36, List.forall_mem_cons.mpr ⟨lw_p37, List.forall_mem_cons.mpr ⟨lw_p38, List.forall_mem_cons.mpr ⟨lw_p39, List.forall_mem_cons.mpr ⟨lw_p40, List.forall_mem_cons.mpr ⟨lw_p41, List.forall_mem_cons.mpr ⟨lw_p42, List.forall_mem_cons.mpr ⟨lw_p43, List.forall_mem_cons.mpr ⟨lw_p44, List.forall_mem_cons.mpr ⟨lw_p45, fun _ h => absurd h List.not_mem_nil⟩⟩⟩⟩⟩⟩⟩⟩⟩⟩⟩⟩⟩⟩
def lw_privs : List (MethodName × Nat) := lw_privs_1 ++ (lw_privs_2 ++ (lw_privs_3))
def lw_tbl : List Cond := k2_sels lw_privs ++ tables_1
theorem lw_privs_ok : ∀ q ∈ lw_privs, lw_okq q := by
  show ∀ q ∈ lw_privs_1 ++ (lw_privs_2 ++ (lw_privs_3)), lw_okq q
  exact List.forall_mem_append.mpr ⟨lw_r1, List.forall_mem_append.mpr ⟨lw_r2, lw_r3⟩⟩

def RX0 : String := "ShiftBuses$Booking"
def TX0 : u_T := fun k => match k with
  | 0 => ("ShiftBuses$Booking", "number", "I", false)
  | 1 => ("ShiftBuses$Booking", "end", "I", false)
  | 2 => ("ShiftBuses$Booking", "line", "I", false)
  | 3 => ("ShiftBuses$Booking", "stop", "I", false)
  | 4 => ("ShiftBuses$Booking", "promised", "Z", false)
  | 5 => ("ShiftBuses$Booking", "rides", "I", false)
  | 6 => ("ShiftBuses$Booking", "taxis", "I", false)
  | _ => ("ShiftBuses$Booking", "walks", "I", false)
def tyX0 : Nat → FieldType := fun k => match k with
  | 0 => .int
  | 1 => .int
  | 2 => .int
  | 3 => .int
  | 4 => .boolean
  | 5 => .int
  | 6 => .int
  | _ => .int
abbrev wsX00 : List Cond := u_ws RX0 TX0 8
theorem nmX0 : ∀ a, a < 8 → ∀ b, b < 8 → a ≠ b → (TX0 a).2.1 ≠ (TX0 b).2.1 := by decide +kernel
theorem tyX0_ok : ∀ k, k < 8 → parseFieldDescriptor (TX0 k).2.2.1 = some (tyX0 k) := by decide +kernel
abbrev cX0_init : ByteArray := prog_2_method_1_code
def yX0_init : MethodName := ⟨RX0, "<init>", "()V"⟩
abbrev cX0_isLive : ByteArray := prog_2_method_2_code
def yX0_isLive : MethodName := ⟨RX0, "isLive", "()Z"⟩
abbrev cX0_isWaiting : ByteArray := prog_2_method_3_code
def yX0_isWaiting : MethodName := ⟨RX0, "isWaiting", "()Z"⟩
abbrev cX0_isRider : ByteArray := prog_2_method_4_code
def yX0_isRider : MethodName := ⟨RX0, "isRider", "()Z"⟩
abbrev cX0_isOfBus : ByteArray := prog_2_method_5_code
def yX0_isOfBus : MethodName := ⟨RX0, "isOfBus", "(III)Z"⟩
abbrev cX0_getsSeatAheadOf : ByteArray := prog_2_method_6_code
def yX0_getsSeatAheadOf : MethodName := ⟨RX0, "getsSeatAheadOf", "(LShiftBuses$Booking;)Z"⟩
abbrev cX0_clear : ByteArray := prog_2_method_7_code
def yX0_clear : MethodName := ⟨RX0, "clear", "()V"⟩
abbrev cX0_copyFrom : ByteArray := prog_2_method_8_code
def yX0_copyFrom : MethodName := ⟨RX0, "copyFrom", "(LShiftBuses$Booking;)V"⟩
def RX1 : String := "ShiftBuses$BookingText"
def TX1 : u_T := fun k => match k with
  | 0 => ("ShiftBuses$BookingText", "characters", "[C", true)
  | 1 => ("ShiftBuses$BookingText", "length", "I", false)
  | 2 => ("ShiftBuses$BookingText", "wishes", "[LShiftBuses$Wish;", true)
  | _ => ("ShiftBuses$BookingText", "wishCount", "I", false)
def tyX1 : Nat → FieldType := fun k => match k with
  | 0 => .array .char
  | 1 => .int
  | 2 => .array (.object "ShiftBuses$Wish")
  | _ => .int
abbrev wsX10 : List Cond := u_ws RX1 TX1 4
theorem nmX1 : ∀ a, a < 4 → ∀ b, b < 4 → a ≠ b → (TX1 a).2.1 ≠ (TX1 b).2.1 := by decide +kernel
theorem tyX1_ok : ∀ k, k < 4 → parseFieldDescriptor (TX1 k).2.2.1 = some (tyX1 k) := by decide +kernel
abbrev cX1_init : ByteArray := prog_3_method_1_code
def yX1_init : MethodName := ⟨RX1, "<init>", "()V"⟩
abbrev cX1_append : ByteArray := prog_3_method_2_code
def yX1_append : MethodName := ⟨RX1, "append", "(C)V"⟩
abbrev cX1_read : ByteArray := prog_3_method_3_code
def yX1_read : MethodName := ⟨RX1, "read", "()I"⟩
abbrev cX1_isAllowed : ByteArray := prog_3_method_4_code
def yX1_isAllowed : MethodName := ⟨RX1, "isAllowed", "(CI)Z"⟩
abbrev cX1_wish : ByteArray := prog_3_method_5_code
def yX1_wish : MethodName := ⟨RX1, "wish", "(III)V"⟩
def RX2 : String := "ShiftBuses$History"
def TX2 : u_T := fun k => match k with
  | 0 => ("ShiftBuses$History", "states", "[LShiftBuses$Works;", true)
  | _ => ("ShiftBuses$History", "size", "I", false)
def tyX2 : Nat → FieldType := fun k => match k with
  | 0 => .array (.object "ShiftBuses$Works")
  | _ => .int
abbrev wsX20 : List Cond := u_ws RX2 TX2 2
theorem nmX2 : ∀ a, a < 2 → ∀ b, b < 2 → a ≠ b → (TX2 a).2.1 ≠ (TX2 b).2.1 := by decide +kernel
theorem tyX2_ok : ∀ k, k < 2 → parseFieldDescriptor (TX2 k).2.2.1 = some (tyX2 k) := by decide +kernel
abbrev cX2_init : ByteArray := prog_4_method_1_code
def yX2_init : MethodName := ⟨RX2, "<init>", "()V"⟩
abbrev cX2_remember : ByteArray := prog_4_method_2_code
def yX2_remember : MethodName := ⟨RX2, "remember", "(LShiftBuses$Works;)V"⟩
abbrev cX2_dropOldest : ByteArray := prog_4_method_3_code
def yX2_dropOldest : MethodName := ⟨RX2, "dropOldest", "()V"⟩
abbrev cX2_takeLatestInto : ByteArray := prog_4_method_4_code
def yX2_takeLatestInto : MethodName := ⟨RX2, "takeLatestInto", "(LShiftBuses$Works;)V"⟩
def RX3 : String := "ShiftBuses$Wish"
def TX3 : u_T := fun k => match k with
  | 0 => ("ShiftBuses$Wish", "end", "I", false)
  | 1 => ("ShiftBuses$Wish", "line", "I", false)
  | _ => ("ShiftBuses$Wish", "stop", "I", false)
def tyX3 : Nat → FieldType := fun k => match k with
  | 0 => .int
  | 1 => .int
  | _ => .int
abbrev wsX30 : List Cond := u_ws RX3 TX3 3
theorem nmX3 : ∀ a, a < 3 → ∀ b, b < 3 → a ≠ b → (TX3 a).2.1 ≠ (TX3 b).2.1 := by decide +kernel
theorem tyX3_ok : ∀ k, k < 3 → parseFieldDescriptor (TX3 k).2.2.1 = some (tyX3 k) := by decide +kernel
abbrev cX3_init : ByteArray := prog_5_method_1_code
def yX3_init : MethodName := ⟨RX3, "<init>", "()V"⟩
def RX4 : String := "ShiftBuses$Works"
def TX4 : u_T := fun k => match k with
  | 0 => ("ShiftBuses$Works", "endCount", "I", false)
  | 1 => ("ShiftBuses$Works", "minutes", "[I", true)
  | 2 => ("ShiftBuses$Works", "partners", "[I", true)
  | 3 => ("ShiftBuses$Works", "settings", "[I", true)
  | 4 => ("ShiftBuses$Works", "bookings", "[LShiftBuses$Booking;", true)
  | 5 => ("ShiftBuses$Works", "bookingsSoFar", "I", false)
  | 6 => ("ShiftBuses$Works", "days", "I", false)
  | 7 => ("ShiftBuses$Works", "rides", "I", false)
  | 8 => ("ShiftBuses$Works", "taxis", "I", false)
  | 9 => ("ShiftBuses$Works", "walks", "I", false)
  | 10 => ("ShiftBuses$Works", "busCosts", "I", false)
  | _ => ("ShiftBuses$Works", "taxiCosts", "I", false)
def tyX4 : Nat → FieldType := fun k => match k with
  | 0 => .int
  | 1 => .array .int
  | 2 => .array .int
  | 3 => .array .int
  | 4 => .array (.object "ShiftBuses$Booking")
  | 5 => .int
  | 6 => .int
  | 7 => .int
  | 8 => .int
  | 9 => .int
  | 10 => .int
  | _ => .int
abbrev wsX40 : List Cond := u_ws RX4 TX4 12
theorem nmX4 : ∀ a, a < 12 → ∀ b, b < 12 → a ≠ b → (TX4 a).2.1 ≠ (TX4 b).2.1 := by decide +kernel
theorem tyX4_ok : ∀ k, k < 12 → parseFieldDescriptor (TX4 k).2.2.1 = some (tyX4 k) := by decide +kernel
abbrev cX4_init : ByteArray := prog_6_method_1_code
def yX4_init : MethodName := ⟨RX4, "<init>", "()V"⟩
abbrev cX4_copyFrom : ByteArray := prog_6_method_2_code
def yX4_copyFrom : MethodName := ⟨RX4, "copyFrom", "(LShiftBuses$Works;)V"⟩
abbrev cX4_copyRow : ByteArray := prog_6_method_3_code
def yX4_copyRow : MethodName := ⟨RX4, "copyRow", "([I[I)V"⟩
abbrev cX4_setting : ByteArray := prog_6_method_4_code
def yX4_setting : MethodName := ⟨RX4, "setting", "(I)I"⟩
abbrev cX4_changeSetting : ByteArray := prog_6_method_5_code
def yX4_changeSetting : MethodName := ⟨RX4, "changeSetting", "(II)V"⟩
abbrev cX4_hasEnd : ByteArray := prog_6_method_6_code
def yX4_hasEnd : MethodName := ⟨RX4, "hasEnd", "(I)Z"⟩
abbrev cX4_openEnd : ByteArray := prog_6_method_7_code
def yX4_openEnd : MethodName := ⟨RX4, "openEnd", "(I)I"⟩
abbrev cX4_minuteOf : ByteArray := prog_6_method_8_code
def yX4_minuteOf : MethodName := ⟨RX4, "minuteOf", "(I)I"⟩
abbrev cX4_isEarlier : ByteArray := prog_6_method_9_code
def yX4_isEarlier : MethodName := ⟨RX4, "isEarlier", "(II)Z"⟩
abbrev cX4_endOfRank : ByteArray := prog_6_method_10_code
def yX4_endOfRank : MethodName := ⟨RX4, "endOfRank", "(I)I"⟩
abbrev cX4_rankOf : ByteArray := prog_6_method_11_code
def yX4_rankOf : MethodName := ⟨RX4, "rankOf", "(I)I"⟩
abbrev cX4_bookingOf : ByteArray := prog_6_method_12_code
def yX4_bookingOf : MethodName := ⟨RX4, "bookingOf", "(I)LShiftBuses$Booking;"⟩
abbrev cX4_enter : ByteArray := prog_6_method_13_code
def yX4_enter : MethodName := ⟨RX4, "enter", "(III)I"⟩
abbrev cX4_workerCount : ByteArray := prog_6_method_14_code
def yX4_workerCount : MethodName := ⟨RX4, "workerCount", "()I"⟩
abbrev cX4_waitingCount : ByteArray := prog_6_method_15_code
def yX4_waitingCount : MethodName := ⟨RX4, "waitingCount", "()I"⟩
abbrev cX4_reason : ByteArray := prog_6_method_16_code
def yX4_reason : MethodName := ⟨RX4, "reason", "(IIILShiftBuses$Booking;)I"⟩
abbrev cX4_lookAtWaiting : ByteArray := prog_6_method_17_code
def yX4_lookAtWaiting : MethodName := ⟨RX4, "lookAtWaiting", "()V"⟩
abbrev cX4_nextWaiting : ByteArray := prog_6_method_18_code
def yX4_nextWaiting : MethodName := ⟨RX4, "nextWaiting", "(LShiftBuses$Booking;)LShiftBuses$Booking;"⟩
abbrev cX4_isLookedAtAheadOf : ByteArray := prog_6_method_19_code
def yX4_isLookedAtAheadOf : MethodName := ⟨RX4, "isLookedAtAheadOf", "(LShiftBuses$Booking;LShiftBuses$Booking;)Z"⟩
abbrev cX4_busIndex : ByteArray := prog_6_method_20_code
def yX4_busIndex : MethodName := ⟨RX4, "busIndex", "(II)I"⟩
abbrev cX4_partnerOf : ByteArray := prog_6_method_21_code
def yX4_partnerOf : MethodName := ⟨RX4, "partnerOf", "(II)I"⟩
abbrev cX4_tie : ByteArray := prog_6_method_22_code
def yX4_tie : MethodName := ⟨RX4, "tie", "(III)V"⟩
abbrev cX4_pairCount : ByteArray := prog_6_method_23_code
def yX4_pairCount : MethodName := ⟨RX4, "pairCount", "()I"⟩
abbrev cX4_startOf : ByteArray := prog_6_method_24_code
def yX4_startOf : MethodName := ⟨RX4, "startOf", "(II)I"⟩
abbrev cX4_minutesBehind : ByteArray := prog_6_method_25_code
def yX4_minutesBehind : MethodName := ⟨RX4, "minutesBehind", "(III)I"⟩
abbrev cX4_isInTime : ByteArray := prog_6_method_26_code
def yX4_isInTime : MethodName := ⟨RX4, "isInTime", "(LShiftBuses$Booking;I)Z"⟩
abbrev cX4_takenSeats : ByteArray := prog_6_method_27_code
def yX4_takenSeats : MethodName := ⟨RX4, "takenSeats", "(IIIILShiftBuses$Booking;)I"⟩
abbrev cX4_waitingFor : ByteArray := prog_6_method_28_code
def yX4_waitingFor : MethodName := ⟨RX4, "waitingFor", "(III)I"⟩
abbrev cX4_farthestPromised : ByteArray := prog_6_method_29_code
def yX4_farthestPromised : MethodName := ⟨RX4, "farthestPromised", "(III)I"⟩
abbrev cX4_canMerge : ByteArray := prog_6_method_30_code
def yX4_canMerge : MethodName := ⟨RX4, "canMerge", "(III)Z"⟩
abbrev cX4_isInTimeForAll : ByteArray := prog_6_method_31_code
def yX4_isInTimeForAll : MethodName := ⟨RX4, "isInTimeForAll", "(III)Z"⟩
abbrev cX4_canRide : ByteArray := prog_6_method_32_code
def yX4_canRide : MethodName := ⟨RX4, "canRide", "(LShiftBuses$Booking;II)Z"⟩
abbrev cX4_costToday : ByteArray := prog_6_method_33_code
def yX4_costToday : MethodName := ⟨RX4, "costToday", "(III)I"⟩
abbrev cX4_runBuses : ByteArray := prog_6_method_34_code
def yX4_runBuses : MethodName := ⟨RX4, "runBuses", "()V"⟩
abbrev cX4_bringHome : ByteArray := prog_6_method_35_code
def yX4_bringHome : MethodName := ⟨RX4, "bringHome", "()V"⟩
abbrev cX4_bringRiderHome : ByteArray := prog_6_method_36_code
def yX4_bringRiderHome : MethodName := ⟨RX4, "bringRiderHome", "(LShiftBuses$Booking;)V"⟩
def RX5 : String := "ShiftBuses"
def TX5 : u_T := fun k => match k with
  | 0 => ("ShiftBuses", "works", "LShiftBuses$Works;", true)
  | 1 => ("ShiftBuses", "text", "LShiftBuses$BookingText;", true)
  | 2 => ("ShiftBuses", "history", "LShiftBuses$History;", true)
  | 3 => ("ShiftBuses", "snapshot", "LShiftBuses$Works;", true)
  | _ => ("ShiftBuses", "hasSnapshot", "Z", false)
def tyX5 : Nat → FieldType := fun k => match k with
  | 0 => .object "ShiftBuses$Works"
  | 1 => .object "ShiftBuses$BookingText"
  | 2 => .object "ShiftBuses$History"
  | 3 => .object "ShiftBuses$Works"
  | _ => .boolean
abbrev wsX50 : List Cond := u_ws RX5 TX5 5
theorem nmX5 : ∀ a, a < 5 → ∀ b, b < 5 → a ≠ b → (TX5 a).2.1 ≠ (TX5 b).2.1 := by decide +kernel
theorem tyX5_ok : ∀ k, k < 5 → parseFieldDescriptor (TX5 k).2.2.1 = some (tyX5 k) := by decide +kernel
abbrev cX5_init : ByteArray := prog_1_method_1_code
def yX5_init : MethodName := ⟨RX5, "<init>", "()V"⟩
abbrev cX5_addEnd : ByteArray := prog_1_method_2_code
def yX5_addEnd : MethodName := ⟨RX5, "addEnd", "(I)I"⟩
abbrev cX5_book : ByteArray := prog_1_method_3_code
def yX5_book : MethodName := ⟨RX5, "book", "(III)I"⟩
abbrev cX5_bookAll : ByteArray := prog_1_method_4_code
def yX5_bookAll : MethodName := ⟨RX5, "bookAll", "()I"⟩
abbrev cX5_takeBack : ByteArray := prog_1_method_5_code
def yX5_takeBack : MethodName := ⟨RX5, "takeBack", "(I)I"⟩
abbrev cX5_stay : ByteArray := prog_1_method_6_code
def yX5_stay : MethodName := ⟨RX5, "stay", "(II)I"⟩
abbrev cX5_merge : ByteArray := prog_1_method_7_code
def yX5_merge : MethodName := ⟨RX5, "merge", "(III)I"⟩
abbrev cX5_part : ByteArray := prog_1_method_8_code
def yX5_part : MethodName := ⟨RX5, "part", "(II)I"⟩
abbrev cX5_set : ByteArray := prog_1_method_9_code
def yX5_set : MethodName := ⟨RX5, "set", "(II)I"⟩
abbrev cX5_passDay : ByteArray := prog_1_method_10_code
def yX5_passDay : MethodName := ⟨RX5, "passDay", "()I"⟩
abbrev cX5_type : ByteArray := prog_1_method_11_code
def yX5_type : MethodName := ⟨RX5, "type", "(C)I"⟩
abbrev cX5_clearText : ByteArray := prog_1_method_12_code
def yX5_clearText : MethodName := ⟨RX5, "clearText", "()I"⟩
abbrev cX5_undo : ByteArray := prog_1_method_13_code
def yX5_undo : MethodName := ⟨RX5, "undo", "()I"⟩
abbrev cX5_keep : ByteArray := prog_1_method_14_code
def yX5_keep : MethodName := ⟨RX5, "keep", "()I"⟩
abbrev cX5_restore : ByteArray := prog_1_method_15_code
def yX5_restore : MethodName := ⟨RX5, "restore", "()I"⟩
abbrev cX5_worker : ByteArray := prog_1_method_16_code
def yX5_worker : MethodName := ⟨RX5, "worker", "(II)I"⟩
abbrev cX5_bus : ByteArray := prog_1_method_17_code
def yX5_bus : MethodName := ⟨RX5, "bus", "(III)I"⟩
abbrev cX5_taken : ByteArray := prog_1_method_18_code
def yX5_taken : MethodName := ⟨RX5, "taken", "(III)I"⟩
abbrev cX5_why : ByteArray := prog_1_method_19_code
def yX5_why : MethodName := ⟨RX5, "why", "(III)I"⟩
abbrev cX5_spares : ByteArray := prog_1_method_20_code
def yX5_spares : MethodName := ⟨RX5, "spares", "(III)I"⟩
abbrev cX5_byMinute : ByteArray := prog_1_method_21_code
def yX5_byMinute : MethodName := ⟨RX5, "byMinute", "(I)I"⟩
abbrev cX5_count : ByteArray := prog_1_method_22_code
def yX5_count : MethodName := ⟨RX5, "count", "(I)I"⟩
abbrev cX5_isLine : ByteArray := prog_1_method_23_code
def yX5_isLine : MethodName := ⟨RX5, "isLine", "(I)Z"⟩
abbrev cX5_isStop : ByteArray := prog_1_method_24_code
def yX5_isStop : MethodName := ⟨RX5, "isStop", "(I)Z"⟩
abbrev cX5_isSettingValue : ByteArray := prog_1_method_25_code
def yX5_isSettingValue : MethodName := ⟨RX5, "isSettingValue", "(II)Z"⟩
abbrev cX5_mergingError : ByteArray := prog_1_method_26_code
def yX5_mergingError : MethodName := ⟨RX5, "mergingError", "(III)I"⟩
abbrev cX5_hasAllEnds : ByteArray := prog_1_method_27_code
def yX5_hasAllEnds : MethodName := ⟨RX5, "hasAllEnds", "()Z"⟩
abbrev cX5_enterAll : ByteArray := prog_1_method_28_code
def yX5_enterAll : MethodName := ⟨RX5, "enterAll", "()V"⟩
def RX6 : String := "ShiftBusesModel"
def TX6 : u_T := fun k => match k with
  | 0 => ("ShiftBusesModel", "thrown", "I", false)
  | 1 => ("ShiftBusesModel", "s", "[I", true)
  | 2 => ("ShiftBusesModel", "saved", "[I", true)
  | 3 => ("ShiftBusesModel", "savedMany", "I", false)
  | 4 => ("ShiftBusesModel", "snapshot", "[I", true)
  | 5 => ("ShiftBusesModel", "hasSnapshot", "Z", false)
  | 6 => ("ShiftBusesModel", "text", "[I", true)
  | 7 => ("ShiftBusesModel", "length", "I", false)
  | 8 => ("ShiftBusesModel", "ranked", "[I", true)
  | 9 => ("ShiftBusesModel", "rides", "[Z", true)
  | 10 => ("ShiftBusesModel", "farthest", "I", false)
  | 11 => ("ShiftBusesModel", "at", "I", false)
  | 12 => ("ShiftBusesModel", "isWell", "Z", false)
  | 13 => ("ShiftBusesModel", "read", "[I", true)
  | _ => ("ShiftBusesModel", "readMany", "I", false)
def tyX6 : Nat → FieldType := fun k => match k with
  | 0 => .int
  | 1 => .array .int
  | 2 => .array .int
  | 3 => .int
  | 4 => .array .int
  | 5 => .boolean
  | 6 => .array .int
  | 7 => .int
  | 8 => .array .int
  | 9 => .array .boolean
  | 10 => .int
  | 11 => .int
  | 12 => .boolean
  | 13 => .array .int
  | _ => .int
abbrev wsX60 : List Cond := u_ws RX6 TX6 15
theorem nmX6 : ∀ a, a < 15 → ∀ b, b < 15 → a ≠ b → (TX6 a).2.1 ≠ (TX6 b).2.1 := by decide +kernel
theorem tyX6_ok : ∀ k, k < 15 → parseFieldDescriptor (TX6 k).2.2.1 = some (tyX6 k) := by decide +kernel
abbrev cX6_init : ByteArray := prog_8_method_1_code
def yX6_init : MethodName := ⟨RX6, "<init>", "()V"⟩
abbrev cX6_in : ByteArray := prog_8_method_3_code
def yX6_in : MethodName := ⟨RX6, "in", "(III)Z"⟩
abbrev cX6_of : ByteArray := prog_8_method_4_code
def yX6_of : MethodName := ⟨RX6, "of", "(II)I"⟩
abbrev cX6_lay : ByteArray := prog_8_method_5_code
def yX6_lay : MethodName := ⟨RX6, "lay", "(III)V"⟩
abbrev cX6_isEnd : ByteArray := prog_8_method_6_code
def yX6_isEnd : MethodName := ⟨RX6, "isEnd", "(I)Z"⟩
abbrev cX6_isLine : ByteArray := prog_8_method_7_code
def yX6_isLine : MethodName := ⟨RX6, "isLine", "(I)Z"⟩
abbrev cX6_isStop : ByteArray := prog_8_method_8_code
def yX6_isStop : MethodName := ⟨RX6, "isStop", "(I)Z"⟩
abbrev cX6_minute : ByteArray := prog_8_method_9_code
def yX6_minute : MethodName := ⟨RX6, "minute", "(I)I"⟩
abbrev cX6_partner : ByteArray := prog_8_method_10_code
def yX6_partner : MethodName := ⟨RX6, "partner", "(II)I"⟩
abbrev cX6_placeOf : ByteArray := prog_8_method_11_code
def yX6_placeOf : MethodName := ⟨RX6, "placeOf", "(I)I"⟩
abbrev cX6_records : ByteArray := prog_8_method_12_code
def yX6_records : MethodName := ⟨RX6, "records", "()V"⟩
abbrev cX6_later : ByteArray := prog_8_method_13_code
def yX6_later : MethodName := ⟨RX6, "later", "(II)I"⟩
abbrev cX6_startOf : ByteArray := prog_8_method_14_code
def yX6_startOf : MethodName := ⟨RX6, "startOf", "(II)I"⟩
abbrev cX6_isOn : ByteArray := prog_8_method_15_code
def yX6_isOn : MethodName := ⟨RX6, "isOn", "(III)Z"⟩
abbrev cX6_takenBut : ByteArray := prog_8_method_16_code
def yX6_takenBut : MethodName := ⟨RX6, "takenBut", "(IIII)I"⟩
abbrev cX6_behind : ByteArray := prog_8_method_17_code
def yX6_behind : MethodName := ⟨RX6, "behind", "(III)I"⟩
abbrev cX6_reasonBut : ByteArray := prog_8_method_18_code
def yX6_reasonBut : MethodName := ⟨RX6, "reasonBut", "(IIII)I"⟩
abbrev cX6_ranks : ByteArray := prog_8_method_19_code
def yX6_ranks : MethodName := ⟨RX6, "ranks", "()V"⟩
abbrev cX6_waitsAt : ByteArray := prog_8_method_20_code
def yX6_waitsAt : MethodName := ⟨RX6, "waitsAt", "(IIII)Z"⟩
abbrev cX6_looksAt : ByteArray := prog_8_method_21_code
def yX6_looksAt : MethodName := ⟨RX6, "looksAt", "(III)V"⟩
abbrev cX6_looksAtAll : ByteArray := prog_8_method_22_code
def yX6_looksAtAll : MethodName := ⟨RX6, "looksAtAll", "()V"⟩
abbrev cX6_waiting : ByteArray := prog_8_method_23_code
def yX6_waiting : MethodName := ⟨RX6, "waiting", "()I"⟩
abbrev cX6_isOf : ByteArray := prog_8_method_24_code
def yX6_isOf : MethodName := ⟨RX6, "isOf", "(IIII)Z"⟩
abbrev cX6_canMerge : ByteArray := prog_8_method_25_code
def yX6_canMerge : MethodName := ⟨RX6, "canMerge", "(III)Z"⟩
abbrev cX6_laysRides : ByteArray := prog_8_method_26_code
def yX6_laysRides : MethodName := ⟨RX6, "laysRides", "(IIII)V"⟩
abbrev cX6_cost : ByteArray := prog_8_method_27_code
def yX6_cost : MethodName := ⟨RX6, "cost", "()I"⟩
abbrev cX6_costOf : ByteArray := prog_8_method_28_code
def yX6_costOf : MethodName := ⟨RX6, "costOf", "(II)I"⟩
abbrev cX6_isAway : ByteArray := prog_8_method_29_code
def yX6_isAway : MethodName := ⟨RX6, "isAway", "(II)Z"⟩
abbrev cX6_bringsHome : ByteArray := prog_8_method_30_code
def yX6_bringsHome : MethodName := ⟨RX6, "bringsHome", "(II)I"⟩
abbrev cX6_addEnd : ByteArray := prog_8_method_31_code
def yX6_addEnd : MethodName := ⟨RX6, "addEnd", "(I)I"⟩
abbrev cX6_books : ByteArray := prog_8_method_32_code
def yX6_books : MethodName := ⟨RX6, "books", "(III)I"⟩
abbrev cX6_book : ByteArray := prog_8_method_33_code
def yX6_book : MethodName := ⟨RX6, "book", "(III)I"⟩
abbrev cX6_bookAll : ByteArray := prog_8_method_34_code
def yX6_bookAll : MethodName := ⟨RX6, "bookAll", "()I"⟩
abbrev cX6_takeBack : ByteArray := prog_8_method_35_code
def yX6_takeBack : MethodName := ⟨RX6, "takeBack", "(I)I"⟩
abbrev cX6_stay : ByteArray := prog_8_method_36_code
def yX6_stay : MethodName := ⟨RX6, "stay", "(II)I"⟩
abbrev cX6_layMerged : ByteArray := prog_8_method_37_code
def yX6_layMerged : MethodName := ⟨RX6, "layMerged", "(III)V"⟩
abbrev cX6_merge : ByteArray := prog_8_method_38_code
def yX6_merge : MethodName := ⟨RX6, "merge", "(III)I"⟩
abbrev cX6_part : ByteArray := prog_8_method_39_code
def yX6_part : MethodName := ⟨RX6, "part", "(II)I"⟩
abbrev cX6_isSetting : ByteArray := prog_8_method_40_code
def yX6_isSetting : MethodName := ⟨RX6, "isSetting", "(II)Z"⟩
abbrev cX6_set : ByteArray := prog_8_method_41_code
def yX6_set : MethodName := ⟨RX6, "set", "(II)I"⟩
abbrev cX6_passDay : ByteArray := prog_8_method_42_code
def yX6_passDay : MethodName := ⟨RX6, "passDay", "()I"⟩
abbrev cX6_type : ByteArray := prog_8_method_43_code
def yX6_type : MethodName := ⟨RX6, "type", "(C)I"⟩
abbrev cX6_clearText : ByteArray := prog_8_method_44_code
def yX6_clearText : MethodName := ⟨RX6, "clearText", "()I"⟩
abbrev cX6_sign : ByteArray := prog_8_method_45_code
def yX6_sign : MethodName := ⟨RX6, "sign", "()I"⟩
abbrev cX6_readsStop : ByteArray := prog_8_method_46_code
def yX6_readsStop : MethodName := ⟨RX6, "readsStop", "(II)V"⟩
abbrev cX6_readsBooking : ByteArray := prog_8_method_47_code
def yX6_readsBooking : MethodName := ⟨RX6, "readsBooking", "()V"⟩
abbrev cX6_reads : ByteArray := prog_8_method_48_code
def yX6_reads : MethodName := ⟨RX6, "reads", "()I"⟩
abbrev cX6_undo : ByteArray := prog_8_method_49_code
def yX6_undo : MethodName := ⟨RX6, "undo", "()I"⟩
abbrev cX6_keep : ByteArray := prog_8_method_50_code
def yX6_keep : MethodName := ⟨RX6, "keep", "()I"⟩
abbrev cX6_restore : ByteArray := prog_8_method_51_code
def yX6_restore : MethodName := ⟨RX6, "restore", "()I"⟩
abbrev cX6_worker : ByteArray := prog_8_method_52_code
def yX6_worker : MethodName := ⟨RX6, "worker", "(II)I"⟩
abbrev cX6_overRiders : ByteArray := prog_8_method_53_code
def yX6_overRiders : MethodName := ⟨RX6, "overRiders", "(III)I"⟩
abbrev cX6_bus : ByteArray := prog_8_method_54_code
def yX6_bus : MethodName := ⟨RX6, "bus", "(III)I"⟩
abbrev cX6_taken : ByteArray := prog_8_method_55_code
def yX6_taken : MethodName := ⟨RX6, "taken", "(III)I"⟩
abbrev cX6_why : ByteArray := prog_8_method_56_code
def yX6_why : MethodName := ⟨RX6, "why", "(III)I"⟩
abbrev cX6_spares : ByteArray := prog_8_method_57_code
def yX6_spares : MethodName := ⟨RX6, "spares", "(III)I"⟩
abbrev cX6_byMinute : ByteArray := prog_8_method_58_code
def yX6_byMinute : MethodName := ⟨RX6, "byMinute", "(I)I"⟩
abbrev cX6_pairs : ByteArray := prog_8_method_59_code
def yX6_pairs : MethodName := ⟨RX6, "pairs", "()I"⟩
abbrev cX6_count : ByteArray := prog_8_method_60_code
def yX6_count : MethodName := ⟨RX6, "count", "(I)I"⟩
def RJ9 : String := "java/lang/Math"
def TJ9 : u_T := fun k => match k with
  | _ => ("", "", "", false)
def tyJ9 : Nat → FieldType := fun k => match k with
  | _ => .int
abbrev wsJ90 : List Cond := u_ws RJ9 TJ9 0
theorem nmJ9 : ∀ a, a < 0 → ∀ b, b < 0 → a ≠ b → (TJ9 a).2.1 ≠ (TJ9 b).2.1 := by decide +kernel
theorem tyJ9_ok : ∀ k, k < 0 → parseFieldDescriptor (TJ9 k).2.2.1 = some (tyJ9 k) := by decide +kernel
abbrev cJ9_abs_0f7a4 : ByteArray := prog_9_method_59_code
def yJ9_abs_0f7a4 : MethodName := ⟨RJ9, "abs", "(I)I"⟩
abbrev cJ9_max_7cf53 : ByteArray := prog_9_method_65_code
def yJ9_max_7cf53 : MethodName := ⟨RJ9, "max", "(II)I"⟩
def RL : String := "ShiftBusesLaw"
abbrev cL_law : ByteArray := code
def yL_law : MethodName := ⟨RL, "law", "([I)Z"⟩
abbrev vwCl : List vw_C := [(RX0, TX0, 8), (RX1, TX1, 4), (RX2, TX2, 2), (RX3, TX3, 3), (RX4, TX4, 12), (RX5, TX5, 5), (RX6, TX6, 15)]
end
section
abbrev qz_N : Type := Nat × Nat × Nat
abbrev qz_V : Type := Int32 ⊕ Option qz_N
abbrev qz_M : Type := Nat × (qz_N → Nat → Int32) × (qz_N → Nat → Option qz_N)
abbrev qz_I : Type := MethodName × ByteArray × Nat × Option FieldType × Nat × Nat × Bool × Nat × Nat
/-- the good words of the tables -/
def qz_tb : List Cond := lw_tbl.filter goodWord
theorem qz_in {w : Cond} (i : Nat) (h : lw_tbl[i]? = some w) (g : goodWord w = true) : w ∈ qz_tb := List.mem_filter.mpr ⟨List.mem_of_getElem? h, g⟩
theorem qz_fm {α : Type} {P : α → Prop} {l : List α} {x : α} (h : ∀ e ∈ l, P e) (hx : x ∈ l) : P x := h x hx
theorem qz_lk {α β : Type} [BEq α] [LawfulBEq α] {l : List (α × β)} {a : α} {b : β} (h : l.lookup a = some b) : (a, b) ∈ l := by
  induction l with
  | nil => simp at h
  | cons x l ih =>
    obtain ⟨x1, x2⟩ := x
    rw [List.lookup_cons] at h
    split at h
    · next hc =>
      have : a = x1 := by simpa using hc
      cases h
      rw [this]
      exact List.mem_cons_self
    · exact List.mem_cons_of_mem _ (ih h)
def qz_ow (c : Nat) : String := match c with
  | 0 => RX0
  | 1 => RX1
  | 2 => RX2
  | 3 => RX3
  | 4 => RX4
  | 5 => RX5
  | 6 => RX6
  | 7 => RJ9
  | _ => RL
def qz_T (c : Nat) : u_T := match c with
  | 0 => TX0
  | 1 => TX1
  | 2 => TX2
  | 3 => TX3
  | 4 => TX4
  | 5 => TX5
  | _ => TX6
def qz_ty (c : Nat) : Nat → FieldType := match c with
  | 0 => tyX0
  | 1 => tyX1
  | 2 => tyX2
  | 3 => tyX3
  | 4 => tyX4
  | 5 => tyX5
  | _ => tyX6
def qz_nf (c : Nat) : Nat := match c with
  | 0 => 8
  | 1 => 4
  | 2 => 2
  | 3 => 3
  | 4 => 12
  | 5 => 5
  | _ => 15
def qz_rf (c k : Nat) : Bool := match c with
  | 0 => false
  | 1 => k == 0 || k == 2
  | 2 => k == 0
  | 3 => false
  | 4 => k == 1 || k == 2 || k == 3 || k == 4
  | 5 => k == 0 || k == 1 || k == 2 || k == 3
  | _ => k == 1 || k == 2 || k == 4 || k == 6 || k == 8 || k == 9 || k == 13
def qz_bl (c k : Nat) : Bool := match c with
  | 0 => k == 4
  | 1 => false
  | 2 => false
  | 3 => false
  | 4 => false
  | 5 => k == 4
  | _ => k == 5 || k == 12
def qz_fn (c k : Nat) : Bool := match c with
  | 0 => false
  | 1 => k == 0 || k == 2
  | 2 => k == 0
  | 3 => false
  | 4 => k == 1 || k == 2 || k == 3 || k == 4
  | 5 => k == 0 || k == 1 || k == 2 || k == 3
  | _ => k == 1 || k == 2 || k == 4 || k == 6 || k == 8 || k == 9 || k == 13
def qz_flL : List ((Nat × Nat) × (Nat × Nat)) := [((0, 9), (0, 0)), ((0, 13), (0, 1)), ((0, 16), (0, 2)), ((0, 19), (0, 3)), ((0, 22), (0, 4)), ((0, 26), (0, 5)), ((0, 29), (0, 6)), ((0, 32), (0, 7)), ((1, 9), (1, 0)), ((1, 15), (1, 1)), ((1, 21), (1, 2)), ((1, 25), (1, 3)), ((1, 37), (3, 0)), ((1, 40), (3, 1)), ((1, 43), (3, 2)), ((2, 11), (2, 0)), ((2, 17), (2, 1)), ((3, 7), (3, 0)), ((3, 13), (3, 1)), ((3, 16), (3, 2)), ((4, 9), (4, 0)), ((4, 15), (4, 1)), ((4, 19), (4, 2)), ((4, 25), (4, 3)), ((4, 30), (4, 4)), ((4, 34), (4, 5)), ((4, 37), (4, 6)), ((4, 40), (4, 7)), ((4, 43), (4, 8)), ((4, 46), (4, 9)), ((4, 49), (4, 10)), ((4, 52), (4, 11)), ((4, 79), (0, 0)), ((4, 86), (0, 1)), ((4, 89), (0, 2)), ((4, 92), (0, 3)), ((4, 95), (0, 4)), ((4, 174), (0, 7)), ((4, 175), (0, 5)), ((4, 176), (0, 6)), ((5, 10), (5, 0)), ((5, 19), (5, 1)), ((5, 26), (5, 2)), ((5, 30), (5, 3)), ((5, 33), (5, 4)), ((5, 37), (4, 0)), ((5, 74), (1, 3)), ((5, 95), (0, 1)), ((5, 98), (0, 4)), ((5, 126), (4, 8)), ((5, 135), (4, 6)), ((5, 138), (1, 1)), ((5, 145), (2, 1)), ((5, 154), (0, 2)), ((5, 157), (0, 3)), ((5, 167), (0, 5)), ((5, 170), (0, 6)), ((5, 171), (0, 7)), ((5, 193), (4, 7)), ((5, 194), (4, 9)), ((5, 195), (4, 10)), ((5, 198), (4, 11)), ((5, 201), (4, 5)), ((5, 215), (1, 2)), ((5, 219), (3, 0)), ((5, 222), (3, 1)), ((5, 223), (3, 2)), ((6, 7), (6, 1)), ((6, 13), (6, 2)), ((6, 16), (6, 4)), ((6, 19), (6, 6)), ((6, 22), (6, 8)), ((6, 25), (6, 9)), ((6, 29), (6, 13)), ((6, 32), (6, 0)), ((6, 44), (6, 3)), ((6, 95), (6, 10)), ((6, 124), (6, 14)), ((6, 152), (6, 7)), ((6, 155), (6, 11)), ((6, 161), (6, 12)), ((6, 172), (6, 5))]
def qz_fl (c i : Nat) : Option (Nat × Nat) := qz_flL.lookup (c, i)
def qz_FO (e : (Nat × Nat) × (Nat × Nat)) : Prop := e.2.1 < 7 ∧ e.2.2 < qz_nf e.2.1 ∧ Cond.fieldLink (qz_ow e.1.1) e.1.2 (qz_T e.2.1 e.2.2).1 (qz_T e.2.1 e.2.2).2.1 (qz_T e.2.1 e.2.2).2.2.1 ∈ qz_tb
theorem qz_fo0 : qz_FO ((0, 9), (0, 0)) := ⟨by decide, by decide, qz_in 78 (by decide +kernel) (by decide +kernel)⟩
theorem qz_fo1 : qz_FO ((0, 13), (0, 1)) := ⟨by decide, by decide, qz_in 80 (by decide +kernel) (by decide +kernel)⟩
theorem qz_fo2 : qz_FO ((0, 16), (0, 2)) := ⟨by decide, by decide, qz_in 83 (by decide +kernel) (by decide +kernel)⟩
theorem qz_fo3 : qz_FO ((0, 19), (0, 3)) := ⟨by decide, by decide, qz_in 86 (by decide +kernel) (by decide +kernel)⟩
theorem qz_fo4 : qz_FO ((0, 22), (0, 4)) := ⟨by decide, by decide, qz_in 89 (by decide +kernel) (by decide +kernel)⟩
theorem qz_fo5 : qz_FO ((0, 26), (0, 5)) := ⟨by decide, by decide, qz_in 92 (by decide +kernel) (by decide +kernel)⟩
theorem qz_fo6 : qz_FO ((0, 29), (0, 6)) := ⟨by decide, by decide, qz_in 95 (by decide +kernel) (by decide +kernel)⟩
theorem qz_fo7 : qz_FO ((0, 32), (0, 7)) := ⟨by decide, by decide, qz_in 98 (by decide +kernel) (by decide +kernel)⟩
theorem qz_fo8 : qz_FO ((1, 9), (1, 0)) := ⟨by decide, by decide, qz_in 194 (by decide +kernel) (by decide +kernel)⟩
theorem qz_fo9 : qz_FO ((1, 15), (1, 1)) := ⟨by decide, by decide, qz_in 195 (by decide +kernel) (by decide +kernel)⟩
theorem qz_fo10 : qz_FO ((1, 21), (1, 2)) := ⟨by decide, by decide, qz_in 197 (by decide +kernel) (by decide +kernel)⟩
theorem qz_fo11 : qz_FO ((1, 25), (1, 3)) := ⟨by decide, by decide, qz_in 199 (by decide +kernel) (by decide +kernel)⟩
theorem qz_fo12 : qz_FO ((1, 37), (3, 0)) := ⟨by decide, by decide, qz_in 178 (by decide +kernel) (by decide +kernel)⟩
theorem qz_fo13 : qz_FO ((1, 40), (3, 1)) := ⟨by decide, by decide, qz_in 181 (by decide +kernel) (by decide +kernel)⟩
theorem qz_fo14 : qz_FO ((1, 43), (3, 2)) := ⟨by decide, by decide, qz_in 184 (by decide +kernel) (by decide +kernel)⟩
theorem qz_fo15 : qz_FO ((2, 11), (2, 0)) := ⟨by decide, by decide, qz_in 219 (by decide +kernel) (by decide +kernel)⟩
theorem qz_fo16 : qz_FO ((2, 17), (2, 1)) := ⟨by decide, by decide, qz_in 220 (by decide +kernel) (by decide +kernel)⟩
theorem qz_fo17 : qz_FO ((3, 7), (3, 0)) := ⟨by decide, by decide, qz_in 177 (by decide +kernel) (by decide +kernel)⟩
theorem qz_fo18 : qz_FO ((3, 13), (3, 1)) := ⟨by decide, by decide, qz_in 180 (by decide +kernel) (by decide +kernel)⟩
theorem qz_fo19 : qz_FO ((3, 16), (3, 2)) := ⟨by decide, by decide, qz_in 183 (by decide +kernel) (by decide +kernel)⟩
theorem qz_fo20 : qz_FO ((4, 9), (4, 0)) := ⟨by decide, by decide, qz_in 119 (by decide +kernel) (by decide +kernel)⟩
theorem qz_fo21 : qz_FO ((4, 15), (4, 1)) := ⟨by decide, by decide, qz_in 121 (by decide +kernel) (by decide +kernel)⟩
theorem qz_fo22 : qz_FO ((4, 19), (4, 2)) := ⟨by decide, by decide, qz_in 122 (by decide +kernel) (by decide +kernel)⟩
theorem qz_fo23 : qz_FO ((4, 25), (4, 3)) := ⟨by decide, by decide, qz_in 123 (by decide +kernel) (by decide +kernel)⟩
theorem qz_fo24 : qz_FO ((4, 30), (4, 4)) := ⟨by decide, by decide, qz_in 124 (by decide +kernel) (by decide +kernel)⟩
theorem qz_fo25 : qz_FO ((4, 34), (4, 5)) := ⟨by decide, by decide, qz_in 125 (by decide +kernel) (by decide +kernel)⟩
theorem qz_fo26 : qz_FO ((4, 37), (4, 6)) := ⟨by decide, by decide, qz_in 127 (by decide +kernel) (by decide +kernel)⟩
theorem qz_fo27 : qz_FO ((4, 40), (4, 7)) := ⟨by decide, by decide, qz_in 129 (by decide +kernel) (by decide +kernel)⟩
theorem qz_fo28 : qz_FO ((4, 43), (4, 8)) := ⟨by decide, by decide, qz_in 131 (by decide +kernel) (by decide +kernel)⟩
theorem qz_fo29 : qz_FO ((4, 46), (4, 9)) := ⟨by decide, by decide, qz_in 133 (by decide +kernel) (by decide +kernel)⟩
theorem qz_fo30 : qz_FO ((4, 49), (4, 10)) := ⟨by decide, by decide, qz_in 135 (by decide +kernel) (by decide +kernel)⟩
theorem qz_fo31 : qz_FO ((4, 52), (4, 11)) := ⟨by decide, by decide, qz_in 137 (by decide +kernel) (by decide +kernel)⟩
theorem qz_fo32 : qz_FO ((4, 79), (0, 0)) := ⟨by decide, by decide, qz_in 79 (by decide +kernel) (by decide +kernel)⟩
theorem qz_fo33 : qz_FO ((4, 86), (0, 1)) := ⟨by decide, by decide, qz_in 82 (by decide +kernel) (by decide +kernel)⟩
theorem qz_fo34 : qz_FO ((4, 89), (0, 2)) := ⟨by decide, by decide, qz_in 84 (by decide +kernel) (by decide +kernel)⟩
theorem qz_fo35 : qz_FO ((4, 92), (0, 3)) := ⟨by decide, by decide, qz_in 87 (by decide +kernel) (by decide +kernel)⟩
theorem qz_fo36 : qz_FO ((4, 95), (0, 4)) := ⟨by decide, by decide, qz_in 91 (by decide +kernel) (by decide +kernel)⟩
theorem qz_fo37 : qz_FO ((4, 174), (0, 7)) := ⟨by decide, by decide, qz_in 100 (by decide +kernel) (by decide +kernel)⟩
theorem qz_fo38 : qz_FO ((4, 175), (0, 5)) := ⟨by decide, by decide, qz_in 94 (by decide +kernel) (by decide +kernel)⟩
theorem qz_fo39 : qz_FO ((4, 176), (0, 6)) := ⟨by decide, by decide, qz_in 97 (by decide +kernel) (by decide +kernel)⟩
theorem qz_fo40 : qz_FO ((5, 10), (5, 0)) := ⟨by decide, by decide, qz_in 227 (by decide +kernel) (by decide +kernel)⟩
theorem qz_fo41 : qz_FO ((5, 19), (5, 1)) := ⟨by decide, by decide, qz_in 228 (by decide +kernel) (by decide +kernel)⟩
theorem qz_fo42 : qz_FO ((5, 26), (5, 2)) := ⟨by decide, by decide, qz_in 229 (by decide +kernel) (by decide +kernel)⟩
theorem qz_fo43 : qz_FO ((5, 30), (5, 3)) := ⟨by decide, by decide, qz_in 230 (by decide +kernel) (by decide +kernel)⟩
theorem qz_fo44 : qz_FO ((5, 33), (5, 4)) := ⟨by decide, by decide, qz_in 231 (by decide +kernel) (by decide +kernel)⟩
theorem qz_fo45 : qz_FO ((5, 37), (4, 0)) := ⟨by decide, by decide, qz_in 120 (by decide +kernel) (by decide +kernel)⟩
theorem qz_fo46 : qz_FO ((5, 74), (1, 3)) := ⟨by decide, by decide, qz_in 200 (by decide +kernel) (by decide +kernel)⟩
theorem qz_fo47 : qz_FO ((5, 95), (0, 1)) := ⟨by decide, by decide, qz_in 81 (by decide +kernel) (by decide +kernel)⟩
theorem qz_fo48 : qz_FO ((5, 98), (0, 4)) := ⟨by decide, by decide, qz_in 90 (by decide +kernel) (by decide +kernel)⟩
theorem qz_fo49 : qz_FO ((5, 126), (4, 8)) := ⟨by decide, by decide, qz_in 132 (by decide +kernel) (by decide +kernel)⟩
theorem qz_fo50 : qz_FO ((5, 135), (4, 6)) := ⟨by decide, by decide, qz_in 128 (by decide +kernel) (by decide +kernel)⟩
theorem qz_fo51 : qz_FO ((5, 138), (1, 1)) := ⟨by decide, by decide, qz_in 196 (by decide +kernel) (by decide +kernel)⟩
theorem qz_fo52 : qz_FO ((5, 145), (2, 1)) := ⟨by decide, by decide, qz_in 221 (by decide +kernel) (by decide +kernel)⟩
theorem qz_fo53 : qz_FO ((5, 154), (0, 2)) := ⟨by decide, by decide, qz_in 85 (by decide +kernel) (by decide +kernel)⟩
theorem qz_fo54 : qz_FO ((5, 157), (0, 3)) := ⟨by decide, by decide, qz_in 88 (by decide +kernel) (by decide +kernel)⟩
theorem qz_fo55 : qz_FO ((5, 167), (0, 5)) := ⟨by decide, by decide, qz_in 93 (by decide +kernel) (by decide +kernel)⟩
theorem qz_fo56 : qz_FO ((5, 170), (0, 6)) := ⟨by decide, by decide, qz_in 96 (by decide +kernel) (by decide +kernel)⟩
theorem qz_fo57 : qz_FO ((5, 171), (0, 7)) := ⟨by decide, by decide, qz_in 99 (by decide +kernel) (by decide +kernel)⟩
theorem qz_fo58 : qz_FO ((5, 193), (4, 7)) := ⟨by decide, by decide, qz_in 130 (by decide +kernel) (by decide +kernel)⟩
theorem qz_fo59 : qz_FO ((5, 194), (4, 9)) := ⟨by decide, by decide, qz_in 134 (by decide +kernel) (by decide +kernel)⟩
theorem qz_fo60 : qz_FO ((5, 195), (4, 10)) := ⟨by decide, by decide, qz_in 136 (by decide +kernel) (by decide +kernel)⟩
theorem qz_fo61 : qz_FO ((5, 198), (4, 11)) := ⟨by decide, by decide, qz_in 138 (by decide +kernel) (by decide +kernel)⟩
theorem qz_fo62 : qz_FO ((5, 201), (4, 5)) := ⟨by decide, by decide, qz_in 126 (by decide +kernel) (by decide +kernel)⟩
theorem qz_fo63 : qz_FO ((5, 215), (1, 2)) := ⟨by decide, by decide, qz_in 198 (by decide +kernel) (by decide +kernel)⟩
theorem qz_fo64 : qz_FO ((5, 219), (3, 0)) := ⟨by decide, by decide, qz_in 179 (by decide +kernel) (by decide +kernel)⟩
theorem qz_fo65 : qz_FO ((5, 222), (3, 1)) := ⟨by decide, by decide, qz_in 182 (by decide +kernel) (by decide +kernel)⟩
theorem qz_fo66 : qz_FO ((5, 223), (3, 2)) := ⟨by decide, by decide, qz_in 185 (by decide +kernel) (by decide +kernel)⟩
theorem qz_fo67 : qz_FO ((6, 7), (6, 1)) := ⟨by decide, by decide, qz_in 569 (by decide +kernel) (by decide +kernel)⟩
theorem qz_fo68 : qz_FO ((6, 13), (6, 2)) := ⟨by decide, by decide, qz_in 570 (by decide +kernel) (by decide +kernel)⟩
theorem qz_fo69 : qz_FO ((6, 16), (6, 4)) := ⟨by decide, by decide, qz_in 572 (by decide +kernel) (by decide +kernel)⟩
theorem qz_fo70 : qz_FO ((6, 19), (6, 6)) := ⟨by decide, by decide, qz_in 574 (by decide +kernel) (by decide +kernel)⟩
theorem qz_fo71 : qz_FO ((6, 22), (6, 8)) := ⟨by decide, by decide, qz_in 576 (by decide +kernel) (by decide +kernel)⟩
theorem qz_fo72 : qz_FO ((6, 25), (6, 9)) := ⟨by decide, by decide, qz_in 577 (by decide +kernel) (by decide +kernel)⟩
theorem qz_fo73 : qz_FO ((6, 29), (6, 13)) := ⟨by decide, by decide, qz_in 581 (by decide +kernel) (by decide +kernel)⟩
theorem qz_fo74 : qz_FO ((6, 32), (6, 0)) := ⟨by decide, by decide, qz_in 568 (by decide +kernel) (by decide +kernel)⟩
theorem qz_fo75 : qz_FO ((6, 44), (6, 3)) := ⟨by decide, by decide, qz_in 571 (by decide +kernel) (by decide +kernel)⟩
theorem qz_fo76 : qz_FO ((6, 95), (6, 10)) := ⟨by decide, by decide, qz_in 578 (by decide +kernel) (by decide +kernel)⟩
theorem qz_fo77 : qz_FO ((6, 124), (6, 14)) := ⟨by decide, by decide, qz_in 582 (by decide +kernel) (by decide +kernel)⟩
theorem qz_fo78 : qz_FO ((6, 152), (6, 7)) := ⟨by decide, by decide, qz_in 575 (by decide +kernel) (by decide +kernel)⟩
theorem qz_fo79 : qz_FO ((6, 155), (6, 11)) := ⟨by decide, by decide, qz_in 579 (by decide +kernel) (by decide +kernel)⟩
theorem qz_fo80 : qz_FO ((6, 161), (6, 12)) := ⟨by decide, by decide, qz_in 580 (by decide +kernel) (by decide +kernel)⟩
theorem qz_fo81 : qz_FO ((6, 172), (6, 5)) := ⟨by decide, by decide, qz_in 573 (by decide +kernel) (by decide +kernel)⟩
set_option maxRecDepth 20000 in
theorem qz_flL_ok : ∀ e ∈ qz_flL, qz_FO e := List.forall_mem_cons.mpr ⟨qz_fo0, List.forall_mem_cons.mpr ⟨qz_fo1, List.forall_mem_cons.mpr ⟨qz_fo2, List.forall_mem_cons.mpr ⟨qz_fo3, List.forall_mem_cons.mpr ⟨qz_fo4, List.forall_mem_cons.mpr ⟨qz_fo5, List.forall_mem_cons.mpr ⟨qz_fo6, List.forall_mem_cons.mpr ⟨qz_fo7, List.forall_mem_cons.mpr ⟨qz_fo8, List.forall_mem_cons.mpr ⟨qz_fo9, List.forall_mem_cons.mpr ⟨qz_fo10, List.forall_mem_cons.mpr ⟨qz_fo11, List.forall_mem_cons.mpr ⟨qz_fo12, List.forall_mem_cons.mpr ⟨qz_fo13, List.forall_mem_cons.mpr ⟨qz_fo14, List.forall_mem_cons.mpr ⟨qz_fo15, List.forall_mem_cons.mpr ⟨qz_fo16, List.forall_mem_cons.mpr ⟨qz_fo17, List.forall_mem_cons.mpr ⟨qz_fo18, List.forall_mem_cons.mpr ⟨qz_fo19, List.forall_mem_cons.mpr ⟨qz_fo20, List.forall_mem_cons.mpr ⟨qz_fo21, List.forall_mem_cons.mpr ⟨qz_fo22, List.forall_mem_cons.mpr ⟨qz_fo23, List.forall_mem_cons.mpr ⟨qz_fo24, List.forall_mem_cons.mpr ⟨qz_fo25, List.forall_mem_cons.mpr ⟨qz_fo26, List.forall_mem_cons.mpr ⟨qz_fo27, List.forall_mem_cons.mpr ⟨qz_fo28, List.forall_mem_cons.mpr ⟨qz_fo29, List.forall_mem_cons.mpr ⟨qz_fo30, List.forall_mem_cons.mpr ⟨qz_fo31, List.forall_mem_cons.mpr ⟨qz_fo32, List.forall_mem_cons.mpr ⟨qz_fo33, List.forall_mem_cons.mpr ⟨qz_fo34, List.forall_mem_cons.mpr ⟨qz_fo35, List.forall_mem_cons.mpr ⟨qz_fo36, List.forall_mem_cons.mpr ⟨qz_fo37, List.forall_mem_cons.mpr ⟨qz_fo38, List.forall_mem_cons.mpr ⟨qz_fo39, List.forall_mem_cons.mpr ⟨qz_fo40, List.forall_mem_cons.mpr ⟨qz_fo41, List.forall_mem_cons.mpr ⟨qz_fo42, List.forall_mem_cons.mpr ⟨qz_fo43, List.forall_mem_cons.mpr ⟨qz_fo44, List.forall_mem_cons.mpr ⟨qz_fo45, List.forall_mem_cons.mpr ⟨qz_fo46, List.forall_mem_cons.mpr ⟨qz_fo47, List.forall_mem_cons.mpr ⟨qz_fo48, List.forall_mem_cons.mpr ⟨qz_fo49, List.forall_mem_cons.mpr ⟨qz_fo50, List.forall_mem_cons.mpr ⟨qz_fo51, List.forall_mem_cons.mpr ⟨qz_fo52, List.forall_mem_cons.mpr ⟨qz_fo53, List.forall_mem_cons.mpr ⟨qz_fo54, List.forall_mem_cons.mpr ⟨qz_fo55, List.forall_mem_cons.mpr ⟨qz_fo56, List.forall_mem_cons.mpr ⟨qz_fo57, List.forall_mem_cons.mpr ⟨qz_fo58, List.forall_mem_cons.mpr ⟨qz_fo59, List.forall_mem_cons.mpr ⟨qz_fo60, List.forall_mem_cons.mpr ⟨qz_fo61, List.forall_mem_cons.mpr ⟨qz_fo62, List.forall_mem_cons.mpr ⟨qz_fo63, List.forall_mem_cons.mpr ⟨qz_fo64, List.forall_mem_cons.mpr ⟨qz_fo65, List.forall_mem_cons.mpr ⟨qz_fo66, List.forall_mem_cons.mpr ⟨qz_fo67, List.forall_mem_cons.mpr ⟨qz_fo68, List.forall_mem_cons.mpr ⟨qz_fo69, List.forall_mem_cons.mpr ⟨qz_fo70, List.forall_mem_cons.mpr ⟨qz_fo71, List.forall_mem_cons.mpr ⟨qz_fo72, List.forall_mem_cons.mpr ⟨qz_fo73, List.forall_mem_cons.mpr ⟨qz_fo74, List.forall_mem_cons.mpr ⟨qz_fo75, List.forall_mem_cons.mpr ⟨qz_fo76, List.forall_mem_cons.mpr ⟨qz_fo77, List.forall_mem_cons.mpr ⟨qz_fo78, List.forall_mem_cons.mpr ⟨qz_fo79, List.forall_mem_cons.mpr ⟨qz_fo80, List.forall_mem_cons.mpr ⟨qz_fo81, fun _ h => absurd h List.not_mem_nil⟩⟩⟩⟩⟩⟩⟩⟩⟩⟩⟩⟩⟩⟩⟩⟩⟩⟩⟩⟩⟩⟩⟩⟩⟩⟩⟩⟩⟩⟩⟩⟩⟩⟩⟩⟩⟩⟩⟩⟩⟩⟩⟩⟩⟩⟩⟩⟩⟩⟩⟩⟩⟩⟩⟩⟩⟩⟩⟩⟩⟩⟩⟩⟩⟩⟩⟩⟩⟩⟩⟩⟩⟩⟩⟩⟩⟩⟩⟩⟩⟩⟩
theorem qz_fl_ok {c i x y : Nat} (h : qz_fl c i = some (x, y)) : qz_FO ((c, i), (x, y)) := qz_fm qz_flL_ok (qz_lk h)
theorem qz_f_0_9 : qz_fl 0 9 = some (0, 0) := by decide +kernel
theorem qz_f_0_13 : qz_fl 0 13 = some (0, 1) := by decide +kernel
theorem qz_f_0_16 : qz_fl 0 16 = some (0, 2) := by decide +kernel
theorem qz_f_0_19 : qz_fl 0 19 = some (0, 3) := by decide +kernel
theorem qz_f_0_22 : qz_fl 0 22 = some (0, 4) := by decide +kernel
theorem qz_f_0_26 : qz_fl 0 26 = some (0, 5) := by decide +kernel
theorem qz_f_0_29 : qz_fl 0 29 = some (0, 6) := by decide +kernel
theorem qz_f_0_32 : qz_fl 0 32 = some (0, 7) := by decide +kernel
theorem qz_f_1_9 : qz_fl 1 9 = some (1, 0) := by decide +kernel
theorem qz_f_1_15 : qz_fl 1 15 = some (1, 1) := by decide +kernel
theorem qz_f_1_21 : qz_fl 1 21 = some (1, 2) := by decide +kernel
theorem qz_f_1_25 : qz_fl 1 25 = some (1, 3) := by decide +kernel
theorem qz_f_1_37 : qz_fl 1 37 = some (3, 0) := by decide +kernel
theorem qz_f_1_40 : qz_fl 1 40 = some (3, 1) := by decide +kernel
theorem qz_f_1_43 : qz_fl 1 43 = some (3, 2) := by decide +kernel
theorem qz_f_2_11 : qz_fl 2 11 = some (2, 0) := by decide +kernel
theorem qz_f_2_17 : qz_fl 2 17 = some (2, 1) := by decide +kernel
theorem qz_f_3_7 : qz_fl 3 7 = some (3, 0) := by decide +kernel
theorem qz_f_3_13 : qz_fl 3 13 = some (3, 1) := by decide +kernel
theorem qz_f_3_16 : qz_fl 3 16 = some (3, 2) := by decide +kernel
theorem qz_f_4_9 : qz_fl 4 9 = some (4, 0) := by decide +kernel
theorem qz_f_4_15 : qz_fl 4 15 = some (4, 1) := by decide +kernel
theorem qz_f_4_19 : qz_fl 4 19 = some (4, 2) := by decide +kernel
theorem qz_f_4_25 : qz_fl 4 25 = some (4, 3) := by decide +kernel
theorem qz_f_4_30 : qz_fl 4 30 = some (4, 4) := by decide +kernel
theorem qz_f_4_34 : qz_fl 4 34 = some (4, 5) := by decide +kernel
theorem qz_f_4_37 : qz_fl 4 37 = some (4, 6) := by decide +kernel
theorem qz_f_4_40 : qz_fl 4 40 = some (4, 7) := by decide +kernel
theorem qz_f_4_43 : qz_fl 4 43 = some (4, 8) := by decide +kernel
theorem qz_f_4_46 : qz_fl 4 46 = some (4, 9) := by decide +kernel
theorem qz_f_4_49 : qz_fl 4 49 = some (4, 10) := by decide +kernel
theorem qz_f_4_52 : qz_fl 4 52 = some (4, 11) := by decide +kernel
theorem qz_f_4_79 : qz_fl 4 79 = some (0, 0) := by decide +kernel
theorem qz_f_4_86 : qz_fl 4 86 = some (0, 1) := by decide +kernel
theorem qz_f_4_89 : qz_fl 4 89 = some (0, 2) := by decide +kernel
theorem qz_f_4_92 : qz_fl 4 92 = some (0, 3) := by decide +kernel
theorem qz_f_4_95 : qz_fl 4 95 = some (0, 4) := by decide +kernel
theorem qz_f_4_174 : qz_fl 4 174 = some (0, 7) := by decide +kernel
theorem qz_f_4_175 : qz_fl 4 175 = some (0, 5) := by decide +kernel
theorem qz_f_4_176 : qz_fl 4 176 = some (0, 6) := by decide +kernel
theorem qz_f_5_10 : qz_fl 5 10 = some (5, 0) := by decide +kernel
theorem qz_f_5_19 : qz_fl 5 19 = some (5, 1) := by decide +kernel
theorem qz_f_5_26 : qz_fl 5 26 = some (5, 2) := by decide +kernel
theorem qz_f_5_30 : qz_fl 5 30 = some (5, 3) := by decide +kernel
theorem qz_f_5_33 : qz_fl 5 33 = some (5, 4) := by decide +kernel
theorem qz_f_5_37 : qz_fl 5 37 = some (4, 0) := by decide +kernel
theorem qz_f_5_74 : qz_fl 5 74 = some (1, 3) := by decide +kernel
theorem qz_f_5_95 : qz_fl 5 95 = some (0, 1) := by decide +kernel
theorem qz_f_5_98 : qz_fl 5 98 = some (0, 4) := by decide +kernel
theorem qz_f_5_126 : qz_fl 5 126 = some (4, 8) := by decide +kernel
theorem qz_f_5_135 : qz_fl 5 135 = some (4, 6) := by decide +kernel
theorem qz_f_5_138 : qz_fl 5 138 = some (1, 1) := by decide +kernel
theorem qz_f_5_145 : qz_fl 5 145 = some (2, 1) := by decide +kernel
theorem qz_f_5_154 : qz_fl 5 154 = some (0, 2) := by decide +kernel
theorem qz_f_5_157 : qz_fl 5 157 = some (0, 3) := by decide +kernel
theorem qz_f_5_167 : qz_fl 5 167 = some (0, 5) := by decide +kernel
theorem qz_f_5_170 : qz_fl 5 170 = some (0, 6) := by decide +kernel
theorem qz_f_5_171 : qz_fl 5 171 = some (0, 7) := by decide +kernel
theorem qz_f_5_193 : qz_fl 5 193 = some (4, 7) := by decide +kernel
theorem qz_f_5_194 : qz_fl 5 194 = some (4, 9) := by decide +kernel
theorem qz_f_5_195 : qz_fl 5 195 = some (4, 10) := by decide +kernel
theorem qz_f_5_198 : qz_fl 5 198 = some (4, 11) := by decide +kernel
theorem qz_f_5_201 : qz_fl 5 201 = some (4, 5) := by decide +kernel
theorem qz_f_5_215 : qz_fl 5 215 = some (1, 2) := by decide +kernel
theorem qz_f_5_219 : qz_fl 5 219 = some (3, 0) := by decide +kernel
theorem qz_f_5_222 : qz_fl 5 222 = some (3, 1) := by decide +kernel
theorem qz_f_5_223 : qz_fl 5 223 = some (3, 2) := by decide +kernel
theorem qz_f_6_7 : qz_fl 6 7 = some (6, 1) := by decide +kernel
theorem qz_f_6_13 : qz_fl 6 13 = some (6, 2) := by decide +kernel
theorem qz_f_6_16 : qz_fl 6 16 = some (6, 4) := by decide +kernel
theorem qz_f_6_19 : qz_fl 6 19 = some (6, 6) := by decide +kernel
theorem qz_f_6_22 : qz_fl 6 22 = some (6, 8) := by decide +kernel
theorem qz_f_6_25 : qz_fl 6 25 = some (6, 9) := by decide +kernel
theorem qz_f_6_29 : qz_fl 6 29 = some (6, 13) := by decide +kernel
theorem qz_f_6_32 : qz_fl 6 32 = some (6, 0) := by decide +kernel
theorem qz_f_6_44 : qz_fl 6 44 = some (6, 3) := by decide +kernel
theorem qz_f_6_95 : qz_fl 6 95 = some (6, 10) := by decide +kernel
theorem qz_f_6_124 : qz_fl 6 124 = some (6, 14) := by decide +kernel
theorem qz_f_6_152 : qz_fl 6 152 = some (6, 7) := by decide +kernel
theorem qz_f_6_155 : qz_fl 6 155 = some (6, 11) := by decide +kernel
theorem qz_f_6_161 : qz_fl 6 161 = some (6, 12) := by decide +kernel
theorem qz_f_6_172 : qz_fl 6 172 = some (6, 5) := by decide +kernel
def qz_sn (k : Nat) : String := match k with
  | 30 => "FIRST_SETTINGS"
  | 31 => "LEAST_SETTINGS"
  | _ => "MOST_SETTINGS"
def qz_st (c i : Nat) : Option Nat := match c, i with
  | 4, 22 => some 30
  | 5, 204 => some 31
  | 5, 208 => some 32
  | _, _ => none
def qz_nwL : List ((Nat × Nat) × Nat) := [((8, 7), 5), ((5, 7), 4), ((4, 28), 0), ((5, 16), 1), ((1, 19), 3), ((5, 23), 2), ((2, 9), 4), ((8, 10), 6)]
def qz_nw (c i : Nat) : Option Nat := qz_nwL.lookup (c, i)
def qz_NO (e : (Nat × Nat) × Nat) : Prop := e.2 < 7 ∧ Cond.classLink (qz_ow e.1.1) e.1.2 (qz_ow e.2) ∈ qz_tb
theorem qz_no0 : qz_NO ((8, 7), 5) := ⟨by decide, qz_in 55 (by decide +kernel) (by decide +kernel)⟩
theorem qz_no1 : qz_NO ((5, 7), 4) := ⟨by decide, qz_in 63 (by decide +kernel) (by decide +kernel)⟩
theorem qz_no2 : qz_NO ((4, 28), 0) := ⟨by decide, qz_in 71 (by decide +kernel) (by decide +kernel)⟩
theorem qz_no3 : qz_NO ((5, 16), 1) := ⟨by decide, qz_in 164 (by decide +kernel) (by decide +kernel)⟩
theorem qz_no4 : qz_NO ((1, 19), 3) := ⟨by decide, qz_in 170 (by decide +kernel) (by decide +kernel)⟩
theorem qz_no5 : qz_NO ((5, 23), 2) := ⟨by decide, qz_in 210 (by decide +kernel) (by decide +kernel)⟩
theorem qz_no6 : qz_NO ((2, 9), 4) := ⟨by decide, qz_in 216 (by decide +kernel) (by decide +kernel)⟩
theorem qz_no7 : qz_NO ((8, 10), 6) := ⟨by decide, qz_in 562 (by decide +kernel) (by decide +kernel)⟩
set_option maxRecDepth 20000 in
theorem qz_nwL_ok : ∀ e ∈ qz_nwL, qz_NO e := List.forall_mem_cons.mpr ⟨qz_no0, List.forall_mem_cons.mpr ⟨qz_no1, List.forall_mem_cons.mpr ⟨qz_no2, List.forall_mem_cons.mpr ⟨qz_no3, List.forall_mem_cons.mpr ⟨qz_no4, List.forall_mem_cons.mpr ⟨qz_no5, List.forall_mem_cons.mpr ⟨qz_no6, List.forall_mem_cons.mpr ⟨qz_no7, fun _ h => absurd h List.not_mem_nil⟩⟩⟩⟩⟩⟩⟩⟩
theorem qz_nw_ok {c i x : Nat} (h : qz_nw c i = some x) : qz_NO ((c, i), x) := qz_fm qz_nwL_ok (qz_lk h)
theorem qz_n_8_7 : qz_nw 8 7 = some 5 := by decide +kernel
theorem qz_n_5_7 : qz_nw 5 7 = some 4 := by decide +kernel
theorem qz_n_4_28 : qz_nw 4 28 = some 0 := by decide +kernel
theorem qz_n_5_16 : qz_nw 5 16 = some 1 := by decide +kernel
theorem qz_n_1_19 : qz_nw 1 19 = some 3 := by decide +kernel
theorem qz_n_5_23 : qz_nw 5 23 = some 2 := by decide +kernel
theorem qz_n_2_9 : qz_nw 2 9 = some 4 := by decide +kernel
theorem qz_n_8_10 : qz_nw 8 10 = some 6 := by decide +kernel
def qz_CO (c : Nat) : Prop := vwCl[c]? = some (qz_ow c, qz_T c, qz_nf c) ∧ (∀ w ∈ u_ws (qz_ow c) (qz_T c) (qz_nf c), w ∈ qz_tb) ∧ (∀ k, k < qz_nf c → parseFieldDescriptor (qz_T c k).2.2.1 = some (qz_ty c k)) ∧ (∀ a, a < qz_nf c → ∀ b, b < qz_nf c → a ≠ b → (qz_T c a).2.1 ≠ (qz_T c b).2.1) ∧ Cond.instantiable (qz_ow c) (qz_nf c) ∈ qz_tb ∧ Cond.initialized (qz_ow c) ∈ qz_tb ∧ (∀ k, k < qz_nf c → (qz_T c k).1 = qz_ow c ∧ (qz_T c k).2.2.2 = qz_fn c k)
theorem qz_uw {C : String} {T : u_T} {N : Nat} (f : Nat → Nat) (h : ∀ k, k < N → lw_tbl[f k]? = some (u_lay C T k)) (g : ∀ k, k < N → goodWord (u_lay C T k) = true) : ∀ w ∈ u_ws C T N, w ∈ qz_tb := by
  intro w hw
  obtain ⟨k, hk, rfl⟩ := List.mem_map.mp hw
  have hk := List.mem_range.mp hk
  exact qz_in _ (h k hk) (g k hk)
def qz_wp0 (k : Nat) : Nat := ([101, 103, 105, 107, 109, 111, 113, 115] : List Nat).getD k 0
set_option maxRecDepth 20000 in
theorem qz_co0 : qz_CO 0 := ⟨rfl, qz_uw qz_wp0 (by decide +kernel) (by decide +kernel), tyX0_ok, nmX0, qz_in 73 (by decide +kernel) (by decide +kernel), qz_in 49 (by decide +kernel) (by decide +kernel), by decide +kernel⟩
def qz_wp1 (k : Nat) : Nat := ([201, 203, 205, 207] : List Nat).getD k 0
set_option maxRecDepth 20000 in
theorem qz_co1 : qz_CO 1 := ⟨rfl, qz_uw qz_wp1 (by decide +kernel) (by decide +kernel), tyX1_ok, nmX1, qz_in 165 (by decide +kernel) (by decide +kernel), qz_in 50 (by decide +kernel) (by decide +kernel), by decide +kernel⟩
def qz_wp2 (k : Nat) : Nat := ([222, 224] : List Nat).getD k 0
set_option maxRecDepth 20000 in
theorem qz_co2 : qz_CO 2 := ⟨rfl, qz_uw qz_wp2 (by decide +kernel) (by decide +kernel), tyX2_ok, nmX2, qz_in 211 (by decide +kernel) (by decide +kernel), qz_in 52 (by decide +kernel) (by decide +kernel), by decide +kernel⟩
def qz_wp3 (k : Nat) : Nat := ([186, 188, 190] : List Nat).getD k 0
set_option maxRecDepth 20000 in
theorem qz_co3 : qz_CO 3 := ⟨rfl, qz_uw qz_wp3 (by decide +kernel) (by decide +kernel), tyX3_ok, nmX3, qz_in 172 (by decide +kernel) (by decide +kernel), qz_in 51 (by decide +kernel) (by decide +kernel), by decide +kernel⟩
def qz_wp4 (k : Nat) : Nat := ([139, 141, 143, 145, 147, 149, 151, 153, 155, 157, 159, 161] : List Nat).getD k 0
set_option maxRecDepth 20000 in
theorem qz_co4 : qz_CO 4 := ⟨rfl, qz_uw qz_wp4 (by decide +kernel) (by decide +kernel), tyX4_ok, nmX4, qz_in 64 (by decide +kernel) (by decide +kernel), qz_in 48 (by decide +kernel) (by decide +kernel), by decide +kernel⟩
def qz_wp5 (k : Nat) : Nat := ([232, 234, 236, 238, 240] : List Nat).getD k 0
set_option maxRecDepth 20000 in
theorem qz_co5 : qz_CO 5 := ⟨rfl, qz_uw qz_wp5 (by decide +kernel) (by decide +kernel), tyX5_ok, nmX5, qz_in 56 (by decide +kernel) (by decide +kernel), qz_in 47 (by decide +kernel) (by decide +kernel), by decide +kernel⟩
def qz_wp6 (k : Nat) : Nat := ([583, 585, 587, 589, 591, 593, 595, 597, 599, 601, 603, 605, 607, 609, 611] : List Nat).getD k 0
set_option maxRecDepth 20000 in
theorem qz_co6 : qz_CO 6 := ⟨rfl, qz_uw qz_wp6 (by decide +kernel) (by decide +kernel), tyX6_ok, nmX6, qz_in 563 (by decide +kernel) (by decide +kernel), qz_in 53 (by decide +kernel) (by decide +kernel), by decide +kernel⟩
theorem qz_co {c : Nat} (h : c < 7) : qz_CO c := by
  match c, h with
  | 0, _ => exact qz_co0
  | 1, _ => exact qz_co1
  | 2, _ => exact qz_co2
  | 3, _ => exact qz_co3
  | 4, _ => exact qz_co4
  | 5, _ => exact qz_co5
  | 6, _ => exact qz_co6
  | k + 7, h => exact absurd h (by omega)
def qz_infL : List qz_I := [
  (yX0_init, cX0_init, 1, none, 0, 1, false, 1, 20),
  (yX0_isLive, cX0_isLive, 1, some FieldType.boolean, 0, 1, false, 0, 0),
  (yX0_isWaiting, cX0_isWaiting, 1, some FieldType.boolean, 0, 1, false, 1, 20),
  (yX0_isRider, cX0_isRider, 1, some FieldType.boolean, 0, 1, false, 1, 20),
  (yX0_isOfBus, cX0_isOfBus, 4, some FieldType.boolean, 0, 4, false, 1, 20),
  (yX0_getsSeatAheadOf, cX0_getsSeatAheadOf, 2, some FieldType.boolean, 0, 2, false, 0, 0),
  (yX0_clear, cX0_clear, 1, none, 0, 1, false, 0, 0),
  (yX0_copyFrom, cX0_copyFrom, 2, none, 0, 2, false, 0, 0),
  (yX1_init, cX1_init, 2, none, 1, 1, false, 2, 40),
  (yX1_append, cX1_append, 2, none, 1, 2, false, 0, 0),
  (yX1_read, cX1_read, 6, some FieldType.int, 1, 1, false, 1, 23),
  (yX1_isAllowed, cX1_isAllowed, 3, some FieldType.boolean, 1, 2, true, 0, 0),
  (yX1_wish, cX1_wish, 4, none, 1, 4, false, 0, 0),
  (yX2_init, cX2_init, 2, none, 2, 1, false, 3, 61),
  (yX2_remember, cX2_remember, 2, none, 2, 2, false, 2, 44),
  (yX2_dropOldest, cX2_dropOldest, 3, none, 2, 1, false, 0, 0),
  (yX2_takeLatestInto, cX2_takeLatestInto, 3, none, 2, 2, false, 2, 44),
  (yX3_init, cX3_init, 1, none, 3, 1, false, 1, 20),
  (yX4_init, cX4_init, 2, none, 4, 1, false, 2, 40),
  (yX4_copyFrom, cX4_copyFrom, 3, none, 4, 2, false, 1, 22),
  (yX4_copyRow, cX4_copyRow, 3, none, 4, 2, true, 0, 0),
  (yX4_setting, cX4_setting, 2, some FieldType.int, 4, 2, false, 0, 0),
  (yX4_changeSetting, cX4_changeSetting, 3, none, 4, 3, false, 0, 0),
  (yX4_hasEnd, cX4_hasEnd, 2, some FieldType.boolean, 4, 2, false, 0, 0),
  (yX4_openEnd, cX4_openEnd, 3, some FieldType.int, 4, 2, false, 0, 0),
  (yX4_minuteOf, cX4_minuteOf, 2, some FieldType.int, 4, 2, false, 0, 0),
  (yX4_isEarlier, cX4_isEarlier, 4, some FieldType.boolean, 4, 3, false, 1, 21),
  (yX4_endOfRank, cX4_endOfRank, 3, some FieldType.int, 4, 2, false, 3, 67),
  (yX4_rankOf, cX4_rankOf, 4, some FieldType.int, 4, 2, false, 2, 44),
  (yX4_bookingOf, cX4_bookingOf, 6, some (FieldType.object "ShiftBuses$Booking"), 4, 2, false, 1, 20),
  (yX4_enter, cX4_enter, 9, some FieldType.int, 4, 4, false, 5, 111),
  (yX4_workerCount, cX4_workerCount, 6, some FieldType.int, 4, 1, false, 1, 20),
  (yX4_waitingCount, cX4_waitingCount, 6, some FieldType.int, 4, 1, false, 2, 40),
  (yX4_reason, cX4_reason, 5, some FieldType.int, 4, 5, false, 4, 87),
  (yX4_lookAtWaiting, cX4_lookAtWaiting, 4, none, 4, 1, false, 5, 111),
  (yX4_nextWaiting, cX4_nextWaiting, 7, some (FieldType.object "ShiftBuses$Booking"), 4, 2, false, 3, 66),
  (yX4_isLookedAtAheadOf, cX4_isLookedAtAheadOf, 3, some FieldType.boolean, 4, 3, false, 2, 44),
  (yX4_busIndex, cX4_busIndex, 2, some FieldType.int, 4, 2, true, 1, 20),
  (yX4_partnerOf, cX4_partnerOf, 4, some FieldType.int, 4, 3, false, 2, 41),
  (yX4_tie, cX4_tie, 5, none, 4, 4, false, 2, 41),
  (yX4_pairCount, cX4_pairCount, 6, some FieldType.int, 4, 1, false, 0, 0),
  (yX4_startOf, cX4_startOf, 3, some FieldType.int, 4, 3, false, 1, 21),
  (yX4_minutesBehind, cX4_minutesBehind, 4, some FieldType.int, 4, 4, false, 3, 64),
  (yX4_isInTime, cX4_isInTime, 4, some FieldType.boolean, 4, 3, false, 1, 21),
  (yX4_takenSeats, cX4_takenSeats, 11, some FieldType.int, 4, 6, false, 2, 43),
  (yX4_waitingFor, cX4_waitingFor, 9, some FieldType.int, 4, 4, false, 2, 43),
  (yX4_farthestPromised, cX4_farthestPromised, 9, some FieldType.int, 4, 4, false, 2, 43),
  (yX4_canMerge, cX4_canMerge, 4, some FieldType.boolean, 4, 4, false, 3, 73),
  (yX4_isInTimeForAll, cX4_isInTimeForAll, 9, some FieldType.boolean, 4, 4, false, 2, 44),
  (yX4_canRide, cX4_canRide, 10, some FieldType.boolean, 4, 4, false, 2, 44),
  (yX4_costToday, cX4_costToday, 9, some FieldType.int, 4, 4, false, 3, 73),
  (yX4_runBuses, cX4_runBuses, 5, none, 4, 1, false, 4, 101),
  (yX4_bringHome, cX4_bringHome, 5, none, 4, 1, false, 4, 94),
  (yX4_bringRiderHome, cX4_bringRiderHome, 2, none, 4, 2, false, 3, 73),
  (yX5_init, cX5_init, 1, none, 5, 1, false, 4, 82),
  (yX5_addEnd, cX5_addEnd, 2, some FieldType.int, 5, 2, false, 3, 65),
  (yX5_book, cX5_book, 4, some FieldType.int, 5, 4, false, 6, 139),
  (yX5_bookAll, cX5_bookAll, 2, some FieldType.int, 5, 1, false, 7, 161),
  (yX5_takeBack, cX5_takeBack, 3, some FieldType.int, 5, 2, false, 6, 134),
  (yX5_stay, cX5_stay, 4, some FieldType.int, 5, 3, false, 6, 134),
  (yX5_merge, cX5_merge, 5, some FieldType.int, 5, 4, false, 6, 134),
  (yX5_part, cX5_part, 4, some FieldType.int, 5, 3, false, 6, 134),
  (yX5_set, cX5_set, 4, some FieldType.int, 5, 3, false, 6, 134),
  (yX5_passDay, cX5_passDay, 2, some FieldType.int, 5, 1, false, 5, 125),
  (yX5_type, cX5_type, 2, some FieldType.int, 5, 2, false, 1, 21),
  (yX5_clearText, cX5_clearText, 2, some FieldType.int, 5, 1, false, 0, 0),
  (yX5_undo, cX5_undo, 1, some FieldType.int, 5, 1, false, 3, 66),
  (yX5_keep, cX5_keep, 1, some FieldType.int, 5, 1, false, 2, 45),
  (yX5_restore, cX5_restore, 1, some FieldType.int, 5, 1, false, 3, 65),
  (yX5_worker, cX5_worker, 4, some FieldType.int, 5, 3, false, 5, 111),
  (yX5_bus, cX5_bus, 5, some FieldType.int, 5, 4, false, 4, 101),
  (yX5_taken, cX5_taken, 4, some FieldType.int, 5, 4, false, 3, 73),
  (yX5_why, cX5_why, 4, some FieldType.int, 5, 4, false, 5, 111),
  (yX5_spares, cX5_spares, 6, some FieldType.int, 5, 4, false, 5, 119),
  (yX5_byMinute, cX5_byMinute, 2, some FieldType.int, 5, 2, false, 4, 89),
  (yX5_count, cX5_count, 2, some FieldType.int, 5, 2, false, 3, 65),
  (yX5_isLine, cX5_isLine, 1, some FieldType.boolean, 5, 1, true, 0, 0),
  (yX5_isStop, cX5_isStop, 1, some FieldType.boolean, 5, 1, true, 0, 0),
  (yX5_isSettingValue, cX5_isSettingValue, 2, some FieldType.boolean, 5, 2, true, 0, 0),
  (yX5_mergingError, cX5_mergingError, 4, some FieldType.int, 5, 4, false, 4, 96),
  (yX5_hasAllEnds, cX5_hasAllEnds, 2, some FieldType.boolean, 5, 1, false, 1, 21),
  (yX5_enterAll, cX5_enterAll, 3, none, 5, 1, false, 6, 139),
  (yX6_init, cX6_init, 1, none, 6, 1, false, 1, 20),
  (yX6_in, cX6_in, 3, some FieldType.boolean, 6, 3, true, 0, 0),
  (yX6_of, cX6_of, 3, some FieldType.int, 6, 3, false, 0, 0),
  (yX6_lay, cX6_lay, 4, none, 6, 4, false, 0, 0),
  (yX6_isEnd, cX6_isEnd, 2, some FieldType.boolean, 6, 2, false, 1, 22),
  (yX6_isLine, cX6_isLine, 1, some FieldType.boolean, 6, 1, true, 1, 22),
  (yX6_isStop, cX6_isStop, 1, some FieldType.boolean, 6, 1, true, 1, 22),
  (yX6_minute, cX6_minute, 2, some FieldType.int, 6, 2, false, 0, 0),
  (yX6_partner, cX6_partner, 4, some FieldType.int, 6, 3, false, 0, 0),
  (yX6_placeOf, cX6_placeOf, 3, some FieldType.int, 6, 2, false, 1, 22),
  (yX6_records, cX6_records, 2, none, 6, 1, false, 0, 0),
  (yX6_later, cX6_later, 2, some FieldType.int, 6, 2, true, 0, 0),
  (yX6_startOf, cX6_startOf, 4, some FieldType.int, 6, 3, false, 1, 23),
  (yX6_isOn, cX6_isOn, 4, some FieldType.boolean, 6, 4, false, 1, 23),
  (yX6_takenBut, cX6_takenBut, 7, some FieldType.int, 6, 5, false, 2, 46),
  (yX6_behind, cX6_behind, 4, some FieldType.int, 6, 4, false, 1, 21),
  (yX6_reasonBut, cX6_reasonBut, 6, some FieldType.int, 6, 5, false, 3, 72),
  (yX6_ranks, cX6_ranks, 3, none, 6, 1, false, 1, 21),
  (yX6_waitsAt, cX6_waitsAt, 5, some FieldType.boolean, 6, 5, false, 1, 22),
  (yX6_looksAt, cX6_looksAt, 5, none, 6, 4, false, 4, 97),
  (yX6_looksAtAll, cX6_looksAtAll, 3, none, 6, 1, false, 5, 121),
  (yX6_waiting, cX6_waiting, 3, some FieldType.int, 6, 1, false, 1, 22),
  (yX6_isOf, cX6_isOf, 5, some FieldType.boolean, 6, 5, false, 1, 22),
  (yX6_canMerge, cX6_canMerge, 9, some FieldType.boolean, 6, 4, false, 2, 46),
  (yX6_laysRides, cX6_laysRides, 9, none, 6, 5, false, 2, 46),
  (yX6_cost, cX6_cost, 1, some FieldType.int, 6, 1, false, 0, 0),
  (yX6_costOf, cX6_costOf, 4, some FieldType.int, 6, 3, false, 3, 74),
  (yX6_isAway, cX6_isAway, 4, some FieldType.boolean, 6, 3, false, 1, 23),
  (yX6_bringsHome, cX6_bringsHome, 6, some FieldType.int, 6, 3, false, 4, 97),
  (yX6_addEnd, cX6_addEnd, 2, some FieldType.int, 6, 2, false, 1, 22),
  (yX6_books, cX6_books, 7, some FieldType.int, 6, 4, false, 4, 97),
  (yX6_book, cX6_book, 4, some FieldType.int, 6, 4, false, 5, 123),
  (yX6_bookAll, cX6_bookAll, 3, some FieldType.int, 6, 1, false, 5, 123),
  (yX6_takeBack, cX6_takeBack, 4, some FieldType.int, 6, 2, false, 6, 143),
  (yX6_stay, cX6_stay, 4, some FieldType.int, 6, 3, false, 6, 143),
  (yX6_layMerged, cX6_layMerged, 4, none, 6, 4, false, 0, 0),
  (yX6_merge, cX6_merge, 4, some FieldType.int, 6, 4, false, 6, 143),
  (yX6_part, cX6_part, 4, some FieldType.int, 6, 3, false, 6, 143),
  (yX6_isSetting, cX6_isSetting, 2, some FieldType.boolean, 6, 2, true, 1, 22),
  (yX6_set, cX6_set, 4, some FieldType.int, 6, 3, false, 6, 143),
  (yX6_passDay, cX6_passDay, 3, some FieldType.int, 6, 1, false, 5, 122),
  (yX6_type, cX6_type, 2, some FieldType.int, 6, 2, false, 0, 0),
  (yX6_clearText, cX6_clearText, 2, some FieldType.int, 6, 1, false, 0, 0),
  (yX6_sign, cX6_sign, 1, some FieldType.int, 6, 1, false, 0, 0),
  (yX6_readsStop, cX6_readsStop, 3, none, 6, 3, false, 1, 20),
  (yX6_readsBooking, cX6_readsBooking, 3, none, 6, 1, false, 2, 42),
  (yX6_reads, cX6_reads, 1, some FieldType.int, 6, 1, false, 3, 64),
  (yX6_undo, cX6_undo, 2, some FieldType.int, 6, 1, false, 0, 0),
  (yX6_keep, cX6_keep, 2, some FieldType.int, 6, 1, false, 0, 0),
  (yX6_restore, cX6_restore, 2, some FieldType.int, 6, 1, false, 1, 21),
  (yX6_worker, cX6_worker, 6, some FieldType.int, 6, 3, false, 4, 97),
  (yX6_overRiders, cX6_overRiders, 8, some FieldType.int, 6, 4, false, 2, 46),
  (yX6_bus, cX6_bus, 4, some FieldType.int, 6, 4, false, 4, 97),
  (yX6_taken, cX6_taken, 4, some FieldType.int, 6, 4, false, 3, 72),
  (yX6_why, cX6_why, 4, some FieldType.int, 6, 4, false, 4, 97),
  (yX6_spares, cX6_spares, 5, some FieldType.int, 6, 4, false, 4, 97),
  (yX6_byMinute, cX6_byMinute, 2, some FieldType.int, 6, 2, false, 2, 43),
  (yX6_pairs, cX6_pairs, 3, some FieldType.int, 6, 1, false, 0, 0),
  (yX6_count, cX6_count, 2, some FieldType.int, 6, 2, false, 2, 44),
  (yL_law, cL_law, 4, some .boolean, 8, 1, true, 10, 364)]
def qz_inf (k : Nat) : qz_I := qz_infL.getD k (yL_law, cL_law, 4, some .boolean, 8, 1, true, 10, 364)
def qz_y (k : Nat) : MethodName := (qz_inf k).1
def qz_b (k : Nat) : ByteArray := (qz_inf k).2.1
def qz_ml (k : Nat) : Nat := (qz_inf k).2.2.1
def qz_rt (k : Nat) : Option FieldType := (qz_inf k).2.2.2.1
def qz_cn (k : Nat) : Nat := (qz_inf k).2.2.2.2.1
def qz_na (k : Nat) : Nat := (qz_inf k).2.2.2.2.2.1
def qz_sa (k : Nat) : Bool := (qz_inf k).2.2.2.2.2.2.1
def qz_rF (k : Nat) : Nat := (qz_inf k).2.2.2.2.2.2.2.1
def qz_rL (k : Nat) : Nat := (qz_inf k).2.2.2.2.2.2.2.2
def qz_ini (k : Nat) : Bool := (qz_y k).name == "<init>"
abbrev qz_nm : Nat := 141
/-- a method that may be called -/
def qz_MO (k : Nat) : Prop := plainName (qz_y k).cls = true ∧ Cond.code (qz_y k) (qz_b k) (qz_ml k) (qz_rt k) ∈ qz_tb ∧ Cond.initialized (qz_y k).cls ∈ qz_tb ∧ ((qz_y k).cls ≠ "java/lang/invoke/MethodHandle" ∧ (qz_y k).cls ≠ "java/lang/invoke/VarHandle") ∧ (parseMethodDescriptor (qz_y k).desc).map (fun d => d.parameters.length) = some (qz_na k - (if qz_sa k = true then 0 else 1)) ∧ (qz_sa k = true → Cond.static (qz_y k) ∈ qz_tb) ∧ (qz_sa k = false → Cond.instanceMethod (qz_y k) ∈ qz_tb ∧ (qz_ini k = true ∨ Cond.selects (qz_ow (qz_cn k)) (qz_y k) (qz_y k) ∈ qz_tb) ∧ qz_cn k < 7 ∧ 1 ≤ qz_na k) ∧ (qz_y k).cls = qz_ow (qz_cn k) ∧ qz_na k ≤ qz_ml k ∧ (qz_ini k = true → qz_rt k = none)
set_option maxRecDepth 20000 in
theorem qz_mo0 : qz_MO 0 := ⟨by decide +kernel, qz_in 76 (by decide +kernel) (by decide +kernel), qz_in 49 (by decide +kernel) (by decide +kernel), ⟨by decide +kernel, by decide +kernel⟩, by decide +kernel, fun h => absurd h (by decide +kernel), fun _ => ⟨qz_in 75 (by decide +kernel) (by decide +kernel), Or.inl (by decide +kernel), by decide +kernel, by decide +kernel⟩, by decide +kernel, by decide +kernel, by decide +kernel⟩
set_option maxRecDepth 20000 in
theorem qz_mo1 : qz_MO 1 := ⟨by decide +kernel, qz_in 291 (by decide +kernel) (by decide +kernel), qz_in 49 (by decide +kernel) (by decide +kernel), ⟨by decide +kernel, by decide +kernel⟩, by decide +kernel, fun h => absurd h (by decide +kernel), fun _ => ⟨qz_in 289 (by decide +kernel) (by decide +kernel), Or.inr (qz_in 290 (by decide +kernel) (by decide +kernel)), by decide +kernel, by decide +kernel⟩, by decide +kernel, by decide +kernel, by decide +kernel⟩
set_option maxRecDepth 20000 in
theorem qz_mo2 : qz_MO 2 := ⟨by decide +kernel, qz_in 387 (by decide +kernel) (by decide +kernel), qz_in 49 (by decide +kernel) (by decide +kernel), ⟨by decide +kernel, by decide +kernel⟩, by decide +kernel, fun h => absurd h (by decide +kernel), fun _ => ⟨qz_in 385 (by decide +kernel) (by decide +kernel), Or.inr (qz_in 386 (by decide +kernel) (by decide +kernel)), by decide +kernel, by decide +kernel⟩, by decide +kernel, by decide +kernel, by decide +kernel⟩
set_option maxRecDepth 20000 in
theorem qz_mo3 : qz_MO 3 := ⟨by decide +kernel, qz_in 316 (by decide +kernel) (by decide +kernel), qz_in 49 (by decide +kernel) (by decide +kernel), ⟨by decide +kernel, by decide +kernel⟩, by decide +kernel, fun h => absurd h (by decide +kernel), fun _ => ⟨qz_in 314 (by decide +kernel) (by decide +kernel), Or.inr (qz_in 315 (by decide +kernel) (by decide +kernel)), by decide +kernel, by decide +kernel⟩, by decide +kernel, by decide +kernel, by decide +kernel⟩
set_option maxRecDepth 20000 in
theorem qz_mo4 : qz_MO 4 := ⟨by decide +kernel, qz_in 321 (by decide +kernel) (by decide +kernel), qz_in 49 (by decide +kernel) (by decide +kernel), ⟨by decide +kernel, by decide +kernel⟩, by decide +kernel, fun h => absurd h (by decide +kernel), fun _ => ⟨qz_in 319 (by decide +kernel) (by decide +kernel), Or.inr (qz_in 320 (by decide +kernel) (by decide +kernel)), by decide +kernel, by decide +kernel⟩, by decide +kernel, by decide +kernel, by decide +kernel⟩
set_option maxRecDepth 20000 in
theorem qz_mo5 : qz_MO 5 := ⟨by decide +kernel, qz_in 472 (by decide +kernel) (by decide +kernel), qz_in 49 (by decide +kernel) (by decide +kernel), ⟨by decide +kernel, by decide +kernel⟩, by decide +kernel, fun h => absurd h (by decide +kernel), fun _ => ⟨qz_in 470 (by decide +kernel) (by decide +kernel), Or.inr (qz_in 471 (by decide +kernel) (by decide +kernel)), by decide +kernel, by decide +kernel⟩, by decide +kernel, by decide +kernel, by decide +kernel⟩
set_option maxRecDepth 20000 in
theorem qz_mo6 : qz_MO 6 := ⟨by decide +kernel, qz_in 375 (by decide +kernel) (by decide +kernel), qz_in 49 (by decide +kernel) (by decide +kernel), ⟨by decide +kernel, by decide +kernel⟩, by decide +kernel, fun h => absurd h (by decide +kernel), fun _ => ⟨qz_in 373 (by decide +kernel) (by decide +kernel), Or.inr (qz_in 374 (by decide +kernel) (by decide +kernel)), by decide +kernel, by decide +kernel⟩, by decide +kernel, by decide +kernel, by decide +kernel⟩
set_option maxRecDepth 20000 in
theorem qz_mo7 : qz_MO 7 := ⟨by decide +kernel, qz_in 265 (by decide +kernel) (by decide +kernel), qz_in 49 (by decide +kernel) (by decide +kernel), ⟨by decide +kernel, by decide +kernel⟩, by decide +kernel, fun h => absurd h (by decide +kernel), fun _ => ⟨qz_in 263 (by decide +kernel) (by decide +kernel), Or.inr (qz_in 264 (by decide +kernel) (by decide +kernel)), by decide +kernel, by decide +kernel⟩, by decide +kernel, by decide +kernel, by decide +kernel⟩
set_option maxRecDepth 20000 in
theorem qz_mo8 : qz_MO 8 := ⟨by decide +kernel, qz_in 168 (by decide +kernel) (by decide +kernel), qz_in 50 (by decide +kernel) (by decide +kernel), ⟨by decide +kernel, by decide +kernel⟩, by decide +kernel, fun h => absurd h (by decide +kernel), fun _ => ⟨qz_in 167 (by decide +kernel) (by decide +kernel), Or.inl (by decide +kernel), by decide +kernel, by decide +kernel⟩, by decide +kernel, by decide +kernel, by decide +kernel⟩
set_option maxRecDepth 20000 in
theorem qz_mo9 : qz_MO 9 := ⟨by decide +kernel, qz_in 488 (by decide +kernel) (by decide +kernel), qz_in 50 (by decide +kernel) (by decide +kernel), ⟨by decide +kernel, by decide +kernel⟩, by decide +kernel, fun h => absurd h (by decide +kernel), fun _ => ⟨qz_in 486 (by decide +kernel) (by decide +kernel), Or.inr (qz_in 487 (by decide +kernel) (by decide +kernel)), by decide +kernel, by decide +kernel⟩, by decide +kernel, by decide +kernel, by decide +kernel⟩
set_option maxRecDepth 20000 in
theorem qz_mo10 : qz_MO 10 := ⟨by decide +kernel, qz_in 348 (by decide +kernel) (by decide +kernel), qz_in 50 (by decide +kernel) (by decide +kernel), ⟨by decide +kernel, by decide +kernel⟩, by decide +kernel, fun h => absurd h (by decide +kernel), fun _ => ⟨qz_in 346 (by decide +kernel) (by decide +kernel), Or.inr (qz_in 347 (by decide +kernel) (by decide +kernel)), by decide +kernel, by decide +kernel⟩, by decide +kernel, by decide +kernel, by decide +kernel⟩
set_option maxRecDepth 20000 in
theorem qz_mo11 : qz_MO 11 := ⟨by decide +kernel, qz_in 351 (by decide +kernel) (by decide +kernel), qz_in 50 (by decide +kernel) (by decide +kernel), ⟨by decide +kernel, by decide +kernel⟩, by decide +kernel, fun _ => qz_in 350 (by decide +kernel) (by decide +kernel), fun h => absurd h (by decide +kernel), by decide +kernel, by decide +kernel, by decide +kernel⟩
set_option maxRecDepth 20000 in
theorem qz_mo12 : qz_MO 12 := ⟨by decide +kernel, qz_in 355 (by decide +kernel) (by decide +kernel), qz_in 50 (by decide +kernel) (by decide +kernel), ⟨by decide +kernel, by decide +kernel⟩, by decide +kernel, fun h => absurd h (by decide +kernel), fun _ => ⟨qz_in 354 (by decide +kernel) (by decide +kernel), Or.inr (qz_in 2 (by decide +kernel) (by decide +kernel)), by decide +kernel, by decide +kernel⟩, by decide +kernel, by decide +kernel, by decide +kernel⟩
set_option maxRecDepth 20000 in
theorem qz_mo13 : qz_MO 13 := ⟨by decide +kernel, qz_in 214 (by decide +kernel) (by decide +kernel), qz_in 52 (by decide +kernel) (by decide +kernel), ⟨by decide +kernel, by decide +kernel⟩, by decide +kernel, fun h => absurd h (by decide +kernel), fun _ => ⟨qz_in 213 (by decide +kernel) (by decide +kernel), Or.inl (by decide +kernel), by decide +kernel, by decide +kernel⟩, by decide +kernel, by decide +kernel, by decide +kernel⟩
set_option maxRecDepth 20000 in
theorem qz_mo14 : qz_MO 14 := ⟨by decide +kernel, qz_in 250 (by decide +kernel) (by decide +kernel), qz_in 52 (by decide +kernel) (by decide +kernel), ⟨by decide +kernel, by decide +kernel⟩, by decide +kernel, fun h => absurd h (by decide +kernel), fun _ => ⟨qz_in 248 (by decide +kernel) (by decide +kernel), Or.inr (qz_in 249 (by decide +kernel) (by decide +kernel)), by decide +kernel, by decide +kernel⟩, by decide +kernel, by decide +kernel, by decide +kernel⟩
set_option maxRecDepth 20000 in
theorem qz_mo15 : qz_MO 15 := ⟨by decide +kernel, qz_in 254 (by decide +kernel) (by decide +kernel), qz_in 52 (by decide +kernel) (by decide +kernel), ⟨by decide +kernel, by decide +kernel⟩, by decide +kernel, fun h => absurd h (by decide +kernel), fun _ => ⟨qz_in 253 (by decide +kernel) (by decide +kernel), Or.inr (qz_in 0 (by decide +kernel) (by decide +kernel)), by decide +kernel, by decide +kernel⟩, by decide +kernel, by decide +kernel, by decide +kernel⟩
set_option maxRecDepth 20000 in
theorem qz_mo16 : qz_MO 16 := ⟨by decide +kernel, qz_in 500 (by decide +kernel) (by decide +kernel), qz_in 52 (by decide +kernel) (by decide +kernel), ⟨by decide +kernel, by decide +kernel⟩, by decide +kernel, fun h => absurd h (by decide +kernel), fun _ => ⟨qz_in 498 (by decide +kernel) (by decide +kernel), Or.inr (qz_in 499 (by decide +kernel) (by decide +kernel)), by decide +kernel, by decide +kernel⟩, by decide +kernel, by decide +kernel, by decide +kernel⟩
set_option maxRecDepth 20000 in
theorem qz_mo17 : qz_MO 17 := ⟨by decide +kernel, qz_in 175 (by decide +kernel) (by decide +kernel), qz_in 51 (by decide +kernel) (by decide +kernel), ⟨by decide +kernel, by decide +kernel⟩, by decide +kernel, fun h => absurd h (by decide +kernel), fun _ => ⟨qz_in 174 (by decide +kernel) (by decide +kernel), Or.inl (by decide +kernel), by decide +kernel, by decide +kernel⟩, by decide +kernel, by decide +kernel, by decide +kernel⟩
set_option maxRecDepth 20000 in
theorem qz_mo18 : qz_MO 18 := ⟨by decide +kernel, qz_in 67 (by decide +kernel) (by decide +kernel), qz_in 48 (by decide +kernel) (by decide +kernel), ⟨by decide +kernel, by decide +kernel⟩, by decide +kernel, fun h => absurd h (by decide +kernel), fun _ => ⟨qz_in 66 (by decide +kernel) (by decide +kernel), Or.inl (by decide +kernel), by decide +kernel, by decide +kernel⟩, by decide +kernel, by decide +kernel, by decide +kernel⟩
set_option maxRecDepth 20000 in
theorem qz_mo19 : qz_MO 19 := ⟨by decide +kernel, qz_in 258 (by decide +kernel) (by decide +kernel), qz_in 48 (by decide +kernel) (by decide +kernel), ⟨by decide +kernel, by decide +kernel⟩, by decide +kernel, fun h => absurd h (by decide +kernel), fun _ => ⟨qz_in 256 (by decide +kernel) (by decide +kernel), Or.inr (qz_in 257 (by decide +kernel) (by decide +kernel)), by decide +kernel, by decide +kernel⟩, by decide +kernel, by decide +kernel, by decide +kernel⟩
set_option maxRecDepth 20000 in
theorem qz_mo20 : qz_MO 20 := ⟨by decide +kernel, qz_in 261 (by decide +kernel) (by decide +kernel), qz_in 48 (by decide +kernel) (by decide +kernel), ⟨by decide +kernel, by decide +kernel⟩, by decide +kernel, fun _ => qz_in 260 (by decide +kernel) (by decide +kernel), fun h => absurd h (by decide +kernel), by decide +kernel, by decide +kernel, by decide +kernel⟩
set_option maxRecDepth 20000 in
theorem qz_mo21 : qz_MO 21 := ⟨by decide +kernel, qz_in 325 (by decide +kernel) (by decide +kernel), qz_in 48 (by decide +kernel) (by decide +kernel), ⟨by decide +kernel, by decide +kernel⟩, by decide +kernel, fun h => absurd h (by decide +kernel), fun _ => ⟨qz_in 323 (by decide +kernel) (by decide +kernel), Or.inr (qz_in 324 (by decide +kernel) (by decide +kernel)), by decide +kernel, by decide +kernel⟩, by decide +kernel, by decide +kernel, by decide +kernel⟩
set_option maxRecDepth 20000 in
theorem qz_mo22 : qz_MO 22 := ⟨by decide +kernel, qz_in 452 (by decide +kernel) (by decide +kernel), qz_in 48 (by decide +kernel) (by decide +kernel), ⟨by decide +kernel, by decide +kernel⟩, by decide +kernel, fun h => absurd h (by decide +kernel), fun _ => ⟨qz_in 450 (by decide +kernel) (by decide +kernel), Or.inr (qz_in 451 (by decide +kernel) (by decide +kernel)), by decide +kernel, by decide +kernel⟩, by decide +kernel, by decide +kernel, by decide +kernel⟩
set_option maxRecDepth 20000 in
theorem qz_mo23 : qz_MO 23 := ⟨by decide +kernel, qz_in 277 (by decide +kernel) (by decide +kernel), qz_in 48 (by decide +kernel) (by decide +kernel), ⟨by decide +kernel, by decide +kernel⟩, by decide +kernel, fun h => absurd h (by decide +kernel), fun _ => ⟨qz_in 275 (by decide +kernel) (by decide +kernel), Or.inr (qz_in 276 (by decide +kernel) (by decide +kernel)), by decide +kernel, by decide +kernel⟩, by decide +kernel, by decide +kernel, by decide +kernel⟩
set_option maxRecDepth 20000 in
theorem qz_mo24 : qz_MO 24 := ⟨by decide +kernel, qz_in 269 (by decide +kernel) (by decide +kernel), qz_in 48 (by decide +kernel) (by decide +kernel), ⟨by decide +kernel, by decide +kernel⟩, by decide +kernel, fun h => absurd h (by decide +kernel), fun _ => ⟨qz_in 267 (by decide +kernel) (by decide +kernel), Or.inr (qz_in 268 (by decide +kernel) (by decide +kernel)), by decide +kernel, by decide +kernel⟩, by decide +kernel, by decide +kernel, by decide +kernel⟩
set_option maxRecDepth 20000 in
theorem qz_mo25 : qz_MO 25 := ⟨by decide +kernel, qz_in 337 (by decide +kernel) (by decide +kernel), qz_in 48 (by decide +kernel) (by decide +kernel), ⟨by decide +kernel, by decide +kernel⟩, by decide +kernel, fun h => absurd h (by decide +kernel), fun _ => ⟨qz_in 336 (by decide +kernel) (by decide +kernel), Or.inr (qz_in 1 (by decide +kernel) (by decide +kernel)), by decide +kernel, by decide +kernel⟩, by decide +kernel, by decide +kernel, by decide +kernel⟩
set_option maxRecDepth 20000 in
theorem qz_mo26 : qz_MO 26 := ⟨by decide +kernel, qz_in 395 (by decide +kernel) (by decide +kernel), qz_in 48 (by decide +kernel) (by decide +kernel), ⟨by decide +kernel, by decide +kernel⟩, by decide +kernel, fun h => absurd h (by decide +kernel), fun _ => ⟨qz_in 394 (by decide +kernel) (by decide +kernel), Or.inr (qz_in 7 (by decide +kernel) (by decide +kernel)), by decide +kernel, by decide +kernel⟩, by decide +kernel, by decide +kernel, by decide +kernel⟩
set_option maxRecDepth 20000 in
theorem qz_mo27 : qz_MO 27 := ⟨by decide +kernel, qz_in 549 (by decide +kernel) (by decide +kernel), qz_in 48 (by decide +kernel) (by decide +kernel), ⟨by decide +kernel, by decide +kernel⟩, by decide +kernel, fun h => absurd h (by decide +kernel), fun _ => ⟨qz_in 547 (by decide +kernel) (by decide +kernel), Or.inr (qz_in 548 (by decide +kernel) (by decide +kernel)), by decide +kernel, by decide +kernel⟩, by decide +kernel, by decide +kernel, by decide +kernel⟩
set_option maxRecDepth 20000 in
theorem qz_mo28 : qz_MO 28 := ⟨by decide +kernel, qz_in 553 (by decide +kernel) (by decide +kernel), qz_in 48 (by decide +kernel) (by decide +kernel), ⟨by decide +kernel, by decide +kernel⟩, by decide +kernel, fun h => absurd h (by decide +kernel), fun _ => ⟨qz_in 552 (by decide +kernel) (by decide +kernel), Or.inr (qz_in 13 (by decide +kernel) (by decide +kernel)), by decide +kernel, by decide +kernel⟩, by decide +kernel, by decide +kernel, by decide +kernel⟩
set_option maxRecDepth 20000 in
theorem qz_mo29 : qz_MO 29 := ⟨by decide +kernel, qz_in 371 (by decide +kernel) (by decide +kernel), qz_in 48 (by decide +kernel) (by decide +kernel), ⟨by decide +kernel, by decide +kernel⟩, by decide +kernel, fun h => absurd h (by decide +kernel), fun _ => ⟨qz_in 369 (by decide +kernel) (by decide +kernel), Or.inr (qz_in 370 (by decide +kernel) (by decide +kernel)), by decide +kernel, by decide +kernel⟩, by decide +kernel, by decide +kernel, by decide +kernel⟩
set_option maxRecDepth 20000 in
theorem qz_mo30 : qz_MO 30 := ⟨by decide +kernel, qz_in 295 (by decide +kernel) (by decide +kernel), qz_in 48 (by decide +kernel) (by decide +kernel), ⟨by decide +kernel, by decide +kernel⟩, by decide +kernel, fun h => absurd h (by decide +kernel), fun _ => ⟨qz_in 293 (by decide +kernel) (by decide +kernel), Or.inr (qz_in 294 (by decide +kernel) (by decide +kernel)), by decide +kernel, by decide +kernel⟩, by decide +kernel, by decide +kernel, by decide +kernel⟩
set_option maxRecDepth 20000 in
theorem qz_mo31 : qz_MO 31 := ⟨by decide +kernel, qz_in 287 (by decide +kernel) (by decide +kernel), qz_in 48 (by decide +kernel) (by decide +kernel), ⟨by decide +kernel, by decide +kernel⟩, by decide +kernel, fun h => absurd h (by decide +kernel), fun _ => ⟨qz_in 285 (by decide +kernel) (by decide +kernel), Or.inr (qz_in 286 (by decide +kernel) (by decide +kernel)), by decide +kernel, by decide +kernel⟩, by decide +kernel, by decide +kernel, by decide +kernel⟩
set_option maxRecDepth 20000 in
theorem qz_mo32 : qz_MO 32 := ⟨by decide +kernel, qz_in 399 (by decide +kernel) (by decide +kernel), qz_in 48 (by decide +kernel) (by decide +kernel), ⟨by decide +kernel, by decide +kernel⟩, by decide +kernel, fun h => absurd h (by decide +kernel), fun _ => ⟨qz_in 397 (by decide +kernel) (by decide +kernel), Or.inr (qz_in 398 (by decide +kernel) (by decide +kernel)), by decide +kernel, by decide +kernel⟩, by decide +kernel, by decide +kernel, by decide +kernel⟩
set_option maxRecDepth 20000 in
theorem qz_mo33 : qz_MO 33 := ⟨by decide +kernel, qz_in 299 (by decide +kernel) (by decide +kernel), qz_in 48 (by decide +kernel) (by decide +kernel), ⟨by decide +kernel, by decide +kernel⟩, by decide +kernel, fun h => absurd h (by decide +kernel), fun _ => ⟨qz_in 297 (by decide +kernel) (by decide +kernel), Or.inr (qz_in 298 (by decide +kernel) (by decide +kernel)), by decide +kernel, by decide +kernel⟩, by decide +kernel, by decide +kernel, by decide +kernel⟩
set_option maxRecDepth 20000 in
theorem qz_mo34 : qz_MO 34 := ⟨by decide +kernel, qz_in 379 (by decide +kernel) (by decide +kernel), qz_in 48 (by decide +kernel) (by decide +kernel), ⟨by decide +kernel, by decide +kernel⟩, by decide +kernel, fun h => absurd h (by decide +kernel), fun _ => ⟨qz_in 377 (by decide +kernel) (by decide +kernel), Or.inr (qz_in 378 (by decide +kernel) (by decide +kernel)), by decide +kernel, by decide +kernel⟩, by decide +kernel, by decide +kernel, by decide +kernel⟩
set_option maxRecDepth 20000 in
theorem qz_mo35 : qz_MO 35 := ⟨by decide +kernel, qz_in 383 (by decide +kernel) (by decide +kernel), qz_in 48 (by decide +kernel) (by decide +kernel), ⟨by decide +kernel, by decide +kernel⟩, by decide +kernel, fun h => absurd h (by decide +kernel), fun _ => ⟨qz_in 382 (by decide +kernel) (by decide +kernel), Or.inr (qz_in 5 (by decide +kernel) (by decide +kernel)), by decide +kernel, by decide +kernel⟩, by decide +kernel, by decide +kernel, by decide +kernel⟩
set_option maxRecDepth 20000 in
theorem qz_mo36 : qz_MO 36 := ⟨by decide +kernel, qz_in 391 (by decide +kernel) (by decide +kernel), qz_in 48 (by decide +kernel) (by decide +kernel), ⟨by decide +kernel, by decide +kernel⟩, by decide +kernel, fun h => absurd h (by decide +kernel), fun _ => ⟨qz_in 390 (by decide +kernel) (by decide +kernel), Or.inr (qz_in 6 (by decide +kernel) (by decide +kernel)), by decide +kernel, by decide +kernel⟩, by decide +kernel, by decide +kernel, by decide +kernel⟩
set_option maxRecDepth 20000 in
theorem qz_mo37 : qz_MO 37 := ⟨by decide +kernel, qz_in 307 (by decide +kernel) (by decide +kernel), qz_in 48 (by decide +kernel) (by decide +kernel), ⟨by decide +kernel, by decide +kernel⟩, by decide +kernel, fun _ => qz_in 306 (by decide +kernel) (by decide +kernel), fun h => absurd h (by decide +kernel), by decide +kernel, by decide +kernel, by decide +kernel⟩
set_option maxRecDepth 20000 in
theorem qz_mo38 : qz_MO 38 := ⟨by decide +kernel, qz_in 304 (by decide +kernel) (by decide +kernel), qz_in 48 (by decide +kernel) (by decide +kernel), ⟨by decide +kernel, by decide +kernel⟩, by decide +kernel, fun h => absurd h (by decide +kernel), fun _ => ⟨qz_in 302 (by decide +kernel) (by decide +kernel), Or.inr (qz_in 303 (by decide +kernel) (by decide +kernel)), by decide +kernel, by decide +kernel⟩, by decide +kernel, by decide +kernel, by decide +kernel⟩
set_option maxRecDepth 20000 in
theorem qz_mo39 : qz_MO 39 := ⟨by decide +kernel, qz_in 430 (by decide +kernel) (by decide +kernel), qz_in 48 (by decide +kernel) (by decide +kernel), ⟨by decide +kernel, by decide +kernel⟩, by decide +kernel, fun h => absurd h (by decide +kernel), fun _ => ⟨qz_in 428 (by decide +kernel) (by decide +kernel), Or.inr (qz_in 429 (by decide +kernel) (by decide +kernel)), by decide +kernel, by decide +kernel⟩, by decide +kernel, by decide +kernel, by decide +kernel⟩
set_option maxRecDepth 20000 in
theorem qz_mo40 : qz_MO 40 := ⟨by decide +kernel, qz_in 561 (by decide +kernel) (by decide +kernel), qz_in 48 (by decide +kernel) (by decide +kernel), ⟨by decide +kernel, by decide +kernel⟩, by decide +kernel, fun h => absurd h (by decide +kernel), fun _ => ⟨qz_in 559 (by decide +kernel) (by decide +kernel), Or.inr (qz_in 560 (by decide +kernel) (by decide +kernel)), by decide +kernel, by decide +kernel⟩, by decide +kernel, by decide +kernel, by decide +kernel⟩
set_option maxRecDepth 20000 in
theorem qz_mo41 : qz_MO 41 := ⟨by decide +kernel, qz_in 333 (by decide +kernel) (by decide +kernel), qz_in 48 (by decide +kernel) (by decide +kernel), ⟨by decide +kernel, by decide +kernel⟩, by decide +kernel, fun h => absurd h (by decide +kernel), fun _ => ⟨qz_in 331 (by decide +kernel) (by decide +kernel), Or.inr (qz_in 332 (by decide +kernel) (by decide +kernel)), by decide +kernel, by decide +kernel⟩, by decide +kernel, by decide +kernel, by decide +kernel⟩
set_option maxRecDepth 20000 in
theorem qz_mo42 : qz_MO 42 := ⟨by decide +kernel, qz_in 329 (by decide +kernel) (by decide +kernel), qz_in 48 (by decide +kernel) (by decide +kernel), ⟨by decide +kernel, by decide +kernel⟩, by decide +kernel, fun h => absurd h (by decide +kernel), fun _ => ⟨qz_in 327 (by decide +kernel) (by decide +kernel), Or.inr (qz_in 328 (by decide +kernel) (by decide +kernel)), by decide +kernel, by decide +kernel⟩, by decide +kernel, by decide +kernel, by decide +kernel⟩
set_option maxRecDepth 20000 in
theorem qz_mo43 : qz_MO 43 := ⟨by decide +kernel, qz_in 426 (by decide +kernel) (by decide +kernel), qz_in 48 (by decide +kernel) (by decide +kernel), ⟨by decide +kernel, by decide +kernel⟩, by decide +kernel, fun h => absurd h (by decide +kernel), fun _ => ⟨qz_in 425 (by decide +kernel) (by decide +kernel), Or.inr (qz_in 10 (by decide +kernel) (by decide +kernel)), by decide +kernel, by decide +kernel⟩, by decide +kernel, by decide +kernel, by decide +kernel⟩
set_option maxRecDepth 20000 in
theorem qz_mo44 : qz_MO 44 := ⟨by decide +kernel, qz_in 312 (by decide +kernel) (by decide +kernel), qz_in 48 (by decide +kernel) (by decide +kernel), ⟨by decide +kernel, by decide +kernel⟩, by decide +kernel, fun h => absurd h (by decide +kernel), fun _ => ⟨qz_in 310 (by decide +kernel) (by decide +kernel), Or.inr (qz_in 311 (by decide +kernel) (by decide +kernel)), by decide +kernel, by decide +kernel⟩, by decide +kernel, by decide +kernel, by decide +kernel⟩
set_option maxRecDepth 20000 in
theorem qz_mo45 : qz_MO 45 := ⟨by decide +kernel, qz_in 524 (by decide +kernel) (by decide +kernel), qz_in 48 (by decide +kernel) (by decide +kernel), ⟨by decide +kernel, by decide +kernel⟩, by decide +kernel, fun h => absurd h (by decide +kernel), fun _ => ⟨qz_in 522 (by decide +kernel) (by decide +kernel), Or.inr (qz_in 523 (by decide +kernel) (by decide +kernel)), by decide +kernel, by decide +kernel⟩, by decide +kernel, by decide +kernel, by decide +kernel⟩
set_option maxRecDepth 20000 in
theorem qz_mo46 : qz_MO 46 := ⟨by decide +kernel, qz_in 528 (by decide +kernel) (by decide +kernel), qz_in 48 (by decide +kernel) (by decide +kernel), ⟨by decide +kernel, by decide +kernel⟩, by decide +kernel, fun h => absurd h (by decide +kernel), fun _ => ⟨qz_in 526 (by decide +kernel) (by decide +kernel), Or.inr (qz_in 527 (by decide +kernel) (by decide +kernel)), by decide +kernel, by decide +kernel⟩, by decide +kernel, by decide +kernel, by decide +kernel⟩
set_option maxRecDepth 20000 in
theorem qz_mo47 : qz_MO 47 := ⟨by decide +kernel, qz_in 415 (by decide +kernel) (by decide +kernel), qz_in 48 (by decide +kernel) (by decide +kernel), ⟨by decide +kernel, by decide +kernel⟩, by decide +kernel, fun h => absurd h (by decide +kernel), fun _ => ⟨qz_in 413 (by decide +kernel) (by decide +kernel), Or.inr (qz_in 414 (by decide +kernel) (by decide +kernel)), by decide +kernel, by decide +kernel⟩, by decide +kernel, by decide +kernel, by decide +kernel⟩
set_option maxRecDepth 20000 in
theorem qz_mo48 : qz_MO 48 := ⟨by decide +kernel, qz_in 422 (by decide +kernel) (by decide +kernel), qz_in 48 (by decide +kernel) (by decide +kernel), ⟨by decide +kernel, by decide +kernel⟩, by decide +kernel, fun h => absurd h (by decide +kernel), fun _ => ⟨qz_in 421 (by decide +kernel) (by decide +kernel), Or.inr (qz_in 9 (by decide +kernel) (by decide +kernel)), by decide +kernel, by decide +kernel⟩, by decide +kernel, by decide +kernel, by decide +kernel⟩
set_option maxRecDepth 20000 in
theorem qz_mo49 : qz_MO 49 := ⟨by decide +kernel, qz_in 468 (by decide +kernel) (by decide +kernel), qz_in 48 (by decide +kernel) (by decide +kernel), ⟨by decide +kernel, by decide +kernel⟩, by decide +kernel, fun h => absurd h (by decide +kernel), fun _ => ⟨qz_in 467 (by decide +kernel) (by decide +kernel), Or.inr (qz_in 11 (by decide +kernel) (by decide +kernel)), by decide +kernel, by decide +kernel⟩, by decide +kernel, by decide +kernel, by decide +kernel⟩
set_option maxRecDepth 20000 in
theorem qz_mo50 : qz_MO 50 := ⟨by decide +kernel, qz_in 464 (by decide +kernel) (by decide +kernel), qz_in 48 (by decide +kernel) (by decide +kernel), ⟨by decide +kernel, by decide +kernel⟩, by decide +kernel, fun h => absurd h (by decide +kernel), fun _ => ⟨qz_in 462 (by decide +kernel) (by decide +kernel), Or.inr (qz_in 463 (by decide +kernel) (by decide +kernel)), by decide +kernel, by decide +kernel⟩, by decide +kernel, by decide +kernel, by decide +kernel⟩
set_option maxRecDepth 20000 in
theorem qz_mo51 : qz_MO 51 := ⟨by decide +kernel, qz_in 460 (by decide +kernel) (by decide +kernel), qz_in 48 (by decide +kernel) (by decide +kernel), ⟨by decide +kernel, by decide +kernel⟩, by decide +kernel, fun h => absurd h (by decide +kernel), fun _ => ⟨qz_in 458 (by decide +kernel) (by decide +kernel), Or.inr (qz_in 459 (by decide +kernel) (by decide +kernel)), by decide +kernel, by decide +kernel⟩, by decide +kernel, by decide +kernel, by decide +kernel⟩
set_option maxRecDepth 20000 in
theorem qz_mo52 : qz_MO 52 := ⟨by decide +kernel, qz_in 476 (by decide +kernel) (by decide +kernel), qz_in 48 (by decide +kernel) (by decide +kernel), ⟨by decide +kernel, by decide +kernel⟩, by decide +kernel, fun h => absurd h (by decide +kernel), fun _ => ⟨qz_in 474 (by decide +kernel) (by decide +kernel), Or.inr (qz_in 475 (by decide +kernel) (by decide +kernel)), by decide +kernel, by decide +kernel⟩, by decide +kernel, by decide +kernel, by decide +kernel⟩
set_option maxRecDepth 20000 in
theorem qz_mo53 : qz_MO 53 := ⟨by decide +kernel, qz_in 480 (by decide +kernel) (by decide +kernel), qz_in 48 (by decide +kernel) (by decide +kernel), ⟨by decide +kernel, by decide +kernel⟩, by decide +kernel, fun h => absurd h (by decide +kernel), fun _ => ⟨qz_in 479 (by decide +kernel) (by decide +kernel), Or.inr (qz_in 12 (by decide +kernel) (by decide +kernel)), by decide +kernel, by decide +kernel⟩, by decide +kernel, by decide +kernel, by decide +kernel⟩
set_option maxRecDepth 20000 in
theorem qz_mo54 : qz_MO 54 := ⟨by decide +kernel, qz_in 59 (by decide +kernel) (by decide +kernel), qz_in 47 (by decide +kernel) (by decide +kernel), ⟨by decide +kernel, by decide +kernel⟩, by decide +kernel, fun h => absurd h (by decide +kernel), fun _ => ⟨qz_in 58 (by decide +kernel) (by decide +kernel), Or.inl (by decide +kernel), by decide +kernel, by decide +kernel⟩, by decide +kernel, by decide +kernel, by decide +kernel⟩
set_option maxRecDepth 20000 in
theorem qz_mo55 : qz_MO 55 := ⟨by decide +kernel, qz_in 246 (by decide +kernel) (by decide +kernel), qz_in 47 (by decide +kernel) (by decide +kernel), ⟨by decide +kernel, by decide +kernel⟩, by decide +kernel, fun h => absurd h (by decide +kernel), fun _ => ⟨qz_in 244 (by decide +kernel) (by decide +kernel), Or.inr (qz_in 245 (by decide +kernel) (by decide +kernel)), by decide +kernel, by decide +kernel⟩, by decide +kernel, by decide +kernel, by decide +kernel⟩
set_option maxRecDepth 20000 in
theorem qz_mo56 : qz_MO 56 := ⟨by decide +kernel, qz_in 273 (by decide +kernel) (by decide +kernel), qz_in 47 (by decide +kernel) (by decide +kernel), ⟨by decide +kernel, by decide +kernel⟩, by decide +kernel, fun h => absurd h (by decide +kernel), fun _ => ⟨qz_in 271 (by decide +kernel) (by decide +kernel), Or.inr (qz_in 272 (by decide +kernel) (by decide +kernel)), by decide +kernel, by decide +kernel⟩, by decide +kernel, by decide +kernel, by decide +kernel⟩
set_option maxRecDepth 20000 in
theorem qz_mo57 : qz_MO 57 := ⟨by decide +kernel, qz_in 344 (by decide +kernel) (by decide +kernel), qz_in 47 (by decide +kernel) (by decide +kernel), ⟨by decide +kernel, by decide +kernel⟩, by decide +kernel, fun h => absurd h (by decide +kernel), fun _ => ⟨qz_in 342 (by decide +kernel) (by decide +kernel), Or.inr (qz_in 343 (by decide +kernel) (by decide +kernel)), by decide +kernel, by decide +kernel⟩, by decide +kernel, by decide +kernel, by decide +kernel⟩
set_option maxRecDepth 20000 in
theorem qz_mo58 : qz_MO 58 := ⟨by decide +kernel, qz_in 367 (by decide +kernel) (by decide +kernel), qz_in 47 (by decide +kernel) (by decide +kernel), ⟨by decide +kernel, by decide +kernel⟩, by decide +kernel, fun h => absurd h (by decide +kernel), fun _ => ⟨qz_in 365 (by decide +kernel) (by decide +kernel), Or.inr (qz_in 366 (by decide +kernel) (by decide +kernel)), by decide +kernel, by decide +kernel⟩, by decide +kernel, by decide +kernel, by decide +kernel⟩
set_option maxRecDepth 20000 in
theorem qz_mo59 : qz_MO 59 := ⟨by decide +kernel, qz_in 403 (by decide +kernel) (by decide +kernel), qz_in 47 (by decide +kernel) (by decide +kernel), ⟨by decide +kernel, by decide +kernel⟩, by decide +kernel, fun h => absurd h (by decide +kernel), fun _ => ⟨qz_in 401 (by decide +kernel) (by decide +kernel), Or.inr (qz_in 402 (by decide +kernel) (by decide +kernel)), by decide +kernel, by decide +kernel⟩, by decide +kernel, by decide +kernel, by decide +kernel⟩
set_option maxRecDepth 20000 in
theorem qz_mo60 : qz_MO 60 := ⟨by decide +kernel, qz_in 407 (by decide +kernel) (by decide +kernel), qz_in 47 (by decide +kernel) (by decide +kernel), ⟨by decide +kernel, by decide +kernel⟩, by decide +kernel, fun h => absurd h (by decide +kernel), fun _ => ⟨qz_in 405 (by decide +kernel) (by decide +kernel), Or.inr (qz_in 406 (by decide +kernel) (by decide +kernel)), by decide +kernel, by decide +kernel⟩, by decide +kernel, by decide +kernel, by decide +kernel⟩
set_option maxRecDepth 20000 in
theorem qz_mo61 : qz_MO 61 := ⟨by decide +kernel, qz_in 435 (by decide +kernel) (by decide +kernel), qz_in 47 (by decide +kernel) (by decide +kernel), ⟨by decide +kernel, by decide +kernel⟩, by decide +kernel, fun h => absurd h (by decide +kernel), fun _ => ⟨qz_in 433 (by decide +kernel) (by decide +kernel), Or.inr (qz_in 434 (by decide +kernel) (by decide +kernel)), by decide +kernel, by decide +kernel⟩, by decide +kernel, by decide +kernel, by decide +kernel⟩
set_option maxRecDepth 20000 in
theorem qz_mo62 : qz_MO 62 := ⟨by decide +kernel, qz_in 440 (by decide +kernel) (by decide +kernel), qz_in 47 (by decide +kernel) (by decide +kernel), ⟨by decide +kernel, by decide +kernel⟩, by decide +kernel, fun h => absurd h (by decide +kernel), fun _ => ⟨qz_in 438 (by decide +kernel) (by decide +kernel), Or.inr (qz_in 439 (by decide +kernel) (by decide +kernel)), by decide +kernel, by decide +kernel⟩, by decide +kernel, by decide +kernel, by decide +kernel⟩
set_option maxRecDepth 20000 in
theorem qz_mo63 : qz_MO 63 := ⟨by decide +kernel, qz_in 456 (by decide +kernel) (by decide +kernel), qz_in 47 (by decide +kernel) (by decide +kernel), ⟨by decide +kernel, by decide +kernel⟩, by decide +kernel, fun h => absurd h (by decide +kernel), fun _ => ⟨qz_in 454 (by decide +kernel) (by decide +kernel), Or.inr (qz_in 455 (by decide +kernel) (by decide +kernel)), by decide +kernel, by decide +kernel⟩, by decide +kernel, by decide +kernel, by decide +kernel⟩
set_option maxRecDepth 20000 in
theorem qz_mo64 : qz_MO 64 := ⟨by decide +kernel, qz_in 484 (by decide +kernel) (by decide +kernel), qz_in 47 (by decide +kernel) (by decide +kernel), ⟨by decide +kernel, by decide +kernel⟩, by decide +kernel, fun h => absurd h (by decide +kernel), fun _ => ⟨qz_in 482 (by decide +kernel) (by decide +kernel), Or.inr (qz_in 483 (by decide +kernel) (by decide +kernel)), by decide +kernel, by decide +kernel⟩, by decide +kernel, by decide +kernel, by decide +kernel⟩
set_option maxRecDepth 20000 in
theorem qz_mo65 : qz_MO 65 := ⟨by decide +kernel, qz_in 492 (by decide +kernel) (by decide +kernel), qz_in 47 (by decide +kernel) (by decide +kernel), ⟨by decide +kernel, by decide +kernel⟩, by decide +kernel, fun h => absurd h (by decide +kernel), fun _ => ⟨qz_in 490 (by decide +kernel) (by decide +kernel), Or.inr (qz_in 491 (by decide +kernel) (by decide +kernel)), by decide +kernel, by decide +kernel⟩, by decide +kernel, by decide +kernel, by decide +kernel⟩
set_option maxRecDepth 20000 in
theorem qz_mo66 : qz_MO 66 := ⟨by decide +kernel, qz_in 496 (by decide +kernel) (by decide +kernel), qz_in 47 (by decide +kernel) (by decide +kernel), ⟨by decide +kernel, by decide +kernel⟩, by decide +kernel, fun h => absurd h (by decide +kernel), fun _ => ⟨qz_in 494 (by decide +kernel) (by decide +kernel), Or.inr (qz_in 495 (by decide +kernel) (by decide +kernel)), by decide +kernel, by decide +kernel⟩, by decide +kernel, by decide +kernel, by decide +kernel⟩
set_option maxRecDepth 20000 in
theorem qz_mo67 : qz_MO 67 := ⟨by decide +kernel, qz_in 504 (by decide +kernel) (by decide +kernel), qz_in 47 (by decide +kernel) (by decide +kernel), ⟨by decide +kernel, by decide +kernel⟩, by decide +kernel, fun h => absurd h (by decide +kernel), fun _ => ⟨qz_in 502 (by decide +kernel) (by decide +kernel), Or.inr (qz_in 503 (by decide +kernel) (by decide +kernel)), by decide +kernel, by decide +kernel⟩, by decide +kernel, by decide +kernel, by decide +kernel⟩
set_option maxRecDepth 20000 in
theorem qz_mo68 : qz_MO 68 := ⟨by decide +kernel, qz_in 509 (by decide +kernel) (by decide +kernel), qz_in 47 (by decide +kernel) (by decide +kernel), ⟨by decide +kernel, by decide +kernel⟩, by decide +kernel, fun h => absurd h (by decide +kernel), fun _ => ⟨qz_in 507 (by decide +kernel) (by decide +kernel), Or.inr (qz_in 508 (by decide +kernel) (by decide +kernel)), by decide +kernel, by decide +kernel⟩, by decide +kernel, by decide +kernel, by decide +kernel⟩
set_option maxRecDepth 20000 in
theorem qz_mo69 : qz_MO 69 := ⟨by decide +kernel, qz_in 513 (by decide +kernel) (by decide +kernel), qz_in 47 (by decide +kernel) (by decide +kernel), ⟨by decide +kernel, by decide +kernel⟩, by decide +kernel, fun h => absurd h (by decide +kernel), fun _ => ⟨qz_in 511 (by decide +kernel) (by decide +kernel), Or.inr (qz_in 512 (by decide +kernel) (by decide +kernel)), by decide +kernel, by decide +kernel⟩, by decide +kernel, by decide +kernel, by decide +kernel⟩
set_option maxRecDepth 20000 in
theorem qz_mo70 : qz_MO 70 := ⟨by decide +kernel, qz_in 519 (by decide +kernel) (by decide +kernel), qz_in 47 (by decide +kernel) (by decide +kernel), ⟨by decide +kernel, by decide +kernel⟩, by decide +kernel, fun h => absurd h (by decide +kernel), fun _ => ⟨qz_in 517 (by decide +kernel) (by decide +kernel), Or.inr (qz_in 518 (by decide +kernel) (by decide +kernel)), by decide +kernel, by decide +kernel⟩, by decide +kernel, by decide +kernel, by decide +kernel⟩
set_option maxRecDepth 20000 in
theorem qz_mo71 : qz_MO 71 := ⟨by decide +kernel, qz_in 533 (by decide +kernel) (by decide +kernel), qz_in 47 (by decide +kernel) (by decide +kernel), ⟨by decide +kernel, by decide +kernel⟩, by decide +kernel, fun h => absurd h (by decide +kernel), fun _ => ⟨qz_in 531 (by decide +kernel) (by decide +kernel), Or.inr (qz_in 532 (by decide +kernel) (by decide +kernel)), by decide +kernel, by decide +kernel⟩, by decide +kernel, by decide +kernel, by decide +kernel⟩
set_option maxRecDepth 20000 in
theorem qz_mo72 : qz_MO 72 := ⟨by decide +kernel, qz_in 537 (by decide +kernel) (by decide +kernel), qz_in 47 (by decide +kernel) (by decide +kernel), ⟨by decide +kernel, by decide +kernel⟩, by decide +kernel, fun h => absurd h (by decide +kernel), fun _ => ⟨qz_in 535 (by decide +kernel) (by decide +kernel), Or.inr (qz_in 536 (by decide +kernel) (by decide +kernel)), by decide +kernel, by decide +kernel⟩, by decide +kernel, by decide +kernel, by decide +kernel⟩
set_option maxRecDepth 20000 in
theorem qz_mo73 : qz_MO 73 := ⟨by decide +kernel, qz_in 541 (by decide +kernel) (by decide +kernel), qz_in 47 (by decide +kernel) (by decide +kernel), ⟨by decide +kernel, by decide +kernel⟩, by decide +kernel, fun h => absurd h (by decide +kernel), fun _ => ⟨qz_in 539 (by decide +kernel) (by decide +kernel), Or.inr (qz_in 540 (by decide +kernel) (by decide +kernel)), by decide +kernel, by decide +kernel⟩, by decide +kernel, by decide +kernel, by decide +kernel⟩
set_option maxRecDepth 20000 in
theorem qz_mo74 : qz_MO 74 := ⟨by decide +kernel, qz_in 545 (by decide +kernel) (by decide +kernel), qz_in 47 (by decide +kernel) (by decide +kernel), ⟨by decide +kernel, by decide +kernel⟩, by decide +kernel, fun h => absurd h (by decide +kernel), fun _ => ⟨qz_in 543 (by decide +kernel) (by decide +kernel), Or.inr (qz_in 544 (by decide +kernel) (by decide +kernel)), by decide +kernel, by decide +kernel⟩, by decide +kernel, by decide +kernel, by decide +kernel⟩
set_option maxRecDepth 20000 in
theorem qz_mo75 : qz_MO 75 := ⟨by decide +kernel, qz_in 557 (by decide +kernel) (by decide +kernel), qz_in 47 (by decide +kernel) (by decide +kernel), ⟨by decide +kernel, by decide +kernel⟩, by decide +kernel, fun h => absurd h (by decide +kernel), fun _ => ⟨qz_in 555 (by decide +kernel) (by decide +kernel), Or.inr (qz_in 556 (by decide +kernel) (by decide +kernel)), by decide +kernel, by decide +kernel⟩, by decide +kernel, by decide +kernel, by decide +kernel⟩
set_option maxRecDepth 20000 in
theorem qz_mo76 : qz_MO 76 := ⟨by decide +kernel, qz_in 280 (by decide +kernel) (by decide +kernel), qz_in 47 (by decide +kernel) (by decide +kernel), ⟨by decide +kernel, by decide +kernel⟩, by decide +kernel, fun _ => qz_in 279 (by decide +kernel) (by decide +kernel), fun h => absurd h (by decide +kernel), by decide +kernel, by decide +kernel, by decide +kernel⟩
set_option maxRecDepth 20000 in
theorem qz_mo77 : qz_MO 77 := ⟨by decide +kernel, qz_in 283 (by decide +kernel) (by decide +kernel), qz_in 47 (by decide +kernel) (by decide +kernel), ⟨by decide +kernel, by decide +kernel⟩, by decide +kernel, fun _ => qz_in 282 (by decide +kernel) (by decide +kernel), fun h => absurd h (by decide +kernel), by decide +kernel, by decide +kernel, by decide +kernel⟩
set_option maxRecDepth 20000 in
theorem qz_mo78 : qz_MO 78 := ⟨by decide +kernel, qz_in 443 (by decide +kernel) (by decide +kernel), qz_in 47 (by decide +kernel) (by decide +kernel), ⟨by decide +kernel, by decide +kernel⟩, by decide +kernel, fun _ => qz_in 442 (by decide +kernel) (by decide +kernel), fun h => absurd h (by decide +kernel), by decide +kernel, by decide +kernel, by decide +kernel⟩
set_option maxRecDepth 20000 in
theorem qz_mo79 : qz_MO 79 := ⟨by decide +kernel, qz_in 411 (by decide +kernel) (by decide +kernel), qz_in 47 (by decide +kernel) (by decide +kernel), ⟨by decide +kernel, by decide +kernel⟩, by decide +kernel, fun h => absurd h (by decide +kernel), fun _ => ⟨qz_in 410 (by decide +kernel) (by decide +kernel), Or.inr (qz_in 8 (by decide +kernel) (by decide +kernel)), by decide +kernel, by decide +kernel⟩, by decide +kernel, by decide +kernel, by decide +kernel⟩
set_option maxRecDepth 20000 in
theorem qz_mo80 : qz_MO 80 := ⟨by decide +kernel, qz_in 359 (by decide +kernel) (by decide +kernel), qz_in 47 (by decide +kernel) (by decide +kernel), ⟨by decide +kernel, by decide +kernel⟩, by decide +kernel, fun h => absurd h (by decide +kernel), fun _ => ⟨qz_in 358 (by decide +kernel) (by decide +kernel), Or.inr (qz_in 3 (by decide +kernel) (by decide +kernel)), by decide +kernel, by decide +kernel⟩, by decide +kernel, by decide +kernel, by decide +kernel⟩
set_option maxRecDepth 20000 in
theorem qz_mo81 : qz_MO 81 := ⟨by decide +kernel, qz_in 363 (by decide +kernel) (by decide +kernel), qz_in 47 (by decide +kernel) (by decide +kernel), ⟨by decide +kernel, by decide +kernel⟩, by decide +kernel, fun h => absurd h (by decide +kernel), fun _ => ⟨qz_in 362 (by decide +kernel) (by decide +kernel), Or.inr (qz_in 4 (by decide +kernel) (by decide +kernel)), by decide +kernel, by decide +kernel⟩, by decide +kernel, by decide +kernel, by decide +kernel⟩
set_option maxRecDepth 20000 in
theorem qz_mo82 : qz_MO 82 := ⟨by decide +kernel, qz_in 566 (by decide +kernel) (by decide +kernel), qz_in 53 (by decide +kernel) (by decide +kernel), ⟨by decide +kernel, by decide +kernel⟩, by decide +kernel, fun h => absurd h (by decide +kernel), fun _ => ⟨qz_in 565 (by decide +kernel) (by decide +kernel), Or.inl (by decide +kernel), by decide +kernel, by decide +kernel⟩, by decide +kernel, by decide +kernel, by decide +kernel⟩
set_option maxRecDepth 20000 in
theorem qz_mo83 : qz_MO 83 := ⟨by decide +kernel, qz_in 621 (by decide +kernel) (by decide +kernel), qz_in 53 (by decide +kernel) (by decide +kernel), ⟨by decide +kernel, by decide +kernel⟩, by decide +kernel, fun _ => qz_in 620 (by decide +kernel) (by decide +kernel), fun h => absurd h (by decide +kernel), by decide +kernel, by decide +kernel, by decide +kernel⟩
set_option maxRecDepth 20000 in
theorem qz_mo84 : qz_MO 84 := ⟨by decide +kernel, qz_in 655 (by decide +kernel) (by decide +kernel), qz_in 53 (by decide +kernel) (by decide +kernel), ⟨by decide +kernel, by decide +kernel⟩, by decide +kernel, fun h => absurd h (by decide +kernel), fun _ => ⟨qz_in 654 (by decide +kernel) (by decide +kernel), Or.inr (qz_in 19 (by decide +kernel) (by decide +kernel)), by decide +kernel, by decide +kernel⟩, by decide +kernel, by decide +kernel, by decide +kernel⟩
set_option maxRecDepth 20000 in
theorem qz_mo85 : qz_MO 85 := ⟨by decide +kernel, qz_in 682 (by decide +kernel) (by decide +kernel), qz_in 53 (by decide +kernel) (by decide +kernel), ⟨by decide +kernel, by decide +kernel⟩, by decide +kernel, fun h => absurd h (by decide +kernel), fun _ => ⟨qz_in 681 (by decide +kernel) (by decide +kernel), Or.inr (qz_in 25 (by decide +kernel) (by decide +kernel)), by decide +kernel, by decide +kernel⟩, by decide +kernel, by decide +kernel, by decide +kernel⟩
set_option maxRecDepth 20000 in
theorem qz_mo86 : qz_MO 86 := ⟨by decide +kernel, qz_in 633 (by decide +kernel) (by decide +kernel), qz_in 53 (by decide +kernel) (by decide +kernel), ⟨by decide +kernel, by decide +kernel⟩, by decide +kernel, fun h => absurd h (by decide +kernel), fun _ => ⟨qz_in 632 (by decide +kernel) (by decide +kernel), Or.inr (qz_in 15 (by decide +kernel) (by decide +kernel)), by decide +kernel, by decide +kernel⟩, by decide +kernel, by decide +kernel, by decide +kernel⟩
set_option maxRecDepth 20000 in
theorem qz_mo87 : qz_MO 87 := ⟨by decide +kernel, qz_in 636 (by decide +kernel) (by decide +kernel), qz_in 53 (by decide +kernel) (by decide +kernel), ⟨by decide +kernel, by decide +kernel⟩, by decide +kernel, fun _ => qz_in 635 (by decide +kernel) (by decide +kernel), fun h => absurd h (by decide +kernel), by decide +kernel, by decide +kernel, by decide +kernel⟩
set_option maxRecDepth 20000 in
theorem qz_mo88 : qz_MO 88 := ⟨by decide +kernel, qz_in 639 (by decide +kernel) (by decide +kernel), qz_in 53 (by decide +kernel) (by decide +kernel), ⟨by decide +kernel, by decide +kernel⟩, by decide +kernel, fun _ => qz_in 638 (by decide +kernel) (by decide +kernel), fun h => absurd h (by decide +kernel), by decide +kernel, by decide +kernel, by decide +kernel⟩
set_option maxRecDepth 20000 in
theorem qz_mo89 : qz_MO 89 := ⟨by decide +kernel, qz_in 671 (by decide +kernel) (by decide +kernel), qz_in 53 (by decide +kernel) (by decide +kernel), ⟨by decide +kernel, by decide +kernel⟩, by decide +kernel, fun h => absurd h (by decide +kernel), fun _ => ⟨qz_in 670 (by decide +kernel) (by decide +kernel), Or.inr (qz_in 23 (by decide +kernel) (by decide +kernel)), by decide +kernel, by decide +kernel⟩, by decide +kernel, by decide +kernel, by decide +kernel⟩
set_option maxRecDepth 20000 in
theorem qz_mo90 : qz_MO 90 := ⟨by decide +kernel, qz_in 663 (by decide +kernel) (by decide +kernel), qz_in 53 (by decide +kernel) (by decide +kernel), ⟨by decide +kernel, by decide +kernel⟩, by decide +kernel, fun h => absurd h (by decide +kernel), fun _ => ⟨qz_in 662 (by decide +kernel) (by decide +kernel), Or.inr (qz_in 21 (by decide +kernel) (by decide +kernel)), by decide +kernel, by decide +kernel⟩, by decide +kernel, by decide +kernel, by decide +kernel⟩
set_option maxRecDepth 20000 in
theorem qz_mo91 : qz_MO 91 := ⟨by decide +kernel, qz_in 710 (by decide +kernel) (by decide +kernel), qz_in 53 (by decide +kernel) (by decide +kernel), ⟨by decide +kernel, by decide +kernel⟩, by decide +kernel, fun h => absurd h (by decide +kernel), fun _ => ⟨qz_in 709 (by decide +kernel) (by decide +kernel), Or.inr (qz_in 30 (by decide +kernel) (by decide +kernel)), by decide +kernel, by decide +kernel⟩, by decide +kernel, by decide +kernel, by decide +kernel⟩
set_option maxRecDepth 20000 in
theorem qz_mo92 : qz_MO 92 := ⟨by decide +kernel, qz_in 625 (by decide +kernel) (by decide +kernel), qz_in 53 (by decide +kernel) (by decide +kernel), ⟨by decide +kernel, by decide +kernel⟩, by decide +kernel, fun h => absurd h (by decide +kernel), fun _ => ⟨qz_in 624 (by decide +kernel) (by decide +kernel), Or.inr (qz_in 14 (by decide +kernel) (by decide +kernel)), by decide +kernel, by decide +kernel⟩, by decide +kernel, by decide +kernel, by decide +kernel⟩
set_option maxRecDepth 20000 in
theorem qz_mo93 : qz_MO 93 := ⟨by decide +kernel, qz_in 674 (by decide +kernel) (by decide +kernel), qz_in 53 (by decide +kernel) (by decide +kernel), ⟨by decide +kernel, by decide +kernel⟩, by decide +kernel, fun _ => qz_in 673 (by decide +kernel) (by decide +kernel), fun h => absurd h (by decide +kernel), by decide +kernel, by decide +kernel, by decide +kernel⟩
set_option maxRecDepth 20000 in
theorem qz_mo94 : qz_MO 94 := ⟨by decide +kernel, qz_in 667 (by decide +kernel) (by decide +kernel), qz_in 53 (by decide +kernel) (by decide +kernel), ⟨by decide +kernel, by decide +kernel⟩, by decide +kernel, fun h => absurd h (by decide +kernel), fun _ => ⟨qz_in 666 (by decide +kernel) (by decide +kernel), Or.inr (qz_in 22 (by decide +kernel) (by decide +kernel)), by decide +kernel, by decide +kernel⟩, by decide +kernel, by decide +kernel, by decide +kernel⟩
set_option maxRecDepth 20000 in
theorem qz_mo95 : qz_MO 95 := ⟨by decide +kernel, qz_in 659 (by decide +kernel) (by decide +kernel), qz_in 53 (by decide +kernel) (by decide +kernel), ⟨by decide +kernel, by decide +kernel⟩, by decide +kernel, fun h => absurd h (by decide +kernel), fun _ => ⟨qz_in 658 (by decide +kernel) (by decide +kernel), Or.inr (qz_in 20 (by decide +kernel) (by decide +kernel)), by decide +kernel, by decide +kernel⟩, by decide +kernel, by decide +kernel, by decide +kernel⟩
set_option maxRecDepth 20000 in
theorem qz_mo96 : qz_MO 96 := ⟨by decide +kernel, qz_in 651 (by decide +kernel) (by decide +kernel), qz_in 53 (by decide +kernel) (by decide +kernel), ⟨by decide +kernel, by decide +kernel⟩, by decide +kernel, fun h => absurd h (by decide +kernel), fun _ => ⟨qz_in 650 (by decide +kernel) (by decide +kernel), Or.inr (qz_in 18 (by decide +kernel) (by decide +kernel)), by decide +kernel, by decide +kernel⟩, by decide +kernel, by decide +kernel, by decide +kernel⟩
set_option maxRecDepth 20000 in
theorem qz_mo97 : qz_MO 97 := ⟨by decide +kernel, qz_in 678 (by decide +kernel) (by decide +kernel), qz_in 53 (by decide +kernel) (by decide +kernel), ⟨by decide +kernel, by decide +kernel⟩, by decide +kernel, fun h => absurd h (by decide +kernel), fun _ => ⟨qz_in 677 (by decide +kernel) (by decide +kernel), Or.inr (qz_in 24 (by decide +kernel) (by decide +kernel)), by decide +kernel, by decide +kernel⟩, by decide +kernel, by decide +kernel, by decide +kernel⟩
set_option maxRecDepth 20000 in
theorem qz_mo98 : qz_MO 98 := ⟨by decide +kernel, qz_in 647 (by decide +kernel) (by decide +kernel), qz_in 53 (by decide +kernel) (by decide +kernel), ⟨by decide +kernel, by decide +kernel⟩, by decide +kernel, fun h => absurd h (by decide +kernel), fun _ => ⟨qz_in 646 (by decide +kernel) (by decide +kernel), Or.inr (qz_in 17 (by decide +kernel) (by decide +kernel)), by decide +kernel, by decide +kernel⟩, by decide +kernel, by decide +kernel, by decide +kernel⟩
set_option maxRecDepth 20000 in
theorem qz_mo99 : qz_MO 99 := ⟨by decide +kernel, qz_in 718 (by decide +kernel) (by decide +kernel), qz_in 53 (by decide +kernel) (by decide +kernel), ⟨by decide +kernel, by decide +kernel⟩, by decide +kernel, fun h => absurd h (by decide +kernel), fun _ => ⟨qz_in 717 (by decide +kernel) (by decide +kernel), Or.inr (qz_in 32 (by decide +kernel) (by decide +kernel)), by decide +kernel, by decide +kernel⟩, by decide +kernel, by decide +kernel, by decide +kernel⟩
set_option maxRecDepth 20000 in
theorem qz_mo100 : qz_MO 100 := ⟨by decide +kernel, qz_in 726 (by decide +kernel) (by decide +kernel), qz_in 53 (by decide +kernel) (by decide +kernel), ⟨by decide +kernel, by decide +kernel⟩, by decide +kernel, fun h => absurd h (by decide +kernel), fun _ => ⟨qz_in 725 (by decide +kernel) (by decide +kernel), Or.inr (qz_in 34 (by decide +kernel) (by decide +kernel)), by decide +kernel, by decide +kernel⟩, by decide +kernel, by decide +kernel, by decide +kernel⟩
set_option maxRecDepth 20000 in
theorem qz_mo101 : qz_MO 101 := ⟨by decide +kernel, qz_in 722 (by decide +kernel) (by decide +kernel), qz_in 53 (by decide +kernel) (by decide +kernel), ⟨by decide +kernel, by decide +kernel⟩, by decide +kernel, fun h => absurd h (by decide +kernel), fun _ => ⟨qz_in 721 (by decide +kernel) (by decide +kernel), Or.inr (qz_in 33 (by decide +kernel) (by decide +kernel)), by decide +kernel, by decide +kernel⟩, by decide +kernel, by decide +kernel, by decide +kernel⟩
set_option maxRecDepth 20000 in
theorem qz_mo102 : qz_MO 102 := ⟨by decide +kernel, qz_in 714 (by decide +kernel) (by decide +kernel), qz_in 53 (by decide +kernel) (by decide +kernel), ⟨by decide +kernel, by decide +kernel⟩, by decide +kernel, fun h => absurd h (by decide +kernel), fun _ => ⟨qz_in 713 (by decide +kernel) (by decide +kernel), Or.inr (qz_in 31 (by decide +kernel) (by decide +kernel)), by decide +kernel, by decide +kernel⟩, by decide +kernel, by decide +kernel, by decide +kernel⟩
set_option maxRecDepth 20000 in
theorem qz_mo103 : qz_MO 103 := ⟨by decide +kernel, qz_in 730 (by decide +kernel) (by decide +kernel), qz_in 53 (by decide +kernel) (by decide +kernel), ⟨by decide +kernel, by decide +kernel⟩, by decide +kernel, fun h => absurd h (by decide +kernel), fun _ => ⟨qz_in 729 (by decide +kernel) (by decide +kernel), Or.inr (qz_in 35 (by decide +kernel) (by decide +kernel)), by decide +kernel, by decide +kernel⟩, by decide +kernel, by decide +kernel, by decide +kernel⟩
set_option maxRecDepth 20000 in
theorem qz_mo104 : qz_MO 104 := ⟨by decide +kernel, qz_in 746 (by decide +kernel) (by decide +kernel), qz_in 53 (by decide +kernel) (by decide +kernel), ⟨by decide +kernel, by decide +kernel⟩, by decide +kernel, fun h => absurd h (by decide +kernel), fun _ => ⟨qz_in 745 (by decide +kernel) (by decide +kernel), Or.inr (qz_in 37 (by decide +kernel) (by decide +kernel)), by decide +kernel, by decide +kernel⟩, by decide +kernel, by decide +kernel, by decide +kernel⟩
set_option maxRecDepth 20000 in
theorem qz_mo105 : qz_MO 105 := ⟨by decide +kernel, qz_in 742 (by decide +kernel) (by decide +kernel), qz_in 53 (by decide +kernel) (by decide +kernel), ⟨by decide +kernel, by decide +kernel⟩, by decide +kernel, fun h => absurd h (by decide +kernel), fun _ => ⟨qz_in 741 (by decide +kernel) (by decide +kernel), Or.inr (qz_in 36 (by decide +kernel) (by decide +kernel)), by decide +kernel, by decide +kernel⟩, by decide +kernel, by decide +kernel, by decide +kernel⟩
set_option maxRecDepth 20000 in
theorem qz_mo106 : qz_MO 106 := ⟨by decide +kernel, qz_in 781 (by decide +kernel) (by decide +kernel), qz_in 53 (by decide +kernel) (by decide +kernel), ⟨by decide +kernel, by decide +kernel⟩, by decide +kernel, fun h => absurd h (by decide +kernel), fun _ => ⟨qz_in 780 (by decide +kernel) (by decide +kernel), Or.inr (qz_in 42 (by decide +kernel) (by decide +kernel)), by decide +kernel, by decide +kernel⟩, by decide +kernel, by decide +kernel, by decide +kernel⟩
set_option maxRecDepth 20000 in
theorem qz_mo107 : qz_MO 107 := ⟨by decide +kernel, qz_in 785 (by decide +kernel) (by decide +kernel), qz_in 53 (by decide +kernel) (by decide +kernel), ⟨by decide +kernel, by decide +kernel⟩, by decide +kernel, fun h => absurd h (by decide +kernel), fun _ => ⟨qz_in 784 (by decide +kernel) (by decide +kernel), Or.inr (qz_in 43 (by decide +kernel) (by decide +kernel)), by decide +kernel, by decide +kernel⟩, by decide +kernel, by decide +kernel, by decide +kernel⟩
set_option maxRecDepth 20000 in
theorem qz_mo108 : qz_MO 108 := ⟨by decide +kernel, qz_in 777 (by decide +kernel) (by decide +kernel), qz_in 53 (by decide +kernel) (by decide +kernel), ⟨by decide +kernel, by decide +kernel⟩, by decide +kernel, fun h => absurd h (by decide +kernel), fun _ => ⟨qz_in 776 (by decide +kernel) (by decide +kernel), Or.inr (qz_in 41 (by decide +kernel) (by decide +kernel)), by decide +kernel, by decide +kernel⟩, by decide +kernel, by decide +kernel, by decide +kernel⟩
set_option maxRecDepth 20000 in
theorem qz_mo109 : qz_MO 109 := ⟨by decide +kernel, qz_in 769 (by decide +kernel) (by decide +kernel), qz_in 53 (by decide +kernel) (by decide +kernel), ⟨by decide +kernel, by decide +kernel⟩, by decide +kernel, fun h => absurd h (by decide +kernel), fun _ => ⟨qz_in 768 (by decide +kernel) (by decide +kernel), Or.inr (qz_in 39 (by decide +kernel) (by decide +kernel)), by decide +kernel, by decide +kernel⟩, by decide +kernel, by decide +kernel, by decide +kernel⟩
set_option maxRecDepth 20000 in
theorem qz_mo110 : qz_MO 110 := ⟨by decide +kernel, qz_in 773 (by decide +kernel) (by decide +kernel), qz_in 53 (by decide +kernel) (by decide +kernel), ⟨by decide +kernel, by decide +kernel⟩, by decide +kernel, fun h => absurd h (by decide +kernel), fun _ => ⟨qz_in 772 (by decide +kernel) (by decide +kernel), Or.inr (qz_in 40 (by decide +kernel) (by decide +kernel)), by decide +kernel, by decide +kernel⟩, by decide +kernel, by decide +kernel, by decide +kernel⟩
set_option maxRecDepth 20000 in
theorem qz_mo111 : qz_MO 111 := ⟨by decide +kernel, qz_in 618 (by decide +kernel) (by decide +kernel), qz_in 53 (by decide +kernel) (by decide +kernel), ⟨by decide +kernel, by decide +kernel⟩, by decide +kernel, fun h => absurd h (by decide +kernel), fun _ => ⟨qz_in 616 (by decide +kernel) (by decide +kernel), Or.inr (qz_in 617 (by decide +kernel) (by decide +kernel)), by decide +kernel, by decide +kernel⟩, by decide +kernel, by decide +kernel, by decide +kernel⟩
set_option maxRecDepth 20000 in
theorem qz_mo112 : qz_MO 112 := ⟨by decide +kernel, qz_in 643 (by decide +kernel) (by decide +kernel), qz_in 53 (by decide +kernel) (by decide +kernel), ⟨by decide +kernel, by decide +kernel⟩, by decide +kernel, fun h => absurd h (by decide +kernel), fun _ => ⟨qz_in 642 (by decide +kernel) (by decide +kernel), Or.inr (qz_in 16 (by decide +kernel) (by decide +kernel)), by decide +kernel, by decide +kernel⟩, by decide +kernel, by decide +kernel, by decide +kernel⟩
set_option maxRecDepth 20000 in
theorem qz_mo113 : qz_MO 113 := ⟨by decide +kernel, qz_in 629 (by decide +kernel) (by decide +kernel), qz_in 53 (by decide +kernel) (by decide +kernel), ⟨by decide +kernel, by decide +kernel⟩, by decide +kernel, fun h => absurd h (by decide +kernel), fun _ => ⟨qz_in 627 (by decide +kernel) (by decide +kernel), Or.inr (qz_in 628 (by decide +kernel) (by decide +kernel)), by decide +kernel, by decide +kernel⟩, by decide +kernel, by decide +kernel, by decide +kernel⟩
set_option maxRecDepth 20000 in
theorem qz_mo114 : qz_MO 114 := ⟨by decide +kernel, qz_in 686 (by decide +kernel) (by decide +kernel), qz_in 53 (by decide +kernel) (by decide +kernel), ⟨by decide +kernel, by decide +kernel⟩, by decide +kernel, fun h => absurd h (by decide +kernel), fun _ => ⟨qz_in 684 (by decide +kernel) (by decide +kernel), Or.inr (qz_in 685 (by decide +kernel) (by decide +kernel)), by decide +kernel, by decide +kernel⟩, by decide +kernel, by decide +kernel, by decide +kernel⟩
set_option maxRecDepth 20000 in
theorem qz_mo115 : qz_MO 115 := ⟨by decide +kernel, qz_in 706 (by decide +kernel) (by decide +kernel), qz_in 53 (by decide +kernel) (by decide +kernel), ⟨by decide +kernel, by decide +kernel⟩, by decide +kernel, fun h => absurd h (by decide +kernel), fun _ => ⟨qz_in 704 (by decide +kernel) (by decide +kernel), Or.inr (qz_in 705 (by decide +kernel) (by decide +kernel)), by decide +kernel, by decide +kernel⟩, by decide +kernel, by decide +kernel, by decide +kernel⟩
set_option maxRecDepth 20000 in
theorem qz_mo116 : qz_MO 116 := ⟨by decide +kernel, qz_in 734 (by decide +kernel) (by decide +kernel), qz_in 53 (by decide +kernel) (by decide +kernel), ⟨by decide +kernel, by decide +kernel⟩, by decide +kernel, fun h => absurd h (by decide +kernel), fun _ => ⟨qz_in 732 (by decide +kernel) (by decide +kernel), Or.inr (qz_in 733 (by decide +kernel) (by decide +kernel)), by decide +kernel, by decide +kernel⟩, by decide +kernel, by decide +kernel, by decide +kernel⟩
set_option maxRecDepth 20000 in
theorem qz_mo117 : qz_MO 117 := ⟨by decide +kernel, qz_in 750 (by decide +kernel) (by decide +kernel), qz_in 53 (by decide +kernel) (by decide +kernel), ⟨by decide +kernel, by decide +kernel⟩, by decide +kernel, fun h => absurd h (by decide +kernel), fun _ => ⟨qz_in 749 (by decide +kernel) (by decide +kernel), Or.inr (qz_in 38 (by decide +kernel) (by decide +kernel)), by decide +kernel, by decide +kernel⟩, by decide +kernel, by decide +kernel, by decide +kernel⟩
set_option maxRecDepth 20000 in
theorem qz_mo118 : qz_MO 118 := ⟨by decide +kernel, qz_in 738 (by decide +kernel) (by decide +kernel), qz_in 53 (by decide +kernel) (by decide +kernel), ⟨by decide +kernel, by decide +kernel⟩, by decide +kernel, fun h => absurd h (by decide +kernel), fun _ => ⟨qz_in 736 (by decide +kernel) (by decide +kernel), Or.inr (qz_in 737 (by decide +kernel) (by decide +kernel)), by decide +kernel, by decide +kernel⟩, by decide +kernel, by decide +kernel, by decide +kernel⟩
set_option maxRecDepth 20000 in
theorem qz_mo119 : qz_MO 119 := ⟨by decide +kernel, qz_in 754 (by decide +kernel) (by decide +kernel), qz_in 53 (by decide +kernel) (by decide +kernel), ⟨by decide +kernel, by decide +kernel⟩, by decide +kernel, fun h => absurd h (by decide +kernel), fun _ => ⟨qz_in 752 (by decide +kernel) (by decide +kernel), Or.inr (qz_in 753 (by decide +kernel) (by decide +kernel)), by decide +kernel, by decide +kernel⟩, by decide +kernel, by decide +kernel, by decide +kernel⟩
set_option maxRecDepth 20000 in
theorem qz_mo120 : qz_MO 120 := ⟨by decide +kernel, qz_in 761 (by decide +kernel) (by decide +kernel), qz_in 53 (by decide +kernel) (by decide +kernel), ⟨by decide +kernel, by decide +kernel⟩, by decide +kernel, fun _ => qz_in 760 (by decide +kernel) (by decide +kernel), fun h => absurd h (by decide +kernel), by decide +kernel, by decide +kernel, by decide +kernel⟩
set_option maxRecDepth 20000 in
theorem qz_mo121 : qz_MO 121 := ⟨by decide +kernel, qz_in 758 (by decide +kernel) (by decide +kernel), qz_in 53 (by decide +kernel) (by decide +kernel), ⟨by decide +kernel, by decide +kernel⟩, by decide +kernel, fun h => absurd h (by decide +kernel), fun _ => ⟨qz_in 756 (by decide +kernel) (by decide +kernel), Or.inr (qz_in 757 (by decide +kernel) (by decide +kernel)), by decide +kernel, by decide +kernel⟩, by decide +kernel, by decide +kernel, by decide +kernel⟩
set_option maxRecDepth 20000 in
theorem qz_mo122 : qz_MO 122 := ⟨by decide +kernel, qz_in 765 (by decide +kernel) (by decide +kernel), qz_in 53 (by decide +kernel) (by decide +kernel), ⟨by decide +kernel, by decide +kernel⟩, by decide +kernel, fun h => absurd h (by decide +kernel), fun _ => ⟨qz_in 763 (by decide +kernel) (by decide +kernel), Or.inr (qz_in 764 (by decide +kernel) (by decide +kernel)), by decide +kernel, by decide +kernel⟩, by decide +kernel, by decide +kernel, by decide +kernel⟩
set_option maxRecDepth 20000 in
theorem qz_mo123 : qz_MO 123 := ⟨by decide +kernel, qz_in 789 (by decide +kernel) (by decide +kernel), qz_in 53 (by decide +kernel) (by decide +kernel), ⟨by decide +kernel, by decide +kernel⟩, by decide +kernel, fun h => absurd h (by decide +kernel), fun _ => ⟨qz_in 787 (by decide +kernel) (by decide +kernel), Or.inr (qz_in 788 (by decide +kernel) (by decide +kernel)), by decide +kernel, by decide +kernel⟩, by decide +kernel, by decide +kernel, by decide +kernel⟩
set_option maxRecDepth 20000 in
theorem qz_mo124 : qz_MO 124 := ⟨by decide +kernel, qz_in 793 (by decide +kernel) (by decide +kernel), qz_in 53 (by decide +kernel) (by decide +kernel), ⟨by decide +kernel, by decide +kernel⟩, by decide +kernel, fun h => absurd h (by decide +kernel), fun _ => ⟨qz_in 791 (by decide +kernel) (by decide +kernel), Or.inr (qz_in 792 (by decide +kernel) (by decide +kernel)), by decide +kernel, by decide +kernel⟩, by decide +kernel, by decide +kernel, by decide +kernel⟩
set_option maxRecDepth 20000 in
theorem qz_mo125 : qz_MO 125 := ⟨by decide +kernel, qz_in 698 (by decide +kernel) (by decide +kernel), qz_in 53 (by decide +kernel) (by decide +kernel), ⟨by decide +kernel, by decide +kernel⟩, by decide +kernel, fun h => absurd h (by decide +kernel), fun _ => ⟨qz_in 697 (by decide +kernel) (by decide +kernel), Or.inr (qz_in 28 (by decide +kernel) (by decide +kernel)), by decide +kernel, by decide +kernel⟩, by decide +kernel, by decide +kernel, by decide +kernel⟩
set_option maxRecDepth 20000 in
theorem qz_mo126 : qz_MO 126 := ⟨by decide +kernel, qz_in 702 (by decide +kernel) (by decide +kernel), qz_in 53 (by decide +kernel) (by decide +kernel), ⟨by decide +kernel, by decide +kernel⟩, by decide +kernel, fun h => absurd h (by decide +kernel), fun _ => ⟨qz_in 701 (by decide +kernel) (by decide +kernel), Or.inr (qz_in 29 (by decide +kernel) (by decide +kernel)), by decide +kernel, by decide +kernel⟩, by decide +kernel, by decide +kernel, by decide +kernel⟩
set_option maxRecDepth 20000 in
theorem qz_mo127 : qz_MO 127 := ⟨by decide +kernel, qz_in 694 (by decide +kernel) (by decide +kernel), qz_in 53 (by decide +kernel) (by decide +kernel), ⟨by decide +kernel, by decide +kernel⟩, by decide +kernel, fun h => absurd h (by decide +kernel), fun _ => ⟨qz_in 693 (by decide +kernel) (by decide +kernel), Or.inr (qz_in 27 (by decide +kernel) (by decide +kernel)), by decide +kernel, by decide +kernel⟩, by decide +kernel, by decide +kernel, by decide +kernel⟩
set_option maxRecDepth 20000 in
theorem qz_mo128 : qz_MO 128 := ⟨by decide +kernel, qz_in 690 (by decide +kernel) (by decide +kernel), qz_in 53 (by decide +kernel) (by decide +kernel), ⟨by decide +kernel, by decide +kernel⟩, by decide +kernel, fun h => absurd h (by decide +kernel), fun _ => ⟨qz_in 689 (by decide +kernel) (by decide +kernel), Or.inr (qz_in 26 (by decide +kernel) (by decide +kernel)), by decide +kernel, by decide +kernel⟩, by decide +kernel, by decide +kernel, by decide +kernel⟩
set_option maxRecDepth 20000 in
theorem qz_mo129 : qz_MO 129 := ⟨by decide +kernel, qz_in 797 (by decide +kernel) (by decide +kernel), qz_in 53 (by decide +kernel) (by decide +kernel), ⟨by decide +kernel, by decide +kernel⟩, by decide +kernel, fun h => absurd h (by decide +kernel), fun _ => ⟨qz_in 795 (by decide +kernel) (by decide +kernel), Or.inr (qz_in 796 (by decide +kernel) (by decide +kernel)), by decide +kernel, by decide +kernel⟩, by decide +kernel, by decide +kernel, by decide +kernel⟩
set_option maxRecDepth 20000 in
theorem qz_mo130 : qz_MO 130 := ⟨by decide +kernel, qz_in 801 (by decide +kernel) (by decide +kernel), qz_in 53 (by decide +kernel) (by decide +kernel), ⟨by decide +kernel, by decide +kernel⟩, by decide +kernel, fun h => absurd h (by decide +kernel), fun _ => ⟨qz_in 799 (by decide +kernel) (by decide +kernel), Or.inr (qz_in 800 (by decide +kernel) (by decide +kernel)), by decide +kernel, by decide +kernel⟩, by decide +kernel, by decide +kernel, by decide +kernel⟩
set_option maxRecDepth 20000 in
theorem qz_mo131 : qz_MO 131 := ⟨by decide +kernel, qz_in 805 (by decide +kernel) (by decide +kernel), qz_in 53 (by decide +kernel) (by decide +kernel), ⟨by decide +kernel, by decide +kernel⟩, by decide +kernel, fun h => absurd h (by decide +kernel), fun _ => ⟨qz_in 803 (by decide +kernel) (by decide +kernel), Or.inr (qz_in 804 (by decide +kernel) (by decide +kernel)), by decide +kernel, by decide +kernel⟩, by decide +kernel, by decide +kernel, by decide +kernel⟩
set_option maxRecDepth 20000 in
theorem qz_mo132 : qz_MO 132 := ⟨by decide +kernel, qz_in 809 (by decide +kernel) (by decide +kernel), qz_in 53 (by decide +kernel) (by decide +kernel), ⟨by decide +kernel, by decide +kernel⟩, by decide +kernel, fun h => absurd h (by decide +kernel), fun _ => ⟨qz_in 807 (by decide +kernel) (by decide +kernel), Or.inr (qz_in 808 (by decide +kernel) (by decide +kernel)), by decide +kernel, by decide +kernel⟩, by decide +kernel, by decide +kernel, by decide +kernel⟩
set_option maxRecDepth 20000 in
theorem qz_mo133 : qz_MO 133 := ⟨by decide +kernel, qz_in 817 (by decide +kernel) (by decide +kernel), qz_in 53 (by decide +kernel) (by decide +kernel), ⟨by decide +kernel, by decide +kernel⟩, by decide +kernel, fun h => absurd h (by decide +kernel), fun _ => ⟨qz_in 816 (by decide +kernel) (by decide +kernel), Or.inr (qz_in 44 (by decide +kernel) (by decide +kernel)), by decide +kernel, by decide +kernel⟩, by decide +kernel, by decide +kernel, by decide +kernel⟩
set_option maxRecDepth 20000 in
theorem qz_mo134 : qz_MO 134 := ⟨by decide +kernel, qz_in 813 (by decide +kernel) (by decide +kernel), qz_in 53 (by decide +kernel) (by decide +kernel), ⟨by decide +kernel, by decide +kernel⟩, by decide +kernel, fun h => absurd h (by decide +kernel), fun _ => ⟨qz_in 811 (by decide +kernel) (by decide +kernel), Or.inr (qz_in 812 (by decide +kernel) (by decide +kernel)), by decide +kernel, by decide +kernel⟩, by decide +kernel, by decide +kernel, by decide +kernel⟩
set_option maxRecDepth 20000 in
theorem qz_mo135 : qz_MO 135 := ⟨by decide +kernel, qz_in 821 (by decide +kernel) (by decide +kernel), qz_in 53 (by decide +kernel) (by decide +kernel), ⟨by decide +kernel, by decide +kernel⟩, by decide +kernel, fun h => absurd h (by decide +kernel), fun _ => ⟨qz_in 819 (by decide +kernel) (by decide +kernel), Or.inr (qz_in 820 (by decide +kernel) (by decide +kernel)), by decide +kernel, by decide +kernel⟩, by decide +kernel, by decide +kernel, by decide +kernel⟩
set_option maxRecDepth 20000 in
theorem qz_mo136 : qz_MO 136 := ⟨by decide +kernel, qz_in 825 (by decide +kernel) (by decide +kernel), qz_in 53 (by decide +kernel) (by decide +kernel), ⟨by decide +kernel, by decide +kernel⟩, by decide +kernel, fun h => absurd h (by decide +kernel), fun _ => ⟨qz_in 823 (by decide +kernel) (by decide +kernel), Or.inr (qz_in 824 (by decide +kernel) (by decide +kernel)), by decide +kernel, by decide +kernel⟩, by decide +kernel, by decide +kernel, by decide +kernel⟩
set_option maxRecDepth 20000 in
theorem qz_mo137 : qz_MO 137 := ⟨by decide +kernel, qz_in 829 (by decide +kernel) (by decide +kernel), qz_in 53 (by decide +kernel) (by decide +kernel), ⟨by decide +kernel, by decide +kernel⟩, by decide +kernel, fun h => absurd h (by decide +kernel), fun _ => ⟨qz_in 827 (by decide +kernel) (by decide +kernel), Or.inr (qz_in 828 (by decide +kernel) (by decide +kernel)), by decide +kernel, by decide +kernel⟩, by decide +kernel, by decide +kernel, by decide +kernel⟩
set_option maxRecDepth 20000 in
theorem qz_mo138 : qz_MO 138 := ⟨by decide +kernel, qz_in 833 (by decide +kernel) (by decide +kernel), qz_in 53 (by decide +kernel) (by decide +kernel), ⟨by decide +kernel, by decide +kernel⟩, by decide +kernel, fun h => absurd h (by decide +kernel), fun _ => ⟨qz_in 831 (by decide +kernel) (by decide +kernel), Or.inr (qz_in 832 (by decide +kernel) (by decide +kernel)), by decide +kernel, by decide +kernel⟩, by decide +kernel, by decide +kernel, by decide +kernel⟩
set_option maxRecDepth 20000 in
theorem qz_mo139 : qz_MO 139 := ⟨by decide +kernel, qz_in 841 (by decide +kernel) (by decide +kernel), qz_in 53 (by decide +kernel) (by decide +kernel), ⟨by decide +kernel, by decide +kernel⟩, by decide +kernel, fun h => absurd h (by decide +kernel), fun _ => ⟨qz_in 840 (by decide +kernel) (by decide +kernel), Or.inr (qz_in 45 (by decide +kernel) (by decide +kernel)), by decide +kernel, by decide +kernel⟩, by decide +kernel, by decide +kernel, by decide +kernel⟩
set_option maxRecDepth 20000 in
theorem qz_mo140 : qz_MO 140 := ⟨by decide +kernel, qz_in 837 (by decide +kernel) (by decide +kernel), qz_in 53 (by decide +kernel) (by decide +kernel), ⟨by decide +kernel, by decide +kernel⟩, by decide +kernel, fun h => absurd h (by decide +kernel), fun _ => ⟨qz_in 835 (by decide +kernel) (by decide +kernel), Or.inr (qz_in 836 (by decide +kernel) (by decide +kernel)), by decide +kernel, by decide +kernel⟩, by decide +kernel, by decide +kernel, by decide +kernel⟩
theorem qz_mo {k : Nat} (h : k < qz_nm) : qz_MO k := by
  have h : k < 141 := h
  have h0 : 0 ≤ k := Nat.zero_le k
  rcases Nat.lt_or_ge k 70 with h0_141 | h0_141
  · rcases Nat.lt_or_ge k 35 with h0_70 | h0_70
    · rcases Nat.lt_or_ge k 17 with h0_35 | h0_35
      · rcases Nat.lt_or_ge k 8 with h0_17 | h0_17
        · rcases Nat.lt_or_ge k 4 with h0_8 | h0_8
          · rcases Nat.lt_or_ge k 2 with h0_4 | h0_4
            · rcases Nat.lt_or_ge k 1 with h0_2 | h0_2
              · exact (show k = 0 by omega) ▸ qz_mo0
              · exact (show k = 1 by omega) ▸ qz_mo1
            · rcases Nat.lt_or_ge k 3 with h2_4 | h2_4
              · exact (show k = 2 by omega) ▸ qz_mo2
              · exact (show k = 3 by omega) ▸ qz_mo3
          · rcases Nat.lt_or_ge k 6 with h4_8 | h4_8
            · rcases Nat.lt_or_ge k 5 with h4_6 | h4_6
              · exact (show k = 4 by omega) ▸ qz_mo4
              · exact (show k = 5 by omega) ▸ qz_mo5
            · rcases Nat.lt_or_ge k 7 with h6_8 | h6_8
              · exact (show k = 6 by omega) ▸ qz_mo6
              · exact (show k = 7 by omega) ▸ qz_mo7
        · rcases Nat.lt_or_ge k 12 with h8_17 | h8_17
          · rcases Nat.lt_or_ge k 10 with h8_12 | h8_12
            · rcases Nat.lt_or_ge k 9 with h8_10 | h8_10
              · exact (show k = 8 by omega) ▸ qz_mo8
              · exact (show k = 9 by omega) ▸ qz_mo9
            · rcases Nat.lt_or_ge k 11 with h10_12 | h10_12
              · exact (show k = 10 by omega) ▸ qz_mo10
              · exact (show k = 11 by omega) ▸ qz_mo11
          · rcases Nat.lt_or_ge k 14 with h12_17 | h12_17
            · rcases Nat.lt_or_ge k 13 with h12_14 | h12_14
              · exact (show k = 12 by omega) ▸ qz_mo12
              · exact (show k = 13 by omega) ▸ qz_mo13
            · rcases Nat.lt_or_ge k 15 with h14_17 | h14_17
              · exact (show k = 14 by omega) ▸ qz_mo14
              · rcases Nat.lt_or_ge k 16 with h15_17 | h15_17
                · exact (show k = 15 by omega) ▸ qz_mo15
                · exact (show k = 16 by omega) ▸ qz_mo16
      · rcases Nat.lt_or_ge k 26 with h17_35 | h17_35
        · rcases Nat.lt_or_ge k 21 with h17_26 | h17_26
          · rcases Nat.lt_or_ge k 19 with h17_21 | h17_21
            · rcases Nat.lt_or_ge k 18 with h17_19 | h17_19
              · exact (show k = 17 by omega) ▸ qz_mo17
              · exact (show k = 18 by omega) ▸ qz_mo18
            · rcases Nat.lt_or_ge k 20 with h19_21 | h19_21
              · exact (show k = 19 by omega) ▸ qz_mo19
              · exact (show k = 20 by omega) ▸ qz_mo20
          · rcases Nat.lt_or_ge k 23 with h21_26 | h21_26
            · rcases Nat.lt_or_ge k 22 with h21_23 | h21_23
              · exact (show k = 21 by omega) ▸ qz_mo21
              · exact (show k = 22 by omega) ▸ qz_mo22
            · rcases Nat.lt_or_ge k 24 with h23_26 | h23_26
              · exact (show k = 23 by omega) ▸ qz_mo23
              · rcases Nat.lt_or_ge k 25 with h24_26 | h24_26
                · exact (show k = 24 by omega) ▸ qz_mo24
                · exact (show k = 25 by omega) ▸ qz_mo25
        · rcases Nat.lt_or_ge k 30 with h26_35 | h26_35
          · rcases Nat.lt_or_ge k 28 with h26_30 | h26_30
            · rcases Nat.lt_or_ge k 27 with h26_28 | h26_28
              · exact (show k = 26 by omega) ▸ qz_mo26
              · exact (show k = 27 by omega) ▸ qz_mo27
            · rcases Nat.lt_or_ge k 29 with h28_30 | h28_30
              · exact (show k = 28 by omega) ▸ qz_mo28
              · exact (show k = 29 by omega) ▸ qz_mo29
          · rcases Nat.lt_or_ge k 32 with h30_35 | h30_35
            · rcases Nat.lt_or_ge k 31 with h30_32 | h30_32
              · exact (show k = 30 by omega) ▸ qz_mo30
              · exact (show k = 31 by omega) ▸ qz_mo31
            · rcases Nat.lt_or_ge k 33 with h32_35 | h32_35
              · exact (show k = 32 by omega) ▸ qz_mo32
              · rcases Nat.lt_or_ge k 34 with h33_35 | h33_35
                · exact (show k = 33 by omega) ▸ qz_mo33
                · exact (show k = 34 by omega) ▸ qz_mo34
    · rcases Nat.lt_or_ge k 52 with h35_70 | h35_70
      · rcases Nat.lt_or_ge k 43 with h35_52 | h35_52
        · rcases Nat.lt_or_ge k 39 with h35_43 | h35_43
          · rcases Nat.lt_or_ge k 37 with h35_39 | h35_39
            · rcases Nat.lt_or_ge k 36 with h35_37 | h35_37
              · exact (show k = 35 by omega) ▸ qz_mo35
              · exact (show k = 36 by omega) ▸ qz_mo36
            · rcases Nat.lt_or_ge k 38 with h37_39 | h37_39
              · exact (show k = 37 by omega) ▸ qz_mo37
              · exact (show k = 38 by omega) ▸ qz_mo38
          · rcases Nat.lt_or_ge k 41 with h39_43 | h39_43
            · rcases Nat.lt_or_ge k 40 with h39_41 | h39_41
              · exact (show k = 39 by omega) ▸ qz_mo39
              · exact (show k = 40 by omega) ▸ qz_mo40
            · rcases Nat.lt_or_ge k 42 with h41_43 | h41_43
              · exact (show k = 41 by omega) ▸ qz_mo41
              · exact (show k = 42 by omega) ▸ qz_mo42
        · rcases Nat.lt_or_ge k 47 with h43_52 | h43_52
          · rcases Nat.lt_or_ge k 45 with h43_47 | h43_47
            · rcases Nat.lt_or_ge k 44 with h43_45 | h43_45
              · exact (show k = 43 by omega) ▸ qz_mo43
              · exact (show k = 44 by omega) ▸ qz_mo44
            · rcases Nat.lt_or_ge k 46 with h45_47 | h45_47
              · exact (show k = 45 by omega) ▸ qz_mo45
              · exact (show k = 46 by omega) ▸ qz_mo46
          · rcases Nat.lt_or_ge k 49 with h47_52 | h47_52
            · rcases Nat.lt_or_ge k 48 with h47_49 | h47_49
              · exact (show k = 47 by omega) ▸ qz_mo47
              · exact (show k = 48 by omega) ▸ qz_mo48
            · rcases Nat.lt_or_ge k 50 with h49_52 | h49_52
              · exact (show k = 49 by omega) ▸ qz_mo49
              · rcases Nat.lt_or_ge k 51 with h50_52 | h50_52
                · exact (show k = 50 by omega) ▸ qz_mo50
                · exact (show k = 51 by omega) ▸ qz_mo51
      · rcases Nat.lt_or_ge k 61 with h52_70 | h52_70
        · rcases Nat.lt_or_ge k 56 with h52_61 | h52_61
          · rcases Nat.lt_or_ge k 54 with h52_56 | h52_56
            · rcases Nat.lt_or_ge k 53 with h52_54 | h52_54
              · exact (show k = 52 by omega) ▸ qz_mo52
              · exact (show k = 53 by omega) ▸ qz_mo53
            · rcases Nat.lt_or_ge k 55 with h54_56 | h54_56
              · exact (show k = 54 by omega) ▸ qz_mo54
              · exact (show k = 55 by omega) ▸ qz_mo55
          · rcases Nat.lt_or_ge k 58 with h56_61 | h56_61
            · rcases Nat.lt_or_ge k 57 with h56_58 | h56_58
              · exact (show k = 56 by omega) ▸ qz_mo56
              · exact (show k = 57 by omega) ▸ qz_mo57
            · rcases Nat.lt_or_ge k 59 with h58_61 | h58_61
              · exact (show k = 58 by omega) ▸ qz_mo58
              · rcases Nat.lt_or_ge k 60 with h59_61 | h59_61
                · exact (show k = 59 by omega) ▸ qz_mo59
                · exact (show k = 60 by omega) ▸ qz_mo60
        · rcases Nat.lt_or_ge k 65 with h61_70 | h61_70
          · rcases Nat.lt_or_ge k 63 with h61_65 | h61_65
            · rcases Nat.lt_or_ge k 62 with h61_63 | h61_63
              · exact (show k = 61 by omega) ▸ qz_mo61
              · exact (show k = 62 by omega) ▸ qz_mo62
            · rcases Nat.lt_or_ge k 64 with h63_65 | h63_65
              · exact (show k = 63 by omega) ▸ qz_mo63
              · exact (show k = 64 by omega) ▸ qz_mo64
          · rcases Nat.lt_or_ge k 67 with h65_70 | h65_70
            · rcases Nat.lt_or_ge k 66 with h65_67 | h65_67
              · exact (show k = 65 by omega) ▸ qz_mo65
              · exact (show k = 66 by omega) ▸ qz_mo66
            · rcases Nat.lt_or_ge k 68 with h67_70 | h67_70
              · exact (show k = 67 by omega) ▸ qz_mo67
              · rcases Nat.lt_or_ge k 69 with h68_70 | h68_70
                · exact (show k = 68 by omega) ▸ qz_mo68
                · exact (show k = 69 by omega) ▸ qz_mo69
  · rcases Nat.lt_or_ge k 105 with h70_141 | h70_141
    · rcases Nat.lt_or_ge k 87 with h70_105 | h70_105
      · rcases Nat.lt_or_ge k 78 with h70_87 | h70_87
        · rcases Nat.lt_or_ge k 74 with h70_78 | h70_78
          · rcases Nat.lt_or_ge k 72 with h70_74 | h70_74
            · rcases Nat.lt_or_ge k 71 with h70_72 | h70_72
              · exact (show k = 70 by omega) ▸ qz_mo70
              · exact (show k = 71 by omega) ▸ qz_mo71
            · rcases Nat.lt_or_ge k 73 with h72_74 | h72_74
              · exact (show k = 72 by omega) ▸ qz_mo72
              · exact (show k = 73 by omega) ▸ qz_mo73
          · rcases Nat.lt_or_ge k 76 with h74_78 | h74_78
            · rcases Nat.lt_or_ge k 75 with h74_76 | h74_76
              · exact (show k = 74 by omega) ▸ qz_mo74
              · exact (show k = 75 by omega) ▸ qz_mo75
            · rcases Nat.lt_or_ge k 77 with h76_78 | h76_78
              · exact (show k = 76 by omega) ▸ qz_mo76
              · exact (show k = 77 by omega) ▸ qz_mo77
        · rcases Nat.lt_or_ge k 82 with h78_87 | h78_87
          · rcases Nat.lt_or_ge k 80 with h78_82 | h78_82
            · rcases Nat.lt_or_ge k 79 with h78_80 | h78_80
              · exact (show k = 78 by omega) ▸ qz_mo78
              · exact (show k = 79 by omega) ▸ qz_mo79
            · rcases Nat.lt_or_ge k 81 with h80_82 | h80_82
              · exact (show k = 80 by omega) ▸ qz_mo80
              · exact (show k = 81 by omega) ▸ qz_mo81
          · rcases Nat.lt_or_ge k 84 with h82_87 | h82_87
            · rcases Nat.lt_or_ge k 83 with h82_84 | h82_84
              · exact (show k = 82 by omega) ▸ qz_mo82
              · exact (show k = 83 by omega) ▸ qz_mo83
            · rcases Nat.lt_or_ge k 85 with h84_87 | h84_87
              · exact (show k = 84 by omega) ▸ qz_mo84
              · rcases Nat.lt_or_ge k 86 with h85_87 | h85_87
                · exact (show k = 85 by omega) ▸ qz_mo85
                · exact (show k = 86 by omega) ▸ qz_mo86
      · rcases Nat.lt_or_ge k 96 with h87_105 | h87_105
        · rcases Nat.lt_or_ge k 91 with h87_96 | h87_96
          · rcases Nat.lt_or_ge k 89 with h87_91 | h87_91
            · rcases Nat.lt_or_ge k 88 with h87_89 | h87_89
              · exact (show k = 87 by omega) ▸ qz_mo87
              · exact (show k = 88 by omega) ▸ qz_mo88
            · rcases Nat.lt_or_ge k 90 with h89_91 | h89_91
              · exact (show k = 89 by omega) ▸ qz_mo89
              · exact (show k = 90 by omega) ▸ qz_mo90
          · rcases Nat.lt_or_ge k 93 with h91_96 | h91_96
            · rcases Nat.lt_or_ge k 92 with h91_93 | h91_93
              · exact (show k = 91 by omega) ▸ qz_mo91
              · exact (show k = 92 by omega) ▸ qz_mo92
            · rcases Nat.lt_or_ge k 94 with h93_96 | h93_96
              · exact (show k = 93 by omega) ▸ qz_mo93
              · rcases Nat.lt_or_ge k 95 with h94_96 | h94_96
                · exact (show k = 94 by omega) ▸ qz_mo94
                · exact (show k = 95 by omega) ▸ qz_mo95
        · rcases Nat.lt_or_ge k 100 with h96_105 | h96_105
          · rcases Nat.lt_or_ge k 98 with h96_100 | h96_100
            · rcases Nat.lt_or_ge k 97 with h96_98 | h96_98
              · exact (show k = 96 by omega) ▸ qz_mo96
              · exact (show k = 97 by omega) ▸ qz_mo97
            · rcases Nat.lt_or_ge k 99 with h98_100 | h98_100
              · exact (show k = 98 by omega) ▸ qz_mo98
              · exact (show k = 99 by omega) ▸ qz_mo99
          · rcases Nat.lt_or_ge k 102 with h100_105 | h100_105
            · rcases Nat.lt_or_ge k 101 with h100_102 | h100_102
              · exact (show k = 100 by omega) ▸ qz_mo100
              · exact (show k = 101 by omega) ▸ qz_mo101
            · rcases Nat.lt_or_ge k 103 with h102_105 | h102_105
              · exact (show k = 102 by omega) ▸ qz_mo102
              · rcases Nat.lt_or_ge k 104 with h103_105 | h103_105
                · exact (show k = 103 by omega) ▸ qz_mo103
                · exact (show k = 104 by omega) ▸ qz_mo104
    · rcases Nat.lt_or_ge k 123 with h105_141 | h105_141
      · rcases Nat.lt_or_ge k 114 with h105_123 | h105_123
        · rcases Nat.lt_or_ge k 109 with h105_114 | h105_114
          · rcases Nat.lt_or_ge k 107 with h105_109 | h105_109
            · rcases Nat.lt_or_ge k 106 with h105_107 | h105_107
              · exact (show k = 105 by omega) ▸ qz_mo105
              · exact (show k = 106 by omega) ▸ qz_mo106
            · rcases Nat.lt_or_ge k 108 with h107_109 | h107_109
              · exact (show k = 107 by omega) ▸ qz_mo107
              · exact (show k = 108 by omega) ▸ qz_mo108
          · rcases Nat.lt_or_ge k 111 with h109_114 | h109_114
            · rcases Nat.lt_or_ge k 110 with h109_111 | h109_111
              · exact (show k = 109 by omega) ▸ qz_mo109
              · exact (show k = 110 by omega) ▸ qz_mo110
            · rcases Nat.lt_or_ge k 112 with h111_114 | h111_114
              · exact (show k = 111 by omega) ▸ qz_mo111
              · rcases Nat.lt_or_ge k 113 with h112_114 | h112_114
                · exact (show k = 112 by omega) ▸ qz_mo112
                · exact (show k = 113 by omega) ▸ qz_mo113
        · rcases Nat.lt_or_ge k 118 with h114_123 | h114_123
          · rcases Nat.lt_or_ge k 116 with h114_118 | h114_118
            · rcases Nat.lt_or_ge k 115 with h114_116 | h114_116
              · exact (show k = 114 by omega) ▸ qz_mo114
              · exact (show k = 115 by omega) ▸ qz_mo115
            · rcases Nat.lt_or_ge k 117 with h116_118 | h116_118
              · exact (show k = 116 by omega) ▸ qz_mo116
              · exact (show k = 117 by omega) ▸ qz_mo117
          · rcases Nat.lt_or_ge k 120 with h118_123 | h118_123
            · rcases Nat.lt_or_ge k 119 with h118_120 | h118_120
              · exact (show k = 118 by omega) ▸ qz_mo118
              · exact (show k = 119 by omega) ▸ qz_mo119
            · rcases Nat.lt_or_ge k 121 with h120_123 | h120_123
              · exact (show k = 120 by omega) ▸ qz_mo120
              · rcases Nat.lt_or_ge k 122 with h121_123 | h121_123
                · exact (show k = 121 by omega) ▸ qz_mo121
                · exact (show k = 122 by omega) ▸ qz_mo122
      · rcases Nat.lt_or_ge k 132 with h123_141 | h123_141
        · rcases Nat.lt_or_ge k 127 with h123_132 | h123_132
          · rcases Nat.lt_or_ge k 125 with h123_127 | h123_127
            · rcases Nat.lt_or_ge k 124 with h123_125 | h123_125
              · exact (show k = 123 by omega) ▸ qz_mo123
              · exact (show k = 124 by omega) ▸ qz_mo124
            · rcases Nat.lt_or_ge k 126 with h125_127 | h125_127
              · exact (show k = 125 by omega) ▸ qz_mo125
              · exact (show k = 126 by omega) ▸ qz_mo126
          · rcases Nat.lt_or_ge k 129 with h127_132 | h127_132
            · rcases Nat.lt_or_ge k 128 with h127_129 | h127_129
              · exact (show k = 127 by omega) ▸ qz_mo127
              · exact (show k = 128 by omega) ▸ qz_mo128
            · rcases Nat.lt_or_ge k 130 with h129_132 | h129_132
              · exact (show k = 129 by omega) ▸ qz_mo129
              · rcases Nat.lt_or_ge k 131 with h130_132 | h130_132
                · exact (show k = 130 by omega) ▸ qz_mo130
                · exact (show k = 131 by omega) ▸ qz_mo131
        · rcases Nat.lt_or_ge k 136 with h132_141 | h132_141
          · rcases Nat.lt_or_ge k 134 with h132_136 | h132_136
            · rcases Nat.lt_or_ge k 133 with h132_134 | h132_134
              · exact (show k = 132 by omega) ▸ qz_mo132
              · exact (show k = 133 by omega) ▸ qz_mo133
            · rcases Nat.lt_or_ge k 135 with h134_136 | h134_136
              · exact (show k = 134 by omega) ▸ qz_mo134
              · exact (show k = 135 by omega) ▸ qz_mo135
          · rcases Nat.lt_or_ge k 138 with h136_141 | h136_141
            · rcases Nat.lt_or_ge k 137 with h136_138 | h136_138
              · exact (show k = 136 by omega) ▸ qz_mo136
              · exact (show k = 137 by omega) ▸ qz_mo137
            · rcases Nat.lt_or_ge k 139 with h138_141 | h138_141
              · exact (show k = 138 by omega) ▸ qz_mo138
              · rcases Nat.lt_or_ge k 140 with h139_141 | h139_141
                · exact (show k = 139 by omega) ▸ qz_mo139
                · exact (show k = 140 by omega) ▸ qz_mo140
def qz_clL : List ((Nat × Nat) × Nat) := [((0, 35), 1), ((1, 28), 17), ((1, 29), 11), ((1, 33), 12), ((2, 21), 18), ((2, 22), 15), ((2, 25), 19), ((4, 55), 0), ((4, 56), 20), ((4, 60), 7), ((4, 64), 25), ((4, 68), 28), ((4, 71), 26), ((4, 75), 1), ((4, 82), 33), ((4, 99), 2), ((4, 102), 23), ((4, 106), 38), ((4, 110), 44), ((4, 114), 21), ((4, 117), 42), ((4, 121), 35), ((4, 125), 36), ((4, 129), 76), ((4, 132), 37), ((4, 140), 41), ((4, 143), 3), ((4, 146), 4), ((4, 153), 48), ((4, 156), 43), ((4, 160), 5), ((4, 164), 49), ((4, 168), 50), ((4, 171), 53), ((5, 9), 18), ((5, 18), 8), ((5, 25), 13), ((5, 41), 14), ((5, 45), 24), ((5, 49), 23), ((5, 53), 76), ((5, 56), 77), ((5, 59), 31), ((5, 63), 30), ((5, 67), 10), ((5, 70), 80), ((5, 77), 81), ((5, 80), 29), ((5, 84), 6), ((5, 89), 34), ((5, 92), 32), ((5, 101), 79), ((5, 104), 39), ((5, 108), 41), ((5, 112), 38), ((5, 115), 78), ((5, 119), 21), ((5, 122), 22), ((5, 129), 51), ((5, 132), 52), ((5, 141), 9), ((5, 148), 16), ((5, 151), 19), ((5, 160), 42), ((5, 163), 33), ((5, 174), 44), ((5, 178), 45), ((5, 181), 46), ((5, 184), 50), ((5, 187), 27), ((5, 190), 40), ((5, 211), 47), ((6, 36), 83), ((6, 40), 84), ((6, 47), 90), ((6, 50), 89), ((6, 54), 93), ((6, 57), 95), ((6, 60), 86), ((6, 64), 96), ((6, 68), 94), ((6, 71), 97), ((6, 75), 100), ((6, 79), 98), ((6, 82), 85), ((6, 86), 99), ((6, 89), 101), ((6, 92), 104), ((6, 98), 106), ((6, 102), 107), ((6, 106), 108), ((6, 109), 92), ((6, 112), 87), ((6, 115), 88), ((6, 118), 112), ((6, 121), 128), ((6, 127), 91), ((6, 130), 102), ((6, 133), 103), ((6, 136), 105), ((6, 139), 117), ((6, 142), 120), ((6, 146), 109), ((6, 149), 110), ((6, 158), 125), ((6, 165), 126), ((6, 169), 127), ((6, 175), 133), ((6, 178), 139), ((8, 9), 54), ((8, 12), 82), ((8, 13), 55), ((8, 17), 111), ((8, 18), 56), ((8, 22), 113), ((8, 23), 57), ((8, 27), 114), ((8, 28), 58), ((8, 31), 115), ((8, 32), 59), ((8, 36), 116), ((8, 37), 60), ((8, 40), 118), ((8, 41), 61), ((8, 44), 119), ((8, 45), 62), ((8, 48), 121), ((8, 49), 63), ((8, 52), 122), ((8, 53), 64), ((8, 57), 123), ((8, 58), 65), ((8, 61), 124), ((8, 62), 66), ((8, 65), 129), ((8, 66), 67), ((8, 69), 130), ((8, 70), 68), ((8, 73), 131), ((8, 74), 69), ((8, 77), 132), ((8, 78), 70), ((8, 81), 134), ((8, 82), 71), ((8, 85), 135), ((8, 86), 72), ((8, 89), 136), ((8, 90), 73), ((8, 93), 137), ((8, 94), 74), ((8, 97), 138), ((8, 98), 75), ((8, 101), 140)]
def qz_cl (c i : Nat) : Option Nat := qz_clL.lookup (c, i)
/-- the links to nest mates -/
def qz_ne : List (Nat × Nat × Nat) := [(1, 28, 17), (4, 55, 0), (4, 129, 76)]
def qz_KO (e : (Nat × Nat) × Nat) : Prop := e.2 < qz_nm ∧ (Cond.methodLink (qz_ow e.1.1) e.1.2 (qz_y e.2) ∈ qz_tb ∨ (e.1.1, e.1.2, e.2) ∈ qz_ne)
theorem qz_ko0 : qz_KO ((0, 35), 1) := ⟨by decide, Or.inl (qz_in 317 (by decide +kernel) (by decide +kernel))⟩
theorem qz_ko1 : qz_KO ((1, 28), 17) := ⟨by decide, Or.inr (by decide)⟩
theorem qz_ko2 : qz_KO ((1, 29), 11) := ⟨by decide, Or.inl (qz_in 349 (by decide +kernel) (by decide +kernel))⟩
theorem qz_ko3 : qz_KO ((1, 33), 12) := ⟨by decide, Or.inl (qz_in 352 (by decide +kernel) (by decide +kernel))⟩
theorem qz_ko4 : qz_KO ((2, 21), 18) := ⟨by decide, Or.inl (qz_in 218 (by decide +kernel) (by decide +kernel))⟩
theorem qz_ko5 : qz_KO ((2, 22), 15) := ⟨by decide, Or.inl (qz_in 251 (by decide +kernel) (by decide +kernel))⟩
theorem qz_ko6 : qz_KO ((2, 25), 19) := ⟨by decide, Or.inl (qz_in 255 (by decide +kernel) (by decide +kernel))⟩
theorem qz_ko7 : qz_KO ((4, 55), 0) := ⟨by decide, Or.inr (by decide)⟩
theorem qz_ko8 : qz_KO ((4, 56), 20) := ⟨by decide, Or.inl (qz_in 259 (by decide +kernel) (by decide +kernel))⟩
theorem qz_ko9 : qz_KO ((4, 60), 7) := ⟨by decide, Or.inl (qz_in 262 (by decide +kernel) (by decide +kernel))⟩
theorem qz_ko10 : qz_KO ((4, 64), 25) := ⟨by decide, Or.inl (qz_in 334 (by decide +kernel) (by decide +kernel))⟩
theorem qz_ko11 : qz_KO ((4, 68), 28) := ⟨by decide, Or.inl (qz_in 550 (by decide +kernel) (by decide +kernel))⟩
theorem qz_ko12 : qz_KO ((4, 71), 26) := ⟨by decide, Or.inl (qz_in 392 (by decide +kernel) (by decide +kernel))⟩
theorem qz_ko13 : qz_KO ((4, 75), 1) := ⟨by decide, Or.inl (qz_in 288 (by decide +kernel) (by decide +kernel))⟩
theorem qz_ko14 : qz_KO ((4, 82), 33) := ⟨by decide, Or.inl (qz_in 296 (by decide +kernel) (by decide +kernel))⟩
theorem qz_ko15 : qz_KO ((4, 99), 2) := ⟨by decide, Or.inl (qz_in 384 (by decide +kernel) (by decide +kernel))⟩
theorem qz_ko16 : qz_KO ((4, 102), 23) := ⟨by decide, Or.inl (qz_in 300 (by decide +kernel) (by decide +kernel))⟩
theorem qz_ko17 : qz_KO ((4, 106), 38) := ⟨by decide, Or.inl (qz_in 301 (by decide +kernel) (by decide +kernel))⟩
theorem qz_ko18 : qz_KO ((4, 110), 44) := ⟨by decide, Or.inl (qz_in 309 (by decide +kernel) (by decide +kernel))⟩
theorem qz_ko19 : qz_KO ((4, 114), 21) := ⟨by decide, Or.inl (qz_in 322 (by decide +kernel) (by decide +kernel))⟩
theorem qz_ko20 : qz_KO ((4, 117), 42) := ⟨by decide, Or.inl (qz_in 326 (by decide +kernel) (by decide +kernel))⟩
theorem qz_ko21 : qz_KO ((4, 121), 35) := ⟨by decide, Or.inl (qz_in 380 (by decide +kernel) (by decide +kernel))⟩
theorem qz_ko22 : qz_KO ((4, 125), 36) := ⟨by decide, Or.inl (qz_in 388 (by decide +kernel) (by decide +kernel))⟩
theorem qz_ko23 : qz_KO ((4, 129), 76) := ⟨by decide, Or.inr (by decide)⟩
theorem qz_ko24 : qz_KO ((4, 132), 37) := ⟨by decide, Or.inl (qz_in 305 (by decide +kernel) (by decide +kernel))⟩
theorem qz_ko25 : qz_KO ((4, 140), 41) := ⟨by decide, Or.inl (qz_in 330 (by decide +kernel) (by decide +kernel))⟩
theorem qz_ko26 : qz_KO ((4, 143), 3) := ⟨by decide, Or.inl (qz_in 313 (by decide +kernel) (by decide +kernel))⟩
theorem qz_ko27 : qz_KO ((4, 146), 4) := ⟨by decide, Or.inl (qz_in 318 (by decide +kernel) (by decide +kernel))⟩
theorem qz_ko28 : qz_KO ((4, 153), 48) := ⟨by decide, Or.inl (qz_in 419 (by decide +kernel) (by decide +kernel))⟩
theorem qz_ko29 : qz_KO ((4, 156), 43) := ⟨by decide, Or.inl (qz_in 423 (by decide +kernel) (by decide +kernel))⟩
theorem qz_ko30 : qz_KO ((4, 160), 5) := ⟨by decide, Or.inl (qz_in 469 (by decide +kernel) (by decide +kernel))⟩
theorem qz_ko31 : qz_KO ((4, 164), 49) := ⟨by decide, Or.inl (qz_in 465 (by decide +kernel) (by decide +kernel))⟩
theorem qz_ko32 : qz_KO ((4, 168), 50) := ⟨by decide, Or.inl (qz_in 461 (by decide +kernel) (by decide +kernel))⟩
theorem qz_ko33 : qz_KO ((4, 171), 53) := ⟨by decide, Or.inl (qz_in 477 (by decide +kernel) (by decide +kernel))⟩
theorem qz_ko34 : qz_KO ((5, 9), 18) := ⟨by decide, Or.inl (qz_in 65 (by decide +kernel) (by decide +kernel))⟩
theorem qz_ko35 : qz_KO ((5, 18), 8) := ⟨by decide, Or.inl (qz_in 166 (by decide +kernel) (by decide +kernel))⟩
theorem qz_ko36 : qz_KO ((5, 25), 13) := ⟨by decide, Or.inl (qz_in 212 (by decide +kernel) (by decide +kernel))⟩
theorem qz_ko37 : qz_KO ((5, 41), 14) := ⟨by decide, Or.inl (qz_in 247 (by decide +kernel) (by decide +kernel))⟩
theorem qz_ko38 : qz_KO ((5, 45), 24) := ⟨by decide, Or.inl (qz_in 266 (by decide +kernel) (by decide +kernel))⟩
theorem qz_ko39 : qz_KO ((5, 49), 23) := ⟨by decide, Or.inl (qz_in 274 (by decide +kernel) (by decide +kernel))⟩
theorem qz_ko40 : qz_KO ((5, 53), 76) := ⟨by decide, Or.inl (qz_in 278 (by decide +kernel) (by decide +kernel))⟩
theorem qz_ko41 : qz_KO ((5, 56), 77) := ⟨by decide, Or.inl (qz_in 281 (by decide +kernel) (by decide +kernel))⟩
theorem qz_ko42 : qz_KO ((5, 59), 31) := ⟨by decide, Or.inl (qz_in 284 (by decide +kernel) (by decide +kernel))⟩
theorem qz_ko43 : qz_KO ((5, 63), 30) := ⟨by decide, Or.inl (qz_in 292 (by decide +kernel) (by decide +kernel))⟩
theorem qz_ko44 : qz_KO ((5, 67), 10) := ⟨by decide, Or.inl (qz_in 345 (by decide +kernel) (by decide +kernel))⟩
theorem qz_ko45 : qz_KO ((5, 70), 80) := ⟨by decide, Or.inl (qz_in 356 (by decide +kernel) (by decide +kernel))⟩
theorem qz_ko46 : qz_KO ((5, 77), 81) := ⟨by decide, Or.inl (qz_in 360 (by decide +kernel) (by decide +kernel))⟩
theorem qz_ko47 : qz_KO ((5, 80), 29) := ⟨by decide, Or.inl (qz_in 368 (by decide +kernel) (by decide +kernel))⟩
theorem qz_ko48 : qz_KO ((5, 84), 6) := ⟨by decide, Or.inl (qz_in 372 (by decide +kernel) (by decide +kernel))⟩
theorem qz_ko49 : qz_KO ((5, 89), 34) := ⟨by decide, Or.inl (qz_in 376 (by decide +kernel) (by decide +kernel))⟩
theorem qz_ko50 : qz_KO ((5, 92), 32) := ⟨by decide, Or.inl (qz_in 396 (by decide +kernel) (by decide +kernel))⟩
theorem qz_ko51 : qz_KO ((5, 101), 79) := ⟨by decide, Or.inl (qz_in 408 (by decide +kernel) (by decide +kernel))⟩
theorem qz_ko52 : qz_KO ((5, 104), 39) := ⟨by decide, Or.inl (qz_in 427 (by decide +kernel) (by decide +kernel))⟩
theorem qz_ko53 : qz_KO ((5, 108), 41) := ⟨by decide, Or.inl (qz_in 431 (by decide +kernel) (by decide +kernel))⟩
theorem qz_ko54 : qz_KO ((5, 112), 38) := ⟨by decide, Or.inl (qz_in 436 (by decide +kernel) (by decide +kernel))⟩
theorem qz_ko55 : qz_KO ((5, 115), 78) := ⟨by decide, Or.inl (qz_in 441 (by decide +kernel) (by decide +kernel))⟩
theorem qz_ko56 : qz_KO ((5, 119), 21) := ⟨by decide, Or.inl (qz_in 448 (by decide +kernel) (by decide +kernel))⟩
theorem qz_ko57 : qz_KO ((5, 122), 22) := ⟨by decide, Or.inl (qz_in 449 (by decide +kernel) (by decide +kernel))⟩
theorem qz_ko58 : qz_KO ((5, 129), 51) := ⟨by decide, Or.inl (qz_in 457 (by decide +kernel) (by decide +kernel))⟩
theorem qz_ko59 : qz_KO ((5, 132), 52) := ⟨by decide, Or.inl (qz_in 473 (by decide +kernel) (by decide +kernel))⟩
theorem qz_ko60 : qz_KO ((5, 141), 9) := ⟨by decide, Or.inl (qz_in 485 (by decide +kernel) (by decide +kernel))⟩
theorem qz_ko61 : qz_KO ((5, 148), 16) := ⟨by decide, Or.inl (qz_in 497 (by decide +kernel) (by decide +kernel))⟩
theorem qz_ko62 : qz_KO ((5, 151), 19) := ⟨by decide, Or.inl (qz_in 505 (by decide +kernel) (by decide +kernel))⟩
theorem qz_ko63 : qz_KO ((5, 160), 42) := ⟨by decide, Or.inl (qz_in 514 (by decide +kernel) (by decide +kernel))⟩
theorem qz_ko64 : qz_KO ((5, 163), 33) := ⟨by decide, Or.inl (qz_in 515 (by decide +kernel) (by decide +kernel))⟩
theorem qz_ko65 : qz_KO ((5, 174), 44) := ⟨by decide, Or.inl (qz_in 520 (by decide +kernel) (by decide +kernel))⟩
theorem qz_ko66 : qz_KO ((5, 178), 45) := ⟨by decide, Or.inl (qz_in 521 (by decide +kernel) (by decide +kernel))⟩
theorem qz_ko67 : qz_KO ((5, 181), 46) := ⟨by decide, Or.inl (qz_in 525 (by decide +kernel) (by decide +kernel))⟩
theorem qz_ko68 : qz_KO ((5, 184), 50) := ⟨by decide, Or.inl (qz_in 529 (by decide +kernel) (by decide +kernel))⟩
theorem qz_ko69 : qz_KO ((5, 187), 27) := ⟨by decide, Or.inl (qz_in 546 (by decide +kernel) (by decide +kernel))⟩
theorem qz_ko70 : qz_KO ((5, 190), 40) := ⟨by decide, Or.inl (qz_in 558 (by decide +kernel) (by decide +kernel))⟩
theorem qz_ko71 : qz_KO ((5, 211), 47) := ⟨by decide, Or.inl (qz_in 412 (by decide +kernel) (by decide +kernel))⟩
theorem qz_ko72 : qz_KO ((6, 36), 83) := ⟨by decide, Or.inl (qz_in 619 (by decide +kernel) (by decide +kernel))⟩
theorem qz_ko73 : qz_KO ((6, 40), 84) := ⟨by decide, Or.inl (qz_in 652 (by decide +kernel) (by decide +kernel))⟩
theorem qz_ko74 : qz_KO ((6, 47), 90) := ⟨by decide, Or.inl (qz_in 660 (by decide +kernel) (by decide +kernel))⟩
theorem qz_ko75 : qz_KO ((6, 50), 89) := ⟨by decide, Or.inl (qz_in 668 (by decide +kernel) (by decide +kernel))⟩
theorem qz_ko76 : qz_KO ((6, 54), 93) := ⟨by decide, Or.inl (qz_in 672 (by decide +kernel) (by decide +kernel))⟩
theorem qz_ko77 : qz_KO ((6, 57), 95) := ⟨by decide, Or.inl (qz_in 656 (by decide +kernel) (by decide +kernel))⟩
theorem qz_ko78 : qz_KO ((6, 60), 86) := ⟨by decide, Or.inl (qz_in 630 (by decide +kernel) (by decide +kernel))⟩
theorem qz_ko79 : qz_KO ((6, 64), 96) := ⟨by decide, Or.inl (qz_in 648 (by decide +kernel) (by decide +kernel))⟩
theorem qz_ko80 : qz_KO ((6, 68), 94) := ⟨by decide, Or.inl (qz_in 664 (by decide +kernel) (by decide +kernel))⟩
theorem qz_ko81 : qz_KO ((6, 71), 97) := ⟨by decide, Or.inl (qz_in 675 (by decide +kernel) (by decide +kernel))⟩
theorem qz_ko82 : qz_KO ((6, 75), 100) := ⟨by decide, Or.inl (qz_in 723 (by decide +kernel) (by decide +kernel))⟩
theorem qz_ko83 : qz_KO ((6, 79), 98) := ⟨by decide, Or.inl (qz_in 644 (by decide +kernel) (by decide +kernel))⟩
theorem qz_ko84 : qz_KO ((6, 82), 85) := ⟨by decide, Or.inl (qz_in 679 (by decide +kernel) (by decide +kernel))⟩
theorem qz_ko85 : qz_KO ((6, 86), 99) := ⟨by decide, Or.inl (qz_in 715 (by decide +kernel) (by decide +kernel))⟩
theorem qz_ko86 : qz_KO ((6, 89), 101) := ⟨by decide, Or.inl (qz_in 719 (by decide +kernel) (by decide +kernel))⟩
theorem qz_ko87 : qz_KO ((6, 92), 104) := ⟨by decide, Or.inl (qz_in 743 (by decide +kernel) (by decide +kernel))⟩
theorem qz_ko88 : qz_KO ((6, 98), 106) := ⟨by decide, Or.inl (qz_in 778 (by decide +kernel) (by decide +kernel))⟩
theorem qz_ko89 : qz_KO ((6, 102), 107) := ⟨by decide, Or.inl (qz_in 782 (by decide +kernel) (by decide +kernel))⟩
theorem qz_ko90 : qz_KO ((6, 106), 108) := ⟨by decide, Or.inl (qz_in 774 (by decide +kernel) (by decide +kernel))⟩
theorem qz_ko91 : qz_KO ((6, 109), 92) := ⟨by decide, Or.inl (qz_in 622 (by decide +kernel) (by decide +kernel))⟩
theorem qz_ko92 : qz_KO ((6, 112), 87) := ⟨by decide, Or.inl (qz_in 634 (by decide +kernel) (by decide +kernel))⟩
theorem qz_ko93 : qz_KO ((6, 115), 88) := ⟨by decide, Or.inl (qz_in 637 (by decide +kernel) (by decide +kernel))⟩
theorem qz_ko94 : qz_KO ((6, 118), 112) := ⟨by decide, Or.inl (qz_in 640 (by decide +kernel) (by decide +kernel))⟩
theorem qz_ko95 : qz_KO ((6, 121), 128) := ⟨by decide, Or.inl (qz_in 687 (by decide +kernel) (by decide +kernel))⟩
theorem qz_ko96 : qz_KO ((6, 127), 91) := ⟨by decide, Or.inl (qz_in 707 (by decide +kernel) (by decide +kernel))⟩
theorem qz_ko97 : qz_KO ((6, 130), 102) := ⟨by decide, Or.inl (qz_in 711 (by decide +kernel) (by decide +kernel))⟩
theorem qz_ko98 : qz_KO ((6, 133), 103) := ⟨by decide, Or.inl (qz_in 727 (by decide +kernel) (by decide +kernel))⟩
theorem qz_ko99 : qz_KO ((6, 136), 105) := ⟨by decide, Or.inl (qz_in 739 (by decide +kernel) (by decide +kernel))⟩
theorem qz_ko100 : qz_KO ((6, 139), 117) := ⟨by decide, Or.inl (qz_in 747 (by decide +kernel) (by decide +kernel))⟩
theorem qz_ko101 : qz_KO ((6, 142), 120) := ⟨by decide, Or.inl (qz_in 759 (by decide +kernel) (by decide +kernel))⟩
theorem qz_ko102 : qz_KO ((6, 146), 109) := ⟨by decide, Or.inl (qz_in 766 (by decide +kernel) (by decide +kernel))⟩
theorem qz_ko103 : qz_KO ((6, 149), 110) := ⟨by decide, Or.inl (qz_in 770 (by decide +kernel) (by decide +kernel))⟩
theorem qz_ko104 : qz_KO ((6, 158), 125) := ⟨by decide, Or.inl (qz_in 695 (by decide +kernel) (by decide +kernel))⟩
theorem qz_ko105 : qz_KO ((6, 165), 126) := ⟨by decide, Or.inl (qz_in 699 (by decide +kernel) (by decide +kernel))⟩
theorem qz_ko106 : qz_KO ((6, 169), 127) := ⟨by decide, Or.inl (qz_in 691 (by decide +kernel) (by decide +kernel))⟩
theorem qz_ko107 : qz_KO ((6, 175), 133) := ⟨by decide, Or.inl (qz_in 814 (by decide +kernel) (by decide +kernel))⟩
theorem qz_ko108 : qz_KO ((6, 178), 139) := ⟨by decide, Or.inl (qz_in 838 (by decide +kernel) (by decide +kernel))⟩
theorem qz_ko109 : qz_KO ((8, 9), 54) := ⟨by decide, Or.inl (qz_in 57 (by decide +kernel) (by decide +kernel))⟩
theorem qz_ko110 : qz_KO ((8, 12), 82) := ⟨by decide, Or.inl (qz_in 564 (by decide +kernel) (by decide +kernel))⟩
theorem qz_ko111 : qz_KO ((8, 13), 55) := ⟨by decide, Or.inl (qz_in 243 (by decide +kernel) (by decide +kernel))⟩
theorem qz_ko112 : qz_KO ((8, 17), 111) := ⟨by decide, Or.inl (qz_in 615 (by decide +kernel) (by decide +kernel))⟩
theorem qz_ko113 : qz_KO ((8, 18), 56) := ⟨by decide, Or.inl (qz_in 270 (by decide +kernel) (by decide +kernel))⟩
theorem qz_ko114 : qz_KO ((8, 22), 113) := ⟨by decide, Or.inl (qz_in 626 (by decide +kernel) (by decide +kernel))⟩
theorem qz_ko115 : qz_KO ((8, 23), 57) := ⟨by decide, Or.inl (qz_in 341 (by decide +kernel) (by decide +kernel))⟩
theorem qz_ko116 : qz_KO ((8, 27), 114) := ⟨by decide, Or.inl (qz_in 683 (by decide +kernel) (by decide +kernel))⟩
theorem qz_ko117 : qz_KO ((8, 28), 58) := ⟨by decide, Or.inl (qz_in 364 (by decide +kernel) (by decide +kernel))⟩
theorem qz_ko118 : qz_KO ((8, 31), 115) := ⟨by decide, Or.inl (qz_in 703 (by decide +kernel) (by decide +kernel))⟩
theorem qz_ko119 : qz_KO ((8, 32), 59) := ⟨by decide, Or.inl (qz_in 400 (by decide +kernel) (by decide +kernel))⟩
theorem qz_ko120 : qz_KO ((8, 36), 116) := ⟨by decide, Or.inl (qz_in 731 (by decide +kernel) (by decide +kernel))⟩
theorem qz_ko121 : qz_KO ((8, 37), 60) := ⟨by decide, Or.inl (qz_in 404 (by decide +kernel) (by decide +kernel))⟩
theorem qz_ko122 : qz_KO ((8, 40), 118) := ⟨by decide, Or.inl (qz_in 735 (by decide +kernel) (by decide +kernel))⟩
theorem qz_ko123 : qz_KO ((8, 41), 61) := ⟨by decide, Or.inl (qz_in 432 (by decide +kernel) (by decide +kernel))⟩
theorem qz_ko124 : qz_KO ((8, 44), 119) := ⟨by decide, Or.inl (qz_in 751 (by decide +kernel) (by decide +kernel))⟩
theorem qz_ko125 : qz_KO ((8, 45), 62) := ⟨by decide, Or.inl (qz_in 437 (by decide +kernel) (by decide +kernel))⟩
theorem qz_ko126 : qz_KO ((8, 48), 121) := ⟨by decide, Or.inl (qz_in 755 (by decide +kernel) (by decide +kernel))⟩
theorem qz_ko127 : qz_KO ((8, 49), 63) := ⟨by decide, Or.inl (qz_in 453 (by decide +kernel) (by decide +kernel))⟩
theorem qz_ko128 : qz_KO ((8, 52), 122) := ⟨by decide, Or.inl (qz_in 762 (by decide +kernel) (by decide +kernel))⟩
theorem qz_ko129 : qz_KO ((8, 53), 64) := ⟨by decide, Or.inl (qz_in 481 (by decide +kernel) (by decide +kernel))⟩
theorem qz_ko130 : qz_KO ((8, 57), 123) := ⟨by decide, Or.inl (qz_in 786 (by decide +kernel) (by decide +kernel))⟩
theorem qz_ko131 : qz_KO ((8, 58), 65) := ⟨by decide, Or.inl (qz_in 489 (by decide +kernel) (by decide +kernel))⟩
theorem qz_ko132 : qz_KO ((8, 61), 124) := ⟨by decide, Or.inl (qz_in 790 (by decide +kernel) (by decide +kernel))⟩
theorem qz_ko133 : qz_KO ((8, 62), 66) := ⟨by decide, Or.inl (qz_in 493 (by decide +kernel) (by decide +kernel))⟩
theorem qz_ko134 : qz_KO ((8, 65), 129) := ⟨by decide, Or.inl (qz_in 794 (by decide +kernel) (by decide +kernel))⟩
theorem qz_ko135 : qz_KO ((8, 66), 67) := ⟨by decide, Or.inl (qz_in 501 (by decide +kernel) (by decide +kernel))⟩
theorem qz_ko136 : qz_KO ((8, 69), 130) := ⟨by decide, Or.inl (qz_in 798 (by decide +kernel) (by decide +kernel))⟩
theorem qz_ko137 : qz_KO ((8, 70), 68) := ⟨by decide, Or.inl (qz_in 506 (by decide +kernel) (by decide +kernel))⟩
theorem qz_ko138 : qz_KO ((8, 73), 131) := ⟨by decide, Or.inl (qz_in 802 (by decide +kernel) (by decide +kernel))⟩
theorem qz_ko139 : qz_KO ((8, 74), 69) := ⟨by decide, Or.inl (qz_in 510 (by decide +kernel) (by decide +kernel))⟩
theorem qz_ko140 : qz_KO ((8, 77), 132) := ⟨by decide, Or.inl (qz_in 806 (by decide +kernel) (by decide +kernel))⟩
theorem qz_ko141 : qz_KO ((8, 78), 70) := ⟨by decide, Or.inl (qz_in 516 (by decide +kernel) (by decide +kernel))⟩
theorem qz_ko142 : qz_KO ((8, 81), 134) := ⟨by decide, Or.inl (qz_in 810 (by decide +kernel) (by decide +kernel))⟩
theorem qz_ko143 : qz_KO ((8, 82), 71) := ⟨by decide, Or.inl (qz_in 530 (by decide +kernel) (by decide +kernel))⟩
theorem qz_ko144 : qz_KO ((8, 85), 135) := ⟨by decide, Or.inl (qz_in 818 (by decide +kernel) (by decide +kernel))⟩
theorem qz_ko145 : qz_KO ((8, 86), 72) := ⟨by decide, Or.inl (qz_in 534 (by decide +kernel) (by decide +kernel))⟩
theorem qz_ko146 : qz_KO ((8, 89), 136) := ⟨by decide, Or.inl (qz_in 822 (by decide +kernel) (by decide +kernel))⟩
theorem qz_ko147 : qz_KO ((8, 90), 73) := ⟨by decide, Or.inl (qz_in 538 (by decide +kernel) (by decide +kernel))⟩
theorem qz_ko148 : qz_KO ((8, 93), 137) := ⟨by decide, Or.inl (qz_in 826 (by decide +kernel) (by decide +kernel))⟩
theorem qz_ko149 : qz_KO ((8, 94), 74) := ⟨by decide, Or.inl (qz_in 542 (by decide +kernel) (by decide +kernel))⟩
theorem qz_ko150 : qz_KO ((8, 97), 138) := ⟨by decide, Or.inl (qz_in 830 (by decide +kernel) (by decide +kernel))⟩
theorem qz_ko151 : qz_KO ((8, 98), 75) := ⟨by decide, Or.inl (qz_in 554 (by decide +kernel) (by decide +kernel))⟩
theorem qz_ko152 : qz_KO ((8, 101), 140) := ⟨by decide, Or.inl (qz_in 834 (by decide +kernel) (by decide +kernel))⟩
set_option maxRecDepth 20000 in
theorem qz_clL_ok : ∀ e ∈ qz_clL, qz_KO e := List.forall_mem_cons.mpr ⟨qz_ko0, List.forall_mem_cons.mpr ⟨qz_ko1, List.forall_mem_cons.mpr ⟨qz_ko2, List.forall_mem_cons.mpr ⟨qz_ko3, List.forall_mem_cons.mpr ⟨qz_ko4, List.forall_mem_cons.mpr ⟨qz_ko5, List.forall_mem_cons.mpr ⟨qz_ko6, List.forall_mem_cons.mpr ⟨qz_ko7, List.forall_mem_cons.mpr ⟨qz_ko8, List.forall_mem_cons.mpr ⟨qz_ko9, List.forall_mem_cons.mpr ⟨qz_ko10, List.forall_mem_cons.mpr ⟨qz_ko11, List.forall_mem_cons.mpr ⟨qz_ko12, List.forall_mem_cons.mpr ⟨qz_ko13, List.forall_mem_cons.mpr ⟨qz_ko14, List.forall_mem_cons.mpr ⟨qz_ko15, List.forall_mem_cons.mpr ⟨qz_ko16, List.forall_mem_cons.mpr ⟨qz_ko17, List.forall_mem_cons.mpr ⟨qz_ko18, List.forall_mem_cons.mpr ⟨qz_ko19, List.forall_mem_cons.mpr ⟨qz_ko20, List.forall_mem_cons.mpr ⟨qz_ko21, List.forall_mem_cons.mpr ⟨qz_ko22, List.forall_mem_cons.mpr ⟨qz_ko23, List.forall_mem_cons.mpr ⟨qz_ko24, List.forall_mem_cons.mpr ⟨qz_ko25, List.forall_mem_cons.mpr ⟨qz_ko26, List.forall_mem_cons.mpr ⟨qz_ko27, List.forall_mem_cons.mpr ⟨qz_ko28, List.forall_mem_cons.mpr ⟨qz_ko29, List.forall_mem_cons.mpr ⟨qz_ko30, List.forall_mem_cons.mpr ⟨qz_ko31, List.forall_mem_cons.mpr ⟨qz_ko32, List.forall_mem_cons.mpr ⟨qz_ko33, List.forall_mem_cons.mpr ⟨qz_ko34, List.forall_mem_cons.mpr ⟨qz_ko35, List.forall_mem_cons.mpr ⟨qz_ko36, List.forall_mem_cons.mpr ⟨qz_ko37, List.forall_mem_cons.mpr ⟨qz_ko38, List.forall_mem_cons.mpr ⟨qz_ko39, List.forall_mem_cons.mpr ⟨qz_ko40, List.forall_mem_cons.mpr ⟨qz_ko41, List.forall_mem_cons.mpr ⟨qz_ko42, List.forall_mem_cons.mpr ⟨qz_ko43, List.forall_mem_cons.mpr ⟨qz_ko44, List.forall_mem_cons.mpr ⟨qz_ko45, List.forall_mem_cons.mpr ⟨qz_ko46, List.forall_mem_cons.mpr ⟨qz_ko47, List.forall_mem_cons.mpr ⟨qz_ko48, List.forall_mem_cons.mpr ⟨qz_ko49, List.forall_mem_cons.mpr ⟨qz_ko50, List.forall_mem_cons.mpr ⟨qz_ko51, List.forall_mem_cons.mpr ⟨qz_ko52, List.forall_mem_cons.mpr ⟨qz_ko53, List.forall_mem_cons.mpr ⟨qz_ko54, List.forall_mem_cons.mpr ⟨qz_ko55, List.forall_mem_cons.mpr ⟨qz_ko56, List.forall_mem_cons.mpr ⟨qz_ko57, List.forall_mem_cons.mpr ⟨qz_ko58, List.forall_mem_cons.mpr ⟨qz_ko59, List.forall_mem_cons.mpr ⟨qz_ko60, List.forall_mem_cons.mpr ⟨qz_ko61, List.forall_mem_cons.mpr ⟨qz_ko62, List.forall_mem_cons.mpr ⟨qz_ko63, List.forall_mem_cons.mpr ⟨qz_ko64, List.forall_mem_cons.mpr ⟨qz_ko65, List.forall_mem_cons.mpr ⟨qz_ko66, List.forall_mem_cons.mpr ⟨qz_ko67, List.forall_mem_cons.mpr ⟨qz_ko68, List.forall_mem_cons.mpr ⟨qz_ko69, List.forall_mem_cons.mpr ⟨qz_ko70, List.forall_mem_cons.mpr ⟨qz_ko71, List.forall_mem_cons.mpr ⟨qz_ko72, List.forall_mem_cons.mpr ⟨qz_ko73, List.forall_mem_cons.mpr ⟨qz_ko74, List.forall_mem_cons.mpr ⟨qz_ko75, List.forall_mem_cons.mpr ⟨qz_ko76, List.forall_mem_cons.mpr ⟨qz_ko77, List.forall_mem_cons.mpr ⟨qz_ko78, List.forall_mem_cons.mpr ⟨qz_ko79, List.forall_mem_cons.mpr ⟨qz_ko80, List.forall_mem_cons.mpr ⟨qz_ko81, List.forall_mem_cons.mpr ⟨qz_ko82, List.forall_mem_cons.mpr ⟨qz_ko83, List.forall_mem_cons.mpr ⟨qz_ko84, List.forall_mem_cons.mpr ⟨qz_ko85, List.forall_mem_cons.mpr ⟨qz_ko86, List.forall_mem_cons.mpr ⟨qz_ko87, List.forall_mem_cons.mpr ⟨qz_ko88, List.forall_mem_cons.mpr ⟨qz_ko89, List.forall_mem_cons.mpr ⟨qz_ko90, List.forall_mem_cons.mpr ⟨qz_ko91, List.forall_mem_cons.mpr ⟨qz_ko92, List.forall_mem_cons.mpr ⟨qz_ko93, List.forall_mem_cons.mpr ⟨qz_ko94, List.forall_mem_cons.mpr ⟨qz_ko95, List.forall_mem_cons.mpr ⟨qz_ko96, List.forall_mem_cons.mpr ⟨qz_ko97, List.forall_mem_cons.mpr ⟨qz_ko98, List.forall_mem_cons.mpr ⟨qz_ko99, List.forall_mem_cons.mpr ⟨qz_ko100, List.forall_mem_cons.mpr ⟨qz_ko101, List.forall_mem_cons.mpr ⟨qz_ko102, List.forall_mem_cons.mpr ⟨qz_ko103, List.forall_mem_cons.mpr ⟨qz_ko104, List.forall_mem_cons.mpr ⟨qz_ko105, List.forall_mem_cons.mpr ⟨qz_ko106, List.forall_mem_cons.mpr ⟨qz_ko107, List.forall_mem_cons.mpr ⟨qz_ko108, List.forall_mem_cons.mpr ⟨qz_ko109, List.forall_mem_cons.mpr ⟨qz_ko110, List.forall_mem_cons.mpr ⟨qz_ko111, List.forall_mem_cons.mpr ⟨qz_ko112, List.forall_mem_cons.mpr ⟨qz_ko113, List.forall_mem_cons.mpr ⟨qz_ko114, List.forall_mem_cons.mpr ⟨qz_ko115, List.forall_mem_cons.mpr ⟨qz_ko116, List.forall_mem_cons.mpr ⟨qz_ko117, List.forall_mem_cons.mpr ⟨qz_ko118, List.forall_mem_cons.mpr ⟨qz_ko119, List.forall_mem_cons.mpr ⟨qz_ko120, List.forall_mem_cons.mpr ⟨qz_ko121, List.forall_mem_cons.mpr ⟨qz_ko122, List.forall_mem_cons.mpr ⟨qz_ko123, List.forall_mem_cons.mpr ⟨qz_ko124, List.forall_mem_cons.mpr ⟨qz_ko125, List.forall_mem_cons.mpr ⟨qz_ko126, List.forall_mem_cons.mpr ⟨qz_ko127, List.forall_mem_cons.mpr ⟨qz_ko128, List.forall_mem_cons.mpr ⟨qz_ko129, List.forall_mem_cons.mpr ⟨qz_ko130, List.forall_mem_cons.mpr ⟨qz_ko131, List.forall_mem_cons.mpr ⟨qz_ko132, List.forall_mem_cons.mpr ⟨qz_ko133, List.forall_mem_cons.mpr ⟨qz_ko134, List.forall_mem_cons.mpr ⟨qz_ko135, List.forall_mem_cons.mpr ⟨qz_ko136, List.forall_mem_cons.mpr ⟨qz_ko137, List.forall_mem_cons.mpr ⟨qz_ko138, List.forall_mem_cons.mpr ⟨qz_ko139, List.forall_mem_cons.mpr ⟨qz_ko140, List.forall_mem_cons.mpr ⟨qz_ko141, List.forall_mem_cons.mpr ⟨qz_ko142, List.forall_mem_cons.mpr ⟨qz_ko143, List.forall_mem_cons.mpr ⟨qz_ko144, List.forall_mem_cons.mpr ⟨qz_ko145, List.forall_mem_cons.mpr ⟨qz_ko146, List.forall_mem_cons.mpr ⟨qz_ko147, List.forall_mem_cons.mpr ⟨qz_ko148, List.forall_mem_cons.mpr ⟨qz_ko149, List.forall_mem_cons.mpr ⟨qz_ko150, List.forall_mem_cons.mpr ⟨qz_ko151, List.forall_mem_cons.mpr ⟨qz_ko152, fun _ h => absurd h List.not_mem_nil⟩⟩⟩⟩⟩⟩⟩⟩⟩⟩⟩⟩⟩⟩⟩⟩⟩⟩⟩⟩⟩⟩⟩⟩⟩⟩⟩⟩⟩⟩⟩⟩⟩⟩⟩⟩⟩⟩⟩⟩⟩⟩⟩⟩⟩⟩⟩⟩⟩⟩⟩⟩⟩⟩⟩⟩⟩⟩⟩⟩⟩⟩⟩⟩⟩⟩⟩⟩⟩⟩⟩⟩⟩⟩⟩⟩⟩⟩⟩⟩⟩⟩⟩⟩⟩⟩⟩⟩⟩⟩⟩⟩⟩⟩⟩⟩⟩⟩⟩⟩⟩⟩⟩⟩⟩⟩⟩⟩⟩⟩⟩⟩⟩⟩⟩⟩⟩⟩⟩⟩⟩⟩⟩⟩⟩⟩⟩⟩⟩⟩⟩⟩⟩⟩⟩⟩⟩⟩⟩⟩⟩⟩⟩⟩⟩⟩⟩⟩⟩⟩⟩⟩⟩
theorem qz_cl_ok {c i x : Nat} (h : qz_cl c i = some x) : qz_KO ((c, i), x) := qz_fm qz_clL_ok (qz_lk h)
theorem qz_c_0_35 : qz_cl 0 35 = some 1 := by decide +kernel
theorem qz_c_1_28 : qz_cl 1 28 = some 17 := by decide +kernel
theorem qz_c_1_29 : qz_cl 1 29 = some 11 := by decide +kernel
theorem qz_c_1_33 : qz_cl 1 33 = some 12 := by decide +kernel
theorem qz_c_2_21 : qz_cl 2 21 = some 18 := by decide +kernel
theorem qz_c_2_22 : qz_cl 2 22 = some 15 := by decide +kernel
theorem qz_c_2_25 : qz_cl 2 25 = some 19 := by decide +kernel
theorem qz_c_4_55 : qz_cl 4 55 = some 0 := by decide +kernel
theorem qz_c_4_56 : qz_cl 4 56 = some 20 := by decide +kernel
theorem qz_c_4_60 : qz_cl 4 60 = some 7 := by decide +kernel
theorem qz_c_4_64 : qz_cl 4 64 = some 25 := by decide +kernel
theorem qz_c_4_68 : qz_cl 4 68 = some 28 := by decide +kernel
theorem qz_c_4_71 : qz_cl 4 71 = some 26 := by decide +kernel
theorem qz_c_4_75 : qz_cl 4 75 = some 1 := by decide +kernel
theorem qz_c_4_82 : qz_cl 4 82 = some 33 := by decide +kernel
theorem qz_c_4_99 : qz_cl 4 99 = some 2 := by decide +kernel
theorem qz_c_4_102 : qz_cl 4 102 = some 23 := by decide +kernel
theorem qz_c_4_106 : qz_cl 4 106 = some 38 := by decide +kernel
theorem qz_c_4_110 : qz_cl 4 110 = some 44 := by decide +kernel
theorem qz_c_4_114 : qz_cl 4 114 = some 21 := by decide +kernel
theorem qz_c_4_117 : qz_cl 4 117 = some 42 := by decide +kernel
theorem qz_c_4_121 : qz_cl 4 121 = some 35 := by decide +kernel
theorem qz_c_4_125 : qz_cl 4 125 = some 36 := by decide +kernel
theorem qz_c_4_129 : qz_cl 4 129 = some 76 := by decide +kernel
theorem qz_c_4_132 : qz_cl 4 132 = some 37 := by decide +kernel
theorem qz_c_4_140 : qz_cl 4 140 = some 41 := by decide +kernel
theorem qz_c_4_143 : qz_cl 4 143 = some 3 := by decide +kernel
theorem qz_c_4_146 : qz_cl 4 146 = some 4 := by decide +kernel
theorem qz_c_4_153 : qz_cl 4 153 = some 48 := by decide +kernel
theorem qz_c_4_156 : qz_cl 4 156 = some 43 := by decide +kernel
theorem qz_c_4_160 : qz_cl 4 160 = some 5 := by decide +kernel
theorem qz_c_4_164 : qz_cl 4 164 = some 49 := by decide +kernel
theorem qz_c_4_168 : qz_cl 4 168 = some 50 := by decide +kernel
theorem qz_c_4_171 : qz_cl 4 171 = some 53 := by decide +kernel
theorem qz_c_5_9 : qz_cl 5 9 = some 18 := by decide +kernel
theorem qz_c_5_18 : qz_cl 5 18 = some 8 := by decide +kernel
theorem qz_c_5_25 : qz_cl 5 25 = some 13 := by decide +kernel
theorem qz_c_5_41 : qz_cl 5 41 = some 14 := by decide +kernel
theorem qz_c_5_45 : qz_cl 5 45 = some 24 := by decide +kernel
theorem qz_c_5_49 : qz_cl 5 49 = some 23 := by decide +kernel
theorem qz_c_5_53 : qz_cl 5 53 = some 76 := by decide +kernel
theorem qz_c_5_56 : qz_cl 5 56 = some 77 := by decide +kernel
theorem qz_c_5_59 : qz_cl 5 59 = some 31 := by decide +kernel
theorem qz_c_5_63 : qz_cl 5 63 = some 30 := by decide +kernel
theorem qz_c_5_67 : qz_cl 5 67 = some 10 := by decide +kernel
theorem qz_c_5_70 : qz_cl 5 70 = some 80 := by decide +kernel
theorem qz_c_5_77 : qz_cl 5 77 = some 81 := by decide +kernel
theorem qz_c_5_80 : qz_cl 5 80 = some 29 := by decide +kernel
theorem qz_c_5_84 : qz_cl 5 84 = some 6 := by decide +kernel
theorem qz_c_5_89 : qz_cl 5 89 = some 34 := by decide +kernel
theorem qz_c_5_92 : qz_cl 5 92 = some 32 := by decide +kernel
theorem qz_c_5_101 : qz_cl 5 101 = some 79 := by decide +kernel
theorem qz_c_5_104 : qz_cl 5 104 = some 39 := by decide +kernel
theorem qz_c_5_108 : qz_cl 5 108 = some 41 := by decide +kernel
theorem qz_c_5_112 : qz_cl 5 112 = some 38 := by decide +kernel
theorem qz_c_5_115 : qz_cl 5 115 = some 78 := by decide +kernel
theorem qz_c_5_119 : qz_cl 5 119 = some 21 := by decide +kernel
theorem qz_c_5_122 : qz_cl 5 122 = some 22 := by decide +kernel
theorem qz_c_5_129 : qz_cl 5 129 = some 51 := by decide +kernel
theorem qz_c_5_132 : qz_cl 5 132 = some 52 := by decide +kernel
theorem qz_c_5_141 : qz_cl 5 141 = some 9 := by decide +kernel
theorem qz_c_5_148 : qz_cl 5 148 = some 16 := by decide +kernel
theorem qz_c_5_151 : qz_cl 5 151 = some 19 := by decide +kernel
theorem qz_c_5_160 : qz_cl 5 160 = some 42 := by decide +kernel
theorem qz_c_5_163 : qz_cl 5 163 = some 33 := by decide +kernel
theorem qz_c_5_174 : qz_cl 5 174 = some 44 := by decide +kernel
theorem qz_c_5_178 : qz_cl 5 178 = some 45 := by decide +kernel
theorem qz_c_5_181 : qz_cl 5 181 = some 46 := by decide +kernel
theorem qz_c_5_184 : qz_cl 5 184 = some 50 := by decide +kernel
theorem qz_c_5_187 : qz_cl 5 187 = some 27 := by decide +kernel
theorem qz_c_5_190 : qz_cl 5 190 = some 40 := by decide +kernel
theorem qz_c_5_211 : qz_cl 5 211 = some 47 := by decide +kernel
theorem qz_c_6_36 : qz_cl 6 36 = some 83 := by decide +kernel
theorem qz_c_6_40 : qz_cl 6 40 = some 84 := by decide +kernel
theorem qz_c_6_47 : qz_cl 6 47 = some 90 := by decide +kernel
theorem qz_c_6_50 : qz_cl 6 50 = some 89 := by decide +kernel
theorem qz_c_6_54 : qz_cl 6 54 = some 93 := by decide +kernel
theorem qz_c_6_57 : qz_cl 6 57 = some 95 := by decide +kernel
theorem qz_c_6_60 : qz_cl 6 60 = some 86 := by decide +kernel
theorem qz_c_6_64 : qz_cl 6 64 = some 96 := by decide +kernel
theorem qz_c_6_68 : qz_cl 6 68 = some 94 := by decide +kernel
theorem qz_c_6_71 : qz_cl 6 71 = some 97 := by decide +kernel
theorem qz_c_6_75 : qz_cl 6 75 = some 100 := by decide +kernel
theorem qz_c_6_79 : qz_cl 6 79 = some 98 := by decide +kernel
theorem qz_c_6_82 : qz_cl 6 82 = some 85 := by decide +kernel
theorem qz_c_6_86 : qz_cl 6 86 = some 99 := by decide +kernel
theorem qz_c_6_89 : qz_cl 6 89 = some 101 := by decide +kernel
theorem qz_c_6_92 : qz_cl 6 92 = some 104 := by decide +kernel
theorem qz_c_6_98 : qz_cl 6 98 = some 106 := by decide +kernel
theorem qz_c_6_102 : qz_cl 6 102 = some 107 := by decide +kernel
theorem qz_c_6_106 : qz_cl 6 106 = some 108 := by decide +kernel
theorem qz_c_6_109 : qz_cl 6 109 = some 92 := by decide +kernel
theorem qz_c_6_112 : qz_cl 6 112 = some 87 := by decide +kernel
theorem qz_c_6_115 : qz_cl 6 115 = some 88 := by decide +kernel
theorem qz_c_6_118 : qz_cl 6 118 = some 112 := by decide +kernel
theorem qz_c_6_121 : qz_cl 6 121 = some 128 := by decide +kernel
theorem qz_c_6_127 : qz_cl 6 127 = some 91 := by decide +kernel
theorem qz_c_6_130 : qz_cl 6 130 = some 102 := by decide +kernel
theorem qz_c_6_133 : qz_cl 6 133 = some 103 := by decide +kernel
theorem qz_c_6_136 : qz_cl 6 136 = some 105 := by decide +kernel
theorem qz_c_6_139 : qz_cl 6 139 = some 117 := by decide +kernel
theorem qz_c_6_142 : qz_cl 6 142 = some 120 := by decide +kernel
theorem qz_c_6_146 : qz_cl 6 146 = some 109 := by decide +kernel
theorem qz_c_6_149 : qz_cl 6 149 = some 110 := by decide +kernel
theorem qz_c_6_158 : qz_cl 6 158 = some 125 := by decide +kernel
theorem qz_c_6_165 : qz_cl 6 165 = some 126 := by decide +kernel
theorem qz_c_6_169 : qz_cl 6 169 = some 127 := by decide +kernel
theorem qz_c_6_175 : qz_cl 6 175 = some 133 := by decide +kernel
theorem qz_c_6_178 : qz_cl 6 178 = some 139 := by decide +kernel
theorem qz_c_8_9 : qz_cl 8 9 = some 54 := by decide +kernel
theorem qz_c_8_12 : qz_cl 8 12 = some 82 := by decide +kernel
theorem qz_c_8_13 : qz_cl 8 13 = some 55 := by decide +kernel
theorem qz_c_8_17 : qz_cl 8 17 = some 111 := by decide +kernel
theorem qz_c_8_18 : qz_cl 8 18 = some 56 := by decide +kernel
theorem qz_c_8_22 : qz_cl 8 22 = some 113 := by decide +kernel
theorem qz_c_8_23 : qz_cl 8 23 = some 57 := by decide +kernel
theorem qz_c_8_27 : qz_cl 8 27 = some 114 := by decide +kernel
theorem qz_c_8_28 : qz_cl 8 28 = some 58 := by decide +kernel
theorem qz_c_8_31 : qz_cl 8 31 = some 115 := by decide +kernel
theorem qz_c_8_32 : qz_cl 8 32 = some 59 := by decide +kernel
theorem qz_c_8_36 : qz_cl 8 36 = some 116 := by decide +kernel
theorem qz_c_8_37 : qz_cl 8 37 = some 60 := by decide +kernel
theorem qz_c_8_40 : qz_cl 8 40 = some 118 := by decide +kernel
theorem qz_c_8_41 : qz_cl 8 41 = some 61 := by decide +kernel
theorem qz_c_8_44 : qz_cl 8 44 = some 119 := by decide +kernel
theorem qz_c_8_45 : qz_cl 8 45 = some 62 := by decide +kernel
theorem qz_c_8_48 : qz_cl 8 48 = some 121 := by decide +kernel
theorem qz_c_8_49 : qz_cl 8 49 = some 63 := by decide +kernel
theorem qz_c_8_52 : qz_cl 8 52 = some 122 := by decide +kernel
theorem qz_c_8_53 : qz_cl 8 53 = some 64 := by decide +kernel
theorem qz_c_8_57 : qz_cl 8 57 = some 123 := by decide +kernel
theorem qz_c_8_58 : qz_cl 8 58 = some 65 := by decide +kernel
theorem qz_c_8_61 : qz_cl 8 61 = some 124 := by decide +kernel
theorem qz_c_8_62 : qz_cl 8 62 = some 66 := by decide +kernel
theorem qz_c_8_65 : qz_cl 8 65 = some 129 := by decide +kernel
theorem qz_c_8_66 : qz_cl 8 66 = some 67 := by decide +kernel
theorem qz_c_8_69 : qz_cl 8 69 = some 130 := by decide +kernel
theorem qz_c_8_70 : qz_cl 8 70 = some 68 := by decide +kernel
theorem qz_c_8_73 : qz_cl 8 73 = some 131 := by decide +kernel
theorem qz_c_8_74 : qz_cl 8 74 = some 69 := by decide +kernel
theorem qz_c_8_77 : qz_cl 8 77 = some 132 := by decide +kernel
theorem qz_c_8_78 : qz_cl 8 78 = some 70 := by decide +kernel
theorem qz_c_8_81 : qz_cl 8 81 = some 134 := by decide +kernel
theorem qz_c_8_82 : qz_cl 8 82 = some 71 := by decide +kernel
theorem qz_c_8_85 : qz_cl 8 85 = some 135 := by decide +kernel
theorem qz_c_8_86 : qz_cl 8 86 = some 72 := by decide +kernel
theorem qz_c_8_89 : qz_cl 8 89 = some 136 := by decide +kernel
theorem qz_c_8_90 : qz_cl 8 90 = some 73 := by decide +kernel
theorem qz_c_8_93 : qz_cl 8 93 = some 137 := by decide +kernel
theorem qz_c_8_94 : qz_cl 8 94 = some 74 := by decide +kernel
theorem qz_c_8_97 : qz_cl 8 97 = some 138 := by decide +kernel
theorem qz_c_8_98 : qz_cl 8 98 = some 75 := by decide +kernel
theorem qz_c_8_101 : qz_cl 8 101 = some 140 := by decide +kernel
/-- the links to Object() -/
def qz_obL : List (Nat × Nat) := [(0, 1), (1, 3), (2, 3), (3, 1), (4, 3), (5, 1), (6, 1)]
def qz_ob (c i : Nat) : Bool := qz_obL.contains (c, i)
def qz_BO (e : Nat × Nat) : Prop := Cond.methodLink (qz_ow e.1) e.2 objectInit ∈ qz_tb
theorem qz_bo0 : qz_BO (0, 1) := qz_in 77 (by decide +kernel) (by decide +kernel)
theorem qz_bo1 : qz_BO (1, 3) := qz_in 169 (by decide +kernel) (by decide +kernel)
theorem qz_bo2 : qz_BO (2, 3) := qz_in 215 (by decide +kernel) (by decide +kernel)
theorem qz_bo3 : qz_BO (3, 1) := qz_in 176 (by decide +kernel) (by decide +kernel)
theorem qz_bo4 : qz_BO (4, 3) := qz_in 68 (by decide +kernel) (by decide +kernel)
theorem qz_bo5 : qz_BO (5, 1) := qz_in 60 (by decide +kernel) (by decide +kernel)
theorem qz_bo6 : qz_BO (6, 1) := qz_in 567 (by decide +kernel) (by decide +kernel)
set_option maxRecDepth 20000 in
theorem qz_obL_ok : ∀ e ∈ qz_obL, qz_BO e := List.forall_mem_cons.mpr ⟨qz_bo0, List.forall_mem_cons.mpr ⟨qz_bo1, List.forall_mem_cons.mpr ⟨qz_bo2, List.forall_mem_cons.mpr ⟨qz_bo3, List.forall_mem_cons.mpr ⟨qz_bo4, List.forall_mem_cons.mpr ⟨qz_bo5, List.forall_mem_cons.mpr ⟨qz_bo6, fun _ h => absurd h List.not_mem_nil⟩⟩⟩⟩⟩⟩⟩
theorem qz_ob_ok {c i : Nat} (h : qz_ob c i = true) : qz_BO (c, i) := qz_fm qz_obL_ok (by simpa [qz_ob, List.contains_iff_mem] using h)
def qz_mtL : List ((Nat × Nat) × Nat) := [((4, 135), 0), ((4, 150), 1)]
def qz_mt (c i : Nat) : Option Nat := qz_mtL.lookup (c, i)
def qz_TO (e : (Nat × Nat) × Nat) : Prop := (e.2 = 0 ∧ Cond.methodLink (qz_ow e.1.1) e.1.2 Lib.Math.max.name ∈ qz_tb) ∨ (e.2 = 1 ∧ Cond.methodLink (qz_ow e.1.1) e.1.2 Lib.Math.abs.name ∈ qz_tb)
theorem qz_to0 : qz_TO ((4, 135), 0) := Or.inl ⟨rfl, qz_in 338 (by decide +kernel) (by decide +kernel)⟩
theorem qz_to1 : qz_TO ((4, 150), 1) := Or.inr ⟨rfl, qz_in 416 (by decide +kernel) (by decide +kernel)⟩
set_option maxRecDepth 20000 in
theorem qz_mtL_ok : ∀ e ∈ qz_mtL, qz_TO e := List.forall_mem_cons.mpr ⟨qz_to0, List.forall_mem_cons.mpr ⟨qz_to1, fun _ h => absurd h List.not_mem_nil⟩⟩
theorem qz_mt_ok {c i x : Nat} (h : qz_mt c i = some x) : qz_TO ((c, i), x) := qz_fm qz_mtL_ok (qz_lk h)
theorem qz_m_4_135 : qz_mt 4 135 = some 0 := by decide +kernel
theorem qz_m_4_150 : qz_mt 4 150 = some 1 := by decide +kernel
theorem qz_mw_max : Cond.static Lib.Math.max.name ∈ qz_tb ∧ Cond.initialized "java/lang/Math" ∈ qz_tb ∧ Cond.code Lib.Math.max.name Lib.Math.max.code 2 (some .int) ∈ qz_tb := ⟨qz_in 339 (by decide +kernel) (by decide +kernel), qz_in 54 (by decide +kernel) (by decide +kernel), qz_in 340 (by decide +kernel) (by decide +kernel)⟩
theorem qz_mw_abs : Cond.static Lib.Math.abs.name ∈ qz_tb ∧ Cond.initialized "java/lang/Math" ∈ qz_tb ∧ Cond.code Lib.Math.abs.name Lib.Math.abs.code 1 (some .int) ∈ qz_tb := ⟨qz_in 417 (by decide +kernel) (by decide +kernel), qz_in 54 (by decide +kernel) (by decide +kernel), qz_in 418 (by decide +kernel) (by decide +kernel)⟩
theorem qz_oi : Cond.instanceMethod objectInit ∈ qz_tb := qz_in 61 (by decide +kernel) (by decide +kernel)
theorem qz_oc : Cond.code objectInit ⟨#[0xb1]⟩ 1 none ∈ qz_tb := qz_in 62 (by decide +kernel) (by decide +kernel)
theorem qz_ac_int : Cond.arrayClass .int ∈ qz_tb := qz_in 118 (by decide +kernel) (by decide +kernel)
theorem qz_ac_char : Cond.arrayClass .char ∈ qz_tb := qz_in 193 (by decide +kernel) (by decide +kernel)
theorem qz_ac_boolean : Cond.arrayClass .boolean ∈ qz_tb := qz_in 614 (by decide +kernel) (by decide +kernel)
theorem qz_ao_Booking : lw_tbl[72]? = some (Cond.arrayOver (.object "ShiftBuses$Booking")) := by decide +kernel
theorem qz_ao_Wish : lw_tbl[171]? = some (Cond.arrayOver (.object "ShiftBuses$Wish")) := by decide +kernel
theorem qz_ao_Works : lw_tbl[217]? = some (Cond.arrayOver (.object "ShiftBuses$Works")) := by decide +kernel
theorem qz_nl_1_28 : lw_tbl[173]? = some (Cond.methodLinkNest (qz_ow 1) 28 (qz_y 17) "ShiftBuses") := by decide +kernel
theorem qz_nl_4_55 : lw_tbl[74]? = some (Cond.methodLinkNest (qz_ow 4) 55 (qz_y 0) "ShiftBuses") := by decide +kernel
theorem qz_nl_4_129 : lw_tbl[308]? = some (Cond.methodLinkNest (qz_ow 4) 129 (qz_y 76) "ShiftBuses") := by decide +kernel
theorem qz_nf_4_22 : lw_tbl[69]? = some (Cond.fieldLinkNest (qz_ow 4) 22 RX5 (qz_sn 30) "[I" "ShiftBuses") := by decide +kernel
theorem qz_sf_5_204 : Cond.fieldLink (qz_ow 5) 204 RX5 (qz_sn 31) "[I" ∈ qz_tb := qz_in 444 (by decide +kernel) (by decide +kernel)
theorem qz_sf_5_208 : Cond.fieldLink (qz_ow 5) 208 RX5 (qz_sn 32) "[I" ∈ qz_tb := qz_in 446 (by decide +kernel) (by decide +kernel)
theorem qz_ls_30 : lw_tbl[70]? = some (Cond.laysStatic RX5 (qz_sn 30) "[I") := by decide +kernel
theorem qz_ls_31 : lw_tbl[445]? = some (Cond.laysStatic RX5 (qz_sn 31) "[I") := by decide +kernel
theorem qz_ls_32 : lw_tbl[447]? = some (Cond.laysStatic RX5 (qz_sn 32) "[I") := by decide +kernel
end
section
/-! the interpreter qz: its heap's layout by names, one step, a run -/
def qz_bs (w : Nat) : Nat := if w = 0 then 1 else 66 + 35 * w
def qz_ix (n : qz_N) : Nat := match n.1 with
  | 0 => qz_bs n.2.1 + 5 + n.2.2
  | 1 => 36
  | 2 => 99
  | 3 => 39 + n.2.2
  | 4 => qz_bs n.2.1
  | 5 => 0
  | 6 => 276
  | 10 => qz_bs n.2.1 + 1
  | 11 => qz_bs n.2.1 + 2
  | 12 => qz_bs n.2.1 + 3
  | 13 => qz_bs n.2.1 + 4
  | 14 => 37
  | 15 => 38
  | 16 => 100
  | k => 260 + k
def qz_vl (n : qz_N) : Bool := match n.1 with
  | 0 => decide (n.2.1 < 6) && decide (n.2.2 < 30)
  | 3 => n.2.1 == 0 && decide (n.2.2 < 60)
  | 4 => decide (n.2.1 < 6) && n.2.2 == 0
  | 10 => decide (n.2.1 < 6) && n.2.2 == 0
  | 11 => decide (n.2.1 < 6) && n.2.2 == 0
  | 12 => decide (n.2.1 < 6) && n.2.2 == 0
  | 13 => decide (n.2.1 < 6) && n.2.2 == 0
  | 7 => false
  | 8 => false
  | 9 => false
  | k => decide (k < 24) && (n.2.1 == 0 && n.2.2 == 0)
def qz_pt (w r : Nat) : qz_N := if r = 0 then (4, w, 0) else if r < 5 then (9 + r, w, 0) else (0, w, r - 5)
def qz_nm' (o : Nat) : qz_N :=
  if o = 0 then (5, 0, 0) else if o < 36 then qz_pt 0 (o - 1) else if o = 36 then (1, 0, 0) else if o = 37 then (14, 0, 0) else if o = 38 then (15, 0, 0)
  else if o < 99 then (3, 0, o - 39) else if o = 99 then (2, 0, 0) else if o = 100 then (16, 0, 0) else if o < 276 then qz_pt (1 + (o - 101) / 35) ((o - 101) % 35)
  else if o = 276 then (6, 0, 0) else (o - 260, 0, 0)
theorem qz_bs_eq (w : Nat) (h : w < 6) : qz_bs w = 1 ∨ (1 ≤ w ∧ qz_bs w = 66 + 35 * w) := by
  unfold qz_bs
  split
  · exact Or.inl rfl
  · exact Or.inr ⟨by omega, rfl⟩
theorem qz_npt (w r : Nat) (hw : w < 6) (hr : r < 35) : qz_nm' (qz_bs w + r) = qz_pt w r := by
  unfold qz_bs
  split
  · next h =>
    subst h
    unfold qz_nm'
    rw [if_neg (by omega), if_pos (by omega)]
    congr 1; omega
  · unfold qz_nm'
    rw [if_neg (by omega), if_neg (by omega), if_neg (by omega), if_neg (by omega), if_neg (by omega), if_neg (by omega), if_neg (by omega), if_neg (by omega), if_pos (by omega)]
    congr 1 <;> omega
/-- a name's place gives the name -/
theorem qz_nx (n : qz_N) (h : qz_vl n = true) : qz_nm' (qz_ix n) = n := by
  obtain ⟨k, w, i⟩ := n
  by_cases hk : k < 24
  · have hc : k = 0 ∨ k = 1 ∨ k = 2 ∨ k = 3 ∨ k = 4 ∨ k = 5 ∨ k = 6 ∨ k = 7 ∨ k = 8 ∨ k = 9 ∨ k = 10 ∨ k = 11 ∨ k = 12 ∨ k = 13 ∨ k = 14 ∨ k = 15 ∨ k = 16 ∨ k = 17 ∨ k = 18 ∨ k = 19 ∨ k = 20 ∨ k = 21 ∨ k = 22 ∨ k = 23 := by omega
    rcases hc with rfl | rfl | rfl | rfl | rfl | rfl | rfl | rfl | rfl | rfl | rfl | rfl | rfl | rfl | rfl | rfl | rfl | rfl | rfl | rfl | rfl | rfl | rfl | rfl
    · simp [qz_vl] at h
      show qz_nm' (qz_bs w + 5 + i) = _
      rw [show qz_bs w + 5 + i = qz_bs w + (5 + i) by omega, qz_npt w _ h.1 (by omega), qz_pt, if_neg (by omega), if_neg (by omega)]
      congr 2; omega
    · simp [qz_vl] at h; obtain ⟨rfl, rfl⟩ := h; rfl
    · simp [qz_vl] at h; obtain ⟨rfl, rfl⟩ := h; rfl
    · simp [qz_vl] at h
      obtain ⟨rfl, h⟩ := h
      show qz_nm' (39 + i) = _
      unfold qz_nm'
      rw [if_neg (by omega), if_neg (by omega), if_neg (by omega), if_neg (by omega), if_neg (by omega), if_pos (by omega)]
      congr 2; omega
    · simp [qz_vl] at h
      obtain ⟨h, rfl⟩ := h
      exact qz_npt w 0 h (by omega)
    · simp [qz_vl] at h; obtain ⟨rfl, rfl⟩ := h; rfl
    · simp [qz_vl] at h; obtain ⟨rfl, rfl⟩ := h; rfl
    · simp [qz_vl] at h
    · simp [qz_vl] at h
    · simp [qz_vl] at h
    · simp [qz_vl] at h
      obtain ⟨h, rfl⟩ := h
      exact qz_npt w 1 h (by omega)
    · simp [qz_vl] at h
      obtain ⟨h, rfl⟩ := h
      exact qz_npt w 2 h (by omega)
    · simp [qz_vl] at h
      obtain ⟨h, rfl⟩ := h
      exact qz_npt w 3 h (by omega)
    · simp [qz_vl] at h
      obtain ⟨h, rfl⟩ := h
      exact qz_npt w 4 h (by omega)
    all_goals (simp [qz_vl] at h; obtain ⟨rfl, rfl⟩ := h; rfl)
  · exfalso
    unfold qz_vl at h
    split at h <;> first | (simp at hk; done) | (simp at h; omega) | omega
theorem qz_ix_inj {n n' : qz_N} (h : qz_vl n = true) (h' : qz_vl n' = true) (e : qz_ix n = qz_ix n') : n = n' := by rw [← qz_nx n h, ← qz_nx n' h', e]
theorem qz_vl_lt {n : qz_N} (h : qz_vl n = true) : n.1 < 24 := by
  obtain ⟨k, w, i⟩ := n
  unfold qz_vl at h
  split at h <;> first | (simp_all; done) | (simp at h; simp; omega) | (simp_all; omega)
/-- the arrays' types: 1 int, 2 char, 3 boolean, 4, 5, 6 references -/
def qz_at (k : Nat) : Nat := match k with
  | 10 => 1
  | 11 => 1
  | 12 => 1
  | 13 => 4
  | 14 => 2
  | 15 => 5
  | 16 => 6
  | 17 => 1
  | 18 => 1
  | 19 => 1
  | 20 => 1
  | 21 => 1
  | 22 => 3
  | 23 => 1
  | 30 => 1
  | 31 => 1
  | 32 => 1
  | 33 => 1
  | _ => 0
def qz_al (k : Nat) : Nat := match k with
  | 10 => 10
  | 11 => 20
  | 12 => 4
  | 13 => 30
  | 14 => 60
  | 15 => 60
  | 16 => 4
  | 17 => 283
  | 18 => 1132
  | 19 => 283
  | 20 => 60
  | 21 => 10
  | 22 => 30
  | 23 => 180
  | _ => 4
def qz_ln (f : qz_N → Nat → Int32) (n : qz_N) : Nat := if n.1 = 33 then (f (33, 1, 0) 0).toNatClampNeg else qz_al n.1
def qz_ft (t : Nat) : FieldType := match t with
  | 1 => .int
  | 2 => .char
  | 3 => .boolean
  | 4 => .object "ShiftBuses$Booking"
  | 5 => .object "ShiftBuses$Wish"
  | _ => .object "ShiftBuses$Works"
def qz_ec (t : Nat) : Nat := match t with
  | 4 => 0
  | 5 => 3
  | _ => 4
def qz_ui (M : qz_M) (n : qz_N) (j : Nat) (x : Int32) : qz_M := (M.1, (fun n' j' => if n' = n ∧ j' = j then x else M.2.1 n' j'), M.2.2)
def qz_ur (M : qz_M) (n : qz_N) (j : Nat) (x : Option qz_N) : qz_M := (M.1, M.2.1, fun n' j' => if n' = n ∧ j' = j then x else M.2.2 n' j')
def qz_al' (M : qz_M) : qz_M := (M.1 + 1, (fun n j => if n = qz_nm' M.1 then 0 else M.2.1 n j), fun n j => if n = qz_nm' M.1 then none else M.2.2 n j)
/-- the size of what is made -/
def qz_sz (k : Nat) : Nat := if k < 7 then qz_nf k else qz_al k
def qz_ss : Nat → Nat
  | 0 => 0
  | o + 1 => qz_ss o + qz_sz (qz_nm' o).1
def qz_xi (i : Int32) (n : Nat) : Bool := !decide (i < 0) && decide (i.toNatClampNeg < n)
def qz_tg (pc : Nat) (off : Int) : Option Nat := if 0 ≤ (pc : Int) + off then some ((pc : Int) + off).toNat else none
def qz_cd (c : ClassFile.Cond) (x y : Int32) : Bool := match c with
  | .eq => decide (x = y)
  | .ne => decide (¬ x = y)
  | .lt => decide (x < y)
  | .ge => decide (y ≤ x)
  | .gt => decide (y < x)
  | .le => decide (x ≤ y)
abbrev qz_R : Type := Nat × List (Option qz_V) × List qz_V × qz_M
def qz_bn (f : Int32 → Int32 → Int32) (pc : Nat) (ls : List (Option qz_V)) (st : List qz_V) (M : qz_M) : Option qz_R := match st with
  | .inl y :: .inl x :: r => some (pc + 1, ls, .inl (f x y) :: r, M)
  | _ => none
def qz_br (b : Bool) (pc : Nat) (off : Int) (ls : List (Option qz_V)) (st : List qz_V) (M : qz_M) : Option qz_R := match qz_tg pc off with
  | some t => if b = true then some (t, ls, st, M) else some (pc + 3, ls, st, M)
  | none => none
def qz_li (k n pc : Nat) (ls : List (Option qz_V)) (st : List qz_V) (M : qz_M) : Option qz_R := match ls[k]? with
  | some (some (.inl x)) => some (pc + n, ls, .inl x :: st, M)
  | _ => none
def qz_la (k n pc : Nat) (ls : List (Option qz_V)) (st : List qz_V) (M : qz_M) : Option qz_R := match ls[k]? with
  | some (some (.inr x)) => some (pc + n, ls, .inr x :: st, M)
  | _ => none
def qz_si (k n pc : Nat) (ls : List (Option qz_V)) (st : List qz_V) (M : qz_M) : Option qz_R := match st with
  | .inl x :: r => if k < ls.length then some (pc + n, ls.set k (some (.inl x)), r, M) else none
  | _ => none
def qz_sr (k n pc : Nat) (ls : List (Option qz_V)) (st : List qz_V) (M : qz_M) : Option qz_R := match st with
  | .inr x :: r => if k < ls.length then some (pc + n, ls.set k (some (.inr x)), r, M) else none
  | _ => none
def qz_ld (t pc : Nat) (ls : List (Option qz_V)) (st : List qz_V) (M : qz_M) : Option qz_R := match st with
  | .inl i :: .inr (some n) :: r => if qz_at n.1 = t ∧ qz_xi i (qz_ln M.2.1 n) = true then some (pc + 1, ls, .inl (M.2.1 n i.toNatClampNeg) :: r, M) else none
  | _ => none
def qz_sd (t : Nat) (f : Int32 → Int32) (pc : Nat) (ls : List (Option qz_V)) (st : List qz_V) (M : qz_M) : Option qz_R := match st with
  | .inl x :: .inl i :: .inr (some n) :: r => if qz_at n.1 = t ∧ n.1 < 30 ∧ qz_xi i (qz_al n.1) = true then some (pc + 1, ls, r, qz_ui M n i.toNatClampNeg (f x)) else none
  | _ => none
/-- no static array -/
def qz_dy (x : Option qz_N) : Bool := match x with
  | none => true
  | some n => decide (n.1 < 30)
/-- one step that is neither a call nor a return: c the number of the class whose code it is, ini whether it is a constructor -/
def qz_sp (c : Nat) (ini : Bool) (ins : Instr) (pc : Nat) (ls : List (Option qz_V)) (st : List qz_V) (M : qz_M) : Option qz_R := match ins with
  | .iconst i => some (pc + 1, ls, .inl (Int32.ofInt i) :: st, M)
  | .bipush i => some (pc + 2, ls, .inl (Int8.ofInt i).toInt32 :: st, M)
  | .sipush i => some (pc + 3, ls, .inl (Int16.ofInt i).toInt32 :: st, M)
  | .aconst_null => some (pc + 1, ls, .inr none :: st, M)
  | .iload k => qz_li k 2 pc ls st M
  | .iload_n k => qz_li k.val 1 pc ls st M
  | .aload k => qz_la k 2 pc ls st M
  | .aload_n k => qz_la k.val 1 pc ls st M
  | .istore k => qz_si k 2 pc ls st M
  | .istore_n k => qz_si k.val 1 pc ls st M
  | .astore k => qz_sr k 2 pc ls st M
  | .astore_n k => qz_sr k.val 1 pc ls st M
  | .iinc k n => (match ls[k]? with
    | some (some (.inl x)) => some (pc + 3, ls.set k (some (.inl (x + Int32.ofInt n))), st, M)
    | _ => none)
  | .iadd => qz_bn (fun x y => x + y) pc ls st M
  | .isub => qz_bn (fun x y => x - y) pc ls st M
  | .imul => qz_bn (fun x y => x * y) pc ls st M
  | .iand => qz_bn (fun x y => x &&& y) pc ls st M
  | .idiv => (match st with
    | .inl y :: .inl x :: r => if y = 0 then none else some (pc + 1, ls, .inl (x / y) :: r, M)
    | _ => none)
  | .irem => (match st with
    | .inl y :: .inl x :: r => if y = 0 then none else some (pc + 1, ls, .inl (x - x / y * y) :: r, M)
    | _ => none)
  | .ineg => (match st with
    | .inl x :: r => some (pc + 1, ls, .inl (-x) :: r, M)
    | _ => none)
  | .i2c => (match st with
    | .inl x :: r => some (pc + 1, ls, .inl (x.toUInt32 % 65536).toInt32 :: r, M)
    | _ => none)
  | .dup => (match st with
    | x :: r => some (pc + 1, ls, x :: x :: r, M)
    | _ => none)
  | .dup2 => (match st with
    | x :: y :: r => some (pc + 1, ls, x :: y :: x :: y :: r, M)
    | _ => none)
  | .pop => (match st with
    | _ :: r => some (pc + 1, ls, r, M)
    | _ => none)
  | .ifCond cd off => (match st with
    | .inl x :: r => qz_br (qz_cd cd x 0) pc off ls r M
    | _ => none)
  | .if_icmp cd off => (match st with
    | .inl y :: .inl x :: r => qz_br (qz_cd cd x y) pc off ls r M
    | _ => none)
  | .if_acmp cd off => (match cd, st with
    | .eq, .inr y :: .inr x :: r => if qz_dy x = true ∧ qz_dy y = true then qz_br (decide (x = y)) pc off ls r M else none
    | _, _ => none)
  | .ifnull off => (match st with
    | .inr x :: r => qz_br (decide (x = none)) pc off ls r M
    | _ => none)
  | .ifnonnull off => (match st with
    | .inr x :: r => qz_br (decide (¬ x = none)) pc off ls r M
    | _ => none)
  | .goto off => (match qz_tg pc off with
    | some t => some (t, ls, st, M)
    | none => none)
  | .tableswitch d lo hi offs => (match st with
    | .inl x :: r => (if x.toInt < lo ∨ hi < x.toInt then (match qz_tg pc d with
        | some t => some (t, ls, r, M)
        | none => none)
      else (match offs[(x.toInt - lo).toNat]? with
        | some off => (match qz_tg pc off with
          | some t => some (t, ls, r, M)
          | none => none)
        | none => none))
    | _ => none)
  | .getfield i => (match st with
    | .inr (some n) :: r => (match qz_fl c i with
      | some (ci, k) => if n.1 = ci then some (pc + 3, ls, (if qz_rf ci k = true then .inr (M.2.2 n k) else .inl (M.2.1 n k)) :: r, M) else none
      | none => none)
    | _ => none)
  | .putfield i => (match st with
    | .inl x :: .inr (some n) :: r => (match qz_fl c i with
      | some (ci, k) => if n.1 = ci ∧ qz_rf ci k = false ∧ (qz_bl ci k = true → x = 0 ∨ x = 1) ∧ qz_fn ci k = false then some (pc + 3, ls, r, qz_ui M n k x) else none
      | none => none)
    | .inr x :: .inr (some n) :: r => (match qz_fl c i with
      | some (ci, k) => if n.1 = ci ∧ qz_rf ci k = true ∧ qz_fn ci k = true ∧ ini = true ∧ ci = c then some (pc + 3, ls, r, qz_ur M n k x) else none
      | none => none)
    | _ => none)
  | .getstatic i => (match qz_st c i with
    | some k => some (pc + 3, ls, .inr (some (k, 0, 0)) :: st, M)
    | none => none)
  | .iaload => qz_ld 1 pc ls st M
  | .caload => qz_ld 2 pc ls st M
  | .baload => qz_ld 3 pc ls st M
  | .iastore => qz_sd 1 (fun x => x) pc ls st M
  | .castore => qz_sd 2 (fun x => vp_nar .char x) pc ls st M
  | .bastore => qz_sd 3 (fun x => vp_nar .boolean x) pc ls st M
  | .aaload => (match st with
    | .inl i :: .inr (some n) :: r => if 4 ≤ qz_at n.1 ∧ qz_xi i (qz_al n.1) = true then some (pc + 1, ls, .inr (M.2.2 n i.toNatClampNeg) :: r, M) else none
    | _ => none)
  | .aastore => (match st with
    | .inr (some v) :: .inl i :: .inr (some n) :: r => if 4 ≤ qz_at n.1 ∧ v.1 = qz_ec (qz_at n.1) ∧ qz_xi i (qz_al n.1) = true then some (pc + 1, ls, r, qz_ur M n i.toNatClampNeg (some v)) else none
    | _ => none)
  | .arraylength => (match st with
    | .inr (some n) :: r => if ¬ qz_at n.1 = 0 then some (pc + 1, ls, .inl (Int32.ofNat (qz_ln M.2.1 n)) :: r, M) else none
    | _ => none)
  | .new i => (match qz_nw c i with
    | some k => if (qz_nm' M.1).1 = k ∧ qz_vl (qz_nm' M.1) = true ∧ qz_ix (qz_nm' M.1) = M.1 then some (pc + 3, ls, .inr (some (qz_nm' M.1)) :: st, qz_al' M) else none
    | none => none)
  | .newarray a => (match st with
    | .inl x :: r => if qz_vl (qz_nm' M.1) = true ∧ qz_ix (qz_nm' M.1) = M.1 ∧ ¬ x < 0 ∧ x.toNatClampNeg = qz_al (qz_nm' M.1).1 ∧ ((a = .int ∧ qz_at (qz_nm' M.1).1 = 1) ∨ (a = .char ∧ qz_at (qz_nm' M.1).1 = 2) ∨ (a = .boolean ∧ qz_at (qz_nm' M.1).1 = 3)) then some (pc + 2, ls, .inr (some (qz_nm' M.1)) :: r, qz_al' M) else none
    | _ => none)
  | .anewarray i => (match st with
    | .inl x :: r => (match qz_nw c i with
      | some k => if qz_vl (qz_nm' M.1) = true ∧ qz_ix (qz_nm' M.1) = M.1 ∧ ¬ x < 0 ∧ x.toNatClampNeg = qz_al (qz_nm' M.1).1 ∧ 4 ≤ qz_at (qz_nm' M.1).1 ∧ qz_ec (qz_at (qz_nm' M.1).1) = k then some (pc + 3, ls, .inr (some (qz_nm' M.1)) :: r, qz_al' M) else none
      | none => none)
    | _ => none)
  | _ => none
/-- the arguments of a call, off the stack -/
def qz_ag (n : Nat) (st : List qz_V) : List qz_V := (st.take n).reverse
def qz_in0 (k : Nat) (as : List qz_V) : List (Option qz_V) := as.map some ++ List.replicate (qz_ml k - as.length) none
/-- the receiver is an object of the class k -/
def qz_rc (k : Nat) (as : List qz_V) : Bool := match as with
  | .inr (some n) :: _ => n.1 == k
  | _ => false
/-- a call of the method k' from the method k is in order -/
def qz_co' (k k' : Nat) (st : List qz_V) : Bool := decide (qz_na k' ≤ st.length) && decide (st.length - qz_na k' ≤ 8) && decide (qz_rF k' + 1 ≤ qz_rF k) && decide (8 + (qz_ml k' + 11) + qz_rL k' ≤ qz_rL k)
/-- what a return answers -/
def qz_rv (k : Nat) (ins : Instr) (st : List qz_V) : Option (Option qz_V) := match ins with
  | .ireturn => (match st with
    | [.inl x] => if qz_rt k = some .int ∨ (qz_rt k = some .boolean ∧ (x = 0 ∨ x = 1)) then some (some (.inl x)) else none
    | _ => none)
  | .areturn => (match st with
    | [.inr x] => if qz_rt k = some (.object "ShiftBuses$Booking") then some (some (.inr x)) else none
    | _ => none)
  | .return_ => (match st with
    | [] => if qz_rt k = none then some none else none
    | _ => none)
  | _ => none
/-- a call's method: by its instruction, and whether the call is in order -/
def qz_kl (k : Nat) (ins : Instr) (st : List qz_V) : Option Nat := match ins with
  | .invokevirtual i => (match qz_cl (qz_cn k) i with
    | some k' => if qz_co' k k' st = true ∧ qz_sa k' = false ∧ qz_ini k' = false ∧ qz_rc (qz_cn k') (qz_ag (qz_na k') st) = true then some k' else none
    | none => none)
  | .invokespecial i => (match qz_cl (qz_cn k) i with
    | some k' => if qz_co' k k' st = true ∧ qz_sa k' = false ∧ qz_ini k' = true ∧ qz_rc (qz_cn k') (qz_ag (qz_na k') st) = true then some k' else none
    | none => none)
  | .invokestatic i => (match qz_cl (qz_cn k) i with
    | some k' => if qz_co' k k' st = true ∧ qz_sa k' = true then some k' else none
    | none => none)
  | _ => none
/-- Object(), Math.max, Math.abs -/
def qz_bi (k : Nat) (ins : Instr) (pc : Nat) (ls : List (Option qz_V)) (st : List qz_V) (M : qz_M) : Option qz_R := match ins with
  | .invokespecial i => (match st with
    | .inr (some _) :: r => if qz_ob (qz_cn k) i = true ∧ r.length ≤ 8 ∧ 1 ≤ qz_rF k ∧ 20 ≤ qz_rL k then some (pc + 3, ls, r, M) else none
    | _ => none)
  | .invokestatic i => (match qz_mt (qz_cn k) i with
    | some 0 => (match st with
      | .inl y :: .inl x :: r => if r.length ≤ 8 ∧ 1 ≤ qz_rF k ∧ 21 ≤ qz_rL k then some (pc + 3, ls, .inl (if x < y then y else x) :: r, M) else none
      | _ => none)
    | some 1 => (match st with
      | .inl x :: r => if r.length ≤ 8 ∧ 1 ≤ qz_rF k ∧ 21 ≤ qz_rL k then some (pc + 3, ls, .inl (if 0 ≤ x then x else 0 - x) :: r, M) else none
      | _ => none)
    | _ => none)
  | _ => none
/-- how long the instruction is; a switch: any -/
def qz_il (ins : Instr) (len : Nat) : Bool := match ins with
  | .iload _ => len == 2
  | .aload _ => len == 2
  | .istore _ => len == 2
  | .astore _ => len == 2
  | .bipush _ => len == 2
  | .newarray _ => len == 2
  | .sipush _ => len == 3
  | .iinc _ _ => len == 3
  | .ifCond _ _ => len == 3
  | .if_icmp _ _ => len == 3
  | .if_acmp _ _ => len == 3
  | .ifnull _ => len == 3
  | .ifnonnull _ => len == 3
  | .goto _ => len == 3
  | .getfield _ => len == 3
  | .putfield _ => len == 3
  | .getstatic _ => len == 3
  | .new _ => len == 3
  | .anewarray _ => len == 3
  | .invokevirtual _ => len == 3
  | .invokespecial _ => len == 3
  | .invokestatic _ => len == 3
  | .tableswitch _ _ _ _ => true
  | _ => len == 1
/-- a run of the method k from pc: its answer and the heap at its end -/
def qz_ex : Nat → Nat → Nat → List (Option qz_V) → List qz_V → qz_M → Option (Option qz_V × qz_M)
  | 0, _, _, _, _, _ => none
  | n + 1, k, pc, ls, st, M => match decode (qz_b k) pc with
    | .ok (ins, len) => if qz_il ins len = true then (match qz_sp (qz_cn k) (qz_ini k) ins pc ls st M with
        | some (pc', ls', st', M') => qz_ex n k pc' ls' st' M'
        | none => (match qz_rv k ins st with
          | some r => some (r, M)
          | none => (match qz_bi k ins pc ls st M with
            | some (pc', ls', st', M') => qz_ex n k pc' ls' st' M'
            | none => (match qz_kl k ins st with
              | some k' => (match qz_ex n k' 0 (qz_in0 k' (qz_ag (qz_na k') st)) [] M with
                | some (r, M') => qz_ex n k (pc + 3) ls (r.toList ++ st.drop (qz_na k')) M'
                | none => none)
              | none => none)))) else none
    | .error _ => none
end
section
/-! the interpreter keeps its references well made -/
def qz_sa' (n : qz_N) : Bool := decide (30 ≤ n.1) && (decide (n.1 ≤ 33) && (n.2.1 == 0 && n.2.2 == 0))
def qz_lv (o : Nat) (n : qz_N) : Prop := (n.1 < 30 ∧ qz_vl n = true ∧ qz_ix n < o) ∨ qz_sa' n = true
def qz_vk (o : Nat) (v : qz_V) : Prop := ∀ n, v = .inr (some n) → qz_lv o n
def qz_WM (M : qz_M) : Prop := ∀ n j n', M.2.2 n j = some n' → qz_lv M.1 n'
def qz_ok (ls : List (Option qz_V)) (st : List qz_V) (M : qz_M) : Prop := qz_WM M ∧ (∀ v, some v ∈ ls → qz_vk M.1 v) ∧ ∀ v ∈ st, qz_vk M.1 v
def qz_le (M M' : qz_M) : Prop := M.1 ≤ M'.1 ∧ ∀ n : qz_N, 30 ≤ n.1 → M'.2.1 n = M.2.1 n
theorem qz_le.rf {M : qz_M} : qz_le M M := ⟨Nat.le_refl _, fun _ _ => rfl⟩
theorem qz_le.tr {M M' M'' : qz_M} (h : qz_le M M') (h' : qz_le M' M'') : qz_le M M'' := ⟨Nat.le_trans h.1 h'.1, fun n hn => (h'.2 n hn).trans (h.2 n hn)⟩
theorem qz_lv.up {o o' : Nat} {n : qz_N} (h : qz_lv o n) (ho : o ≤ o') : qz_lv o' n := h.elim (fun h => Or.inl ⟨h.1, h.2.1, Nat.lt_of_lt_of_le h.2.2 ho⟩) Or.inr
theorem qz_vk.up {o o' : Nat} {v : qz_V} (h : qz_vk o v) (ho : o ≤ o') : qz_vk o' v := fun n hn => (h n hn).up ho
theorem qz_vki {o : Nat} {x : Int32} : qz_vk o (.inl x) := fun n h => by cases h
theorem qz_vkn {o : Nat} : qz_vk o (.inr none) := fun n h => by cases h
theorem qz_vkr {o : Nat} {r : Option qz_N} (h : ∀ n, r = some n → qz_lv o n) : qz_vk o (.inr r) := fun n e => h n (by cases e; rfl)
theorem qz_ok.push {ls : List (Option qz_V)} {st : List qz_V} {M : qz_M} {v : qz_V} (h : qz_ok ls st M) (hv : qz_vk M.1 v) : qz_ok ls (v :: st) M := ⟨h.1, h.2.1, fun w hw => (List.mem_cons.mp hw).elim (fun e => e ▸ hv) (h.2.2 w)⟩
theorem qz_ok.sub {ls : List (Option qz_V)} {st st' : List qz_V} {M : qz_M} (h : qz_ok ls st M) (hs : ∀ v ∈ st', v ∈ st) : qz_ok ls st' M := ⟨h.1, h.2.1, fun w hw => h.2.2 w (hs w hw)⟩
theorem qz_ok.pop {ls : List (Option qz_V)} {st : List qz_V} {M : qz_M} {v : qz_V} (h : qz_ok ls (v :: st) M) : qz_ok ls st M := h.sub (fun _ h => List.mem_cons_of_mem _ h)
theorem qz_ok.hd {ls : List (Option qz_V)} {st : List qz_V} {M : qz_M} {v : qz_V} (h : qz_ok ls (v :: st) M) : qz_vk M.1 v := h.2.2 v List.mem_cons_self
theorem qz_ok.set {ls : List (Option qz_V)} {st : List qz_V} {M : qz_M} {v : qz_V} (h : qz_ok ls st M) (hv : qz_vk M.1 v) (k : Nat) : qz_ok (ls.set k (some v)) st M := ⟨h.1, fun w hw => (List.mem_or_eq_of_mem_set hw).elim (h.2.1 w) (fun e => by cases e; exact hv), h.2.2⟩
theorem qz_ok.ui {ls : List (Option qz_V)} {st : List qz_V} {M : qz_M} (h : qz_ok ls st M) (n : qz_N) (j : Nat) (x : Int32) : qz_ok ls st (qz_ui M n j x) := h
theorem qz_ok.ur {ls : List (Option qz_V)} {st : List qz_V} {M : qz_M} (h : qz_ok ls st M) (n : qz_N) (j : Nat) {x : Option qz_N} (hx : qz_vk M.1 (.inr x)) : qz_ok ls st (qz_ur M n j x) := by
  refine ⟨fun n' j' m hm => ?_, h.2⟩
  have hm : (if n' = n ∧ j' = j then x else M.2.2 n' j') = some m := hm
  split at hm
  · exact hx m (by rw [hm])
  · exact h.1 n' j' m hm
theorem qz_ok.al {ls : List (Option qz_V)} {st : List qz_V} {M : qz_M} (h : qz_ok ls st M) (hv : qz_vl (qz_nm' M.1) = true) (hi : qz_ix (qz_nm' M.1) = M.1) : qz_ok ls (.inr (some (qz_nm' M.1)) :: st) (qz_al' M) := by
  have ho : M.1 ≤ M.1 + 1 := Nat.le_succ _
  refine ⟨fun n' j' m hm => ?_, fun v hw => (h.2.1 v hw).up ho, fun v hw => ?_⟩
  · have hm : (if n' = qz_nm' M.1 then none else M.2.2 n' j') = some m := hm
    split at hm
    · cases hm
    · exact (h.1 n' j' m hm).up ho
  · rcases List.mem_cons.mp hw with rfl | hw
    · intro n e
      cases e
      exact Or.inl ⟨by have := qz_vl_lt hv; omega, hv, by rw [hi]; exact Nat.lt_succ_self _⟩
    · exact (h.2.2 v hw).up ho
theorem qz_le_ui {M : qz_M} {n : qz_N} (hn : n.1 < 30) (j : Nat) (x : Int32) : qz_le M (qz_ui M n j x) := by
  refine ⟨Nat.le_refl _, fun n' hn' => ?_⟩
  funext j'
  show (if n' = n ∧ j' = j then x else M.2.1 n' j') = _
  rw [if_neg]
  rintro ⟨rfl, -⟩
  omega
theorem qz_le_ur {M : qz_M} {n : qz_N} (j : Nat) (x : Option qz_N) : qz_le M (qz_ur M n j x) := ⟨Nat.le_refl _, fun _ _ => rfl⟩
theorem qz_le_al {M : qz_M} (hv : qz_vl (qz_nm' M.1) = true) : qz_le M (qz_al' M) := by
  refine ⟨Nat.le_succ _, fun n' hn' => ?_⟩
  funext j'
  show (if n' = qz_nm' M.1 then 0 else M.2.1 n' j') = _
  rw [if_neg]
  rintro rfl
  have := qz_vl_lt hv
  omega
theorem qz_dyn {o : Nat} {n : qz_N} (h : qz_lv o n) (hn : n.1 < 30) : qz_vl n = true ∧ qz_ix n < o := by
  rcases h with h | h
  · exact h.2
  · simp [qz_sa'] at h
    omega
theorem qz_pk {pc pc' : Nat} {ls ls' : List (Option qz_V)} {st st' : List qz_V} {M M' : qz_M} (h : some (pc, ls, st, M) = some (pc', ls', st', M')) (hk : qz_ok ls st M) {M0 : qz_M} (hl : qz_le M0 M) : qz_ok ls' st' M' ∧ qz_le M0 M' := by
  cases h
  exact ⟨hk, hl⟩
/-- a step -/
theorem qz_sp_ok {c : Nat} {ini : Bool} {ins : Instr} {pc pc' : Nat} {ls ls' : List (Option qz_V)} {st st' : List qz_V} {M M' : qz_M} (hs : qz_sp c ini ins pc ls st M = some (pc', ls', st', M')) (h : qz_ok ls st M) : qz_ok ls' st' M' ∧ qz_le M M' := by
  have bn : ∀ {f}, qz_bn f pc ls st M = some (pc', ls', st', M') → qz_ok ls' st' M' ∧ qz_le M M' := by
    intro f hs
    unfold qz_bn at hs
    split at hs
    · exact qz_pk hs (h.pop.pop.push qz_vki) .rf
    · cases hs
  have br : ∀ {b off st1}, qz_ok ls st1 M → qz_br b pc off ls st1 M = some (pc', ls', st', M') → qz_ok ls' st' M' ∧ qz_le M M' := by
    intro b off st1 h1 hs
    unfold qz_br at hs
    split at hs
    · split at hs
      · exact qz_pk hs h1 .rf
      · exact qz_pk hs h1 .rf
    · cases hs
  have li : ∀ {k n}, qz_li k n pc ls st M = some (pc', ls', st', M') → qz_ok ls' st' M' ∧ qz_le M M' := by
    intro k n hs
    unfold qz_li at hs
    split at hs
    · exact qz_pk hs (h.push qz_vki) .rf
    · cases hs
  have la : ∀ {k n}, qz_la k n pc ls st M = some (pc', ls', st', M') → qz_ok ls' st' M' ∧ qz_le M M' := by
    intro k n hs
    unfold qz_la at hs
    split at hs
    · next x hx => exact qz_pk hs (h.push (h.2.1 _ (List.mem_of_getElem? hx))) .rf
    · cases hs
  have si : ∀ {k n}, qz_si k n pc ls st M = some (pc', ls', st', M') → qz_ok ls' st' M' ∧ qz_le M M' := by
    intro k n hs
    unfold qz_si at hs
    split at hs
    · split at hs
      · exact qz_pk hs (h.pop.set qz_vki k) .rf
      · cases hs
    · cases hs
  have sr : ∀ {k n}, qz_sr k n pc ls st M = some (pc', ls', st', M') → qz_ok ls' st' M' ∧ qz_le M M' := by
    intro k n hs
    unfold qz_sr at hs
    split at hs
    · split at hs
      · exact qz_pk hs (h.pop.set h.hd k) .rf
      · cases hs
    · cases hs
  have ld : ∀ {t}, qz_ld t pc ls st M = some (pc', ls', st', M') → qz_ok ls' st' M' ∧ qz_le M M' := by
    intro t hs
    unfold qz_ld at hs
    split at hs
    · split at hs
      · exact qz_pk hs (h.pop.pop.push qz_vki) .rf
      · cases hs
    · cases hs
  have sd : ∀ {t f}, qz_sd t f pc ls st M = some (pc', ls', st', M') → qz_ok ls' st' M' ∧ qz_le M M' := by
    intro t f hs
    unfold qz_sd at hs
    split at hs
    · split at hs
      · next hc => exact qz_pk hs (h.pop.pop.pop.ui _ _ _) (qz_le_ui hc.2.1 _ _)
      · cases hs
    · cases hs
  cases ins with
  | iconst i => exact qz_pk hs (h.push qz_vki) .rf
  | bipush i => exact qz_pk hs (h.push qz_vki) .rf
  | sipush i => exact qz_pk hs (h.push qz_vki) .rf
  | aconst_null => exact qz_pk hs (h.push qz_vkn) .rf
  | iload k => exact li hs
  | iload_n k => exact li hs
  | aload k => exact la hs
  | aload_n k => exact la hs
  | istore k => exact si hs
  | istore_n k => exact si hs
  | astore k => exact sr hs
  | astore_n k => exact sr hs
  | iinc k n =>
    simp only [qz_sp] at hs
    split at hs
    · exact qz_pk hs (h.set qz_vki _) .rf
    · cases hs
  | iadd => exact bn hs
  | isub => exact bn hs
  | imul => exact bn hs
  | iand => exact bn hs
  | idiv =>
    simp only [qz_sp] at hs
    split at hs
    · split at hs
      · cases hs
      · exact qz_pk hs (h.pop.pop.push qz_vki) .rf
    · cases hs
  | irem =>
    simp only [qz_sp] at hs
    split at hs
    · split at hs
      · cases hs
      · exact qz_pk hs (h.pop.pop.push qz_vki) .rf
    · cases hs
  | ineg =>
    simp only [qz_sp] at hs
    split at hs
    · exact qz_pk hs (h.pop.push qz_vki) .rf
    · cases hs
  | i2c =>
    simp only [qz_sp] at hs
    split at hs
    · exact qz_pk hs (h.pop.push qz_vki) .rf
    · cases hs
  | dup =>
    simp only [qz_sp] at hs
    split at hs
    · exact qz_pk hs (h.push h.hd) .rf
    · cases hs
  | dup2 =>
    simp only [qz_sp] at hs
    split at hs
    · exact qz_pk hs ((h.push h.pop.hd).push h.hd) .rf
    · cases hs
  | pop =>
    simp only [qz_sp] at hs
    split at hs
    · exact qz_pk hs h.pop .rf
    · cases hs
  | ifCond cd off =>
    simp only [qz_sp] at hs
    split at hs
    · exact br h.pop hs
    · cases hs
  | if_icmp cd off =>
    simp only [qz_sp] at hs
    split at hs
    · exact br h.pop.pop hs
    · cases hs
  | if_acmp cd off =>
    simp only [qz_sp] at hs
    split at hs
    · split at hs
      · exact br h.pop.pop hs
      · cases hs
    · cases hs
  | ifnull off =>
    simp only [qz_sp] at hs
    split at hs
    · exact br h.pop hs
    · cases hs
  | ifnonnull off =>
    simp only [qz_sp] at hs
    split at hs
    · exact br h.pop hs
    · cases hs
  | goto off =>
    simp only [qz_sp] at hs
    split at hs
    · exact qz_pk hs h .rf
    · cases hs
  | tableswitch d lo hi offs =>
    simp only [qz_sp] at hs
    split at hs
    · split at hs
      · split at hs
        · exact qz_pk hs h.pop .rf
        · cases hs
      · split at hs
        · split at hs
          · exact qz_pk hs h.pop .rf
          · cases hs
        · cases hs
    · cases hs
  | getfield i =>
    simp only [qz_sp] at hs
    split at hs
    · split at hs
      · split at hs
        · refine qz_pk hs (h.pop.push ?_) .rf
          split
          · exact qz_vkr (fun n hn => h.1 _ _ _ hn)
          · exact qz_vki
        · cases hs
      · cases hs
    · cases hs
  | putfield i =>
    simp only [qz_sp] at hs
    split at hs
    · split at hs
      · next hf =>
        split at hs
        · next hc => exact qz_pk hs (h.pop.pop.ui _ _ _) (qz_le_ui (by have := (qz_fl_ok hf).1; have := hc.1; simp only at *; omega) _ _)
        · cases hs
      · cases hs
    · split at hs
      · split at hs
        · exact qz_pk hs (h.pop.pop.ur _ _ h.hd) (qz_le_ur _ _)
        · cases hs
      · cases hs
    · cases hs
  | getstatic i =>
    simp only [qz_sp] at hs
    split at hs
    · next k hk =>
      refine qz_pk hs (h.push (qz_vkr (fun n hn => Or.inr ?_))) .rf
      cases hn
      unfold qz_st at hk
      split at hk <;> first | (cases hk; rfl) | cases hk
    · cases hs
  | iaload => exact ld hs
  | caload => exact ld hs
  | baload => exact ld hs
  | iastore => exact sd hs
  | castore => exact sd hs
  | bastore => exact sd hs
  | aaload =>
    simp only [qz_sp] at hs
    split at hs
    · split at hs
      · exact qz_pk hs (h.pop.pop.push (qz_vkr (fun n hn => h.1 _ _ _ hn))) .rf
      · cases hs
    · cases hs
  | aastore =>
    simp only [qz_sp] at hs
    split at hs
    · split at hs
      · exact qz_pk hs (h.pop.pop.pop.ur _ _ h.hd) (qz_le_ur _ _)
      · cases hs
    · cases hs
  | arraylength =>
    simp only [qz_sp] at hs
    split at hs
    · split at hs
      · exact qz_pk hs (h.pop.push qz_vki) .rf
      · cases hs
    · cases hs
  | new i =>
    simp only [qz_sp] at hs
    split at hs
    · split at hs
      · next hc => exact qz_pk hs (h.al hc.2.1 hc.2.2) (qz_le_al hc.2.1)
      · cases hs
    · cases hs
  | newarray a =>
    simp only [qz_sp] at hs
    split at hs
    · split at hs
      · next hc => exact qz_pk hs (h.pop.al hc.1 hc.2.1) (qz_le_al hc.1)
      · cases hs
    · cases hs
  | anewarray i =>
    simp only [qz_sp] at hs
    split at hs
    · split at hs
      · split at hs
        · next hc => exact qz_pk hs (h.pop.al hc.1 hc.2.1) (qz_le_al hc.1)
        · cases hs
      · cases hs
    · cases hs
  | _ => cases hs
theorem qz_bi_ok {k : Nat} {ins : Instr} {pc pc' : Nat} {ls ls' : List (Option qz_V)} {st st' : List qz_V} {M M' : qz_M} (hs : qz_bi k ins pc ls st M = some (pc', ls', st', M')) (h : qz_ok ls st M) : qz_ok ls' st' M' ∧ qz_le M M' := by
  unfold qz_bi at hs
  split at hs
  · split at hs
    · split at hs
      · exact qz_pk hs h.pop .rf
      · cases hs
    · cases hs
  · split at hs
    · split at hs
      · split at hs
        · exact qz_pk hs (h.pop.pop.push qz_vki) .rf
        · cases hs
      · cases hs
    · split at hs
      · split at hs
        · exact qz_pk hs (h.pop.push qz_vki) .rf
        · cases hs
      · cases hs
    · cases hs
  · cases hs
def qz_rk (o : Nat) (r : Option qz_V) : Prop := ∀ v, r = some v → qz_vk o v
theorem qz_rv_ok {k : Nat} {ins : Instr} {ls : List (Option qz_V)} {st : List qz_V} {M : qz_M} {r : Option qz_V} (hs : qz_rv k ins st = some r) (h : qz_ok ls st M) : qz_rk M.1 r := by
  unfold qz_rv at hs
  split at hs
  · split at hs
    · split at hs
      · cases hs
        intro v hv
        cases hv
        exact qz_vki
      · cases hs
    · cases hs
  · split at hs
    · split at hs
      · cases hs
        intro v hv
        cases hv
        exact h.hd
      · cases hs
    · cases hs
  · split at hs
    · split at hs
      · cases hs
        intro v hv
        cases hv
      · cases hs
    · cases hs
  · cases hs
theorem qz_in0_ok {k n : Nat} {ls : List (Option qz_V)} {st : List qz_V} {M : qz_M} (h : qz_ok ls st M) : qz_ok (qz_in0 k (qz_ag n st)) [] M := by
  refine ⟨h.1, fun v hv => ?_, fun v hv => by cases hv⟩
  unfold qz_in0 qz_ag at hv
  rcases List.mem_append.mp hv with hv | hv
  · obtain ⟨w, hw, e⟩ := List.mem_map.mp hv
    cases e
    exact h.2.2 _ (List.mem_of_mem_take (List.mem_reverse.mp hw))
  · cases (List.mem_replicate.mp hv).2
theorem qz_aft {k : Nat} {ls : List (Option qz_V)} {st : List qz_V} {M M' : qz_M} {r : Option qz_V} (h : qz_ok ls st M) (hl : qz_le M M') (hW : qz_WM M') (hr : qz_rk M'.1 r) : qz_ok ls (r.toList ++ st.drop k) M' := by
  refine ⟨hW, fun v hv => (h.2.1 v hv).up hl.1, fun v hv => ?_⟩
  rcases List.mem_append.mp hv with hv | hv
  · exact hr v (by simpa using hv)
  · exact (h.2.2 v (List.mem_of_mem_drop hv)).up hl.1
/-- a run -/
theorem qz_ex_ok : ∀ (n k pc : Nat) (ls : List (Option qz_V)) (st : List qz_V) (M : qz_M) (r : Option qz_V) (M' : qz_M), qz_ex n k pc ls st M = some (r, M') → qz_ok ls st M → qz_WM M' ∧ qz_rk M'.1 r ∧ qz_le M M' := by
  intro n
  induction n with
  | zero => intro k pc ls st M r M' h; cases h
  | succ n ih =>
    intro k pc ls st M r M' h hk
    unfold qz_ex at h
    split at h
    · split at h
      · split at h
        · next hs =>
          obtain ⟨h1, h2⟩ := qz_sp_ok hs hk
          obtain ⟨h3, h4, h5⟩ := ih _ _ _ _ _ _ _ h h1
          exact ⟨h3, h4, h2.tr h5⟩
        · split at h
          · next hs =>
            cases h
            exact ⟨hk.1, qz_rv_ok hs hk, .rf⟩
          · split at h
            · next hs =>
              obtain ⟨h1, h2⟩ := qz_bi_ok hs hk
              obtain ⟨h3, h4, h5⟩ := ih _ _ _ _ _ _ _ h h1
              exact ⟨h3, h4, h2.tr h5⟩
            · split at h
              · split at h
                · next hs =>
                  obtain ⟨h1, h2, h6⟩ := ih _ _ _ _ _ _ _ hs (qz_in0_ok hk)
                  obtain ⟨h3, h4, h5⟩ := ih _ _ _ _ _ _ _ h (qz_aft hk h6 h1 h2)
                  exact ⟨h3, h4, h6.tr h5⟩
                · cases h
              · cases h
      · cases h
    · cases h
end
section
/-! the interpreter's states on the machine's heap -/
def qz_ad (z : Nat) (tA : Nat → Nat) (n : qz_N) : Nat := if n.1 < 30 then z + qz_ix n else tA n.1
def qz_tv (z : Nat) (tA : Nat → Nat) (v : qz_V) : Value := match v with
  | .inl x => .int x
  | .inr r => va_rf (r.map (qz_ad z tA))
theorem qz_tvc (z : Nat) (tA : Nat → Nat) (v : qz_V) : (qz_tv z tA v).category = 1 := by
  rcases v with x | _ | n <;> rfl
theorem qz_tvs (z : Nat) (tA : Nat → Nat) (l : List qz_V) : ((l.map (qz_tv z tA)).map fun v => v.category).sum = l.length := by
  induction l with
  | nil => rfl
  | cons v l ih => simp only [List.map_cons, List.sum_cons, List.length_cons, ih, qz_tvc]; omega
theorem qz_ad_dyn {z : Nat} {tA : Nat → Nat} {n : qz_N} (h : n.1 < 30) : qz_ad z tA n = z + qz_ix n := if_pos h
/-- what a name's cell holds -/
def qz_ce (z : Nat) (tA : Nat → Nat) (cy : Nat → ClassId) (M : qz_M) (n : qz_N) : va_E :=
  if n.1 < 7 then .inr (n.1, (List.range (qz_nf n.1)).map (fun j => if qz_rf n.1 j = true then va_rf ((M.2.2 n j).map (qz_ad z tA)) else .int (M.2.1 n j)))
  else if qz_at n.1 < 4 then .inl (cy (qz_at n.1), qz_al n.1, .inl (M.2.1 n)) else .inl (cy (qz_at n.1), qz_al n.1, .inr (.inr (.inr (.inr (fun j => (M.2.2 n j).map (qz_ad z tA))))))
def qz_A (z : Nat) : Nat → Prop := fun q => z ≤ q
def qz_P (z : Nat) (tA : Nat → Nat) (D : va_G) (cy : Nat → ClassId) (M : qz_M) (H : Heap) : Prop := H.size = z + M.1 ∧ ∀ n : qz_N, qz_vl n = true → qz_ix n < M.1 → va_at D vwCl (z + qz_ix n, qz_ce z tA cy M n) H
def qz_ts (cy : Nat → ClassId) : List (ClassId × FieldType) := [(cy 1, .int), (cy 2, .char), (cy 3, .boolean), (cy 4, .object "ShiftBuses$Booking"), (cy 5, .object "ShiftBuses$Wish"), (cy 6, .object "ShiftBuses$Works")]
def qz_St (z : Nat) (tA : Nat → Nat) (f : qz_N → Nat → Int32) (s : State) : Prop := ∀ k : Nat, 30 ≤ k → k ≤ 33 → va_T .int (tA k) (qz_ln f (k, 0, 0)) (fun j => .int (f (k, 0, 0) j)) (qz_A z) s s.heap
def qz_Kx (z : Nat) (tA : Nat → Nat) (D : va_G) (cy : Nat → ClassId) (s : State) : Prop := va_K D vwCl (qz_ts cy) s ∧ (∀ k : Nat, 30 ≤ k → k ≤ 32 → va_Z RX5 (qz_sn k) "[I" (.ref (tA k)) (qz_A z) s s.heap) ∧ (∀ e ∈ qz_ne, va_Nw (.methodLinkNest (qz_ow e.1) e.2.1 (qz_y e.2.2) "ShiftBuses") s) ∧ va_Nw (.fieldLinkNest RX4 22 RX5 "FIRST_SETTINGS" "[I" "ShiftBuses") s ∧ va_AO "ShiftBuses$Booking" s ∧ va_AO "ShiftBuses$Wish" s ∧ va_AO "ShiftBuses$Works" s
section QZM
variable {z : Nat} {tA : Nat → Nat} {D : va_G} {cy : Nat → ClassId}
theorem qz_St.same {f f' : qz_N → Nat → Int32} {s : State} (h : qz_St z tA f s) (e : ∀ n : qz_N, 30 ≤ n.1 → f' n = f n) : qz_St z tA f' s := by
  intro k h1 h2
  have e1 : f' (k, 0, 0) = f (k, 0, 0) := e (k, 0, 0) h1
  have e2 : f' (33, 1, 0) = f (33, 1, 0) := e (33, 1, 0) (by decide)
  have e3 : qz_ln f' (k, 0, 0) = qz_ln f (k, 0, 0) := by unfold qz_ln; rw [e2]
  rw [e1, e3]
  exact h k h1 h2
theorem qz_St.to {f : qz_N → Nat → Int32} {s U : State} (h : qz_St z tA f s) (hvm : s.vm.Alike U.vm) (hh : ∀ a : Nat, a < s.heap.size → ¬ qz_A z a → U.heap[a]? = s.heap[a]?) : qz_St z tA f U := fun k h1 h2 => ((h k h1 h2).moved hvm).kept hh
theorem qz_Kx.warm {s U : State} {locs : List Loc} (h : qz_Kx z tA D cy s) (hW : s.WarmedH U.vm) (hS : va_S (qz_A z) s.heap U.heap locs) : qz_Kx z tA D cy U := by
  obtain ⟨h1, h2, h3, h4, h5, h6, h7⟩ := h
  exact ⟨h1.moved hW.alike, fun k a b => ((h2 k a b).moved hW.alike).kept hS.2.1, fun e he => va_Nw.warmM hW (h3 e he), va_Nw.warmF hW h4, h5.moved hW.alike, h6.moved hW.alike, h7.moved hW.alike⟩
theorem qz_Kx.same {u U : State} (h : qz_Kx z tA D cy u) (hvm : u.vm = U.vm) (hh : u.heap = U.heap) : qz_Kx z tA D cy U := by
  obtain ⟨h1, h2, h3, h4, h5, h6, h7⟩ := h
  have al : u.vm.Alike U.vm := hvm ▸ Vm.Alike.refl u.vm
  exact ⟨h1.moved al, fun k a b => hh ▸ (h2 k a b).moved al, fun e he => va_Nw.same rfl hvm (h3 e he), va_Nw.same rfl hvm h4, h5.moved al, h6.moved al, h7.moved al⟩
theorem qz_St.eq {f : qz_N → Nat → Int32} {u U : State} (h : qz_St z tA f u) (hvm : u.vm = U.vm) (hh : u.heap = U.heap) : qz_St z tA f U := fun k a b => hh ▸ (h k a b).moved (hvm ▸ Vm.Alike.refl u.vm)
/-! locals -/
def qz_kn (z : Nat) (tA : Nat → Nat) : Nat → List (Option qz_V) → List (Nat × Value)
  | _, [] => []
  | i, none :: r => qz_kn z tA (i + 1) r
  | i, some v :: r => (i, qz_tv z tA v) :: qz_kn z tA (i + 1) r
theorem qz_kn_mem {q : Nat × Value} : ∀ (ls : List (Option qz_V)) (i : Nat), q ∈ qz_kn z tA i ls ↔ ∃ (j : Nat) (v : qz_V), ls[j]? = some (some v) ∧ q = (i + j, qz_tv z tA v) := by
  intro ls
  induction ls with
  | nil => intro i; simp [qz_kn]
  | cons x ls ih =>
    intro i
    cases x with
    | none =>
      rw [qz_kn, ih]
      constructor
      · rintro ⟨j, v, h1, h2⟩
        exact ⟨j + 1, v, by simpa using h1, by rw [h2]; congr 1; omega⟩
      · rintro ⟨j, v, h1, h2⟩
        cases j with
        | zero => simp at h1
        | succ j => exact ⟨j, v, by simpa using h1, by rw [h2]; congr 1; omega⟩
    | some w =>
      rw [qz_kn, List.mem_cons, ih]
      constructor
      · rintro (h | ⟨j, v, h1, h2⟩)
        · exact ⟨0, w, by simp, by rw [h]; rfl⟩
        · exact ⟨j + 1, v, by simpa using h1, by rw [h2]; congr 1; omega⟩
      · rintro ⟨j, v, h1, h2⟩
        cases j with
        | zero =>
          left
          simp at h1
          rw [h2, h1]; rfl
        | succ j => right; exact ⟨j, v, by simpa using h1, by rw [h2]; congr 1; omega⟩
def qz_L (z : Nat) (tA : Nat → Nat) (nL : Nat) (ls : List (Option qz_V)) (lsm : Array Slot) : Prop := ls.length = nL ∧ lv_has lsm nL (qz_kn z tA 0 ls)
theorem qz_L.at' {nL k : Nat} {ls : List (Option qz_V)} {lsm : Array Slot} {v : qz_V} (h : qz_L z tA nL ls lsm) (hk : ls[k]? = some (some v)) : lsm[k]? = some (.val (qz_tv z tA v)) :=
  h.2.2.2 (k, qz_tv z tA v) ((qz_kn_mem ls 0).mpr ⟨k, v, hk, by simp⟩)
theorem qz_L.set {nL k : Nat} {ls : List (Option qz_V)} {lsm lsm' : Array Slot} {v : qz_V} (h : qz_L z tA nL ls lsm) (hk : k < ls.length) (h' : lv_has lsm' nL ((k, qz_tv z tA v) :: (qz_kn z tA 0 ls).filter (fun q => !(q.1 == k) && !(q.1 + 1 == k && q.2.category == 2)))) : qz_L z tA nL (ls.set k (some v)) lsm' := by
  refine ⟨by rw [List.length_set]; exact h.1, h'.1, h'.2.1, fun q hq => h'.2.2 q ?_⟩
  obtain ⟨j, w, h1, h2⟩ := (qz_kn_mem _ 0).mp hq
  rw [List.getElem?_set] at h1
  split at h1
  · next e =>
    subst e
    cases h1
    rw [h2, Nat.zero_add]
    exact List.mem_cons_self
  · next e =>
    refine List.mem_cons_of_mem _ (List.mem_filter.mpr ⟨(qz_kn_mem _ 0).mpr ⟨j, w, h1, h2⟩, ?_⟩)
    rw [h2]
    have e1 : ¬ j = k := fun q => e q.symm
    simp [qz_tvc, e1]
theorem qz_L.start (k : Nat) (as : List qz_V) (n : Nat) (hn : as.length ≤ n) : qz_L z tA n (as.map some ++ List.replicate (n - as.length) none) ((lg_sl (as.map (qz_tv z tA)) ++ List.replicate (n - (lg_sl (as.map (qz_tv z tA))).length) Slot.unset).toArray) := by
  have hl : ∀ as : List qz_V, (lg_sl (as.map (qz_tv z tA))).length = as.length := by
    intro as
    induction as with
    | nil => rfl
    | cons v as ih =>
      have : lg_sl ((v :: as).map (qz_tv z tA)) = Slot.val (qz_tv z tA v) :: lg_sl (as.map (qz_tv z tA)) := by simp [lg_sl, qz_tvc]
      rw [this, List.length_cons, ih, List.length_cons]
  have hm : ∀ (as : List qz_V) (i : Nat) (r : Nat) (q : Nat × Value), q ∈ qz_kn z tA i (as.map some ++ List.replicate r none) → q ∈ lv_args i (as.map (qz_tv z tA)) := by
    intro as
    induction as with
    | nil =>
      intro i r q hq
      obtain ⟨j, v, h1, -⟩ := (qz_kn_mem _ _).mp hq
      simp [List.getElem?_replicate] at h1
    | cons v as ih =>
      intro i r q hq
      have hq : q ∈ (i, qz_tv z tA v) :: qz_kn z tA (i + 1) (as.map some ++ List.replicate r none) := hq
      have e : lv_args i ((v :: as).map (qz_tv z tA)) = (i, qz_tv z tA v) :: lv_args (i + 1) (as.map (qz_tv z tA)) := by simp [lv_args, qz_tvc]
      rw [e]
      rcases List.mem_cons.mp hq with h | h
      · rw [h]; exact List.mem_cons_self
      · exact List.mem_cons_of_mem _ (ih _ _ _ h)
  have h := lv_entry (as.map (qz_tv z tA)) (n := n) (by rw [hl]; exact hn)
  exact ⟨by simp; omega, h.1, h.2.1, fun q hq => h.2.2 q (hm _ _ _ _ hq)⟩
/-! the heap -/
theorem qz_one {a : Nat} {e : va_E} {H : Heap} (h : va_at D vwCl (a, e) H) : va_P D vwCl [(a, e)] H := by
  intro k q hq
  cases k with
  | zero => cases hq; exact h
  | succ k => simp at hq
theorem qz_P.set {M M' : qz_M} {H H' : Heap} {n : qz_N} (h : qz_P z tA D cy M H) (hv : qz_vl n = true) (hM : M'.1 = M.1) (ho : ∀ n' : qz_N, ¬ n' = n → qz_ce z tA cy M' n' = qz_ce z tA cy M n') (he : va_at D vwCl (z + qz_ix n, qz_ce z tA cy M' n) H') (hz : H'.size = H.size) (oq : ∀ q : Nat, q ≠ z + qz_ix n → H'[q]? = H[q]?) : qz_P z tA D cy M' H' := by
  refine ⟨by rw [hz, hM]; exact h.1, fun n' h1 h2 => ?_⟩
  by_cases e : n' = n
  · subst e; exact he
  · rw [ho n' e]
    refine (h.2 n' h1 (by rw [← hM]; exact h2)).kept (oq _ ?_)
    show z + qz_ix n' ≠ z + qz_ix n
    intro q
    exact e (qz_ix_inj h1 hv (by omega))
theorem qz_ce_ui {M : qz_M} {n n' : qz_N} {j : Nat} {x : Int32} (e : ¬ n' = n) : qz_ce z tA cy (qz_ui M n j x) n' = qz_ce z tA cy M n' := by
  have h : (qz_ui M n j x).2.1 n' = M.2.1 n' := by
    funext j'
    show (if n' = n ∧ j' = j then x else M.2.1 n' j') = _
    rw [if_neg (fun q => e q.1)]
  have h2 : (qz_ui M n j x).2.2 = M.2.2 := rfl
  unfold qz_ce
  rw [h, h2]
theorem qz_ce_ur {M : qz_M} {n n' : qz_N} {j : Nat} {x : Option qz_N} (e : ¬ n' = n) : qz_ce z tA cy (qz_ur M n j x) n' = qz_ce z tA cy M n' := by
  have h : (qz_ur M n j x).2.2 n' = M.2.2 n' := by
    funext j'
    show (if n' = n ∧ j' = j then x else M.2.2 n' j') = _
    rw [if_neg (fun q => e q.1)]
  have h2 : (qz_ur M n j x).2.1 = M.2.1 := rfl
  unfold qz_ce
  rw [h, h2]
/-- the fields of an object, one of them written -/
theorem qz_fs_set {α : Type} (N j : Nat) (g g' : Nat → α) (v : α) (h1 : g' j = v) (h2 : ∀ i, ¬ i = j → g' i = g i) : (List.range N).map g' = ((List.range N).map g).set j v := by
  apply List.ext_getElem?
  intro i
  rw [List.getElem?_set, List.getElem?_map, List.getElem?_map]
  by_cases hi : i < N
  · rw [List.getElem?_range hi]
    split
    · next e => subst e; simp [hi, h1]
    · next e => simp [h2 i (fun q => e q.symm)]
  · have : (List.range N)[i]? = none := by simp; omega
    rw [this]
    split
    · simp; omega
    · rfl
theorem qz_arr_ui {M : qz_M} {n : qz_N} {j : Nat} {x : Int32} : (qz_ui M n j x).2.1 n = upd (M.2.1 n) j x := by
  funext j'
  show (if n = n ∧ j' = j then x else M.2.1 n j') = if j' = j then x else M.2.1 n j'
  simp
theorem qz_def : ∀ c, c < 7 → ∀ j, j < qz_nf c → defaultValue (qz_ty c j) = if qz_rf c j = true then Value.null else .int 0 := by decide +kernel
theorem qz_fit : ∀ c, c < 7 → ∀ j, j < qz_nf c → qz_rf c j = false → (qz_bl c j = true ∧ qz_ty c j = .boolean) ∨ (qz_bl c j = false ∧ qz_ty c j = .int) := by decide +kernel
theorem qz_fitR : ∀ c, c < 7 → ∀ j, j < qz_nf c → qz_rf c j = true → (∃ C, qz_ty c j = .object C) ∨ ∃ t, qz_ty c j = .array t := by
  intro c hc j hj h
  have key : ∀ c, c < 7 → ∀ j, j < qz_nf c → qz_rf c j = true → (match qz_ty c j with
    | .object _ => true
    | .array _ => true
    | _ => false) = true := by decide +kernel
  have := key c hc j hj h
  split at this
  · next C e => exact Or.inl ⟨C, e⟩
  · next t e => exact Or.inr ⟨t, e⟩
  · cases this
theorem qz_atk : ∀ k : Nat, k < 24 → 7 ≤ k → qz_at k < 7 := by decide
theorem qz_at0 {k : Nat} (h : ¬ qz_at k = 0) : 7 ≤ k := by
  rcases Nat.lt_or_ge k 7 with q | q
  · exfalso
    have : ∀ k : Nat, k < 7 → qz_at k = 0 := by decide
    exact h (this k q)
  · exact q
theorem qz_sta {o : Nat} {n : qz_N} (h : qz_lv o n) (hn : ¬ n.1 < 30) : 30 ≤ n.1 ∧ n.1 ≤ 33 ∧ n = (n.1, 0, 0) := by
  rcases h with h | h
  · exact absurd h.1 hn
  · obtain ⟨k, w, i⟩ := n
    simp [qz_sa'] at h
    obtain ⟨h1, h2, rfl, rfl⟩ := h
    exact ⟨h1, h2, rfl⟩
theorem qz_xi_in {i : Int32} {n : Nat} (h : qz_xi i n = true) : vp_in i n := by
  simp [qz_xi] at h
  rintro (q | q)
  · exact absurd q (Int32.not_lt.mpr h.1)
  · omega
theorem qz_Kt {s : State} (h : qz_Kx z tA D cy s) {t : Nat} (h1 : 1 ≤ t) (h2 : t < 7) : ArrOfT s (cy t) (qz_ft t) ∧ va_RA s (cy t) (qz_ft t) := by
  have h := h.1.2
  have hc : t = 1 ∨ t = 2 ∨ t = 3 ∨ t = 4 ∨ t = 5 ∨ t = 6 := by omega
  rcases hc with rfl | rfl | rfl | rfl | rfl | rfl
  · exact h 0 _ rfl
  · exact h 1 _ rfl
  · exact h 2 _ rfl
  · exact h 3 _ rfl
  · exact h 4 _ rfl
  · exact h 5 _ rfl
theorem qz_ss_le {o o' : Nat} (h : o ≤ o') : qz_ss o ≤ qz_ss o' := by
  induction h with
  | refl => exact Nat.le_refl _
  | step _ ih => exact Nat.le_trans ih (Nat.le_add_right _ _)
end QZM
end
section
/-! one step of the interpreter is a step of the machine -/
section QZR
variable {p : Program} {l : Launch} {e : Env} {R : Room} {s : State} {m : MethodId} {args : Array Value} {below : List Frame} {meth : Method} {c : Code} {Q : State → Prop}
variable {z : Nat} {tA : Nat → Nat} {D : va_G} {cy : Nat → ClassId} {k : Nat}
variable {ce sl pc : Nat} {ls : List (Option qz_V)} {st : List qz_V} {M : qz_M}
def qz_Cx (p : Program) (s : State) (m : MethodId) (args : Array Value) (meth : Method) (c : Code) (z : Nat) (tA : Nat → Nat) (D : va_G) (cy : Nat → ClassId) (k : Nat) : Prop :=
  p.tables.exec = Jvm.exec ∧ c.code = qz_b k ∧ c.maxLocals = qz_ml k ∧ s.vm.findClass (qz_ow (qz_cn k)) = some m.cls ∧ (∀ w ∈ qz_tb, w.before args s = true) ∧ (qz_ini k = true → meth.name = "<init>") ∧ qz_Kx z tA D cy s ∧ z ≤ s.heap.size
def qz_W (p : Program) (l : Launch) (e : Env) (R : Room) (s : State) (m : MethodId) (args : Array Value) (below : List Frame) (meth : Method) (c : Code) (z : Nat) (tA : Nat → Nat) (D : va_G) (cy : Nat → ClassId) (k : Nat) (Q : State → Prop) (ce sl pc : Nat) (ls : List (Option qz_V)) (st : List qz_V) (M : qz_M) : Prop :=
  ∀ (H : Heap) (locs : List Loc) (lsm : Array Slot), qz_L z tA (qz_ml k) ls lsm → qz_P z tA D cy M H → va_S (qz_A z) s.heap H locs → qz_St z tA M.2.1 s → W p l e R s m args below meth c H locs ce sl Q (F0 m pc lsm (st.map (qz_tv z tA)))
theorem qz_r_iconst (hC : qz_Cx p s m args meth c z tA D cy k) {i : Int} (hd : decode (qz_b k) pc = .ok (.iconst i, 1)) (kk : qz_W p l e R s m args below meth c z tA D cy k Q ce sl (pc + 1) ls (.inl (Int32.ofInt i) :: st) M) : qz_W p l e R s m args below meth c z tA D cy k Q ce sl pc ls st M := fun H locs lsm hL hP hS hT => lv_iconst hC.1 hC.2.1 hd rfl (kk H locs lsm hL hP hS hT)
theorem qz_r_bipush (hC : qz_Cx p s m args meth c z tA D cy k) {i : Int} (hd : decode (qz_b k) pc = .ok (.bipush i, 2)) (kk : qz_W p l e R s m args below meth c z tA D cy k Q ce sl (pc + 2) ls (.inl (Int8.ofInt i).toInt32 :: st) M) : qz_W p l e R s m args below meth c z tA D cy k Q ce sl pc ls st M := fun H locs lsm hL hP hS hT => lv_bipush hC.1 hC.2.1 hd rfl (kk H locs lsm hL hP hS hT)
theorem qz_r_sipush (hC : qz_Cx p s m args meth c z tA D cy k) {i : Int} (hd : decode (qz_b k) pc = .ok (.sipush i, 3)) (kk : qz_W p l e R s m args below meth c z tA D cy k Q ce sl (pc + 3) ls (.inl (Int16.ofInt i).toInt32 :: st) M) : qz_W p l e R s m args below meth c z tA D cy k Q ce sl pc ls st M := fun H locs lsm hL hP hS hT => lv_sipush hC.1 hC.2.1 hd rfl (kk H locs lsm hL hP hS hT)
theorem qz_r_null (hC : qz_Cx p s m args meth c z tA D cy k) (hd : decode (qz_b k) pc = .ok (.aconst_null, 1)) (kk : qz_W p l e R s m args below meth c z tA D cy k Q ce sl (pc + 1) ls (.inr none :: st) M) : qz_W p l e R s m args below meth c z tA D cy k Q ce sl pc ls st M := fun H locs lsm hL hP hS hT => lv_null hC.1 hC.2.1 hd (kk H locs lsm hL hP hS hT)
theorem qz_r_iload (hC : qz_Cx p s m args meth c z tA D cy k) {i : Nat} {x : Int32} (hd : decode (qz_b k) pc = .ok (.iload i, 2)) (hx : ls[i]? = some (some (.inl x))) (kk : qz_W p l e R s m args below meth c z tA D cy k Q ce sl (pc + 2) ls (.inl x :: st) M) : qz_W p l e R s m args below meth c z tA D cy k Q ce sl pc ls st M := fun H locs lsm hL hP hS hT => lv_iload hC.1 hC.2.1 hd (hL.at' hx) (kk H locs lsm hL hP hS hT)
theorem qz_r_iload_n (hC : qz_Cx p s m args meth c z tA D cy k) {i : Fin 4} {x : Int32} (hd : decode (qz_b k) pc = .ok (.iload_n i, 1)) (hx : ls[i.val]? = some (some (.inl x))) (kk : qz_W p l e R s m args below meth c z tA D cy k Q ce sl (pc + 1) ls (.inl x :: st) M) : qz_W p l e R s m args below meth c z tA D cy k Q ce sl pc ls st M := fun H locs lsm hL hP hS hT => lv_iload_n hC.1 hC.2.1 hd rfl (hL.at' hx) (kk H locs lsm hL hP hS hT)
theorem qz_r_aload (hC : qz_Cx p s m args meth c z tA D cy k) {i : Nat} {x : Option qz_N} (hd : decode (qz_b k) pc = .ok (.aload i, 2)) (hx : ls[i]? = some (some (.inr x))) (kk : qz_W p l e R s m args below meth c z tA D cy k Q ce sl (pc + 2) ls (.inr x :: st) M) : qz_W p l e R s m args below meth c z tA D cy k Q ce sl pc ls st M := by
  intro H locs lsm hL hP hS hT
  have h := hL.at' hx
  have k1 := kk H locs lsm hL hP hS hT
  cases x with
  | none => exact lv_aloadN hC.1 hC.2.1 hd h k1
  | some n => exact lv_aload hC.1 hC.2.1 hd h k1
theorem qz_r_aload_n (hC : qz_Cx p s m args meth c z tA D cy k) {i : Fin 4} {x : Option qz_N} (hd : decode (qz_b k) pc = .ok (.aload_n i, 1)) (hx : ls[i.val]? = some (some (.inr x))) (kk : qz_W p l e R s m args below meth c z tA D cy k Q ce sl (pc + 1) ls (.inr x :: st) M) : qz_W p l e R s m args below meth c z tA D cy k Q ce sl pc ls st M := by
  intro H locs lsm hL hP hS hT
  have h := hL.at' hx
  have k1 := kk H locs lsm hL hP hS hT
  cases x with
  | none => exact lv_aload_nN hC.1 hC.2.1 hd rfl h k1
  | some n => exact lv_aload_n hC.1 hC.2.1 hd rfl h k1
theorem qz_r_istore (hC : qz_Cx p s m args meth c z tA D cy k) {i : Nat} {x : Int32} (hd : decode (qz_b k) pc = .ok (.istore i, 2)) (hi : i < ls.length) (kk : qz_W p l e R s m args below meth c z tA D cy k Q ce sl (pc + 2) (ls.set i (some (.inl x))) st M) : qz_W p l e R s m args below meth c z tA D cy k Q ce sl pc ls (.inl x :: st) M := fun H locs lsm hL hP hS hT =>
  lv_istore hC.1 hC.2.1 hd hL.2 (by rw [← hL.1]; exact hi) rfl (fun lsm' h' => kk H locs lsm' (hL.set (v := .inl x) hi h') hP hS hT)
theorem qz_r_istore_n (hC : qz_Cx p s m args meth c z tA D cy k) {i : Fin 4} {x : Int32} (hd : decode (qz_b k) pc = .ok (.istore_n i, 1)) (hi : i.val < ls.length) (kk : qz_W p l e R s m args below meth c z tA D cy k Q ce sl (pc + 1) (ls.set i.val (some (.inl x))) st M) : qz_W p l e R s m args below meth c z tA D cy k Q ce sl pc ls (.inl x :: st) M := fun H locs lsm hL hP hS hT =>
  lv_istore_n hC.1 hC.2.1 hd rfl hL.2 (by rw [← hL.1]; exact hi) rfl (fun lsm' h' => kk H locs lsm' (hL.set (v := .inl x) hi h') hP hS hT)
theorem qz_r_astore (hC : qz_Cx p s m args meth c z tA D cy k) {i : Nat} {x : Option qz_N} (hd : decode (qz_b k) pc = .ok (.astore i, 2)) (hi : i < ls.length) (kk : qz_W p l e R s m args below meth c z tA D cy k Q ce sl (pc + 2) (ls.set i (some (.inr x))) st M) : qz_W p l e R s m args below meth c z tA D cy k Q ce sl pc ls (.inr x :: st) M := by
  intro H locs lsm hL hP hS hT
  have hn : i < qz_ml k := by rw [← hL.1]; exact hi
  cases x with
  | none => exact lv_astoreN hC.1 hC.2.1 hd hL.2 hn rfl (fun lsm' h' => kk H locs lsm' (hL.set (v := .inr none) hi h') hP hS hT)
  | some n => exact lv_astore hC.1 hC.2.1 hd hL.2 hn rfl (fun lsm' h' => kk H locs lsm' (hL.set (v := .inr (some n)) hi h') hP hS hT)
theorem qz_r_astore_n (hC : qz_Cx p s m args meth c z tA D cy k) {i : Fin 4} {x : Option qz_N} (hd : decode (qz_b k) pc = .ok (.astore_n i, 1)) (hi : i.val < ls.length) (kk : qz_W p l e R s m args below meth c z tA D cy k Q ce sl (pc + 1) (ls.set i.val (some (.inr x))) st M) : qz_W p l e R s m args below meth c z tA D cy k Q ce sl pc ls (.inr x :: st) M := by
  intro H locs lsm hL hP hS hT
  have hn : i.val < qz_ml k := by rw [← hL.1]; exact hi
  cases x with
  | none => exact lv_astore_nN hC.1 hC.2.1 hd rfl hL.2 hn rfl (fun lsm' h' => kk H locs lsm' (hL.set (v := .inr none) hi h') hP hS hT)
  | some n => exact lv_astore_n hC.1 hC.2.1 hd rfl hL.2 hn rfl (fun lsm' h' => kk H locs lsm' (hL.set (v := .inr (some n)) hi h') hP hS hT)
theorem qz_r_iinc (hC : qz_Cx p s m args meth c z tA D cy k) {i : Nat} {n : Int} {x : Int32} (hd : decode (qz_b k) pc = .ok (.iinc i n, 3)) (hx : ls[i]? = some (some (.inl x))) (kk : qz_W p l e R s m args below meth c z tA D cy k Q ce sl (pc + 3) (ls.set i (some (.inl (x + Int32.ofInt n)))) st M) : qz_W p l e R s m args below meth c z tA D cy k Q ce sl pc ls st M := by
  intro H locs lsm hL hP hS hT
  have hi : i < ls.length := (List.getElem?_eq_some_iff.mp hx).1
  obtain ⟨j, hj⟩ := List.getElem?_of_mem ((qz_kn_mem (z := z) (tA := tA) ls 0).mpr ⟨i, _, hx, rfl⟩)
  rw [Nat.zero_add] at hj
  exact lv_iinc hC.1 hC.2.1 hd hL.2 hj rfl (by rw [← hL.1]; exact hi) rfl (fun lsm' h' => kk H locs lsm' (hL.set (v := .inl _) hi h') hP hS hT)
theorem qz_r_iadd (hC : qz_Cx p s m args meth c z tA D cy k) {x y : Int32} (hd : decode (qz_b k) pc = .ok (.iadd, 1)) (kk : qz_W p l e R s m args below meth c z tA D cy k Q ce sl (pc + 1) ls (.inl (x + y) :: st) M) : qz_W p l e R s m args below meth c z tA D cy k Q ce sl pc ls (.inl y :: .inl x :: st) M := fun H locs lsm hL hP hS hT => lv_iadd hC.1 hC.2.1 hd (kk H locs lsm hL hP hS hT)
theorem qz_r_isub (hC : qz_Cx p s m args meth c z tA D cy k) {x y : Int32} (hd : decode (qz_b k) pc = .ok (.isub, 1)) (kk : qz_W p l e R s m args below meth c z tA D cy k Q ce sl (pc + 1) ls (.inl (x - y) :: st) M) : qz_W p l e R s m args below meth c z tA D cy k Q ce sl pc ls (.inl y :: .inl x :: st) M := fun H locs lsm hL hP hS hT => lv_isub hC.1 hC.2.1 hd (kk H locs lsm hL hP hS hT)
theorem qz_r_imul (hC : qz_Cx p s m args meth c z tA D cy k) {x y : Int32} (hd : decode (qz_b k) pc = .ok (.imul, 1)) (kk : qz_W p l e R s m args below meth c z tA D cy k Q ce sl (pc + 1) ls (.inl (x * y) :: st) M) : qz_W p l e R s m args below meth c z tA D cy k Q ce sl pc ls (.inl y :: .inl x :: st) M := fun H locs lsm hL hP hS hT => lv_imul hC.1 hC.2.1 hd (kk H locs lsm hL hP hS hT)
theorem qz_r_iand (hC : qz_Cx p s m args meth c z tA D cy k) {x y : Int32} (hd : decode (qz_b k) pc = .ok (.iand, 1)) (kk : qz_W p l e R s m args below meth c z tA D cy k Q ce sl (pc + 1) ls (.inl (x &&& y) :: st) M) : qz_W p l e R s m args below meth c z tA D cy k Q ce sl pc ls (.inl y :: .inl x :: st) M := fun H locs lsm hL hP hS hT => lv_iand hC.1 hC.2.1 hd (kk H locs lsm hL hP hS hT)
theorem qz_r_idiv (hC : qz_Cx p s m args meth c z tA D cy k) {x y : Int32} (hd : decode (qz_b k) pc = .ok (.idiv, 1)) (hy : ¬ y = 0) (kk : qz_W p l e R s m args below meth c z tA D cy k Q ce sl (pc + 1) ls (.inl (x / y) :: st) M) : qz_W p l e R s m args below meth c z tA D cy k Q ce sl pc ls (.inl y :: .inl x :: st) M := fun H locs lsm hL hP hS hT => lv_idiv hC.1 hC.2.1 hd hy (kk H locs lsm hL hP hS hT)
theorem qz_r_irem (hC : qz_Cx p s m args meth c z tA D cy k) {x y : Int32} (hd : decode (qz_b k) pc = .ok (.irem, 1)) (hy : ¬ y = 0) (kk : qz_W p l e R s m args below meth c z tA D cy k Q ce sl (pc + 1) ls (.inl (x - x / y * y) :: st) M) : qz_W p l e R s m args below meth c z tA D cy k Q ce sl pc ls (.inl y :: .inl x :: st) M := fun H locs lsm hL hP hS hT => lv_irem hC.1 hC.2.1 hd hy (kk H locs lsm hL hP hS hT)
theorem qz_r_ineg (hC : qz_Cx p s m args meth c z tA D cy k) {x : Int32} (hd : decode (qz_b k) pc = .ok (.ineg, 1)) (kk : qz_W p l e R s m args below meth c z tA D cy k Q ce sl (pc + 1) ls (.inl (-x) :: st) M) : qz_W p l e R s m args below meth c z tA D cy k Q ce sl pc ls (.inl x :: st) M := fun H locs lsm hL hP hS hT => lv_ineg hC.1 hC.2.1 hd (kk H locs lsm hL hP hS hT)
theorem qz_r_i2c (hC : qz_Cx p s m args meth c z tA D cy k) {x : Int32} (hd : decode (qz_b k) pc = .ok (.i2c, 1)) (kk : qz_W p l e R s m args below meth c z tA D cy k Q ce sl (pc + 1) ls (.inl (x.toUInt32 % 65536).toInt32 :: st) M) : qz_W p l e R s m args below meth c z tA D cy k Q ce sl pc ls (.inl x :: st) M := fun H locs lsm hL hP hS hT => lv_i2c hC.1 hC.2.1 hd rfl (kk H locs lsm hL hP hS hT)
theorem qz_r_dup (hC : qz_Cx p s m args meth c z tA D cy k) {x : qz_V} (hd : decode (qz_b k) pc = .ok (.dup, 1)) (kk : qz_W p l e R s m args below meth c z tA D cy k Q ce sl (pc + 1) ls (x :: x :: st) M) : qz_W p l e R s m args below meth c z tA D cy k Q ce sl pc ls (x :: st) M := fun H locs lsm hL hP hS hT => lv_dup hC.1 hC.2.1 hd (qz_tvc _ _ _) (kk H locs lsm hL hP hS hT)
theorem qz_r_dup2 (hC : qz_Cx p s m args meth c z tA D cy k) {x y : qz_V} (hd : decode (qz_b k) pc = .ok (.dup2, 1)) (kk : qz_W p l e R s m args below meth c z tA D cy k Q ce sl (pc + 1) ls (x :: y :: x :: y :: st) M) : qz_W p l e R s m args below meth c z tA D cy k Q ce sl pc ls (x :: y :: st) M := fun H locs lsm hL hP hS hT => lv_dup2_11 hC.1 hC.2.1 hd (qz_tvc _ _ _) (qz_tvc _ _ _) (kk H locs lsm hL hP hS hT)
theorem qz_r_pop (hC : qz_Cx p s m args meth c z tA D cy k) {x : qz_V} (hd : decode (qz_b k) pc = .ok (.pop, 1)) (kk : qz_W p l e R s m args below meth c z tA D cy k Q ce sl (pc + 1) ls st M) : qz_W p l e R s m args below meth c z tA D cy k Q ce sl pc ls (x :: st) M := fun H locs lsm hL hP hS hT => lv_pop hC.1 hC.2.1 hd (qz_tvc _ _ _) (kk H locs lsm hL hP hS hT)
theorem qz_tg_eq {pc t : Nat} {off : Int} (h : qz_tg pc off = some t) : (pc : Int) + off = (t : Int) := by
  unfold qz_tg at h
  split at h
  · cases h; omega
  · cases h
/-- a branch: by its condition -/
theorem qz_br_inv {b : Bool} {off : Int} {pc' : Nat} {ls' : List (Option qz_V)} {st' : List qz_V} {M' : qz_M} (hs : qz_br b pc off ls st M = some (pc', ls', st', M')) : ∃ t : Nat, (pc : Int) + off = (t : Int) ∧ ls' = ls ∧ st' = st ∧ M' = M ∧ ((b = true ∧ pc' = t) ∨ (b = false ∧ pc' = pc + 3)) := by
  unfold qz_br at hs
  split at hs
  · next t ht =>
    split at hs
    · next hb => cases hs; exact ⟨_, qz_tg_eq ht, rfl, rfl, rfl, Or.inl ⟨hb, rfl⟩⟩
    · next hb => cases hs; exact ⟨_, qz_tg_eq ht, rfl, rfl, rfl, Or.inr ⟨by simpa using hb, rfl⟩⟩
  · cases hs
theorem qz_r_if (hC : qz_Cx p s m args meth c z tA D cy k) {cd : ClassFile.Cond} {off : Int} {x : Int32} {pc' : Nat} {ls' : List (Option qz_V)} {st' : List qz_V} {M' : qz_M} (hd : decode (qz_b k) pc = .ok (.ifCond cd off, 3)) (hs : qz_br (qz_cd cd x 0) pc off ls st M = some (pc', ls', st', M')) (kk : qz_W p l e R s m args below meth c z tA D cy k Q ce sl pc' ls' st' M') : qz_W p l e R s m args below meth c z tA D cy k Q ce sl pc ls (.inl x :: st) M := by
  intro H locs lsm hL hP hS hT
  obtain ⟨t, ht, rfl, rfl, rfl, hb⟩ := qz_br_inv hs
  have k1 := kk H locs lsm hL hP hS hT
  cases cd with
  | eq => exact lv_if_eq hC.1 hC.2.1 hd ht (fun q => by rcases hb with ⟨h1, rfl⟩ | ⟨h1, rfl⟩ <;> first | exact k1 | (simp [qz_cd] at h1; exact absurd q h1)) (fun q => by rcases hb with ⟨h1, rfl⟩ | ⟨h1, rfl⟩ <;> first | (simp [qz_cd] at h1; exact absurd h1 q) | exact k1)
  | ne => exact lv_if_ne hC.1 hC.2.1 hd ht (fun q => by rcases hb with ⟨h1, rfl⟩ | ⟨h1, rfl⟩ <;> first | exact k1 | (simp [qz_cd] at h1; exact absurd h1 q)) (fun q => by rcases hb with ⟨h1, rfl⟩ | ⟨h1, rfl⟩ <;> first | (simp [qz_cd] at h1; exact absurd q h1) | exact k1)
  | lt => exact lv_if_lt hC.1 hC.2.1 hd ht (fun q => by rcases hb with ⟨h1, rfl⟩ | ⟨h1, rfl⟩ <;> first | exact k1 | exact absurd q (of_decide_eq_false h1)) (fun q => by rcases hb with ⟨h1, rfl⟩ | ⟨h1, rfl⟩ <;> first | exact absurd (of_decide_eq_true h1) q | exact k1)
  | ge => exact lv_if_ge hC.1 hC.2.1 hd ht (fun q => by rcases hb with ⟨h1, rfl⟩ | ⟨h1, rfl⟩ <;> first | exact k1 | exact absurd q (of_decide_eq_false h1)) (fun q => by rcases hb with ⟨h1, rfl⟩ | ⟨h1, rfl⟩ <;> first | exact absurd (of_decide_eq_true h1) q | exact k1)
  | gt => exact lv_if_gt hC.1 hC.2.1 hd ht (fun q => by rcases hb with ⟨h1, rfl⟩ | ⟨h1, rfl⟩ <;> first | exact k1 | exact absurd q (of_decide_eq_false h1)) (fun q => by rcases hb with ⟨h1, rfl⟩ | ⟨h1, rfl⟩ <;> first | exact absurd (of_decide_eq_true h1) q | exact k1)
  | le => exact lv_if_le hC.1 hC.2.1 hd ht (fun q => by rcases hb with ⟨h1, rfl⟩ | ⟨h1, rfl⟩ <;> first | exact k1 | exact absurd q (of_decide_eq_false h1)) (fun q => by rcases hb with ⟨h1, rfl⟩ | ⟨h1, rfl⟩ <;> first | exact absurd (of_decide_eq_true h1) q | exact k1)
theorem qz_r_icmp (hC : qz_Cx p s m args meth c z tA D cy k) {cd : ClassFile.Cond} {off : Int} {x y : Int32} {pc' : Nat} {ls' : List (Option qz_V)} {st' : List qz_V} {M' : qz_M} (hd : decode (qz_b k) pc = .ok (.if_icmp cd off, 3)) (hs : qz_br (qz_cd cd x y) pc off ls st M = some (pc', ls', st', M')) (kk : qz_W p l e R s m args below meth c z tA D cy k Q ce sl pc' ls' st' M') : qz_W p l e R s m args below meth c z tA D cy k Q ce sl pc ls (.inl y :: .inl x :: st) M := by
  intro H locs lsm hL hP hS hT
  obtain ⟨t, ht, rfl, rfl, rfl, hb⟩ := qz_br_inv hs
  have k1 := kk H locs lsm hL hP hS hT
  cases cd with
  | eq => exact lv_icmp_eq hC.1 hC.2.1 hd ht (fun q => by rcases hb with ⟨h1, rfl⟩ | ⟨h1, rfl⟩ <;> first | exact k1 | exact absurd q (of_decide_eq_false h1)) (fun q => by rcases hb with ⟨h1, rfl⟩ | ⟨h1, rfl⟩ <;> first | exact absurd (of_decide_eq_true h1) q | exact k1)
  | ne => exact lv_icmp_ne hC.1 hC.2.1 hd ht (fun q => by rcases hb with ⟨h1, rfl⟩ | ⟨h1, rfl⟩ <;> first | exact k1 | exact absurd q (of_decide_eq_false h1)) (fun q => by rcases hb with ⟨h1, rfl⟩ | ⟨h1, rfl⟩ <;> first | exact absurd q (of_decide_eq_true h1) | exact k1)
  | lt => exact lv_icmp_lt hC.1 hC.2.1 hd ht (fun q => by rcases hb with ⟨h1, rfl⟩ | ⟨h1, rfl⟩ <;> first | exact k1 | exact absurd q (of_decide_eq_false h1)) (fun q => by rcases hb with ⟨h1, rfl⟩ | ⟨h1, rfl⟩ <;> first | exact absurd (of_decide_eq_true h1) q | exact k1)
  | ge => exact lv_icmp_ge hC.1 hC.2.1 hd ht (fun q => by rcases hb with ⟨h1, rfl⟩ | ⟨h1, rfl⟩ <;> first | exact k1 | exact absurd q (of_decide_eq_false h1)) (fun q => by rcases hb with ⟨h1, rfl⟩ | ⟨h1, rfl⟩ <;> first | exact absurd (of_decide_eq_true h1) q | exact k1)
  | gt => exact lv_icmp_gt hC.1 hC.2.1 hd ht (fun q => by rcases hb with ⟨h1, rfl⟩ | ⟨h1, rfl⟩ <;> first | exact k1 | exact absurd q (of_decide_eq_false h1)) (fun q => by rcases hb with ⟨h1, rfl⟩ | ⟨h1, rfl⟩ <;> first | exact absurd (of_decide_eq_true h1) q | exact k1)
  | le => exact lv_icmp_le hC.1 hC.2.1 hd ht (fun q => by rcases hb with ⟨h1, rfl⟩ | ⟨h1, rfl⟩ <;> first | exact k1 | exact absurd q (of_decide_eq_false h1)) (fun q => by rcases hb with ⟨h1, rfl⟩ | ⟨h1, rfl⟩ <;> first | exact absurd (of_decide_eq_true h1) q | exact k1)
theorem qz_ad_inj (h1 : qz_Kx z tA D cy s) {o : Nat} {H : Heap} (hz : H.size = z + o) {f : qz_N → Nat → Int32} (hT : qz_St z tA f s) {x y : Option qz_N} (hx : ∀ n, x = some n → n.1 < 30 ∧ qz_lv o n) (hy : ∀ n, y = some n → n.1 < 30 ∧ qz_lv o n) (h : x.map (qz_ad z tA) = y.map (qz_ad z tA)) : x = y := by
  cases x with
  | none => cases y with
    | none => rfl
    | some b => simp at h
  | some a => cases y with
    | none => simp at h
    | some b =>
      obtain ⟨ha, ha'⟩ := hx a rfl
      obtain ⟨hb, hb'⟩ := hy b rfl
      simp only [Option.map_some, Option.some.injEq] at h
      rw [qz_ad_dyn ha, qz_ad_dyn hb] at h
      rw [qz_ix_inj (qz_dyn ha' ha).1 (qz_dyn hb' hb).1 (by omega)]
theorem qz_r_acmp (hC : qz_Cx p s m args meth c z tA D cy k) {off : Int} {x y : Option qz_N} {pc' : Nat} {ls' : List (Option qz_V)} {st' : List qz_V} {M' : qz_M} (hx : ∀ n, x = some n → n.1 < 30 ∧ qz_lv M.1 n) (hy : ∀ n, y = some n → n.1 < 30 ∧ qz_lv M.1 n) (hd : decode (qz_b k) pc = .ok (.if_acmp .eq off, 3)) (hs : qz_br (decide (x = y)) pc off ls st M = some (pc', ls', st', M')) (kk : qz_W p l e R s m args below meth c z tA D cy k Q ce sl pc' ls' st' M') : qz_W p l e R s m args below meth c z tA D cy k Q ce sl pc ls (.inr y :: .inr x :: st) M := by
  intro H locs lsm hL hP hS hT
  obtain ⟨t, ht, rfl, rfl, rfl, hb⟩ := qz_br_inv hs
  have k1 := kk H locs lsm hL hP hS hT
  exact lv_acmp_eq (rx := x.map (qz_ad z tA)) (ry := y.map (qz_ad z tA)) hC.1 hC.2.1 hd ht
    (fun q => by
      have q := qz_ad_inj hC.2.2.2.2.2.2.1 hP.1 hT hx hy q
      rcases hb with ⟨h1, rfl⟩ | ⟨h1, rfl⟩
      · exact k1
      · exact absurd q (of_decide_eq_false h1))
    (fun q => by
      rcases hb with ⟨h1, rfl⟩ | ⟨h1, rfl⟩
      · exact absurd (by rw [of_decide_eq_true h1]) q
      · exact k1)
theorem qz_r_ifnull (hC : qz_Cx p s m args meth c z tA D cy k) {off : Int} {x : Option qz_N} {pc' : Nat} {ls' : List (Option qz_V)} {st' : List qz_V} {M' : qz_M} (hd : decode (qz_b k) pc = .ok (.ifnull off, 3)) (hs : qz_br (decide (x = none)) pc off ls st M = some (pc', ls', st', M')) (kk : qz_W p l e R s m args below meth c z tA D cy k Q ce sl pc' ls' st' M') : qz_W p l e R s m args below meth c z tA D cy k Q ce sl pc ls (.inr x :: st) M := by
  intro H locs lsm hL hP hS hT
  obtain ⟨t, ht, rfl, rfl, rfl, hb⟩ := qz_br_inv hs
  have k1 := kk H locs lsm hL hP hS hT
  cases x with
  | none =>
    rcases hb with ⟨-, rfl⟩ | ⟨h1, -⟩
    · exact lv_ifnullN hC.1 hC.2.1 hd ht k1
    · simp at h1
  | some n =>
    rcases hb with ⟨h1, -⟩ | ⟨-, rfl⟩
    · simp at h1
    · exact lv_ifnull hC.1 hC.2.1 hd k1
theorem qz_r_ifnonnull (hC : qz_Cx p s m args meth c z tA D cy k) {off : Int} {x : Option qz_N} {pc' : Nat} {ls' : List (Option qz_V)} {st' : List qz_V} {M' : qz_M} (hd : decode (qz_b k) pc = .ok (.ifnonnull off, 3)) (hs : qz_br (decide (¬ x = none)) pc off ls st M = some (pc', ls', st', M')) (kk : qz_W p l e R s m args below meth c z tA D cy k Q ce sl pc' ls' st' M') : qz_W p l e R s m args below meth c z tA D cy k Q ce sl pc ls (.inr x :: st) M := by
  intro H locs lsm hL hP hS hT
  obtain ⟨t, ht, rfl, rfl, rfl, hb⟩ := qz_br_inv hs
  have k1 := kk H locs lsm hL hP hS hT
  cases x with
  | none =>
    rcases hb with ⟨h1, -⟩ | ⟨-, rfl⟩
    · simp at h1
    · exact lv_ifnonnullN hC.1 hC.2.1 hd k1
  | some n =>
    rcases hb with ⟨-, rfl⟩ | ⟨h1, -⟩
    · exact lv_ifnonnull hC.1 hC.2.1 hd ht k1
    · simp at h1
theorem qz_r_goto (hC : qz_Cx p s m args meth c z tA D cy k) {off : Int} {t : Nat} (hd : decode (qz_b k) pc = .ok (.goto off, 3)) (ht : qz_tg pc off = some t) (kk : qz_W p l e R s m args below meth c z tA D cy k Q ce sl t ls st M) : qz_W p l e R s m args below meth c z tA D cy k Q ce sl pc ls st M := fun H locs lsm hL hP hS hT => lv_goto hC.1 hC.2.1 hd (qz_tg_eq ht) (kk H locs lsm hL hP hS hT)
theorem qz_r_tabO (hC : qz_Cx p s m args meth c z tA D cy k) {d lo hi : Int} {offs : Array Int} {len t : Nat} {x : Int32} (hd : decode (qz_b k) pc = .ok (.tableswitch d lo hi offs, len)) (h : x.toInt < lo ∨ hi < x.toInt) (ht : qz_tg pc d = some t) (kk : qz_W p l e R s m args below meth c z tA D cy k Q ce sl t ls st M) : qz_W p l e R s m args below meth c z tA D cy k Q ce sl pc ls (.inl x :: st) M := fun H locs lsm hL hP hS hT => lv_tableOut hC.1 hC.2.1 hd h (qz_tg_eq ht) (kk H locs lsm hL hP hS hT)
theorem qz_r_tabI (hC : qz_Cx p s m args meth c z tA D cy k) {d lo hi off : Int} {offs : Array Int} {len t : Nat} {x : Int32} (hd : decode (qz_b k) pc = .ok (.tableswitch d lo hi offs, len)) (h : ¬ (x.toInt < lo ∨ hi < x.toInt)) (ho : offs[(x.toInt - lo).toNat]? = some off) (ht : qz_tg pc off = some t) (kk : qz_W p l e R s m args below meth c z tA D cy k Q ce sl t ls st M) : qz_W p l e R s m args below meth c z tA D cy k Q ce sl pc ls (.inl x :: st) M := fun H locs lsm hL hP hS hT => lv_tableIn hC.1 hC.2.1 hd (fun q => h (Or.inl q)) (fun q => h (Or.inr q)) ho (qz_tg_eq ht) (kk H locs lsm hL hP hS hT)
/-! fields -/
theorem qz_fget {N j : Nat} (g : Nat → Value) (hj : j < N) : ((List.range N).map g)[j]? = some (g j) := by rw [List.getElem?_map, List.getElem?_range hj]; rfl
theorem qz_r_getf (hC : qz_Cx p s m args meth c z tA D cy k) {i j : Nat} {n : qz_N} (hd : decode (qz_b k) pc = .ok (.getfield i, 3)) (hf : qz_fl (qz_cn k) i = some (n.1, j)) (hn : qz_lv M.1 n) (kk : qz_W p l e R s m args below meth c z tA D cy k Q ce sl (pc + 3) ls ((if qz_rf n.1 j = true then .inr (M.2.2 n j) else .inl (M.2.1 n j)) :: st) M) : qz_W p l e R s m args below meth c z tA D cy k Q ce sl pc ls (.inr (some n) :: st) M := by
  intro H locs lsm hL hP hS hT
  obtain ⟨h7, hj, hw⟩ := qz_fl_ok hf
  simp only at h7 hj hw
  obtain ⟨c1, c2, -, -, -, -, -⟩ := qz_co h7
  obtain ⟨hv, hi⟩ := qz_dyn hn (by omega)
  have hat := hP.2 n hv hi
  have he : qz_ce z tA cy M n = .inr (n.1, (List.range (qz_nf n.1)).map (fun j => if qz_rf n.1 j = true then va_rf ((M.2.2 n j).map (qz_ad z tA)) else .int (M.2.1 n j))) := if_pos h7
  rw [he] at hat
  have k1 := kk H locs lsm hL hP hS hT
  have e1 : (Value.ref (qz_ad z tA n)) = .ref (z + qz_ix n) := by rw [qz_ad_dyn (by omega)]
  show W p l e R s m args below meth c H locs ce sl Q (F0 m pc lsm (Value.ref (qz_ad z tA n) :: st.map (qz_tv z tA)))
  rw [e1]
  refine va_get (D := D) (ci := n.1) hC.1 hC.2.1 hC.2.2.2.2.1 c2 hC.2.2.2.1 hC.2.2.2.2.2.2.1.1 (qz_one hat) 0 rfl c1 j hj (hC.2.2.2.2.1 _ hw) (fun _ h9 => h9) (qz_fget _ hj) hd ?_
  rw [List.map_cons] at k1
  by_cases hr : qz_rf n.1 j = true
  · rw [if_pos hr] at k1 ⊢; exact k1
  · rw [if_neg hr] at k1 ⊢; exact k1
theorem qz_r_putfi (hC : qz_Cx p s m args meth c z tA D cy k) {i j : Nat} {n : qz_N} {x : Int32} (hd : decode (qz_b k) pc = .ok (.putfield i, 3)) (hf : qz_fl (qz_cn k) i = some (n.1, j)) (hn : qz_lv M.1 n) (hr : qz_rf n.1 j = false) (hb : qz_bl n.1 j = true → x = 0 ∨ x = 1) (hfn : qz_fn n.1 j = false) (kk : qz_W p l e R s m args below meth c z tA D cy k Q ce sl (pc + 3) ls st (qz_ui M n j x)) : qz_W p l e R s m args below meth c z tA D cy k Q ce sl pc ls (.inl x :: .inr (some n) :: st) M := by
  intro H locs lsm hL hP hS hT
  obtain ⟨h7, hj, hw⟩ := qz_fl_ok hf
  simp only at h7 hj hw
  obtain ⟨c1, c2, c3, c4, -, -, c7⟩ := qz_co h7
  obtain ⟨hv, hi⟩ := qz_dyn hn (by omega)
  have hat := hP.2 n hv hi
  have he : qz_ce z tA cy M n = .inr (n.1, (List.range (qz_nf n.1)).map (fun j => if qz_rf n.1 j = true then va_rf ((M.2.2 n j).map (qz_ad z tA)) else .int (M.2.1 n j))) := if_pos h7
  rw [he] at hat
  have he' : qz_ce z tA cy (qz_ui M n j x) n = .inr (n.1, ((List.range (qz_nf n.1)).map (fun j => if qz_rf n.1 j = true then va_rf ((M.2.2 n j).map (qz_ad z tA)) else .int (M.2.1 n j))).set j (.int x)) := by
    unfold qz_ce
    rw [if_pos h7]
    congr 2
    refine qz_fs_set _ _ _ _ _ ?_ ?_
    · rw [if_neg (by rw [hr]; decide)]
      show Value.int (if n = n ∧ j = j then x else _) = _
      rw [if_pos ⟨rfl, rfl⟩]
    · intro i hi
      have e9 : (qz_ui M n j x).2.1 n i = M.2.1 n i := if_neg (fun q => hi q.2)
      rw [e9]
      rfl
  have e1 : (Value.ref (qz_ad z tA n)) = .ref (z + qz_ix n) := by rw [qz_ad_dyn (by omega)]
  show W p l e R s m args below meth c H locs ce sl Q (F0 m pc lsm (.int x :: Value.ref (qz_ad z tA n) :: st.map (qz_tv z tA)))
  rw [e1]
  obtain ⟨hx, hbb, hml, hown, hts, -, hK, hz⟩ := hC
  obtain ⟨r, g1, cell, q1, q2, q3, q4⟩ := hat
  have hrr : r = (qz_ow n.1, qz_T n.1, qz_nf n.1) := Option.some.inj (g1.symm.trans c1)
  subst hrr
  have hap := va_apart (own := qz_ow (qz_cn k)) hts c2 (qz_ty n.1) c3 c4 hK.1 c1
  obtain ⟨hSl, hfc, kC, hkC, hkind⟩ := hK.1.1 n.1 _ c1
  obtain ⟨cf, kf, fi, f, hif, hsl⟩ := hSl j hj
  have hlay := hts _ (c2 _ (u_in_lay hj))
  unfold u_lay at hlay
  rw [if_neg (by rw [(c7 j hj).2, hfn]; decide)] at hlay
  have hst := (u_facts hfc hkC (u_lays hts c2 hj) hif).1
  have hnar : narrow (qz_ty n.1 j) (.int x) = .int x ∧ fits (qz_ty n.1 j) (.int x) = true := by
    rcases qz_fit n.1 h7 j hj hr with ⟨h1, h2⟩ | ⟨h1, h2⟩
    · rw [h2]
      rcases hb h1 with rfl | rfl <;> exact ⟨rfl, rfl⟩
    · rw [h2]; exact ⟨rfl, rfl⟩
  have h6 := u_store hfc hkC hkind hlay hif (c3 j hj) hnar.1 hnar.2
  refine W.putK hx hbb (f := f) ⟨hown, hts _ hw, ⟨_, _, _, hif⟩, hst⟩ (by rw [q2]; exact h6) q1 q3 (by rw [hsl]; exact k2_hasslot (q4 j hj)) rfl rfl hd fun H' e1 e2 e3 => ?_
  rw [hsl] at e1 ⊢
  refine kk H' _ lsm hL (hP.set hv rfl (fun n' e => qz_ce_ui e) ?_ e2 e3) (hS.put e2 e3 (Nat.le_add_right _ _)) (hT.same (fun n' hn' => (qz_le_ui (by omega) _ _).2 n' hn'))
  rw [he']
  exact ⟨_, c1, t_OB.to (V := updV (vp_V _) j (.int x)) ⟨_, e1, q2, q3, t_set q4 hap hj (.int x)⟩ (fun i _ => vp_updV_set (by simpa using hj) (.int x) i)⟩
theorem qz_r_putfr (hC : qz_Cx p s m args meth c z tA D cy k) {i j : Nat} {n : qz_N} {x : Option qz_N} (hd : decode (qz_b k) pc = .ok (.putfield i, 3)) (hf : qz_fl (qz_cn k) i = some (n.1, j)) (hn : qz_lv M.1 n) (hr : qz_rf n.1 j = true) (hfn : qz_fn n.1 j = true) (hini : qz_ini k = true) (hcn : n.1 = qz_cn k) (kk : qz_W p l e R s m args below meth c z tA D cy k Q ce sl (pc + 3) ls st (qz_ur M n j x)) : qz_W p l e R s m args below meth c z tA D cy k Q ce sl pc ls (.inr x :: .inr (some n) :: st) M := by
  intro H locs lsm hL hP hS hT
  obtain ⟨h7, hj, hw⟩ := qz_fl_ok hf
  simp only at h7 hj hw
  obtain ⟨c1, c2, c3, c4, -, -, c7⟩ := qz_co h7
  obtain ⟨hv, hi⟩ := qz_dyn hn (by omega)
  have hat := hP.2 n hv hi
  have he : qz_ce z tA cy M n = .inr (n.1, (List.range (qz_nf n.1)).map (fun j => if qz_rf n.1 j = true then va_rf ((M.2.2 n j).map (qz_ad z tA)) else .int (M.2.1 n j))) := if_pos h7
  rw [he] at hat
  have he' : qz_ce z tA cy (qz_ur M n j x) n = .inr (n.1, ((List.range (qz_nf n.1)).map (fun j => if qz_rf n.1 j = true then va_rf ((M.2.2 n j).map (qz_ad z tA)) else .int (M.2.1 n j))).set j (va_rf (x.map (qz_ad z tA)))) := by
    unfold qz_ce
    rw [if_pos h7]
    congr 2
    refine qz_fs_set _ _ _ _ _ ?_ ?_
    · rw [if_pos hr]
      show va_rf (Option.map _ (if n = n ∧ j = j then x else _)) = _
      rw [if_pos ⟨rfl, rfl⟩]
    · intro i hi
      have e9 : (qz_ur M n j x).2.2 n i = M.2.2 n i := if_neg (fun q => hi q.2)
      rw [e9]
      rfl
  have e1 : (Value.ref (qz_ad z tA n)) = .ref (z + qz_ix n) := by rw [qz_ad_dyn (by omega)]
  show W p l e R s m args below meth c H locs ce sl Q (F0 m pc lsm (va_rf (x.map (qz_ad z tA)) :: Value.ref (qz_ad z tA n) :: st.map (qz_tv z tA)))
  rw [e1]
  obtain ⟨hx, hbb, hml, hown, hts, hin2, hK, hz⟩ := hC
  obtain ⟨r, g1, cell, q1, q2, q3, q4⟩ := hat
  have hrr : r = (qz_ow n.1, qz_T n.1, qz_nf n.1) := Option.some.inj (g1.symm.trans c1)
  subst hrr
  have hap := va_apart (own := qz_ow (qz_cn k)) hts c2 (qz_ty n.1) c3 c4 hK.1 c1
  obtain ⟨hSl, hfc, kC, hkC, hkind⟩ := hK.1.1 n.1 _ c1
  obtain ⟨cf, kf, fi, f, hif, hsl⟩ := hSl j hj
  have hlay := hts _ (c2 _ (u_in_lay hj))
  unfold u_lay at hlay
  rw [if_pos (by rw [(c7 j hj).2, hfn])] at hlay
  have hst := (u_facts hfc hkC (u_lays hts c2 hj) hif).1
  have hcf : m.cls = cf := by
    obtain ⟨_, _, c', _, _, _, -, -, hf', -, -, -, hown2, -⟩ := Cond.laysFinal_spec hlay
    have e1 : c' = cf := by have := hif.symm.trans hf'; simp at this; exact this.1.symm
    rw [(c7 j hj).1, hcn] at hown2
    rw [← e1]; exact Option.some.inj (hown.symm.trans hown2)
  have hnar : narrow (qz_ty n.1 j) (va_rf (x.map (qz_ad z tA))) = va_rf (x.map (qz_ad z tA)) ∧ fits (qz_ty n.1 j) (va_rf (x.map (qz_ad z tA))) = true := by
    rcases qz_fitR n.1 h7 j hj hr with ⟨C, h2⟩ | ⟨t, h2⟩ <;> rw [h2] <;> cases x <;> exact ⟨rfl, rfl⟩
  have h6 := u_fits hfc hkC hkind (Or.inr hlay) hif (c3 j hj) hnar.1 hnar.2
  refine W.putFinK hx hbb hown (hts _ hw) hif hst hcf (hin2 hini) (by rw [q2]; exact h6) q1 q3 (by rw [hsl]; exact k2_hasslot (q4 j hj)) rfl rfl hd fun H' e1 e2 e3 => ?_
  rw [hsl] at e1 ⊢
  refine kk H' _ lsm hL (hP.set hv rfl (fun n' e => qz_ce_ur e) ?_ e2 e3) (hS.put e2 e3 (Nat.le_add_right _ _)) hT
  rw [he']
  exact ⟨_, c1, t_OB.to (V := updV (vp_V _) j _) ⟨_, e1, q2, q3, t_set q4 hap hj _⟩ (fun i _ => vp_updV_set (by simpa using hj) _ i)⟩
theorem qz_r_getst (hC : qz_Cx p s m args meth c z tA D cy k) {i t : Nat} (hd : decode (qz_b k) pc = .ok (.getstatic i, 3)) (hf : qz_st (qz_cn k) i = some t) (kk : qz_W p l e R s m args below meth c z tA D cy k Q ce sl (pc + 3) ls (.inr (some (t, 0, 0)) :: st) M) : qz_W p l e R s m args below meth c z tA D cy k Q ce sl pc ls st M := by
  intro H locs lsm hL hP hS hT
  have k1 := kk H locs lsm hL hP hS hT
  obtain ⟨hx, hbb, hml, hown, hts, hin2, hK, hz⟩ := hC
  generalize hck : qz_cn k = ck at hf hown
  unfold qz_st at hf
  split at hf
  · cases hf
    exact va_getsN hx hbb (hK.2.1 30 (by omega) (by omega)) hS hown (va_Nw.use rfl hK.2.2.2.1) (fun _ h => h) hd k1
  · cases hf
    exact va_gets hx hbb (hK.2.1 31 (by omega) (by omega)) hS hown (hts _ qz_sf_5_204) (fun _ h => h) hd k1
  · cases hf
    exact va_gets hx hbb (hK.2.1 32 (by omega) (by omega)) hS hown (hts _ qz_sf_5_208) (fun _ h => h) hd k1
  · cases hf
end QZR
end
section
/-! arrays, and what is made -/
section QZA
variable {p : Program} {l : Launch} {e : Env} {R : Room} {s : State} {m : MethodId} {args : Array Value} {below : List Frame} {meth : Method} {c : Code} {Q : State → Prop}
variable {z : Nat} {tA : Nat → Nat} {D : va_G} {cy : Nat → ClassId} {k : Nat}
variable {ce sl pc : Nat} {ls : List (Option qz_V)} {st : List qz_V} {M : qz_M}
theorem qz_atd {t : Nat} {n : qz_N} (h : qz_at n.1 = t) (ht : ¬ t = 0) (ht1 : ¬ t = 1) {o : Nat} (hn : qz_lv o n) : n.1 < 30 := by
  rcases Nat.lt_or_ge n.1 30 with q | q
  · exact q
  · exfalso
    obtain ⟨h1, h2, -⟩ := qz_sta hn (by omega)
    have : ∀ k : Nat, k < 34 → 30 ≤ k → qz_at k = 1 := by decide
    have := this n.1 (by omega) h1
    omega
theorem qz_cei {t : Nat} {n : qz_N} (h : qz_at n.1 = t) (h1 : 1 ≤ t) (h4 : t < 4) : qz_ce z tA cy M n = .inl (cy t, qz_al n.1, .inl (M.2.1 n)) := by
  have h7 : 7 ≤ n.1 := qz_at0 (by omega)
  unfold qz_ce
  rw [if_neg (by omega), if_pos (by omega), h]
theorem qz_ceq {t : Nat} {n : qz_N} (h : qz_at n.1 = t) (h4 : 4 ≤ t) : qz_ce z tA cy M n = .inl (cy t, qz_al n.1, .inr (.inr (.inr (.inr (fun j => (M.2.2 n j).map (qz_ad z tA)))))) := by
  have h7 : 7 ≤ n.1 := qz_at0 (by omega)
  unfold qz_ce
  rw [if_neg (by omega), if_neg (by omega), h]
theorem qz_lnd {f : qz_N → Nat → Int32} {n : qz_N} (h : n.1 < 30) : qz_ln f n = qz_al n.1 := if_neg (by omega)
theorem qz_adr {n : qz_N} (h : n.1 < 30) : (Value.ref (qz_ad z tA n)) = .ref (z + qz_ix n) := by rw [qz_ad_dyn h]
theorem qz_r_iald (hC : qz_Cx p s m args meth c z tA D cy k) {i : Int32} {n : qz_N} (hd : decode (qz_b k) pc = .ok (.iaload, 1)) (ht : qz_at n.1 = 1) (hi : qz_xi i (qz_ln M.2.1 n) = true) (hn : qz_lv M.1 n) (kk : qz_W p l e R s m args below meth c z tA D cy k Q ce sl (pc + 1) ls (.inl (M.2.1 n i.toNatClampNeg) :: st) M) : qz_W p l e R s m args below meth c z tA D cy k Q ce sl pc ls (.inl i :: .inr (some n) :: st) M := by
  intro H locs lsm hL hP hS hT
  have k1 := kk H locs lsm hL hP hS hT
  show W p l e R s m args below meth c H locs ce sl Q (F0 m pc lsm (.int i :: Value.ref (qz_ad z tA n) :: st.map (qz_tv z tA)))
  rcases Nat.lt_or_ge n.1 30 with q | q
  · obtain ⟨hv, hx⟩ := qz_dyn hn q
    have hat := hP.2 n hv hx
    rw [qz_cei ht (by omega) (by omega)] at hat
    rw [qz_adr q]
    rw [qz_lnd q] at hi
    exact va_iald (D := D) hC.1 hC.2.1 hC.2.2.2.2.2.2.1.1 (qz_one hat) 0 0 rfl rfl (qz_xi_in hi) hd k1
  · obtain ⟨h1, h2, e1⟩ := qz_sta hn (by omega)
    have hT1 := hT n.1 h1 h2
    rw [← e1] at hT1
    have e2 : qz_ad z tA n = tA n.1 := if_neg (by omega)
    rw [e2]
    exact va_ti hC.1 hC.2.1 hT1 hS (qz_xi_in hi) rfl hd k1
theorem qz_r_cald (hC : qz_Cx p s m args meth c z tA D cy k) {i : Int32} {n : qz_N} (hd : decode (qz_b k) pc = .ok (.caload, 1)) (ht : qz_at n.1 = 2) (hi : qz_xi i (qz_ln M.2.1 n) = true) (hn : qz_lv M.1 n) (kk : qz_W p l e R s m args below meth c z tA D cy k Q ce sl (pc + 1) ls (.inl (M.2.1 n i.toNatClampNeg) :: st) M) : qz_W p l e R s m args below meth c z tA D cy k Q ce sl pc ls (.inl i :: .inr (some n) :: st) M := by
  intro H locs lsm hL hP hS hT
  have k1 := kk H locs lsm hL hP hS hT
  show W p l e R s m args below meth c H locs ce sl Q (F0 m pc lsm (.int i :: Value.ref (qz_ad z tA n) :: st.map (qz_tv z tA)))
  have q := qz_atd ht (by omega) (by omega) hn
  obtain ⟨hv, hx⟩ := qz_dyn hn q
  have hat := hP.2 n hv hx
  rw [qz_cei ht (by omega) (by omega)] at hat
  rw [qz_adr q]
  rw [qz_lnd q] at hi
  exact va_cald (D := D) hC.1 hC.2.1 hC.2.2.2.2.2.2.1.1 (qz_one hat) 0 1 rfl rfl (qz_xi_in hi) hd k1
theorem qz_r_bald (hC : qz_Cx p s m args meth c z tA D cy k) {i : Int32} {n : qz_N} (hd : decode (qz_b k) pc = .ok (.baload, 1)) (ht : qz_at n.1 = 3) (hi : qz_xi i (qz_ln M.2.1 n) = true) (hn : qz_lv M.1 n) (kk : qz_W p l e R s m args below meth c z tA D cy k Q ce sl (pc + 1) ls (.inl (M.2.1 n i.toNatClampNeg) :: st) M) : qz_W p l e R s m args below meth c z tA D cy k Q ce sl pc ls (.inl i :: .inr (some n) :: st) M := by
  intro H locs lsm hL hP hS hT
  have k1 := kk H locs lsm hL hP hS hT
  show W p l e R s m args below meth c H locs ce sl Q (F0 m pc lsm (.int i :: Value.ref (qz_ad z tA n) :: st.map (qz_tv z tA)))
  have q := qz_atd ht (by omega) (by omega) hn
  obtain ⟨hv, hx⟩ := qz_dyn hn q
  have hat := hP.2 n hv hx
  rw [qz_cei ht (by omega) (by omega)] at hat
  rw [qz_adr q]
  rw [qz_lnd q] at hi
  exact va_zald (D := D) hC.1 hC.2.1 hC.2.2.2.2.2.2.1.1 (qz_one hat) 0 2 rfl rfl (qz_xi_in hi) hd k1
/-- an int array's cell, one place written -/
theorem qz_cst {t N j : Nat} {f : Nat → Int32} {x : Int32} {H1 : Heap} {a : Nat} (e : H1[a]? = some ((vp_cell (cy t) (N, .inl f)).setSlot j (.int x))) : va_at D vwCl (a, .inl (cy t, N, .inl (upd f j x))) H1 := by
  show H1[a]? = some (vp_cell _ _)
  rw [e, vp_cell_i, vp_cell_i, arrV_store]
  congr 2
  funext q
  by_cases hq : q = j
  · subst hq; simp [updV, upd]
  · simp [updV, upd, hq]
theorem qz_r_iast (hC : qz_Cx p s m args meth c z tA D cy k) {i x : Int32} {n : qz_N} (hd : decode (qz_b k) pc = .ok (.iastore, 1)) (ht : qz_at n.1 = 1) (q : n.1 < 30) (hi : qz_xi i (qz_al n.1) = true) (hn : qz_lv M.1 n) (kk : qz_W p l e R s m args below meth c z tA D cy k Q ce sl (pc + 1) ls st (qz_ui M n i.toNatClampNeg x)) : qz_W p l e R s m args below meth c z tA D cy k Q ce sl pc ls (.inl x :: .inl i :: .inr (some n) :: st) M := by
  intro H locs lsm hL hP hS hT
  show W p l e R s m args below meth c H locs ce sl Q (F0 m pc lsm (.int x :: .int i :: Value.ref (qz_ad z tA n) :: st.map (qz_tv z tA)))
  obtain ⟨hv, hx⟩ := qz_dyn hn q
  have hat := hP.2 n hv hx
  rw [qz_cei ht (by omega) (by omega)] at hat
  rw [qz_adr q]
  refine W.iast hC.1 hC.2.1 hat ((qz_Kt hC.2.2.2.2.2.2.1 (t := 1) (by omega) (by omega)).1 _ (fun j => .int (M.2.1 n j))) (fun q => by cases q) (by show ¬ (i < 0 ∨ (arrV _ _ _).slots.size ≤ _); rw [arrV_size]; exact qz_xi_in hi) rfl rfl hd fun H1 e1 e2 e3 => ?_
  refine kk H1 _ lsm hL (hP.set hv rfl (fun n' e => qz_ce_ui e) ?_ e2 e3) (hS.put e2 e3 (Nat.le_add_right _ _)) (hT.same (fun n' hn' => (qz_le_ui q _ _).2 n' hn'))
  rw [qz_cei ht (by omega) (by omega), qz_arr_ui]
  exact qz_cst e1
theorem qz_r_cast (hC : qz_Cx p s m args meth c z tA D cy k) {i x : Int32} {n : qz_N} (hd : decode (qz_b k) pc = .ok (.castore, 1)) (ht : qz_at n.1 = 2) (q : n.1 < 30) (hi : qz_xi i (qz_al n.1) = true) (hn : qz_lv M.1 n) (kk : qz_W p l e R s m args below meth c z tA D cy k Q ce sl (pc + 1) ls st (qz_ui M n i.toNatClampNeg (vp_nar .char x))) : qz_W p l e R s m args below meth c z tA D cy k Q ce sl pc ls (.inl x :: .inl i :: .inr (some n) :: st) M := by
  intro H locs lsm hL hP hS hT
  show W p l e R s m args below meth c H locs ce sl Q (F0 m pc lsm (.int x :: .int i :: Value.ref (qz_ad z tA n) :: st.map (qz_tv z tA)))
  obtain ⟨hv, hx⟩ := qz_dyn hn q
  have hat := hP.2 n hv hx
  rw [qz_cei ht (by omega) (by omega)] at hat
  rw [qz_adr q]
  refine W.cast hC.1 hC.2.1 hat ((qz_Kt hC.2.2.2.2.2.2.1 (t := 2) (by omega) (by omega)).1 _ (fun j => .int (M.2.1 n j))) (fun q => by cases q) (by show ¬ (i < 0 ∨ (arrV _ _ _).slots.size ≤ _); rw [arrV_size]; exact qz_xi_in hi) rfl rfl hd fun H1 e1 e2 e3 => ?_
  refine kk H1 _ lsm hL (hP.set hv rfl (fun n' e => qz_ce_ui e) ?_ e2 e3) (hS.put e2 e3 (Nat.le_add_right _ _)) (hT.same (fun n' hn' => (qz_le_ui q _ _).2 n' hn'))
  rw [qz_cei ht (by omega) (by omega), qz_arr_ui]
  exact qz_cst e1
theorem qz_r_bast (hC : qz_Cx p s m args meth c z tA D cy k) {i x : Int32} {n : qz_N} (hd : decode (qz_b k) pc = .ok (.bastore, 1)) (ht : qz_at n.1 = 3) (q : n.1 < 30) (hi : qz_xi i (qz_al n.1) = true) (hn : qz_lv M.1 n) (kk : qz_W p l e R s m args below meth c z tA D cy k Q ce sl (pc + 1) ls st (qz_ui M n i.toNatClampNeg (vp_nar .boolean x))) : qz_W p l e R s m args below meth c z tA D cy k Q ce sl pc ls (.inl x :: .inl i :: .inr (some n) :: st) M := by
  intro H locs lsm hL hP hS hT
  show W p l e R s m args below meth c H locs ce sl Q (F0 m pc lsm (.int x :: .int i :: Value.ref (qz_ad z tA n) :: st.map (qz_tv z tA)))
  obtain ⟨hv, hx⟩ := qz_dyn hn q
  have hat := hP.2 n hv hx
  rw [qz_cei ht (by omega) (by omega)] at hat
  rw [qz_adr q]
  refine W.zast hC.1 hC.2.1 hat ((qz_Kt hC.2.2.2.2.2.2.1 (t := 3) (by omega) (by omega)).1 _ (fun j => .int (M.2.1 n j))) (fun q => by cases q) (by show ¬ (i < 0 ∨ (arrV _ _ _).slots.size ≤ _); rw [arrV_size]; exact qz_xi_in hi) rfl rfl hd fun H1 e1 e2 e3 => ?_
  refine kk H1 _ lsm hL (hP.set hv rfl (fun n' e => qz_ce_ui e) ?_ e2 e3) (hS.put e2 e3 (Nat.le_add_right _ _)) (hT.same (fun n' hn' => (qz_le_ui q _ _).2 n' hn'))
  rw [qz_cei ht (by omega) (by omega), qz_arr_ui]
  exact qz_cst e1
theorem qz_ato {t : Nat} (h : 4 ≤ t) (h7 : t < 7) : ∃ C, qz_ft t = .object C ∧ C = qz_ow (qz_ec t) ∧ qz_ec t < 7 := by
  have hc : t = 4 ∨ t = 5 ∨ t = 6 := by omega
  rcases hc with rfl | rfl | rfl
  · exact ⟨_, rfl, rfl, by decide⟩
  · exact ⟨_, rfl, rfl, by decide⟩
  · exact ⟨_, rfl, rfl, by decide⟩
theorem qz_r_aald (hC : qz_Cx p s m args meth c z tA D cy k) {i : Int32} {n : qz_N} (hd : decode (qz_b k) pc = .ok (.aaload, 1)) (ht : 4 ≤ qz_at n.1) (hi : qz_xi i (qz_al n.1) = true) (hn : qz_lv M.1 n) (kk : qz_W p l e R s m args below meth c z tA D cy k Q ce sl (pc + 1) ls (.inr (M.2.2 n i.toNatClampNeg) :: st) M) : qz_W p l e R s m args below meth c z tA D cy k Q ce sl pc ls (.inl i :: .inr (some n) :: st) M := by
  intro H locs lsm hL hP hS hT
  have k1 := kk H locs lsm hL hP hS hT
  show W p l e R s m args below meth c H locs ce sl Q (F0 m pc lsm (.int i :: Value.ref (qz_ad z tA n) :: st.map (qz_tv z tA)))
  have q := qz_atd rfl (by omega) (by omega) hn
  obtain ⟨hv, hx⟩ := qz_dyn hn q
  have h7 := qz_atk n.1 (qz_vl_lt hv) (qz_at0 (by omega))
  have hat := hP.2 n hv hx
  rw [qz_ceq rfl ht] at hat
  rw [qz_adr q]
  obtain ⟨C, hC1, -, -⟩ := qz_ato ht h7
  have hA := (qz_Kt hC.2.2.2.2.2.2.1 (by omega) h7).1
  rw [hC1] at hA
  have hlt : i.toNatClampNeg < qz_al n.1 := Nat.not_le.mp fun q => qz_xi_in hi (Or.inr q)
  exact W.aald (v := va_rf ((M.2.2 n i.toNatClampNeg).map (qz_ad z tA))) (ty := .object C) hC.1 hC.2.1 hat (hA _ (fun j => va_rf ((M.2.2 n j).map (qz_ad z tA)))) rfl (fun q => by cases q) (by show ¬ (i < 0 ∨ (arrV _ _ _).slots.size ≤ _); rw [arrV_size]; exact qz_xi_in hi) (by show (arrV _ _ _).slots[_]? = _; rw [arrV_read _ _ hlt]) rfl rfl hd k1
theorem qz_arr_ur {n : qz_N} {j : Nat} {x : Option qz_N} : (qz_ur M n j x).2.2 n = va_up (M.2.2 n) j x := by
  funext j'
  show (if n = n ∧ j' = j then x else M.2.2 n j') = if j' = j then x else M.2.2 n j'
  simp
theorem qz_r_aast (hC : qz_Cx p s m args meth c z tA D cy k) {i : Int32} {n v : qz_N} (hd : decode (qz_b k) pc = .ok (.aastore, 1)) (ht : 4 ≤ qz_at n.1) (hvk : v.1 = qz_ec (qz_at n.1)) (hi : qz_xi i (qz_al n.1) = true) (hn : qz_lv M.1 n) (hnv : qz_lv M.1 v) (kk : qz_W p l e R s m args below meth c z tA D cy k Q ce sl (pc + 1) ls st (qz_ur M n i.toNatClampNeg (some v))) : qz_W p l e R s m args below meth c z tA D cy k Q ce sl pc ls (.inr (some v) :: .inl i :: .inr (some n) :: st) M := by
  intro H locs lsm hL hP hS hT
  show W p l e R s m args below meth c H locs ce sl Q (F0 m pc lsm (Value.ref (qz_ad z tA v) :: .int i :: Value.ref (qz_ad z tA n) :: st.map (qz_tv z tA)))
  have q := qz_atd rfl (by omega) (by omega) hn
  obtain ⟨hv, hx⟩ := qz_dyn hn q
  have h7 := qz_atk n.1 (qz_vl_lt hv) (qz_at0 (by omega))
  have hat := hP.2 n hv hx
  rw [qz_ceq rfl ht] at hat
  obtain ⟨C, hC1, hCo, hC7⟩ := qz_ato ht h7
  have qv : v.1 < 7 := by omega
  obtain ⟨hv', hx'⟩ := qz_dyn hnv (by omega)
  have hatv := hP.2 v hv' hx'
  have hev : qz_ce z tA cy M v = .inr (v.1, (List.range (qz_nf v.1)).map (fun j => if qz_rf v.1 j = true then va_rf ((M.2.2 v j).map (qz_ad z tA)) else .int (M.2.1 v j))) := if_pos qv
  rw [hev] at hatv
  obtain ⟨c1, -⟩ := qz_co qv
  rw [qz_adr q, qz_adr (n := v) (by omega)]
  have hA := qz_Kt hC.2.2.2.2.2.2.1 (by omega) h7
  rw [hC1] at hA
  have hK := hC.2.2.2.2.2.2.1.1
  have hlt : i.toNatClampNeg < qz_al n.1 := Nat.not_le.mp fun q => qz_xi_in hi (Or.inr q)
  have h0 : ¬ i < 0 := fun q => qz_xi_in hi (Or.inl q)
  obtain ⟨r', hr', cellV, g1, g2, g3, -⟩ := hatv
  have hcls := (hK.1 v.1 _ c1).2
  obtain ⟨kA, comp, k1, k2, k3, -⟩ := hA.2
  have hcomp : comp = D.1 v.1 := by
    have h9 := hcls.1
    simp only at h9
    rw [hvk, ← hCo] at h9
    rw [hvk]
    exact Option.some.inj (k3.symm.trans h9)
  subst hcomp
  obtain ⟨kC, hkC, -⟩ := hcls.2
  refine W.aast hC.1 hC.2.1 hat (fun q h => by cases h) (fun h => by cases h) k1 k2 rfl hkC ⟨h0, by show _ < (arrV _ _ _).slots.size; rw [arrV_size]; exact hlt⟩ g1 (fun q h => by rw [g3] at h; cases h) (by rw [g2]; exact hkC) (by rw [g2]; exact va_assign hcls) rfl rfl hd fun H1 e1 e2 e3 => ?_
  refine kk H1 _ lsm hL (hP.set hv rfl (fun n' e => qz_ce_ur e) ?_ e2 e3) (hS.put e2 e3 (Nat.le_add_right _ _)) hT
  rw [qz_ceq rfl ht, qz_arr_ur]
  show H1[_]? = some (vp_cell _ _)
  rw [e1, vp_cell_q, vp_cell_q, arrV_store]
  congr 2
  funext q'
  by_cases hq : q' = i.toNatClampNeg
  · subst hq
    simp [updV, va_up, va_rf, qz_ad_dyn (show v.1 < 30 by omega)]
  · simp [updV, va_up, hq]
theorem qz_r_alen (hC : qz_Cx p s m args meth c z tA D cy k) {n : qz_N} (hd : decode (qz_b k) pc = .ok (.arraylength, 1)) (ht : ¬ qz_at n.1 = 0) (hn : qz_lv M.1 n) (kk : qz_W p l e R s m args below meth c z tA D cy k Q ce sl (pc + 1) ls (.inl (Int32.ofNat (qz_ln M.2.1 n)) :: st) M) : qz_W p l e R s m args below meth c z tA D cy k Q ce sl pc ls (.inr (some n) :: st) M := by
  intro H locs lsm hL hP hS hT
  have k1 := kk H locs lsm hL hP hS hT
  show W p l e R s m args below meth c H locs ce sl Q (F0 m pc lsm (Value.ref (qz_ad z tA n) :: st.map (qz_tv z tA)))
  rcases Nat.lt_or_ge n.1 30 with q | q
  · obtain ⟨hv, hx⟩ := qz_dyn hn q
    have h7 := qz_atk n.1 (qz_vl_lt hv) (qz_at0 (by omega))
    have hat := hP.2 n hv hx
    rw [qz_adr q]
    rw [qz_lnd q] at k1
    have hts : ∀ t : Nat, 1 ≤ t → t < 7 → (qz_ts cy)[t - 1]? = some (cy t, qz_ft t) := by
      intro t h1 h2
      have hc : t = 1 ∨ t = 2 ∨ t = 3 ∨ t = 4 ∨ t = 5 ∨ t = 6 := by omega
      rcases hc with rfl | rfl | rfl | rfl | rfl | rfl <;> rfl
    rcases Nat.lt_or_ge (qz_at n.1) 4 with h4 | h4
    · rw [qz_cei rfl (by omega) h4] at hat
      exact va_alen (D := D) hC.1 hC.2.1 hC.2.2.2.2.2.2.1.1 (qz_one hat) 0 _ rfl (hts _ (by omega) h7) rfl hd k1
    · rw [qz_ceq rfl h4] at hat
      exact va_alen (D := D) hC.1 hC.2.1 hC.2.2.2.2.2.2.1.1 (qz_one hat) 0 _ rfl (hts _ (by omega) h7) rfl hd k1
  · obtain ⟨h1, h2, e1⟩ := qz_sta hn (by omega)
    have hT1 := hT n.1 h1 h2
    rw [← e1] at hT1
    have e2 : qz_ad z tA n = tA n.1 := if_neg (by omega)
    rw [e2]
    exact va_tlen hC.1 hC.2.1 hT1 hS rfl hd k1
/-! what is made -/
theorem qz_ce_al {n : qz_N} (h : ¬ n = qz_nm' M.1) : qz_ce z tA cy (qz_al' M) n = qz_ce z tA cy M n := by
  have h1 : (qz_al' M).2.1 n = M.2.1 n := by
    funext j
    exact if_neg h
  have h2 : (qz_al' M).2.2 n = M.2.2 n := by
    funext j
    exact if_neg h
  unfold qz_ce
  rw [h1, h2]
theorem qz_P.al {H H1 : Heap} (h : qz_P z tA D cy M H) (hv : qz_vl (qz_nm' M.1) = true) (hi : qz_ix (qz_nm' M.1) = M.1) (he : va_at D vwCl (H.size, qz_ce z tA cy (qz_al' M) (qz_nm' M.1)) H1) (hz : H1.size = H.size + 1) (oq : ∀ q : Nat, q < H.size → H1[q]? = H[q]?) : qz_P z tA D cy (qz_al' M) H1 := by
  refine ⟨by rw [hz, h.1]; rfl, fun n h1 h2 => ?_⟩
  by_cases e : n = qz_nm' M.1
  · subst e
    rw [hi, ← h.1]
    exact he
  · have hlt : qz_ix n < M.1 := by
      have h2 : qz_ix n < M.1 + 1 := h2
      rcases Nat.lt_or_ge (qz_ix n) M.1 with q | q
      · exact q
      · exfalso
        exact e (by rw [← qz_nx n h1, show qz_ix n = M.1 by omega])
    rw [qz_ce_al e]
    exact (h.2 n h1 hlt).kept (oq _ (h.2 n h1 hlt).lt)
theorem qz_St.al {f : qz_M} (h : qz_St z tA f.2.1 s) (hv : qz_vl (qz_nm' f.1) = true) : qz_St z tA (qz_al' f).2.1 s := h.same (fun n hn => (qz_le_al hv).2 n hn)
theorem qz_va_S_al {H H1 : Heap} {locs : List Loc} (hS : va_S (qz_A z) s.heap H locs) (hz : H1.size = H.size + 1) (oq : ∀ q : Nat, q < H.size → H1[q]? = H[q]?) : va_S (qz_A z) s.heap H1 locs := ⟨Nat.le_trans hS.1 (by omega), fun x h1 h2 => (oq x (Nat.lt_of_lt_of_le h1 hS.1)).trans (hS.2.1 x h1 h2), hS.2.2⟩
theorem qz_al_f {n : qz_N} (h : n = qz_nm' M.1) : (qz_al' M).2.1 n = fun _ => 0 := by
  funext j
  exact if_pos h
theorem qz_al_r {n : qz_N} (h : n = qz_nm' M.1) : (qz_al' M).2.2 n = fun _ => none := by
  funext j
  exact if_pos h
theorem qz_r_new (hC : qz_Cx p s m args meth c z tA D cy k) {i : Nat} (hd : decode (qz_b k) pc = .ok (.new i, 3)) (hw : qz_nw (qz_cn k) i = some (qz_nm' M.1).1) (hv : qz_vl (qz_nm' M.1) = true) (hi : qz_ix (qz_nm' M.1) = M.1) (hce : ce + 1 ≤ R.cells) (hsl : sl + qz_sz (qz_nm' M.1).1 ≤ R.slots) (kk : qz_W p l e R s m args below meth c z tA D cy k Q (ce + 1) (sl + qz_sz (qz_nm' M.1).1) (pc + 3) ls (.inr (some (qz_nm' M.1)) :: st) (qz_al' M)) : qz_W p l e R s m args below meth c z tA D cy k Q ce sl pc ls st M := by
  intro H locs lsm hL hP hS hT
  obtain ⟨h7, hw⟩ := qz_nw_ok hw
  simp only at h7 hw
  obtain ⟨c1, c2, c3, c4, c5, c6, c7⟩ := qz_co h7
  have esz : qz_sz (qz_nm' M.1).1 = qz_nf (qz_nm' M.1).1 := if_pos h7
  rw [esz] at hsl kk
  obtain ⟨hx, hbb, hml, hown, hts, hin2, hK, hz⟩ := hC
  have hKn := hK.1.1 _ _ c1
  have ead : Value.ref H.size = qz_tv z tA (.inr (some (qz_nm' M.1))) := by
    show Value.ref H.size = Value.ref (qz_ad z tA (qz_nm' M.1))
    rw [qz_ad_dyn (by omega), hi, hP.1]
  refine W.newcK hx hbb hown (hts _ hw) (hts _ c5) (hts _ c6) rfl hd hce hsl hKn.2.1 rfl fun H1 kC hkC e1 z1 o1 => ?_
  have k1 := kk H1 locs lsm hL (hP.al hv hi ?_ z1 o1) (qz_va_S_al hS z1 o1) (hT.al hv)
  · rw [List.map_cons, ← ead] at k1
    exact k1
  · have he : qz_ce z tA cy (qz_al' M) (qz_nm' M.1) = .inr ((qz_nm' M.1).1, (List.range (qz_nf (qz_nm' M.1).1)).map (fun j => if qz_rf (qz_nm' M.1).1 j = true then Value.null else .int 0)) := by
      unfold qz_ce
      rw [if_pos h7, qz_al_f rfl, qz_al_r rfl]
      rfl
    rw [he]
    refine ⟨_, c1, (u_born (qz_ty (qz_nm' M.1).1) hts c2 hKn hkC e1 c3).to (fun j hj => ?_)⟩
    rw [qz_def _ h7 j hj]
    unfold vp_V
    rw [List.getD_eq_getElem?_getD, List.getElem?_map, List.getElem?_range hj]
    rfl
theorem qz_r_newa (hC : qz_Cx p s m args meth c z tA D cy k) {a : ArrayType} {x : Int32} (hd : decode (qz_b k) pc = .ok (.newarray a, 2)) (hv : qz_vl (qz_nm' M.1) = true) (hi : qz_ix (qz_nm' M.1) = M.1) (hx0 : ¬ x < 0) (hxn : x.toNatClampNeg = qz_al (qz_nm' M.1).1) (ha : (a = .int ∧ qz_at (qz_nm' M.1).1 = 1) ∨ (a = .char ∧ qz_at (qz_nm' M.1).1 = 2) ∨ (a = .boolean ∧ qz_at (qz_nm' M.1).1 = 3)) (hce : ce + 1 ≤ R.cells) (hsl : sl + qz_sz (qz_nm' M.1).1 ≤ R.slots) (kk : qz_W p l e R s m args below meth c z tA D cy k Q (ce + 1) (sl + qz_sz (qz_nm' M.1).1) (pc + 2) ls (.inr (some (qz_nm' M.1)) :: st) (qz_al' M)) : qz_W p l e R s m args below meth c z tA D cy k Q ce sl pc ls (.inl x :: st) M := by
  intro H locs lsm hL hP hS hT
  have hk7 : 7 ≤ (qz_nm' M.1).1 := qz_at0 (by rcases ha with h | h | h <;> omega)
  have esz : qz_sz (qz_nm' M.1).1 = qz_al (qz_nm' M.1).1 := if_neg (by omega)
  have hsmall : qz_al (qz_nm' M.1).1 ≤ 1132 := by
    have : ∀ k : Nat, k < 24 → qz_al k ≤ 1132 := by decide
    exact this _ (qz_vl_lt hv)
  rw [esz] at hsl kk
  obtain ⟨hx, hbb, hml, hown, hts, hin2, hK, hz⟩ := hC
  have ead : Value.ref H.size = qz_tv z tA (.inr (some (qz_nm' M.1))) := by
    show Value.ref H.size = Value.ref (qz_ad z tA (qz_nm' M.1))
    rw [qz_ad_dyn (by have := qz_vl_lt hv; omega), hi, hP.1]
  have go : ∀ (t : Nat) (ty : FieldType), newarray.typeOf a = ty → qz_ft t = ty → 1 ≤ t → t < 4 → qz_at (qz_nm' M.1).1 = t → defaultValue ty = .int 0 → componentBytes ty ≤ 4 → (Cond.arrayClass ty) ∈ qz_tb → (∀ cA, va_RA s cA ty → s.vm.findClass ("[" ++ ty.toString) = some cA) → W p l e R s m args below meth c H locs ce sl Q (F0 m pc lsm (.int x :: st.map (qz_tv z tA))) := by
    intro t ty e1 e2 h1 h4 hat hdef hcb hwd hRA
    subst e1
    refine va_newaK hx hbb (hts _ hwd) rfl hd rfl hx0 hxn (Nat.le_trans (Nat.mul_le_mul hsmall hcb) (by decide)) hce hsl rfl fun H1 cA g1 g2 g3 g4 g5 => ?_
    have hcA : cA = cy t := by
      have h9 := (qz_Kt hK (t := t) h1 (by omega)).2
      rw [e2] at h9
      exact Option.some.inj (g5.symm.trans (hRA _ h9))
    subst hcA
    have k1 := kk H1 locs lsm hL (hP.al hv hi ?_ g2 g3) (qz_va_S_al hS g2 g3) (hT.al hv)
    · rw [List.map_cons, ← ead] at k1
      exact k1
    · rw [qz_cei hat h1 h4, qz_al_f rfl]
      show H1[_]? = some (vp_cell _ _)
      rw [vp_cell_i, g1, hdef]
  rcases ha with ⟨rfl, h⟩ | ⟨rfl, h⟩ | ⟨rfl, h⟩
  · exact go 1 .int rfl rfl (by omega) (by omega) h rfl (by decide) qz_ac_int (fun _ h => h)
  · exact go 2 .char rfl rfl (by omega) (by omega) h rfl (by decide) qz_ac_char (fun _ h => h)
  · exact go 3 .boolean rfl rfl (by omega) (by omega) h rfl (by decide) qz_ac_boolean (fun _ h => h)
theorem qz_r_anew (hC : qz_Cx p s m args meth c z tA D cy k) {i : Nat} {x : Int32} (hd : decode (qz_b k) pc = .ok (.anewarray i, 3)) (hw : qz_nw (qz_cn k) i = some (qz_ec (qz_at (qz_nm' M.1).1))) (hv : qz_vl (qz_nm' M.1) = true) (hi : qz_ix (qz_nm' M.1) = M.1) (hx0 : ¬ x < 0) (hxn : x.toNatClampNeg = qz_al (qz_nm' M.1).1) (h4 : 4 ≤ qz_at (qz_nm' M.1).1) (hce : ce + 1 ≤ R.cells) (hsl : sl + qz_sz (qz_nm' M.1).1 ≤ R.slots) (kk : qz_W p l e R s m args below meth c z tA D cy k Q (ce + 1) (sl + qz_sz (qz_nm' M.1).1) (pc + 3) ls (.inr (some (qz_nm' M.1)) :: st) (qz_al' M)) : qz_W p l e R s m args below meth c z tA D cy k Q ce sl pc ls (.inl x :: st) M := by
  intro H locs lsm hL hP hS hT
  have hk7 : 7 ≤ (qz_nm' M.1).1 := qz_at0 (by omega)
  have esz : qz_sz (qz_nm' M.1).1 = qz_al (qz_nm' M.1).1 := if_neg (by omega)
  have hsmall : qz_al (qz_nm' M.1).1 ≤ 1132 := by
    have : ∀ k : Nat, k < 24 → qz_al k ≤ 1132 := by decide
    exact this _ (qz_vl_lt hv)
  rw [esz] at hsl kk
  obtain ⟨h7, hw⟩ := qz_nw_ok hw
  simp only at h7 hw
  obtain ⟨hx, hbb, hml, hown, hts, hin2, hK, hz⟩ := hC
  have ead : Value.ref H.size = qz_tv z tA (.inr (some (qz_nm' M.1))) := by
    show Value.ref H.size = Value.ref (qz_ad z tA (qz_nm' M.1))
    rw [qz_ad_dyn (by have := qz_vl_lt hv; omega), hi, hP.1]
  have hat7 := qz_atk _ (qz_vl_lt hv) hk7
  obtain ⟨C, hC1, hCo, hC7⟩ := qz_ato h4 hat7
  rw [← hCo] at hw
  have hov : va_AO C s := by
    have hc : qz_at (qz_nm' M.1).1 = 4 ∨ qz_at (qz_nm' M.1).1 = 5 ∨ qz_at (qz_nm' M.1).1 = 6 := by omega
    rcases hc with h | h | h
    · rw [h] at hCo; rw [hCo]; exact hK.2.2.2.2.1
    · rw [h] at hCo; rw [hCo]; exact hK.2.2.2.2.2.1
    · rw [h] at hCo; rw [hCo]; exact hK.2.2.2.2.2.2
  refine W.anew hx hbb hown (hts _ hw) (va_AO.use hov) rfl hd rfl hx0 (by rw [hxn]; exact Nat.le_trans (Nat.mul_le_mul_right 4 hsmall) (by decide)) hce (by rw [hxn]; exact hsl) fun cA kA comp f1 f2 f3 f4 => ?_
  rw [hxn]
  have hcA : cA = cy (qz_at (qz_nm' M.1).1) := by
    have h9 := (qz_Kt hK (t := qz_at (qz_nm' M.1).1) (by omega) hat7).2
    rw [hC1] at h9
    obtain ⟨_, _, -, -, -, h10⟩ := h9
    exact Option.some.inj (f1.symm.trans h10)
  subst hcA
  generalize hH1 : H.push ({ cls := cy (qz_at (qz_nm' M.1).1), slots := Array.replicate (qz_al (qz_nm' M.1).1) .null, vm := .none } : Cell) = H1
  have z1 : H1.size = H.size + 1 := by rw [← hH1, Array.size_push]
  have e1 : H1[H.size]? = some (arrV (cy (qz_at (qz_nm' M.1).1)) (qz_al (qz_nm' M.1).1) (fun _ => .null)) := by rw [← hH1, Array.getElem?_push_size, ← arrV_new]
  have o1 : ∀ q : Nat, q < H.size → H1[q]? = H[q]? := fun q hq => by rw [← hH1, Array.getElem?_push, if_neg (Nat.ne_of_lt hq)]
  have k1 := kk H1 locs lsm hL (hP.al hv hi ?_ z1 o1) (qz_va_S_al hS z1 o1) (hT.al hv)
  · rw [List.map_cons, ← ead] at k1
    exact k1
  · rw [qz_ceq rfl h4, qz_al_r rfl]
    show H1[_]? = some (vp_cell _ _)
    rw [vp_cell_q, e1]
    rfl
end QZA
end
section
/-! calls, returns, and a whole run -/
section QZC
variable {p : Program} {l : Launch} {e : Env} {R : Room} {s : State} {m : MethodId} {args : Array Value} {below : List Frame} {meth : Method} {c : Code} {Q : State → Prop}
variable {z : Nat} {tA : Nat → Nat} {D : va_G} {cy : Nat → ClassId} {k : Nat}
variable {ce sl pc : Nat} {ls : List (Option qz_V)} {st : List qz_V} {M : qz_M}
def qz_rm (k mc ms : Nat) : Room := { frames := qz_rF k, cells := mc, slots := ms, locals := qz_rL k }
def qz_ws (k : Nat) : List Cond := .code (qz_y k) (qz_b k) (qz_ml k) (qz_rt k) :: qz_tb
def qz_Qc (z : Nat) (tA : Nat → Nat) (D : va_G) (cy : Nat → ClassId) (r : Option qz_V) (M' : qz_M) : Array Value → State → Outcome → State → Prop := fun _ st o t => o = .returned (r.map (qz_tv z tA)) ∧ qz_P z tA D cy M' t.heap ∧ va_F (qz_A z) st t
def qz_Pre (z : Nat) (tA : Nat → Nat) (D : va_G) (cy : Nat → ClassId) (M : qz_M) : State → Prop := fun U => qz_P z tA D cy M U.heap ∧ qz_Kx z tA D cy U ∧ qz_St z tA M.2.1 U
def qz_Mt (l : Launch) (z : Nat) (tA : Nat → Nat) (D : va_G) (cy : Nat → ClassId) (k : Nat) (as : List qz_V) (M : qz_M) (r : Option qz_V) (M' : qz_M) : Prop := Met l (qz_y k) (qz_ws k) (qz_rm k (M'.1 - M.1) (qz_ss M'.1 - qz_ss M.1)) (va_Pc (as.map (qz_tv z tA)) (qz_Pre z tA D cy M)) (qz_Qc z tA D cy r M') (M'.1 - M.1) (qz_ss M'.1 - qz_ss M.1) (qz_A z)
theorem qz_blind {av : List Value} : FrameBlind (va_Pc av (qz_Pre z tA D cy M)) := fun _ _ _ _ q => ⟨q.1, q.2.1, q.2.2.1.same rfl rfl, q.2.2.2.eq rfl rfl⟩
theorem qz_pay {k' : Nat} (hk : k' < qz_nm) (hts : ∀ w ∈ qz_tb, w.before args s = true) : ∀ w ∈ qz_ws k', ∀ (a' : Array Value) (U : State), s.WarmedH U.vm → w.before a' U = true := by
  intro w hw a' U hW
  have hw' : w ∈ qz_tb := (List.mem_cons.mp hw).elim (fun e => e ▸ (qz_mo hk).2.1) id
  exact word_at hW (good_of_word (List.mem_filter.mp hw').2) (hts w hw')
theorem qz_pre (hC : qz_Cx p s m args meth c z tA D cy k) {H : Heap} {locs : List Loc} (hP : qz_P z tA D cy M H) (hS : va_S (qz_A z) s.heap H locs) (hT : qz_St z tA M.2.1 s) {av : List Value} (U : State) (hU : U.heap = H) (hW : s.WarmedH U.vm) : va_Pc av (qz_Pre z tA D cy M) av.toArray U :=
  ⟨rfl, by rw [hU]; exact hP, hC.2.2.2.2.2.2.1.warm hW (by rw [hU]; exact hS), hT.to hW.alike (by rw [hU]; exact hS.2.1)⟩
theorem qz_run {H : Heap} {locs : List Loc} {lsm : Array Slot} {st0 rest : List Value} {mc ms : Nat} {r : Option qz_V} {M' : qz_M} {a : Array Value} (hr : va_Run p l e R s m args below meth c H locs ce sl mc ms (F0 m pc lsm st0) rest (qz_Qc z tA D cy r M' a) (qz_A z)) (hS : va_S (qz_A z) s.heap H locs)
    (kk : ∀ (H1 : Heap) (locs1 : List Loc), qz_P z tA D cy M' H1 → va_S (qz_A z) s.heap H1 locs1 → W p l e R s m args below meth c H1 locs1 (ce + mc) (sl + ms) Q (F0 m (pc + 3) lsm ((r.map (qz_tv z tA)).toList ++ rest))) : W p l e R s m args below meth c H locs ce sl Q (F0 m pc lsm st0) := by
  intro T hT X
  obtain ⟨v, st₀, t, T', L, h0, X', hL, e1, e2, ⟨hv, hp, hz, hk⟩, st⟩ := hr T hT X
  cases hv
  rw [h0] at hz hk
  obtain ⟨t2, a1, b1⟩ := kk T'.heap (locs ++ L) (by rw [e1]; exact hp)
    ⟨Nat.le_trans hS.1 (by rw [e1]; exact hz), fun q h1 h2 => by rw [e1, hk q (Nat.lt_of_lt_of_le h1 hS.1) h2]; exact hS.2.1 q h1 h2, fun q hq => by
      rcases List.mem_append.mp hq with h | h
      · exact hS.2.2 q h
      · exact hL q h⟩ T' rfl X'
  exact ⟨t2, st t2 a1, b1⟩
theorem qz_stk (n : Nat) (st : List qz_V) (f : qz_V → Value) : st.map f = ((qz_ag n st).map f).reverse ++ (st.drop n).map f := by
  unfold qz_ag
  rw [List.map_reverse, List.reverse_reverse, ← List.map_append, List.take_append_drop]
theorem qz_agl {n : Nat} {st : List qz_V} (h : n ≤ st.length) : (qz_ag n st).length = n := by
  unfold qz_ag
  rw [List.length_reverse, List.length_take]
  omega
theorem qz_rml {k' : Nat} (h : qz_co' k k' st = true) : qz_na k' ≤ st.length ∧ (st.drop (qz_na k')).length ≤ 8 ∧ qz_rF k' + 1 ≤ qz_rF k ∧ 8 + (qz_ml k' + 11) + qz_rL k' ≤ qz_rL k := by
  simp [qz_co'] at h
  refine ⟨h.1.1.1, ?_, h.1.2, h.2⟩
  rw [List.length_drop]
  omega
theorem qz_prm {k' : Nat} (hk : k' < qz_nm) (sig : MethodDescriptor) (h : parseMethodDescriptor (qz_y k').desc = some sig) : qz_na k' - (if qz_sa k' = true then 0 else 1) = sig.parameters.length := by
  have h2 := (qz_mo hk).2.2.2.2.1
  rw [h] at h2
  exact (Option.some.inj h2).symm
theorem qz_r_call (hC : qz_Cx p s m args meth c z tA D cy k) (hRF : qz_rF k ≤ R.frames) (hRL : qz_rL k ≤ R.locals) {ins : Instr} {k' : Nat} {r : Option qz_V} {M' : qz_M} (hd : decode (qz_b k) pc = .ok (ins, 3)) (hk : qz_kl k ins st = some k') (hvs : ∀ v ∈ st, qz_vk M.1 v) (hM : k' < qz_nm → (qz_ag (qz_na k') st).length = qz_na k' → qz_Mt l z tA D cy k' (qz_ag (qz_na k') st) M r M') (hle : qz_le M M') (hce : ce + (M'.1 - M.1) ≤ R.cells) (hsl : sl + (qz_ss M'.1 - qz_ss M.1) ≤ R.slots)
    (kk : qz_W p l e R s m args below meth c z tA D cy k Q (ce + (M'.1 - M.1)) (sl + (qz_ss M'.1 - qz_ss M.1)) (pc + 3) ls (r.toList ++ st.drop (qz_na k')) M') : qz_W p l e R s m args below meth c z tA D cy k Q ce sl pc ls st M := by
  intro H locs lsm hL hP hS hT
  have k1 : ∀ (H1 : Heap) (locs1 : List Loc), qz_P z tA D cy M' H1 → va_S (qz_A z) s.heap H1 locs1 → W p l e R s m args below meth c H1 locs1 (ce + (M'.1 - M.1)) (sl + (qz_ss M'.1 - qz_ss M.1)) Q (F0 m (pc + 3) lsm ((r.map (qz_tv z tA)).toList ++ (st.drop (qz_na k')).map (qz_tv z tA))) := by
    intro H1 locs1 h1 h2
    have := kk H1 locs1 lsm hL h1 h2 (hT.same hle.2)
    rw [List.map_append] at this
    cases r <;> exact this
  have hfix : ∀ w ∈ qz_tb, w.before args s = true := hC.2.2.2.2.1
  have hS' : CallFix p m c (qz_b k) (qz_ml k) s args qz_tb (qz_ow (qz_cn k)) := ⟨hC.1, hC.2.1, hC.2.2.1, hC.2.2.2.1, hfix⟩
  have key : ∀ i, qz_cl (qz_cn k) i = some k' → qz_co' k k' st = true → k' < qz_nm ∧ ((Cond.methodLink (qz_ow (qz_cn k)) i (qz_y k')).before args s = true ∨ va_Nw (.methodLinkNest (qz_ow (qz_cn k)) i (qz_y k') "ShiftBuses") s) := by
    intro i h _
    obtain ⟨h1, h2⟩ : k' < qz_nm ∧ (Cond.methodLink (qz_ow (qz_cn k)) i (qz_y k') ∈ qz_tb ∨ (qz_cn k, i, k') ∈ qz_ne) := qz_cl_ok h
    refine ⟨h1, ?_⟩
    rcases h2 with h2 | h2
    · left
      exact hfix (Cond.methodLink (qz_ow (qz_cn k)) i (qz_y k')) h2
    · right
      have h9 := hC.2.2.2.2.2.2.1.2.2.1 (qz_cn k, i, k') h2
      exact h9
  have roomW : 2 * (F0 m pc lsm (st.map (qz_tv z tA))).monitorRoom + (((st.drop (qz_na k')).map (qz_tv z tA)).map fun v => v.category).sum ≤ 8 ∨ ¬ (st.drop (qz_na k')).length ≤ 8 := by
    by_cases h : (st.drop (qz_na k')).length ≤ 8
    · exact Or.inl (lv_room (by rw [qz_tvs]; exact h))
    · exact Or.inr h
  have recv : ∀ (n0 : qz_N) (as : List qz_V), qz_ag (qz_na k') st = .inr (some n0) :: as → n0.1 = qz_cn k' → qz_cn k' < 7 → ∃ cellB : Cell, H[qz_ad z tA n0]? = some cellB ∧ cellB.vm.isStatics = false ∧ s.vm.findClass (qz_ow (qz_cn k')) = some cellB.cls := by
    intro n0 as e1 e2 h7
    have hm : (.inr (some n0) : qz_V) ∈ st := by
      have : (.inr (some n0) : qz_V) ∈ qz_ag (qz_na k') st := by rw [e1]; exact List.mem_cons_self
      exact List.mem_of_mem_take (List.mem_reverse.mp this)
    obtain ⟨hv, hx⟩ := qz_dyn (hvs _ hm n0 rfl) (by omega)
    have hat := hP.2 n0 hv hx
    rw [show qz_ce z tA cy M n0 = .inr (n0.1, (List.range (qz_nf n0.1)).map (fun j => if qz_rf n0.1 j = true then va_rf ((M.2.2 n0 j).map (qz_ad z tA)) else .int (M.2.1 n0 j))) from if_pos (by omega)] at hat
    obtain ⟨c1, -⟩ := qz_co (c := n0.1) (by omega)
    have h9 := va_recv hC.2.2.2.2.2.2.1.1 (qz_one hat) (q0 := 0) c1 rfl
    rw [qz_ad_dyn (by omega), ← e2]
    exact h9
  unfold qz_kl at hk
  split at hk
  · next i =>
    split at hk
    · next k2 hcl =>
      split at hk
      · next hc =>
        cases hk
        obtain ⟨h1, h2, h3, h4⟩ := hc
        obtain ⟨hn, hlk⟩ := key i hcl h1
        obtain ⟨r1, r2, r3, r4⟩ := qz_rml h1
        obtain ⟨m1, m2, m3, m4, m5, m6, m7, m8, m9, m10⟩ := qz_mo hn
        obtain ⟨m7a, m7b, m7c, m7d⟩ := m7 h2
        have hM1 := hM hn (qz_agl r1)
        have hprm := qz_prm hn
        rw [h2] at hprm
        have hal := qz_agl r1
        have hst := qz_stk (qz_na k') st (qz_tv z tA)
        cases hag : qz_ag (qz_na k') st with
        | nil => rw [hag] at h4; cases h4
        | cons v as =>
          rw [hag] at h4 hM1 hst hal
          cases v with
          | inl x => cases h4
          | inr v => cases v with
            | none => cases h4
            | some n0 =>
              have h4 : n0.1 = qz_cn k' := by simpa [qz_rc] using h4
              have hrc := recv n0 as hag h4 m7c
              have hroom := roomW.resolve_right (fun q => q r2)
              have hsel : Cond.selects (qz_ow (qz_cn k')) (qz_y k') (qz_y k') ∈ qz_tb := m7b.resolve_left (fun q => by rw [h3] at q; cases q)
              have hstk : st.map (qz_tv z tA) = (as.map (qz_tv z tA)).reverse ++ Value.ref (qz_ad z tA n0) :: (st.drop (qz_na k')).map (qz_tv z tA) := by
                rw [hst]
                simp [qz_tv, va_rf]
              have hlen : (as.map (qz_tv z tA)).length = qz_na k' - 1 := by
                rw [List.length_map]
                simp only [List.length_cons] at hal
                omega
              have hb1 : (qz_rm k' (M'.1 - M.1) (qz_ss M'.1 - qz_ss M.1)).frames + 1 ≤ R.frames := Nat.le_trans r3 hRF
              have hb2 : 8 + (qz_ml k' + 11) + (qz_rm k' (M'.1 - M.1) (qz_ss M'.1 - qz_ss M.1)).locals ≤ R.locals := Nat.le_trans r4 hRL
              rcases hlk with hlk | hlk
              · exact qz_run (va_runV (As := as.map (qz_tv z tA)) (rest := (st.drop (qz_na k')).map (qz_tv z tA)) (n := qz_na k' - 1) hS' hM1
                  ⟨⟨rfl, rfl, hb1, hb2, qz_pay hn hfix, List.mem_cons_self, hfix _ m2, hfix _ m3, m4, hprm, hlk⟩, hfix _ m7a, hfix _ hsel⟩
                  ⟨qz_blind, hrc, fun U hU hW => qz_pre hC hP hS hT U hU hW⟩ rfl hlen (by rw [show (F0 m pc lsm (st.map (qz_tv z tA))).locals = lsm from rfl]; exact hL.2.1) hstk hroom hd ⟨hce, hsl⟩) hS k1
              · exact qz_run (va_runVN (As := as.map (qz_tv z tA)) (rest := (st.drop (qz_na k')).map (qz_tv z tA)) (n := qz_na k' - 1) hS' hM1
                  ⟨⟨⟨rfl, rfl, hb1, hb2, qz_pay hn hfix, List.mem_cons_self⟩, hfix _ m2, hfix _ m3, m4, hprm, va_Nw.use rfl hlk⟩, hfix _ m7a, hfix _ hsel⟩
                  ⟨qz_blind, hrc, fun U hU hW => qz_pre hC hP hS hT U hU hW⟩ rfl hlen (by rw [show (F0 m pc lsm (st.map (qz_tv z tA))).locals = lsm from rfl]; exact hL.2.1) hstk hroom hd ⟨hce, hsl⟩) hS k1
      · cases hk
    · cases hk
  · next i =>
    split at hk
    · next k2 hcl =>
      split at hk
      · next hc =>
        cases hk
        obtain ⟨h1, h2, h3, h4⟩ := hc
        obtain ⟨hn, hlk⟩ := key i hcl h1
        obtain ⟨r1, r2, r3, r4⟩ := qz_rml h1
        obtain ⟨m1, m2, m3, m4, m5, m6, m7, m8, m9, m10⟩ := qz_mo hn
        obtain ⟨m7a, m7b, m7c, m7d⟩ := m7 h2
        have hM1 := hM hn (qz_agl r1)
        have hprm := qz_prm hn
        rw [h2] at hprm
        have hal := qz_agl r1
        have hst := qz_stk (qz_na k') st (qz_tv z tA)
        have hnm : (qz_y k').name = "<init>" := by simpa [qz_ini] using h3
        have hrt : qz_rt k' = none := m10 h3
        have hcd : Cond.code (qz_y k') (qz_b k') (qz_ml k') none ∈ qz_ws k' := by rw [← hrt]; exact List.mem_cons_self
        have m2' : (Cond.code (qz_y k') (qz_b k') (qz_ml k') none).before args s = true := by rw [← hrt]; exact hfix _ m2
        cases hag : qz_ag (qz_na k') st with
        | nil => rw [hag] at h4; cases h4
        | cons v as =>
          rw [hag] at h4 hM1 hst hal
          cases v with
          | inl x => cases h4
          | inr v => cases v with
            | none => cases h4
            | some n0 =>
              have hroom := roomW.resolve_right (fun q => q r2)
              have hstk : st.map (qz_tv z tA) = (as.map (qz_tv z tA)).reverse ++ Value.ref (qz_ad z tA n0) :: (st.drop (qz_na k')).map (qz_tv z tA) := by
                rw [hst]
                simp [qz_tv, va_rf]
              have hlen : (as.map (qz_tv z tA)).length = qz_na k' - 1 := by
                rw [List.length_map]
                simp only [List.length_cons] at hal
                omega
              have hb1 : (qz_rm k' (M'.1 - M.1) (qz_ss M'.1 - qz_ss M.1)).frames + 1 ≤ R.frames := Nat.le_trans r3 hRF
              have hb2 : 8 + (qz_ml k' + 11) + (qz_rm k' (M'.1 - M.1) (qz_ss M'.1 - qz_ss M.1)).locals ≤ R.locals := Nat.le_trans r4 hRL
              rcases hlk with hlk | hlk
              · exact qz_run (va_runI (As := as.map (qz_tv z tA)) (rest := (st.drop (qz_na k')).map (qz_tv z tA)) (n := qz_na k' - 1) hS' hM1
                  ⟨⟨rfl, rfl, hb1, hb2, qz_pay hn hfix, hcd, m2', hfix _ m3, m4, hprm, hlk⟩, hnm, hfix _ m7a⟩
                  ⟨qz_blind, fun U hU hW => qz_pre hC hP hS hT U hU hW⟩ rfl hlen (by rw [show (F0 m pc lsm (st.map (qz_tv z tA))).locals = lsm from rfl]; exact hL.2.1) hstk hroom hd ⟨hce, hsl⟩) hS k1
              · exact qz_run (va_runIN (As := as.map (qz_tv z tA)) (rest := (st.drop (qz_na k')).map (qz_tv z tA)) (n := qz_na k' - 1) hS' hM1
                  ⟨⟨⟨rfl, rfl, hb1, hb2, qz_pay hn hfix, hcd⟩, m2', hfix _ m3, m4, hprm, va_Nw.use rfl hlk⟩, hnm, hfix _ m7a⟩
                  ⟨qz_blind, fun U hU hW => qz_pre hC hP hS hT U hU hW⟩ rfl hlen (by rw [show (F0 m pc lsm (st.map (qz_tv z tA))).locals = lsm from rfl]; exact hL.2.1) hstk hroom hd ⟨hce, hsl⟩) hS k1
      · cases hk
    · cases hk
  · next i =>
    split at hk
    · next k2 hcl =>
      split at hk
      · next hc =>
        cases hk
        obtain ⟨h1, h2⟩ := hc
        obtain ⟨hn, hlk⟩ := key i hcl h1
        obtain ⟨r1, r2, r3, r4⟩ := qz_rml h1
        obtain ⟨m1, m2, m3, m4, m5, m6, m7, m8, m9, m10⟩ := qz_mo hn
        have hM1 := hM hn (qz_agl r1)
        have hprm := qz_prm hn
        rw [h2] at hprm
        have hal := qz_agl r1
        have hst := qz_stk (qz_na k') st (qz_tv z tA)
        have hroom := roomW.resolve_right (fun q => q r2)
        have hlen : ((qz_ag (qz_na k') st).map (qz_tv z tA)).length = qz_na k' - 0 := by
          rw [List.length_map, hal]
          rfl
        have hb1 : (qz_rm k' (M'.1 - M.1) (qz_ss M'.1 - qz_ss M.1)).frames + 1 ≤ R.frames := Nat.le_trans r3 hRF
        have hb2 : 8 + (qz_ml k' + 11) + (qz_rm k' (M'.1 - M.1) (qz_ss M'.1 - qz_ss M.1)).locals ≤ R.locals := Nat.le_trans r4 hRL
        rcases hlk with hlk | hlk
        · exact qz_run (va_runS (As := (qz_ag (qz_na k') st).map (qz_tv z tA)) (rest := (st.drop (qz_na k')).map (qz_tv z tA)) (n := qz_na k' - 0) hS' hM1
            ⟨⟨rfl, rfl, hb1, hb2, qz_pay hn hfix, List.mem_cons_self, hfix _ m2, hfix _ m3, m4, hprm, hlk⟩, hfix _ (m6 h2)⟩
            ⟨qz_blind, fun U hU hW => qz_pre hC hP hS hT U hU hW⟩ rfl hlen (by rw [show (F0 m pc lsm (st.map (qz_tv z tA))).locals = lsm from rfl]; exact hL.2.1) hst hroom hd ⟨hce, hsl⟩) hS k1
        · exact qz_run (va_runSN (As := (qz_ag (qz_na k') st).map (qz_tv z tA)) (rest := (st.drop (qz_na k')).map (qz_tv z tA)) (n := qz_na k' - 0) hS' hM1
            ⟨⟨⟨rfl, rfl, hb1, hb2, qz_pay hn hfix, List.mem_cons_self⟩, hfix _ m2, hfix _ m3, m4, hprm, va_Nw.use rfl hlk⟩, hfix _ (m6 h2), trivial⟩
            ⟨qz_blind, fun U hU hW => qz_pre hC hP hS hT U hU hW⟩ rfl hlen (by rw [show (F0 m pc lsm (st.map (qz_tv z tA))).locals = lsm from rfl]; exact hL.2.1) hst hroom hd ⟨hce, hsl⟩) hS k1
      · cases hk
    · cases hk
  · cases hk
end QZC
end
section
/-! a step by its instruction; a whole run by induction -/
section QZW
variable {p : Program} {l : Launch} {e : Env} {R : Room} {s : State} {m : MethodId} {args : Array Value} {below : List Frame} {meth : Method} {c : Code} {Q : State → Prop}
variable {z : Nat} {tA : Nat → Nat} {D : va_G} {cy : Nat → ClassId} {k : Nat}
variable {ce sl pc : Nat} {ls : List (Option qz_V)} {st : List qz_V} {M : qz_M}
theorem qz_k0 {M M' : qz_M} {pc' : Nat} {ls' : List (Option qz_V)} {st' : List qz_V} (h : M'.1 = M.1) (kk : qz_W p l e R s m args below meth c z tA D cy k Q (ce + (M'.1 - M.1)) (sl + (qz_ss M'.1 - qz_ss M.1)) pc' ls' st' M') : qz_W p l e R s m args below meth c z tA D cy k Q ce sl pc' ls' st' M' := by
  rw [h, Nat.sub_self, Nat.sub_self, Nat.add_zero, Nat.add_zero] at kk
  exact kk
theorem qz_al1 : (qz_al' M).1 - M.1 = 1 := by
  show M.1 + 1 - M.1 = 1
  omega
theorem qz_al2 : qz_ss (qz_al' M).1 - qz_ss M.1 = qz_sz (qz_nm' M.1).1 := by
  show qz_ss M.1 + qz_sz (qz_nm' M.1).1 - qz_ss M.1 = _
  omega
theorem qz_step (hC : qz_Cx p s m args meth c z tA D cy k) {ins : Instr} {len pc' : Nat} {ls' : List (Option qz_V)} {st' : List qz_V} {M' : qz_M} (hok : qz_ok ls st M) (hd : decode (qz_b k) pc = .ok (ins, len)) (hlen : qz_il ins len = true) (hs : qz_sp (qz_cn k) (qz_ini k) ins pc ls st M = some (pc', ls', st', M')) (hce : ce + (M'.1 - M.1) ≤ R.cells) (hsl : sl + (qz_ss M'.1 - qz_ss M.1) ≤ R.slots)
    (kk : qz_W p l e R s m args below meth c z tA D cy k Q (ce + (M'.1 - M.1)) (sl + (qz_ss M'.1 - qz_ss M.1)) pc' ls' st' M') : qz_W p l e R s m args below meth c z tA D cy k Q ce sl pc ls st M := by
  have lv : ∀ {n r}, st = .inr (some n) :: r → qz_lv M.1 n := fun h => hok.2.2 _ (by rw [h]; exact List.mem_cons_self) _ rfl
  have lv2 : ∀ {v n r}, st = v :: .inr (some n) :: r → qz_lv M.1 n := fun h => hok.2.2 _ (by rw [h]; exact List.mem_cons_of_mem _ List.mem_cons_self) _ rfl
  have lv3 : ∀ {v w n r}, st = v :: w :: .inr (some n) :: r → qz_lv M.1 n := fun h => hok.2.2 _ (by rw [h]; exact List.mem_cons_of_mem _ (List.mem_cons_of_mem _ List.mem_cons_self)) _ rfl
  cases ins with
  | iconst i =>
    cases (show len = 1 by simpa [qz_il] using hlen)
    cases hs
    exact qz_r_iconst hC hd (qz_k0 rfl kk)
  | bipush i =>
    cases (show len = 2 by simpa [qz_il] using hlen)
    cases hs
    exact qz_r_bipush hC hd (qz_k0 rfl kk)
  | sipush i =>
    cases (show len = 3 by simpa [qz_il] using hlen)
    cases hs
    exact qz_r_sipush hC hd (qz_k0 rfl kk)
  | aconst_null =>
    cases (show len = 1 by simpa [qz_il] using hlen)
    cases hs
    exact qz_r_null hC hd (qz_k0 rfl kk)
  | iload i =>
    cases (show len = 2 by simpa [qz_il] using hlen)
    simp only [qz_sp, qz_li] at hs
    split at hs
    · next hx => cases hs; exact qz_r_iload hC hd hx (qz_k0 rfl kk)
    · cases hs
  | iload_n i =>
    cases (show len = 1 by simpa [qz_il] using hlen)
    simp only [qz_sp, qz_li] at hs
    split at hs
    · next hx => cases hs; exact qz_r_iload_n hC hd hx (qz_k0 rfl kk)
    · cases hs
  | aload i =>
    cases (show len = 2 by simpa [qz_il] using hlen)
    simp only [qz_sp, qz_la] at hs
    split at hs
    · next hx => cases hs; exact qz_r_aload hC hd hx (qz_k0 rfl kk)
    · cases hs
  | aload_n i =>
    cases (show len = 1 by simpa [qz_il] using hlen)
    simp only [qz_sp, qz_la] at hs
    split at hs
    · next hx => cases hs; exact qz_r_aload_n hC hd hx (qz_k0 rfl kk)
    · cases hs
  | istore i =>
    cases (show len = 2 by simpa [qz_il] using hlen)
    simp only [qz_sp, qz_si] at hs
    split at hs
    · split at hs
      · next hx => cases hs; exact qz_r_istore hC hd hx (qz_k0 rfl kk)
      · cases hs
    · cases hs
  | istore_n i =>
    cases (show len = 1 by simpa [qz_il] using hlen)
    simp only [qz_sp, qz_si] at hs
    split at hs
    · split at hs
      · next hx => cases hs; exact qz_r_istore_n hC hd hx (qz_k0 rfl kk)
      · cases hs
    · cases hs
  | astore i =>
    cases (show len = 2 by simpa [qz_il] using hlen)
    simp only [qz_sp, qz_sr] at hs
    split at hs
    · split at hs
      · next hx => cases hs; exact qz_r_astore hC hd hx (qz_k0 rfl kk)
      · cases hs
    · cases hs
  | astore_n i =>
    cases (show len = 1 by simpa [qz_il] using hlen)
    simp only [qz_sp, qz_sr] at hs
    split at hs
    · split at hs
      · next hx => cases hs; exact qz_r_astore_n hC hd hx (qz_k0 rfl kk)
      · cases hs
    · cases hs
  | iinc i n =>
    cases (show len = 3 by simpa [qz_il] using hlen)
    simp only [qz_sp] at hs
    split at hs
    · next hx => cases hs; exact qz_r_iinc hC hd hx (qz_k0 rfl kk)
    · cases hs
  | iadd =>
    cases (show len = 1 by simpa [qz_il] using hlen)
    simp only [qz_sp, qz_bn] at hs
    split at hs
    · cases hs; exact qz_r_iadd hC hd (qz_k0 rfl kk)
    · cases hs
  | isub =>
    cases (show len = 1 by simpa [qz_il] using hlen)
    simp only [qz_sp, qz_bn] at hs
    split at hs
    · cases hs; exact qz_r_isub hC hd (qz_k0 rfl kk)
    · cases hs
  | imul =>
    cases (show len = 1 by simpa [qz_il] using hlen)
    simp only [qz_sp, qz_bn] at hs
    split at hs
    · cases hs; exact qz_r_imul hC hd (qz_k0 rfl kk)
    · cases hs
  | iand =>
    cases (show len = 1 by simpa [qz_il] using hlen)
    simp only [qz_sp, qz_bn] at hs
    split at hs
    · cases hs; exact qz_r_iand hC hd (qz_k0 rfl kk)
    · cases hs
  | idiv =>
    cases (show len = 1 by simpa [qz_il] using hlen)
    simp only [qz_sp] at hs
    split at hs
    · split at hs
      · cases hs
      · next hy => cases hs; exact qz_r_idiv hC hd hy (qz_k0 rfl kk)
    · cases hs
  | irem =>
    cases (show len = 1 by simpa [qz_il] using hlen)
    simp only [qz_sp] at hs
    split at hs
    · split at hs
      · cases hs
      · next hy => cases hs; exact qz_r_irem hC hd hy (qz_k0 rfl kk)
    · cases hs
  | ineg =>
    cases (show len = 1 by simpa [qz_il] using hlen)
    simp only [qz_sp] at hs
    split at hs
    · cases hs; exact qz_r_ineg hC hd (qz_k0 rfl kk)
    · cases hs
  | i2c =>
    cases (show len = 1 by simpa [qz_il] using hlen)
    simp only [qz_sp] at hs
    split at hs
    · cases hs; exact qz_r_i2c hC hd (qz_k0 rfl kk)
    · cases hs
  | dup =>
    cases (show len = 1 by simpa [qz_il] using hlen)
    simp only [qz_sp] at hs
    split at hs
    · cases hs; exact qz_r_dup hC hd (qz_k0 rfl kk)
    · cases hs
  | dup2 =>
    cases (show len = 1 by simpa [qz_il] using hlen)
    simp only [qz_sp] at hs
    split at hs
    · cases hs; exact qz_r_dup2 hC hd (qz_k0 rfl kk)
    · cases hs
  | pop =>
    cases (show len = 1 by simpa [qz_il] using hlen)
    simp only [qz_sp] at hs
    split at hs
    · cases hs; exact qz_r_pop hC hd (qz_k0 rfl kk)
    · cases hs
  | ifCond cd off =>
    cases (show len = 3 by simpa [qz_il] using hlen)
    simp only [qz_sp] at hs
    split at hs
    · obtain ⟨-, -, -, -, eM, -⟩ := qz_br_inv hs
      exact qz_r_if hC hd hs (qz_k0 (by rw [eM]) kk)
    · cases hs
  | if_icmp cd off =>
    cases (show len = 3 by simpa [qz_il] using hlen)
    simp only [qz_sp] at hs
    split at hs
    · obtain ⟨-, -, -, -, eM, -⟩ := qz_br_inv hs
      exact qz_r_icmp hC hd hs (qz_k0 (by rw [eM]) kk)
    · cases hs
  | if_acmp cd off =>
    cases (show len = 3 by simpa [qz_il] using hlen)
    simp only [qz_sp] at hs
    split at hs
    · split at hs
      · next x y r hc =>
        obtain ⟨-, -, -, -, eM, -⟩ := qz_br_inv hs
        have dy : ∀ {x : Option qz_N} {n : qz_N}, qz_dy x = true → x = some n → n.1 < 30 := by
          intro x n h1 h2
          subst h2
          simpa [qz_dy] using h1
        exact qz_r_acmp hC (fun n h => ⟨dy hc.1 h, lv2 (by rw [h])⟩) (fun n h => ⟨dy hc.2 h, lv (by rw [h])⟩) hd hs (qz_k0 (by rw [eM]) kk)
      · cases hs
    · cases hs
  | ifnull off =>
    cases (show len = 3 by simpa [qz_il] using hlen)
    simp only [qz_sp] at hs
    split at hs
    · obtain ⟨-, -, -, -, eM, -⟩ := qz_br_inv hs
      exact qz_r_ifnull hC hd hs (qz_k0 (by rw [eM]) kk)
    · cases hs
  | ifnonnull off =>
    cases (show len = 3 by simpa [qz_il] using hlen)
    simp only [qz_sp] at hs
    split at hs
    · obtain ⟨-, -, -, -, eM, -⟩ := qz_br_inv hs
      exact qz_r_ifnonnull hC hd hs (qz_k0 (by rw [eM]) kk)
    · cases hs
  | goto off =>
    cases (show len = 3 by simpa [qz_il] using hlen)
    simp only [qz_sp] at hs
    split at hs
    · next ht => cases hs; exact qz_r_goto hC hd ht (qz_k0 rfl kk)
    · cases hs
  | tableswitch d lo hi offs =>
    simp only [qz_sp] at hs
    split at hs
    · split at hs
      · next h =>
        split at hs
        · next ht => cases hs; exact qz_r_tabO hC hd h ht (qz_k0 rfl kk)
        · cases hs
      · next h =>
        split at hs
        · next ho =>
          split at hs
          · next ht => cases hs; exact qz_r_tabI hC hd h ho ht (qz_k0 rfl kk)
          · cases hs
        · cases hs
    · cases hs
  | getfield i =>
    cases (show len = 3 by simpa [qz_il] using hlen)
    simp only [qz_sp] at hs
    split at hs
    · split at hs
      · next hf =>
        split at hs
        · next hc => subst hc; cases hs; exact qz_r_getf hC hd hf (lv rfl) (qz_k0 rfl kk)
        · cases hs
      · cases hs
    · cases hs
  | putfield i =>
    cases (show len = 3 by simpa [qz_il] using hlen)
    simp only [qz_sp] at hs
    split at hs
    · split at hs
      · next hf =>
        split at hs
        · next hc =>
          obtain ⟨h1, h2, h3, h4⟩ := hc
          subst h1
          cases hs
          exact qz_r_putfi hC hd hf (lv2 rfl) h2 h3 h4 (qz_k0 rfl kk)
        · cases hs
      · cases hs
    · split at hs
      · next hf =>
        split at hs
        · next hc =>
          obtain ⟨h1, h2, h3, h4, h5⟩ := hc
          subst h1
          cases hs
          exact qz_r_putfr hC hd hf (lv2 rfl) h2 h3 h4 h5 (qz_k0 rfl kk)
        · cases hs
      · cases hs
    · cases hs
  | getstatic i =>
    cases (show len = 3 by simpa [qz_il] using hlen)
    simp only [qz_sp] at hs
    split at hs
    · next hf => cases hs; exact qz_r_getst hC hd hf (qz_k0 rfl kk)
    · cases hs
  | iaload =>
    cases (show len = 1 by simpa [qz_il] using hlen)
    simp only [qz_sp, qz_ld] at hs
    split at hs
    · split at hs
      · next hc => cases hs; exact qz_r_iald hC hd hc.1 hc.2 (lv2 rfl) (qz_k0 rfl kk)
      · cases hs
    · cases hs
  | caload =>
    cases (show len = 1 by simpa [qz_il] using hlen)
    simp only [qz_sp, qz_ld] at hs
    split at hs
    · split at hs
      · next hc => cases hs; exact qz_r_cald hC hd hc.1 hc.2 (lv2 rfl) (qz_k0 rfl kk)
      · cases hs
    · cases hs
  | baload =>
    cases (show len = 1 by simpa [qz_il] using hlen)
    simp only [qz_sp, qz_ld] at hs
    split at hs
    · split at hs
      · next hc => cases hs; exact qz_r_bald hC hd hc.1 hc.2 (lv2 rfl) (qz_k0 rfl kk)
      · cases hs
    · cases hs
  | iastore =>
    cases (show len = 1 by simpa [qz_il] using hlen)
    simp only [qz_sp, qz_sd] at hs
    split at hs
    · split at hs
      · next hc => cases hs; exact qz_r_iast hC hd hc.1 hc.2.1 hc.2.2 (lv3 rfl) (qz_k0 rfl kk)
      · cases hs
    · cases hs
  | castore =>
    cases (show len = 1 by simpa [qz_il] using hlen)
    simp only [qz_sp, qz_sd] at hs
    split at hs
    · split at hs
      · next hc => cases hs; exact qz_r_cast hC hd hc.1 hc.2.1 hc.2.2 (lv3 rfl) (qz_k0 rfl kk)
      · cases hs
    · cases hs
  | bastore =>
    cases (show len = 1 by simpa [qz_il] using hlen)
    simp only [qz_sp, qz_sd] at hs
    split at hs
    · split at hs
      · next hc => cases hs; exact qz_r_bast hC hd hc.1 hc.2.1 hc.2.2 (lv3 rfl) (qz_k0 rfl kk)
      · cases hs
    · cases hs
  | aaload =>
    cases (show len = 1 by simpa [qz_il] using hlen)
    simp only [qz_sp] at hs
    split at hs
    · split at hs
      · next hc => cases hs; exact qz_r_aald hC hd hc.1 hc.2 (lv2 rfl) (qz_k0 rfl kk)
      · cases hs
    · cases hs
  | aastore =>
    cases (show len = 1 by simpa [qz_il] using hlen)
    simp only [qz_sp] at hs
    split at hs
    · split at hs
      · next hc => cases hs; exact qz_r_aast hC hd hc.1 hc.2.1 hc.2.2 (lv3 rfl) (lv rfl) (qz_k0 rfl kk)
      · cases hs
    · cases hs
  | arraylength =>
    cases (show len = 1 by simpa [qz_il] using hlen)
    simp only [qz_sp] at hs
    split at hs
    · split at hs
      · next hc => cases hs; exact qz_r_alen hC hd hc (lv rfl) (qz_k0 rfl kk)
      · cases hs
    · cases hs
  | new i =>
    cases (show len = 3 by simpa [qz_il] using hlen)
    simp only [qz_sp] at hs
    split at hs
    · next hw =>
      split at hs
      · next hc =>
        obtain ⟨h1, h2, h3⟩ := hc
        subst h1
        cases hs
        rw [qz_al1] at hce kk
        rw [qz_al2] at hsl kk
        exact qz_r_new hC hd hw h2 h3 hce hsl kk
      · cases hs
    · cases hs
  | newarray a =>
    cases (show len = 2 by simpa [qz_il] using hlen)
    simp only [qz_sp] at hs
    split at hs
    · split at hs
      · next hc =>
        obtain ⟨h1, h2, h3, h4, h5⟩ := hc
        cases hs
        rw [qz_al1] at hce kk
        rw [qz_al2] at hsl kk
        exact qz_r_newa hC hd h1 h2 h3 h4 h5 hce hsl kk
      · cases hs
    · cases hs
  | anewarray i =>
    cases (show len = 3 by simpa [qz_il] using hlen)
    simp only [qz_sp] at hs
    split at hs
    · split at hs
      · next hw =>
        split at hs
        · next hc =>
          obtain ⟨h1, h2, h3, h4, h5, h6⟩ := hc
          subst h6
          cases hs
          rw [qz_al1] at hce kk
          rw [qz_al2] at hsl kk
          exact qz_r_anew hC hd hw h1 h2 h3 h4 h5 hce hsl kk
        · cases hs
      · cases hs
    · cases hs
  | _ => cases hs
theorem qz_bist (hC : qz_Cx p s m args meth c z tA D cy k) (hRF : qz_rF k ≤ R.frames) (hRL : qz_rL k ≤ R.locals) {ins : Instr} {len pc' : Nat} {ls' : List (Option qz_V)} {st' : List qz_V} {M' : qz_M} (hd : decode (qz_b k) pc = .ok (ins, len)) (hlen : qz_il ins len = true) (hs : qz_bi k ins pc ls st M = some (pc', ls', st', M')) (hce : ce ≤ R.cells) (hsl : sl ≤ R.slots)
    (kk : qz_W p l e R s m args below meth c z tA D cy k Q ce sl pc' ls' st' M') : qz_W p l e R s m args below meth c z tA D cy k Q ce sl pc ls st M := by
  have hts : ∀ w ∈ qz_tb, w.before args s = true := hC.2.2.2.2.1
  unfold qz_bi at hs
  split at hs
  · cases (show len = 3 by simpa [qz_il] using hlen)
    split at hs
    · split at hs
      · next hc =>
        cases hs
        intro H locs lsm hL hP hS hT
        refine W.objInit hC.1 hC.2.1 hC.2.2.2.1 (hts _ (qz_ob_ok hc.1)) (hts _ qz_oi) (hts _ qz_oc) rfl (by rw [hC.2.2.1]; exact hL.2.1) rfl hd (by have := hc.2.2.1; omega) ?_ (kk H locs lsm hL hP hS hT)
        have := hc.2.1
        have h2 := hc.2.2.2
        rw [qz_tvs]
        show 2 * 0 + _ + 12 ≤ _
        omega
      · cases hs
    · cases hs
  · cases (show len = 3 by simpa [qz_il] using hlen)
    split at hs
    · next hm =>
      split at hs
      · split at hs
        · next hc =>
          cases hs
          intro H locs lsm hL hP hS hT
          have hw : Cond.methodLink (qz_ow (qz_cn k)) _ Lib.Math.max.name ∈ qz_tb := (qz_mt_ok hm).elim (fun h => h.2) (fun h => by cases h.1)
          refine va_mmax hC.1 hC.2.1 (by rw [hC.2.2.1]; exact hL.2.1.symm) hC.2.2.2.1 (hts _ hw) (hts _ qz_mw_max.1) (hts _ qz_mw_max.2.1) (hts _ qz_mw_max.2.2) (by have := hc.2.1; omega) ?_ hce hsl hd (kk H locs lsm hL hP hS hT)
          have h1 := hc.1
          have h2 := hc.2.2
          rw [qz_tvs]
          omega
        · cases hs
      · cases hs
    · next hm =>
      split at hs
      · split at hs
        · next hc =>
          cases hs
          intro H locs lsm hL hP hS hT
          have hw : Cond.methodLink (qz_ow (qz_cn k)) _ Lib.Math.abs.name ∈ qz_tb := (qz_mt_ok hm).elim (fun h => by cases h.1) (fun h => h.2)
          refine va_mabs hC.1 hC.2.1 (by rw [hC.2.2.1]; exact hL.2.1.symm) hC.2.2.2.1 (hts _ hw) (hts _ qz_mw_abs.1) (hts _ qz_mw_abs.2.1) (hts _ qz_mw_abs.2.2) (by have := hc.2.1; omega) ?_ hce hsl hd (kk H locs lsm hL hP hS hT)
          have h1 := hc.1
          have h2 := hc.2.2
          rw [qz_tvs]
          omega
        · cases hs
      · cases hs
    · cases hs
  · cases hs
/-- the return of a method that was called -/
theorem qz_ret (hC : qz_Cx p s m args meth c z tA D cy k) (hr : meth.sig.returnType = qz_rt k) (hlk : meth.locks = false) {ins : Instr} {r : Option qz_V} {H : Heap} {locs : List Loc} {lsm : Array Slot} (hd : decode (qz_b k) pc = .ok (ins, 1)) (hv : qz_rv k ins st = some r) (hP : qz_P z tA D cy M H) (hS : va_S (qz_A z) s.heap H locs) : W p l e R s m args below meth c H locs ce sl (MQ below (qz_Qc z tA D cy r M) args s ce sl (qz_A z)) (F0 m pc lsm (st.map (qz_tv z tA))) := by
  unfold qz_rv at hv
  split at hv
  · split at hv
    · next x =>
      split at hv
      · next hc =>
        cases hv
        rcases hc with h | ⟨h, hx⟩
        · exact W.iret (v := x) hC.1 hC.2.1 (by rw [hr, h]) (fun t ht hW => ⟨rfl, by rw [ht]; exact hP, hS.F ht⟩) hS.2.2 hd hlk
        · exact W.zret (v := x) hC.1 hC.2.1 (by rw [hr, h]) (by rcases hx with rfl | rfl <;> rfl) (fun t ht hW => ⟨rfl, by rw [ht]; exact hP, hS.F ht⟩) hS.2.2 hd hlk
      · cases hv
    · cases hv
  · split at hv
    · next x =>
      split at hv
      · next h =>
        cases hv
        exact W.aret (v := va_rf (x.map (qz_ad z tA))) hC.1 hC.2.1 (by rw [hr, h]) (Or.inl ⟨_, rfl⟩) (by cases x; exact Or.inl rfl; exact Or.inr ⟨_, rfl⟩) (fun t ht hW => ⟨rfl, by rw [ht]; exact hP, hS.F ht⟩) hS.2.2 hd hlk
      · cases hv
    · cases hv
  · split at hv
    · split at hv
      · next h =>
        cases hv
        exact W.vret hC.1 hC.2.1 (by rw [hr, h]) (fun t ht hW => ⟨rfl, by rw [ht]; exact hP, hS.F ht⟩) hS.2.2 hd hlk
      · cases hv
    · cases hv
  · cases hv
theorem qz_rvl {ins : Instr} {len : Nat} {r : Option qz_V} (hv : qz_rv k ins st = some r) (hl : qz_il ins len = true) : len = 1 := by
  unfold qz_rv at hv
  split at hv <;> first | (simpa [qz_il] using hl) | cases hv
theorem qz_kll {ins : Instr} {len k' : Nat} (hv : qz_kl k ins st = some k') (hl : qz_il ins len = true) : len = 3 := by
  unfold qz_kl at hv
  split at hv <;> first | (simpa [qz_il] using hl) | cases hv
def qz_IH (l : Launch) (z : Nat) (tA : Nat → Nat) (D : va_G) (cy : Nat → ClassId) (n : Nat) : Prop := ∀ (k : Nat) (as : List qz_V) (M : qz_M) (r : Option qz_V) (M' : qz_M), k < qz_nm → as.length = qz_na k → qz_ex n k 0 (qz_in0 k as) [] M = some (r, M') → qz_ok (qz_in0 k as) [] M → qz_Mt l z tA D cy k as M r M'
theorem qz_walk (hC : qz_Cx p s m args meth c z tA D cy k) (hRF : qz_rF k ≤ R.frames) (hRL : qz_rL k ≤ R.locals) {N : Nat} (ih : ∀ j, j < N → qz_IH l z tA D cy j) {r : Option qz_V} {M' : qz_M} : ∀ (n : Nat), n ≤ N → ∀ (pc : Nat) (ls : List (Option qz_V)) (st : List qz_V) (M : qz_M) (ce sl : Nat), qz_ex n k pc ls st M = some (r, M') → qz_ok ls st M → ce + (M'.1 - M.1) ≤ R.cells → sl + (qz_ss M'.1 - qz_ss M.1) ≤ R.slots →
    (∀ (H : Heap) (locs : List Loc) (lsm : Array Slot) (pc : Nat) (ins : Instr) (st : List qz_V), decode (qz_b k) pc = .ok (ins, 1) → qz_rv k ins st = some r → qz_P z tA D cy M' H → va_S (qz_A z) s.heap H locs → W p l e R s m args below meth c H locs (ce + (M'.1 - M.1)) (sl + (qz_ss M'.1 - qz_ss M.1)) Q (F0 m pc lsm (st.map (qz_tv z tA)))) → qz_W p l e R s m args below meth c z tA D cy k Q ce sl pc ls st M := by
  intro n
  induction n with
  | zero => intro _ pc ls st M ce sl h; cases h
  | succ n ihn =>
    intro hN pc ls st M ce sl h hok hce hsl hret
    unfold qz_ex at h
    split at h
    · next ins len hd =>
      split at h
      · next hlen =>
        split at h
        · next pc1 ls1 st1 M1 hs =>
          obtain ⟨h1, h2⟩ := qz_sp_ok hs hok
          obtain ⟨-, -, h5⟩ := qz_ex_ok _ _ _ _ _ _ _ _ h h1
          have a1 := h2.1
          have a2 := h5.1
          have a3 := qz_ss_le a1
          have a4 := qz_ss_le a2
          refine qz_step hC hok hd hlen hs (by omega) (by omega) (ihn (by omega) _ _ _ _ _ _ h h1 (by omega) (by omega) ?_)
          rw [show ce + (M1.1 - M.1) + (M'.1 - M1.1) = ce + (M'.1 - M.1) by omega, show sl + (qz_ss M1.1 - qz_ss M.1) + (qz_ss M'.1 - qz_ss M1.1) = sl + (qz_ss M'.1 - qz_ss M.1) by omega]
          exact hret
        · split at h
          · next hv =>
            cases h
            cases qz_rvl hv hlen
            intro H locs lsm hL hP hS hT
            have := hret H locs lsm pc _ st hd hv hP hS
            rw [Nat.sub_self, Nat.sub_self, Nat.add_zero, Nat.add_zero] at this
            exact this
          · split at h
            · next pc1 ls1 st1 M1 hs =>
              obtain ⟨h1, h2⟩ := qz_bi_ok hs hok
              have e1 : M1 = M := by
                unfold qz_bi at hs
                split at hs
                · split at hs
                  · split at hs
                    · cases hs; rfl
                    · cases hs
                  · cases hs
                · split at hs
                  · split at hs
                    · split at hs
                      · cases hs; rfl
                      · cases hs
                    · cases hs
                  · split at hs
                    · split at hs
                      · cases hs; rfl
                      · cases hs
                    · cases hs
                  · cases hs
                · cases hs
              subst e1
              exact qz_bist hC hRF hRL hd hlen hs (by omega) (by omega) (ihn (by omega) _ _ _ _ _ _ h h1 hce hsl hret)
            · split at h
              · next k' hk =>
                split at h
                · next r1 M1 hs =>
                  obtain ⟨h1, h2, h6⟩ := qz_ex_ok _ _ _ _ _ _ _ _ hs (qz_in0_ok hok)
                  have h7 := qz_aft (k := qz_na k') hok h6 h1 h2
                  obtain ⟨-, -, h5⟩ := qz_ex_ok _ _ _ _ _ _ _ _ h h7
                  have a1 := h6.1
                  have a2 := h5.1
                  have a3 := qz_ss_le a1
                  have a4 := qz_ss_le a2
                  cases qz_kll hk hlen
                  refine qz_r_call hC hRF hRL hd hk hok.2.2 (fun hn hal => ih n (by omega) _ _ _ _ _ hn hal hs (qz_in0_ok hok)) h6 (by omega) (by omega) (ihn (by omega) _ _ _ _ _ _ h h7 (by omega) (by omega) ?_)
                  rw [show ce + (M1.1 - M.1) + (M'.1 - M1.1) = ce + (M'.1 - M.1) by omega, show sl + (qz_ss M1.1 - qz_ss M.1) + (qz_ss M'.1 - qz_ss M1.1) = sl + (qz_ss M'.1 - qz_ss M.1) by omega]
                  exact hret
                · cases h
              · cases h
      · cases h
    · cases h
/-- every method's contract: what the interpreter answers -/
theorem qz_sim (l : Launch) (z : Nat) (tA : Nat → Nat) (D : va_G) (cy : Nat → ClassId) : ∀ n, qz_IH l z tA D cy n := by
  intro n
  induction n using Nat.strongRecOn with
  | ind N ih =>
    intro k as M r M' hk hal hex hok
    obtain ⟨m1, m2, m3, m4, m5, m6, m7, m8, m9, m10⟩ := qz_mo hk
    refine Met.ofW (cc := qz_b k) (maxL := qz_ml k) (ret := qz_rt k) m1 rfl ?_
    intro p e s m args below meth c s₁ B hml hv
    obtain ⟨rfl, hP, hK, hT⟩ := hv
    have hts := atoms_spec (ws := qz_ws k) B.pre
    have hown : s.vm.findClass (qz_ow (qz_cn k)) = some m.cls := by
      rw [← m8]
      exact findClass_of_methodNamed B.named
    have hC : qz_Cx p s m ((as.map (qz_tv z tA)).toArray) meth c z tA D cy k := ⟨B.exec, B.bytes, hml, hown, fun w hw => hts w (List.mem_cons_of_mem _ hw), fun h => by
      rw [(name_of_methodNamed B.named B.method).1]
      simpa [qz_ini] using h, hK, by rw [hP.1]; exact Nat.le_add_right _ _⟩
    rw [lg_entry_eq]
    have hst := qz_L.start (z := z) (tA := tA) k as (qz_ml k) (by rw [hal]; exact m9)
    have hw := qz_walk (R := (headSpec (qz_ws k) (qz_rm k (M'.1 - M.1) (qz_ss M'.1 - qz_ss M.1))).room) (below := below) (l := l) (e := e) (Q := MQ below (qz_Qc z tA D cy r M') ((as.map (qz_tv z tA)).toArray) s (M'.1 - M.1) (qz_ss M'.1 - qz_ss M.1) (qz_A z)) hC (Nat.le_refl _) (Nat.le_refl _) ih N (Nat.le_refl _) 0 (qz_in0 k as) [] M 0 0 hex hok (by rw [Nat.zero_add]; exact Nat.le_refl _) (by rw [Nat.zero_add]; exact Nat.le_refl _)
      (fun H locs lsm pc ins st hd hv hP' hS' => by
        rw [Nat.zero_add, Nat.zero_add]
        exact qz_ret hC B.returns B.notSynchronized hd hv hP' hS')
    exact hw s.heap [] _ hst hP va_S.rf hT
end QZW
end
section
/-! THE CLAIM OUT OF ONE WALK OF THE LAW'S BODY. Your part is whole_start (and what it stands on); all else here is the same for every law, but numbers. -/
def R_law : String := "ShiftBusesLaw"
def lw_P (b : Addr) (xs : List Int32) (args : Array Value) (s : State) : Prop := args = #[.ref b] ∧ s.IntsAt b xs ∧ xs.length ≤ 2048 ∧ (Jvm.Cond.and given_1 narrow_1).before args s = true
def lw_Q (_ : Array Value) (s : State) (o : Outcome) (t : State) : Prop := o = .returned (some (.int 1)) ∧ Framed s o t [] 600000 7302250
def lw_Z (below : List Frame) (a : Array Value) (s : State) : State → Prop := fun t => ∃ o, t.status = .running ∧ Ended t below o ∧ lw_Q a s o t
/-- the law's own end, with 1 on the stack, nothing written that was there before, its room as the claim has it -/
theorem lw_ret {p : Program} {l : Launch} {e : Env} {s : State} {m : MethodId} {below : List Frame} {meth : Method} {c : Code} {b : Nat} (hx : p.tables.exec = Jvm.exec) (hb : c.code = code) (hr : meth.sig.returnType = ret) (hlocks : meth.locks = false) {pc : Nat} {H : Heap} {ls : Array Slot} (hdg : decode code pc = .ok (.ireturn, 1)) : W p l e room_1 s m #[Value.ref b] below meth c H [] 600000 7302250 (lw_Z below #[Value.ref b] s) (F0 m pc ls [.int 1]) := by
  intro T hT X
  obtain ⟨fs, hret, hrun, hended, hW, hframe⟩ := X.leave (v := some (.int 1)) (hlocks := hlocks) (fun h => by rw [hr] at h; cases h)
  have hmeth' : T.vm.method? m = some meth := X.method'
  refine ⟨T.setFrames fs, ?_, .returned (some (.int 1)), hrun, hended, rfl, ⟨_, rfl⟩, hW, hframe⟩
  jvm_step X.here [X.here.top, hx, hb, hdg, hmeth', hr, ret, narrow_b1]
  (try refine ⟨rfl, ?_⟩); (try refine ⟨rfl, ?_⟩)
  first | (intro acts; rw [hret _ acts rfl rfl rfl]) | rw [hret _ _ rfl rfl rfl]
  exact Steps.refl _
/-- what holds at the law's entry: the machine, the code, the tables' words (any of lw_tbl by 'hts w (by decide +kernel)'), the script of L ints xs at the cell b, what the Statement gives of the start (any of its parts by flat_of_before) -/
def lw_At (p : Program) (s : State) (m : MethodId) (meth : Method) (c : Code) (b L : Nat) (xs : Nat → Int32) : Prop :=
  p.tables.exec = Jvm.exec ∧ c.code = code ∧ meth.sig.returnType = ret ∧ c.maxLocals = 4 ∧ s.vm.findClass R_law = some m.cls ∧ (∀ w ∈ lw_tbl, w.before #[Value.ref b] s = true) ∧ va_X b L xs s s.heap ∧ b < s.heap.size ∧ meth.locks = false ∧ (Jvm.Cond.and given_1 narrow_1).before #[Value.ref b] s = true
/-! the law's start is the interpreter's -/
def qz_g30 (j : Nat) : Int32 := if j = 0 then 5 else if j = 1 then 6 else if j = 2 then 30 else 90
def qz_g31 (j : Nat) : Int32 := if j = 0 then 1 else if j = 1 then 1 else if j = 2 then 0 else 10
def qz_g32 (j : Nat) : Int32 := if j = 0 then 20 else if j = 1 then 30 else if j = 2 then 120 else 300
def qz_F0 (L : Nat) (xs : Nat → Int32) (n : qz_N) (j : Nat) : Int32 :=
  if n = (30, 0, 0) then qz_g30 j else if n = (31, 0, 0) then qz_g31 j else if n = (32, 0, 0) then qz_g32 j
  else if n = (33, 0, 0) then xs j else if n = (33, 1, 0) then Int32.ofNat L else 0
theorem qz_F30 (L : Nat) (xs : Nat → Int32) : qz_F0 L xs (30, 0, 0) = qz_g30 := by funext j; simp [qz_F0]
theorem qz_F31 (L : Nat) (xs : Nat → Int32) : qz_F0 L xs (31, 0, 0) = qz_g31 := by funext j; simp [qz_F0]
theorem qz_F32 (L : Nat) (xs : Nat → Int32) : qz_F0 L xs (32, 0, 0) = qz_g32 := by funext j; simp [qz_F0]
theorem qz_F33 (L : Nat) (xs : Nat → Int32) : qz_F0 L xs (33, 0, 0) = xs := by funext j; simp [qz_F0]
theorem qz_F331 (L : Nat) (xs : Nat → Int32) : qz_F0 L xs (33, 1, 0) 0 = Int32.ofNat L := by simp [qz_F0]
def qz_M0 (L : Nat) (xs : Nat → Int32) : qz_M := (0, qz_F0 L xs, fun _ _ => none)
abbrev qz_lw : Nat := 141
/-- what is left: the interpreter runs the law to 1 -/
def qz_Pure : Prop := ∀ (L : Nat) (xs : Nat → Int32), L ≤ 2048 → ∃ (n : Nat) (M' : qz_M), qz_ex n qz_lw 0 (qz_in0 qz_lw [.inr (some (33, 0, 0))]) [] (qz_M0 L xs) = some (some (.inl 1), M') ∧ M'.1 ≤ 600000 ∧ qz_ss M'.1 ≤ 7302250
theorem qz_cyk {s : State} {args : Array Value} (hts : ∀ w ∈ lw_tbl, w.before args s = true) : ∃ cy : Nat → ClassId, ∀ t : Nat, 1 ≤ t → t < 7 → ArrOfT s (cy t) (qz_ft t) ∧ va_RA s (cy t) (qz_ft t) := by
  have hg : ∀ w ∈ qz_tb, w.before args s = true := fun w hw => hts w (List.mem_filter.mp hw).1
  obtain ⟨c1, k1, m1, a1, b1, d1⟩ := Cond.arrayClass_spec (hg _ qz_ac_int)
  obtain ⟨c2, k2, m2, a2, b2, d2⟩ := Cond.arrayClass_spec (hg _ qz_ac_char)
  obtain ⟨c3, k3, m3, a3, b3, d3⟩ := Cond.arrayClass_spec (hg _ qz_ac_boolean)
  obtain ⟨m4, c4, k4, f4, -, b4, d4, a4⟩ := Cond.arrayOver_spec (hts _ (List.mem_of_getElem? qz_ao_Booking))
  obtain ⟨m5, c5, k5, f5, -, b5, d5, a5⟩ := Cond.arrayOver_spec (hts _ (List.mem_of_getElem? qz_ao_Wish))
  obtain ⟨m6, c6, k6, f6, -, b6, d6, a6⟩ := Cond.arrayOver_spec (hts _ (List.mem_of_getElem? qz_ao_Works))
  refine ⟨fun t => if t = 1 then c1 else if t = 2 then c2 else if t = 3 then c3 else if t = 4 then c4 else if t = 5 then c5 else c6, fun t h1 h7 => ?_⟩
  have hc : t = 1 ∨ t = 2 ∨ t = 3 ∨ t = 4 ∨ t = 5 ∨ t = 6 := by omega
  rcases hc with rfl | rfl | rfl | rfl | rfl | rfl
  · exact ⟨fun n z => ⟨fun k h => (by cases h), k1, b1, m1, d1⟩, a1⟩
  · exact ⟨fun n z => ⟨fun k h => (by cases h), k2, b2, m2, d2⟩, a2⟩
  · exact ⟨fun n z => ⟨fun k h => (by cases h), k3, b3, m3, d3⟩, a3⟩
  · exact ⟨fun n z => ⟨fun k h => (by cases h), k4, b4, m4, d4⟩, k4, m4, b4, d4, f4, a4⟩
  · exact ⟨fun n z => ⟨fun k h => (by cases h), k5, b5, m5, d5⟩, k5, m5, b5, d5, f5, a5⟩
  · exact ⟨fun n z => ⟨fun k h => (by cases h), k6, b6, m6, d6⟩, k6, m6, b6, d6, f6, a6⟩
theorem qz_dk {s : State} {args : Array Value} (hts : ∀ w ∈ lw_tbl, w.before args s = true) : ∃ D : va_G, ∀ (c : Nat) (q : vw_C), vwCl[c]? = some q → u_Kn s q.1 q.2.1 q.2.2 (D.1 c) (D.2 c) := by
  have hg : ∀ w ∈ qz_tb, w.before args s = true := fun w hw => hts w (List.mem_filter.mp hw).1
  have h : ∀ c : Nat, ∃ (cC : ClassId) (iS : Nat → Nat), c < 7 → u_Kn s (qz_ow c) (qz_T c) (qz_nf c) cC iS := by
    intro c
    by_cases hc : c < 7
    · obtain ⟨c1, c2, c3, c4, c5, c6, c7⟩ := qz_co hc
      obtain ⟨cC, iS, h⟩ := u_known (C := qz_ow c) (T := qz_T c) (N := qz_nf c) hg c2 (hg _ c5)
      exact ⟨cC, iS, fun _ => h⟩
    · exact ⟨0, fun _ => 0, fun h => absurd h hc⟩
  refine ⟨(fun c => Classical.choose (h c), fun c => Classical.choose (Classical.choose_spec (h c))), fun c q hq => ?_⟩
  have hc : c < 7 := (List.getElem?_eq_some_iff.mp hq).1
  have e := (qz_co hc).1.symm.trans hq
  cases e
  exact Classical.choose_spec (Classical.choose_spec (h c)) hc
theorem qz_tab {s : State} {args : Array Value} {nme : String} {A : Nat → Prop} (f : Nat → Int32) (harr : (Cond.arrayOf (.static RX5 nme "[I") .int).before args s = true) (hlen : (Cond.eq (.length (.static RX5 nme "[I")) (.int 4)).before args s = true) (h0 : (Cond.eq (.elem (.static RX5 nme "[I") (.int 0)) (.int (f 0))).before args s = true) (h1 : (Cond.eq (.elem (.static RX5 nme "[I") (.int 1)) (.int (f 1))).before args s = true) (h2 : (Cond.eq (.elem (.static RX5 nme "[I") (.int 2)) (.int (f 2))).before args s = true) (h3 : (Cond.eq (.elem (.static RX5 nme "[I") (.int 3)) (.int (f 3))).before args s = true) (hA : ∀ a : Nat, a < s.heap.size → ¬ A a) : ∃ t : Nat, (Term.static RX5 nme "[I").eval args s none [] s = some (.ref t) ∧ va_T .int t 4 (fun j => .int (f j)) A s s.heap := by
  refine va_Tof (N := 4) (by decide) harr (va_eqt hlen) (fun j hj => ?_) hA
  have hc : j = 0 ∨ j = 1 ∨ j = 2 ∨ j = 3 := by omega
  rcases hc with rfl | rfl | rfl | rfl
  · exact va_eqt h0
  · exact va_eqt h1
  · exact va_eqt h2
  · exact va_eqt h3
theorem qz_law_rv {ins : Instr} {st : List qz_V} {r : Option qz_V} (h : qz_rv qz_lw ins st = some r) (hr : r = some (.inl 1)) : ins = .ireturn ∧ st = [.inl 1] := by
  unfold qz_rv at h
  subst hr
  split at h
  · split at h
    · split at h
      · cases h
        exact ⟨rfl, rfl⟩
      · cases h
    · cases h
  · split at h
    · split at h
      · cases h
      · cases h
    · cases h
  · split at h
    · split at h
      · cases h
      · cases h
    · cases h
  · cases h
theorem qz_whole (hpure : qz_Pure) {p : Program} {e : Env} {s : State} {m : MethodId} {below : List Frame} {meth : Method} {c : Code} (l : Launch) {b L : Nat} {xs : Nat → Int32} (hL : L ≤ 2048) (C0 : lw_At p s m meth c b L xs) : W p l e room_1 s m #[Value.ref b] below meth c s.heap [] 0 0 (lw_Z below #[Value.ref b] s) (entryFrame m ([Value.ref b] : List Value).toArray 4) := by
  obtain ⟨hx, hb, hr, hml, hown, hts, hX, hbl, hlocks, hgv⟩ := id C0
  have hg : ∀ w ∈ qz_tb, w.before #[Value.ref b] s = true := fun w hw => hts w (List.mem_filter.mp hw).1
  have hs := flat_of_before _ hgv
  have hA : ∀ a : Nat, a < s.heap.size → ¬ qz_A s.heap.size a := fun a h q => absurd h (Nat.not_lt.mpr q)
  obtain ⟨cy, hcy⟩ := qz_cyk hts
  obtain ⟨D, hD⟩ := qz_dk hts
  obtain ⟨t0, e0, T0⟩ := qz_tab (nme := "FIRST_SETTINGS") (A := qz_A s.heap.size) qz_g30 (hs _ (by decide +kernel)) (hs _ (by decide +kernel)) (hs _ (by decide +kernel)) (hs _ (by decide +kernel)) (hs _ (by decide +kernel)) (hs _ (by decide +kernel)) hA
  obtain ⟨t1, e1, T1⟩ := qz_tab (nme := "LEAST_SETTINGS") (A := qz_A s.heap.size) qz_g31 (hs _ (by decide +kernel)) (hs _ (by decide +kernel)) (hs _ (by decide +kernel)) (hs _ (by decide +kernel)) (hs _ (by decide +kernel)) (hs _ (by decide +kernel)) hA
  obtain ⟨t2, e2, T2⟩ := qz_tab (nme := "MOST_SETTINGS") (A := qz_A s.heap.size) qz_g32 (hs _ (by decide +kernel)) (hs _ (by decide +kernel)) (hs _ (by decide +kernel)) (hs _ (by decide +kernel)) (hs _ (by decide +kernel)) (hs _ (by decide +kernel)) hA
  have hini : (Cond.initialized RX5).before #[Value.ref b] s = true := hg _ qz_co5.2.2.2.2.2.1
  have Z0 := va_Zof (hts _ (List.mem_of_getElem? qz_ls_30)) hini e0 hA
  have Z1 := va_Zof (hts _ (List.mem_of_getElem? qz_ls_31)) hini e1 hA
  have Z2 := va_Zof (hts _ (List.mem_of_getElem? qz_ls_32)) hini e2 hA
  obtain ⟨tA, hA0, hA1, hA2, hA3⟩ : ∃ tA : Nat → Nat, tA 30 = t0 ∧ tA 31 = t1 ∧ tA 32 = t2 ∧ tA 33 = b := ⟨fun k => if k = 30 then t0 else if k = 31 then t1 else if k = 32 then t2 else b, rfl, rfl, rfl, rfl⟩
  have hK : qz_Kx s.heap.size tA D cy s := by
    refine ⟨⟨hD, fun k q hq => ?_⟩, fun k h1 h2 => ?_, fun q hq => ?_, va_Nw.of rfl (hts _ (List.mem_of_getElem? qz_nf_4_22)), va_AO.of (hts _ (List.mem_of_getElem? qz_ao_Booking)), va_AO.of (hts _ (List.mem_of_getElem? qz_ao_Wish)), va_AO.of (hts _ (List.mem_of_getElem? qz_ao_Works))⟩
    · have hk : k < 6 := (List.getElem?_eq_some_iff.mp hq).1
      have hc : k = 0 ∨ k = 1 ∨ k = 2 ∨ k = 3 ∨ k = 4 ∨ k = 5 := by omega
      rcases hc with rfl | rfl | rfl | rfl | rfl | rfl <;> cases hq
      · exact hcy 1 (by omega) (by omega)
      · exact hcy 2 (by omega) (by omega)
      · exact hcy 3 (by omega) (by omega)
      · exact hcy 4 (by omega) (by omega)
      · exact hcy 5 (by omega) (by omega)
      · exact hcy 6 (by omega) (by omega)
    · have hc : k = 30 ∨ k = 31 ∨ k = 32 := by omega
      rcases hc with rfl | rfl | rfl
      · rw [hA0]; exact Z0
      · rw [hA1]; exact Z1
      · rw [hA2]; exact Z2
    · rcases List.mem_cons.mp hq with rfl | hq
      · exact va_Nw.of rfl (hts _ (List.mem_of_getElem? qz_nl_1_28))
      · rcases List.mem_cons.mp hq with rfl | hq
        · exact va_Nw.of rfl (hts _ (List.mem_of_getElem? qz_nl_4_55))
        · rcases List.mem_cons.mp hq with rfl | hq
          · exact va_Nw.of rfl (hts _ (List.mem_of_getElem? qz_nl_4_129))
          · cases hq
  have hC : qz_Cx p s m #[Value.ref b] meth c s.heap.size tA D cy qz_lw := ⟨hx, hb, hml, hown, hg, fun h => absurd h (by decide +kernel), hK, Nat.le_refl _⟩
  have hT : qz_St s.heap.size tA (qz_F0 L xs) s := by
    intro k h1 h2
    have hc : k = 30 ∨ k = 31 ∨ k = 32 ∨ k = 33 := by omega
    rcases hc with rfl | rfl | rfl | rfl
    · rw [hA0, qz_F30]; exact T0
    · rw [hA1, qz_F31]; exact T1
    · rw [hA2, qz_F32]; exact T2
    · rw [hA3, qz_F33]
      obtain ⟨scr, g1, g2, g3, g4, g5⟩ := hX
      have hl : qz_ln (qz_F0 L xs) (33, 0, 0) = L := by
        show (qz_F0 L xs (33, 1, 0) 0).toNatClampNeg = L
        rw [qz_F331]
        exact Int32.toNatClampNeg_ofNat_of_lt (by omega)
      rw [hl]
      exact ⟨scr, g1, g2, g3, by omega, by rw [g4], fun j hj => g5 j hj, hA b hbl⟩
  obtain ⟨n, M', hex, hM1, hM2⟩ := hpure L xs hL
  have hP : qz_P s.heap.size tA D cy (qz_M0 L xs) s.heap := ⟨rfl, fun n _ h => absurd h (Nat.not_lt_zero _)⟩
  have hok : qz_ok (qz_in0 qz_lw [.inr (some (33, 0, 0))]) [] (qz_M0 L xs) := by
    have w1 : qz_WM (qz_M0 L xs) := fun n j n' h => by
      have h : (none : Option qz_N) = some n' := h
      cases h
    have w2 : ∀ v : qz_V, some v ∈ qz_in0 qz_lw [.inr (some (33, 0, 0))] → qz_vk (qz_M0 L xs).1 v := by
      intro v hv n hn
      subst hn
      refine Or.inr ?_
      have hv : (some (.inr (some n)) : Option qz_V) ∈ [some (.inr (some (33, 0, 0))), none, none, none] := hv
      simp at hv
      subst hv
      rfl
    exact ⟨w1, w2, fun v hv => by cases hv⟩
  have hw := qz_walk (R := room_1) (below := below) (l := l) (e := e) (Q := lw_Z below #[Value.ref b] s) (N := n) hC (by decide +kernel) (by decide +kernel) (fun j _ => qz_sim l s.heap.size tA D cy j) n (Nat.le_refl _) 0 _ [] _ 0 0 hex hok (by show 0 + (M'.1 - 0) ≤ 600000; omega) (by show 0 + (qz_ss M'.1 - 0) ≤ 7302250; omega)
    (fun H locs lsm pc ins st hd hv hP' hS' => by
      obtain ⟨h1, h2⟩ := qz_law_rv hv rfl
      subst h1
      subst h2
      refine va_forget (fun q hq => hS'.2.2 q hq) ?_
      refine W.widen (k := 600000) (n := 7302250) (by show 0 + (M'.1 - 0) ≤ 600000; omega) (by show 0 + (qz_ss M'.1 - 0) ≤ 7302250; omega) ?_
      exact lw_ret hx hb hr hlocks hd)
  have hst := qz_L.start (z := s.heap.size) (tA := tA) 0 [.inr (some (33, 0, 0))] 4 (by decide)
  have eb : ([.inr (some (33, 0, 0))] : List qz_V).map (qz_tv s.heap.size tA) = [Value.ref b] := by
    show [Value.ref (tA 33)] = _
    rw [hA3]
  rw [eb] at hst
  rw [lg_entry_eq]
  exact hw s.heap [] _ hst hP va_S.rf hT
end
section
set_option maxRecDepth 20000 in
theorem dX0_init_0 : decode cX0_init 0 = .ok (.aload_n 0, 1) := by decide +kernel
set_option maxRecDepth 20000 in
theorem dX0_init_1 : decode cX0_init 1 = .ok (.invokespecial 1, 3) := by decide +kernel
set_option maxRecDepth 20000 in
theorem dX0_init_4 : decode cX0_init 4 = .ok (.aload_n 0, 1) := by decide +kernel
set_option maxRecDepth 20000 in
theorem dX0_init_5 : decode cX0_init 5 = .ok (.iconst (-1), 1) := by decide +kernel
set_option maxRecDepth 20000 in
theorem dX0_init_6 : decode cX0_init 6 = .ok (.putfield 9, 3) := by decide +kernel
set_option maxRecDepth 20000 in
theorem dX0_init_9 : decode cX0_init 9 = .ok (.aload_n 0, 1) := by decide +kernel
set_option maxRecDepth 20000 in
theorem dX0_init_10 : decode cX0_init 10 = .ok (.iconst 0, 1) := by decide +kernel
set_option maxRecDepth 20000 in
theorem dX0_init_11 : decode cX0_init 11 = .ok (.putfield 13, 3) := by decide +kernel
set_option maxRecDepth 20000 in
theorem dX0_init_14 : decode cX0_init 14 = .ok (.aload_n 0, 1) := by decide +kernel
set_option maxRecDepth 20000 in
theorem dX0_init_15 : decode cX0_init 15 = .ok (.iconst 0, 1) := by decide +kernel
set_option maxRecDepth 20000 in
theorem dX0_init_16 : decode cX0_init 16 = .ok (.putfield 16, 3) := by decide +kernel
set_option maxRecDepth 20000 in
theorem dX0_init_19 : decode cX0_init 19 = .ok (.aload_n 0, 1) := by decide +kernel
set_option maxRecDepth 20000 in
theorem dX0_init_20 : decode cX0_init 20 = .ok (.iconst 0, 1) := by decide +kernel
set_option maxRecDepth 20000 in
theorem dX0_init_21 : decode cX0_init 21 = .ok (.putfield 19, 3) := by decide +kernel
set_option maxRecDepth 20000 in
theorem dX0_init_24 : decode cX0_init 24 = .ok (.aload_n 0, 1) := by decide +kernel
set_option maxRecDepth 20000 in
theorem dX0_init_25 : decode cX0_init 25 = .ok (.iconst 0, 1) := by decide +kernel
set_option maxRecDepth 20000 in
theorem dX0_init_26 : decode cX0_init 26 = .ok (.putfield 22, 3) := by decide +kernel
set_option maxRecDepth 20000 in
theorem dX0_init_29 : decode cX0_init 29 = .ok (.aload_n 0, 1) := by decide +kernel
set_option maxRecDepth 20000 in
theorem dX0_init_30 : decode cX0_init 30 = .ok (.iconst 0, 1) := by decide +kernel
set_option maxRecDepth 20000 in
theorem dX0_init_31 : decode cX0_init 31 = .ok (.putfield 26, 3) := by decide +kernel
set_option maxRecDepth 20000 in
theorem dX0_init_34 : decode cX0_init 34 = .ok (.aload_n 0, 1) := by decide +kernel
set_option maxRecDepth 20000 in
theorem dX0_init_35 : decode cX0_init 35 = .ok (.iconst 0, 1) := by decide +kernel
set_option maxRecDepth 20000 in
theorem dX0_init_36 : decode cX0_init 36 = .ok (.putfield 29, 3) := by decide +kernel
set_option maxRecDepth 20000 in
theorem dX0_init_39 : decode cX0_init 39 = .ok (.aload_n 0, 1) := by decide +kernel
set_option maxRecDepth 20000 in
theorem dX0_init_40 : decode cX0_init 40 = .ok (.iconst 0, 1) := by decide +kernel
set_option maxRecDepth 20000 in
theorem dX0_init_41 : decode cX0_init 41 = .ok (.putfield 32, 3) := by decide +kernel
set_option maxRecDepth 20000 in
theorem dX0_init_44 : decode cX0_init 44 = .ok (.return_, 1) := by decide +kernel
set_option maxRecDepth 20000 in
theorem dX0_isLive_0 : decode cX0_isLive 0 = .ok (.aload_n 0, 1) := by decide +kernel
set_option maxRecDepth 20000 in
theorem dX0_isLive_1 : decode cX0_isLive 1 = .ok (.getfield 9, 3) := by decide +kernel
set_option maxRecDepth 20000 in
theorem dX0_isLive_4 : decode cX0_isLive 4 = .ok (.iconst (-1), 1) := by decide +kernel
set_option maxRecDepth 20000 in
theorem dX0_isLive_5 : decode cX0_isLive 5 = .ok (.if_icmp .eq 7, 3) := by decide +kernel
set_option maxRecDepth 20000 in
theorem dX0_isLive_8 : decode cX0_isLive 8 = .ok (.iconst 1, 1) := by decide +kernel
set_option maxRecDepth 20000 in
theorem dX0_isLive_9 : decode cX0_isLive 9 = .ok (.goto 4, 3) := by decide +kernel
set_option maxRecDepth 20000 in
theorem dX0_isLive_12 : decode cX0_isLive 12 = .ok (.iconst 0, 1) := by decide +kernel
set_option maxRecDepth 20000 in
theorem dX0_isLive_13 : decode cX0_isLive 13 = .ok (.ireturn, 1) := by decide +kernel
set_option maxRecDepth 20000 in
theorem dX0_isWaiting_0 : decode cX0_isWaiting 0 = .ok (.aload_n 0, 1) := by decide +kernel
set_option maxRecDepth 20000 in
theorem dX0_isWaiting_1 : decode cX0_isWaiting 1 = .ok (.invokevirtual 35, 3) := by decide +kernel
set_option maxRecDepth 20000 in
theorem dX0_isWaiting_4 : decode cX0_isWaiting 4 = .ok (.ifCond .eq 14, 3) := by decide +kernel
set_option maxRecDepth 20000 in
theorem dX0_isWaiting_7 : decode cX0_isWaiting 7 = .ok (.aload_n 0, 1) := by decide +kernel
set_option maxRecDepth 20000 in
theorem dX0_isWaiting_8 : decode cX0_isWaiting 8 = .ok (.getfield 22, 3) := by decide +kernel
set_option maxRecDepth 20000 in
theorem dX0_isWaiting_11 : decode cX0_isWaiting 11 = .ok (.ifCond .ne 7, 3) := by decide +kernel
set_option maxRecDepth 20000 in
theorem dX0_isWaiting_14 : decode cX0_isWaiting 14 = .ok (.iconst 1, 1) := by decide +kernel
set_option maxRecDepth 20000 in
theorem dX0_isWaiting_15 : decode cX0_isWaiting 15 = .ok (.goto 4, 3) := by decide +kernel
set_option maxRecDepth 20000 in
theorem dX0_isWaiting_18 : decode cX0_isWaiting 18 = .ok (.iconst 0, 1) := by decide +kernel
set_option maxRecDepth 20000 in
theorem dX0_isWaiting_19 : decode cX0_isWaiting 19 = .ok (.ireturn, 1) := by decide +kernel
set_option maxRecDepth 20000 in
theorem dX0_isRider_0 : decode cX0_isRider 0 = .ok (.aload_n 0, 1) := by decide +kernel
set_option maxRecDepth 20000 in
theorem dX0_isRider_1 : decode cX0_isRider 1 = .ok (.invokevirtual 35, 3) := by decide +kernel
set_option maxRecDepth 20000 in
theorem dX0_isRider_4 : decode cX0_isRider 4 = .ok (.ifCond .eq 14, 3) := by decide +kernel
set_option maxRecDepth 20000 in
theorem dX0_isRider_7 : decode cX0_isRider 7 = .ok (.aload_n 0, 1) := by decide +kernel
set_option maxRecDepth 20000 in
theorem dX0_isRider_8 : decode cX0_isRider 8 = .ok (.getfield 22, 3) := by decide +kernel
set_option maxRecDepth 20000 in
theorem dX0_isRider_11 : decode cX0_isRider 11 = .ok (.ifCond .eq 7, 3) := by decide +kernel
set_option maxRecDepth 20000 in
theorem dX0_isRider_14 : decode cX0_isRider 14 = .ok (.iconst 1, 1) := by decide +kernel
set_option maxRecDepth 20000 in
theorem dX0_isRider_15 : decode cX0_isRider 15 = .ok (.goto 4, 3) := by decide +kernel
set_option maxRecDepth 20000 in
theorem dX0_isRider_18 : decode cX0_isRider 18 = .ok (.iconst 0, 1) := by decide +kernel
set_option maxRecDepth 20000 in
theorem dX0_isRider_19 : decode cX0_isRider 19 = .ok (.ireturn, 1) := by decide +kernel
set_option maxRecDepth 20000 in
theorem dX0_isOfBus_0 : decode cX0_isOfBus 0 = .ok (.aload_n 0, 1) := by decide +kernel
set_option maxRecDepth 20000 in
theorem dX0_isOfBus_1 : decode cX0_isOfBus 1 = .ok (.invokevirtual 35, 3) := by decide +kernel
set_option maxRecDepth 20000 in
theorem dX0_isOfBus_4 : decode cX0_isOfBus 4 = .ok (.ifCond .eq 31, 3) := by decide +kernel
set_option maxRecDepth 20000 in
theorem dX0_isOfBus_7 : decode cX0_isOfBus 7 = .ok (.aload_n 0, 1) := by decide +kernel
set_option maxRecDepth 20000 in
theorem dX0_isOfBus_8 : decode cX0_isOfBus 8 = .ok (.getfield 16, 3) := by decide +kernel
set_option maxRecDepth 20000 in
theorem dX0_isOfBus_11 : decode cX0_isOfBus 11 = .ok (.iload_n 1, 1) := by decide +kernel
set_option maxRecDepth 20000 in
theorem dX0_isOfBus_12 : decode cX0_isOfBus 12 = .ok (.if_icmp .ne 23, 3) := by decide +kernel
set_option maxRecDepth 20000 in
theorem dX0_isOfBus_15 : decode cX0_isOfBus 15 = .ok (.aload_n 0, 1) := by decide +kernel
set_option maxRecDepth 20000 in
theorem dX0_isOfBus_16 : decode cX0_isOfBus 16 = .ok (.getfield 13, 3) := by decide +kernel
set_option maxRecDepth 20000 in
theorem dX0_isOfBus_19 : decode cX0_isOfBus 19 = .ok (.iload_n 2, 1) := by decide +kernel
set_option maxRecDepth 20000 in
theorem dX0_isOfBus_20 : decode cX0_isOfBus 20 = .ok (.if_icmp .eq 11, 3) := by decide +kernel
set_option maxRecDepth 20000 in
theorem dX0_isOfBus_23 : decode cX0_isOfBus 23 = .ok (.aload_n 0, 1) := by decide +kernel
set_option maxRecDepth 20000 in
theorem dX0_isOfBus_24 : decode cX0_isOfBus 24 = .ok (.getfield 13, 3) := by decide +kernel
set_option maxRecDepth 20000 in
theorem dX0_isOfBus_27 : decode cX0_isOfBus 27 = .ok (.iload_n 3, 1) := by decide +kernel
set_option maxRecDepth 20000 in
theorem dX0_isOfBus_28 : decode cX0_isOfBus 28 = .ok (.if_icmp .ne 7, 3) := by decide +kernel
set_option maxRecDepth 20000 in
theorem dX0_isOfBus_31 : decode cX0_isOfBus 31 = .ok (.iconst 1, 1) := by decide +kernel
set_option maxRecDepth 20000 in
theorem dX0_isOfBus_32 : decode cX0_isOfBus 32 = .ok (.goto 4, 3) := by decide +kernel
set_option maxRecDepth 20000 in
theorem dX0_isOfBus_35 : decode cX0_isOfBus 35 = .ok (.iconst 0, 1) := by decide +kernel
set_option maxRecDepth 20000 in
theorem dX0_isOfBus_36 : decode cX0_isOfBus 36 = .ok (.ireturn, 1) := by decide +kernel
set_option maxRecDepth 20000 in
theorem dX0_getsSeatAheadOf_0 : decode cX0_getsSeatAheadOf 0 = .ok (.aload_n 0, 1) := by decide +kernel
set_option maxRecDepth 20000 in
theorem dX0_getsSeatAheadOf_1 : decode cX0_getsSeatAheadOf 1 = .ok (.getfield 19, 3) := by decide +kernel
set_option maxRecDepth 20000 in
theorem dX0_getsSeatAheadOf_4 : decode cX0_getsSeatAheadOf 4 = .ok (.aload_n 1, 1) := by decide +kernel
set_option maxRecDepth 20000 in
theorem dX0_getsSeatAheadOf_5 : decode cX0_getsSeatAheadOf 5 = .ok (.getfield 19, 3) := by decide +kernel
set_option maxRecDepth 20000 in
theorem dX0_getsSeatAheadOf_8 : decode cX0_getsSeatAheadOf 8 = .ok (.if_icmp .eq 22, 3) := by decide +kernel
set_option maxRecDepth 20000 in
theorem dX0_getsSeatAheadOf_11 : decode cX0_getsSeatAheadOf 11 = .ok (.aload_n 0, 1) := by decide +kernel
set_option maxRecDepth 20000 in
theorem dX0_getsSeatAheadOf_12 : decode cX0_getsSeatAheadOf 12 = .ok (.getfield 19, 3) := by decide +kernel
set_option maxRecDepth 20000 in
theorem dX0_getsSeatAheadOf_15 : decode cX0_getsSeatAheadOf 15 = .ok (.aload_n 1, 1) := by decide +kernel
set_option maxRecDepth 20000 in
theorem dX0_getsSeatAheadOf_16 : decode cX0_getsSeatAheadOf 16 = .ok (.getfield 19, 3) := by decide +kernel
set_option maxRecDepth 20000 in
theorem dX0_getsSeatAheadOf_19 : decode cX0_getsSeatAheadOf 19 = .ok (.if_icmp .le 7, 3) := by decide +kernel
set_option maxRecDepth 20000 in
theorem dX0_getsSeatAheadOf_22 : decode cX0_getsSeatAheadOf 22 = .ok (.iconst 1, 1) := by decide +kernel
set_option maxRecDepth 20000 in
theorem dX0_getsSeatAheadOf_23 : decode cX0_getsSeatAheadOf 23 = .ok (.goto 23, 3) := by decide +kernel
set_option maxRecDepth 20000 in
theorem dX0_getsSeatAheadOf_26 : decode cX0_getsSeatAheadOf 26 = .ok (.iconst 0, 1) := by decide +kernel
set_option maxRecDepth 20000 in
theorem dX0_getsSeatAheadOf_27 : decode cX0_getsSeatAheadOf 27 = .ok (.goto 19, 3) := by decide +kernel
set_option maxRecDepth 20000 in
theorem dX0_getsSeatAheadOf_30 : decode cX0_getsSeatAheadOf 30 = .ok (.aload_n 0, 1) := by decide +kernel
set_option maxRecDepth 20000 in
theorem dX0_getsSeatAheadOf_31 : decode cX0_getsSeatAheadOf 31 = .ok (.getfield 9, 3) := by decide +kernel
set_option maxRecDepth 20000 in
theorem dX0_getsSeatAheadOf_34 : decode cX0_getsSeatAheadOf 34 = .ok (.aload_n 1, 1) := by decide +kernel
set_option maxRecDepth 20000 in
theorem dX0_getsSeatAheadOf_35 : decode cX0_getsSeatAheadOf 35 = .ok (.getfield 9, 3) := by decide +kernel
set_option maxRecDepth 20000 in
theorem dX0_getsSeatAheadOf_38 : decode cX0_getsSeatAheadOf 38 = .ok (.if_icmp .ge 7, 3) := by decide +kernel
set_option maxRecDepth 20000 in
theorem dX0_getsSeatAheadOf_41 : decode cX0_getsSeatAheadOf 41 = .ok (.iconst 1, 1) := by decide +kernel
set_option maxRecDepth 20000 in
theorem dX0_getsSeatAheadOf_42 : decode cX0_getsSeatAheadOf 42 = .ok (.goto 4, 3) := by decide +kernel
set_option maxRecDepth 20000 in
theorem dX0_getsSeatAheadOf_45 : decode cX0_getsSeatAheadOf 45 = .ok (.iconst 0, 1) := by decide +kernel
set_option maxRecDepth 20000 in
theorem dX0_getsSeatAheadOf_46 : decode cX0_getsSeatAheadOf 46 = .ok (.ireturn, 1) := by decide +kernel
set_option maxRecDepth 20000 in
theorem dX0_clear_0 : decode cX0_clear 0 = .ok (.aload_n 0, 1) := by decide +kernel
set_option maxRecDepth 20000 in
theorem dX0_clear_1 : decode cX0_clear 1 = .ok (.iconst (-1), 1) := by decide +kernel
set_option maxRecDepth 20000 in
theorem dX0_clear_2 : decode cX0_clear 2 = .ok (.putfield 9, 3) := by decide +kernel
set_option maxRecDepth 20000 in
theorem dX0_clear_5 : decode cX0_clear 5 = .ok (.aload_n 0, 1) := by decide +kernel
set_option maxRecDepth 20000 in
theorem dX0_clear_6 : decode cX0_clear 6 = .ok (.iconst 0, 1) := by decide +kernel
set_option maxRecDepth 20000 in
theorem dX0_clear_7 : decode cX0_clear 7 = .ok (.putfield 13, 3) := by decide +kernel
set_option maxRecDepth 20000 in
theorem dX0_clear_10 : decode cX0_clear 10 = .ok (.aload_n 0, 1) := by decide +kernel
set_option maxRecDepth 20000 in
theorem dX0_clear_11 : decode cX0_clear 11 = .ok (.iconst 0, 1) := by decide +kernel
set_option maxRecDepth 20000 in
theorem dX0_clear_12 : decode cX0_clear 12 = .ok (.putfield 16, 3) := by decide +kernel
set_option maxRecDepth 20000 in
theorem dX0_clear_15 : decode cX0_clear 15 = .ok (.aload_n 0, 1) := by decide +kernel
set_option maxRecDepth 20000 in
theorem dX0_clear_16 : decode cX0_clear 16 = .ok (.iconst 0, 1) := by decide +kernel
set_option maxRecDepth 20000 in
theorem dX0_clear_17 : decode cX0_clear 17 = .ok (.putfield 19, 3) := by decide +kernel
set_option maxRecDepth 20000 in
theorem dX0_clear_20 : decode cX0_clear 20 = .ok (.aload_n 0, 1) := by decide +kernel
set_option maxRecDepth 20000 in
theorem dX0_clear_21 : decode cX0_clear 21 = .ok (.iconst 0, 1) := by decide +kernel
set_option maxRecDepth 20000 in
theorem dX0_clear_22 : decode cX0_clear 22 = .ok (.putfield 22, 3) := by decide +kernel
set_option maxRecDepth 20000 in
theorem dX0_clear_25 : decode cX0_clear 25 = .ok (.aload_n 0, 1) := by decide +kernel
set_option maxRecDepth 20000 in
theorem dX0_clear_26 : decode cX0_clear 26 = .ok (.iconst 0, 1) := by decide +kernel
set_option maxRecDepth 20000 in
theorem dX0_clear_27 : decode cX0_clear 27 = .ok (.putfield 26, 3) := by decide +kernel
set_option maxRecDepth 20000 in
theorem dX0_clear_30 : decode cX0_clear 30 = .ok (.aload_n 0, 1) := by decide +kernel
set_option maxRecDepth 20000 in
theorem dX0_clear_31 : decode cX0_clear 31 = .ok (.iconst 0, 1) := by decide +kernel
set_option maxRecDepth 20000 in
theorem dX0_clear_32 : decode cX0_clear 32 = .ok (.putfield 29, 3) := by decide +kernel
set_option maxRecDepth 20000 in
theorem dX0_clear_35 : decode cX0_clear 35 = .ok (.aload_n 0, 1) := by decide +kernel
set_option maxRecDepth 20000 in
theorem dX0_clear_36 : decode cX0_clear 36 = .ok (.iconst 0, 1) := by decide +kernel
set_option maxRecDepth 20000 in
theorem dX0_clear_37 : decode cX0_clear 37 = .ok (.putfield 32, 3) := by decide +kernel
set_option maxRecDepth 20000 in
theorem dX0_clear_40 : decode cX0_clear 40 = .ok (.return_, 1) := by decide +kernel
set_option maxRecDepth 20000 in
theorem dX0_copyFrom_0 : decode cX0_copyFrom 0 = .ok (.aload_n 0, 1) := by decide +kernel
set_option maxRecDepth 20000 in
theorem dX0_copyFrom_1 : decode cX0_copyFrom 1 = .ok (.aload_n 1, 1) := by decide +kernel
set_option maxRecDepth 20000 in
theorem dX0_copyFrom_2 : decode cX0_copyFrom 2 = .ok (.getfield 9, 3) := by decide +kernel
set_option maxRecDepth 20000 in
theorem dX0_copyFrom_5 : decode cX0_copyFrom 5 = .ok (.putfield 9, 3) := by decide +kernel
set_option maxRecDepth 20000 in
theorem dX0_copyFrom_8 : decode cX0_copyFrom 8 = .ok (.aload_n 0, 1) := by decide +kernel
set_option maxRecDepth 20000 in
theorem dX0_copyFrom_9 : decode cX0_copyFrom 9 = .ok (.aload_n 1, 1) := by decide +kernel
set_option maxRecDepth 20000 in
theorem dX0_copyFrom_10 : decode cX0_copyFrom 10 = .ok (.getfield 13, 3) := by decide +kernel
set_option maxRecDepth 20000 in
theorem dX0_copyFrom_13 : decode cX0_copyFrom 13 = .ok (.putfield 13, 3) := by decide +kernel
set_option maxRecDepth 20000 in
theorem dX0_copyFrom_16 : decode cX0_copyFrom 16 = .ok (.aload_n 0, 1) := by decide +kernel
set_option maxRecDepth 20000 in
theorem dX0_copyFrom_17 : decode cX0_copyFrom 17 = .ok (.aload_n 1, 1) := by decide +kernel
set_option maxRecDepth 20000 in
theorem dX0_copyFrom_18 : decode cX0_copyFrom 18 = .ok (.getfield 16, 3) := by decide +kernel
set_option maxRecDepth 20000 in
theorem dX0_copyFrom_21 : decode cX0_copyFrom 21 = .ok (.putfield 16, 3) := by decide +kernel
set_option maxRecDepth 20000 in
theorem dX0_copyFrom_24 : decode cX0_copyFrom 24 = .ok (.aload_n 0, 1) := by decide +kernel
set_option maxRecDepth 20000 in
theorem dX0_copyFrom_25 : decode cX0_copyFrom 25 = .ok (.aload_n 1, 1) := by decide +kernel
set_option maxRecDepth 20000 in
theorem dX0_copyFrom_26 : decode cX0_copyFrom 26 = .ok (.getfield 19, 3) := by decide +kernel
set_option maxRecDepth 20000 in
theorem dX0_copyFrom_29 : decode cX0_copyFrom 29 = .ok (.putfield 19, 3) := by decide +kernel
set_option maxRecDepth 20000 in
theorem dX0_copyFrom_32 : decode cX0_copyFrom 32 = .ok (.aload_n 0, 1) := by decide +kernel
set_option maxRecDepth 20000 in
theorem dX0_copyFrom_33 : decode cX0_copyFrom 33 = .ok (.aload_n 1, 1) := by decide +kernel
set_option maxRecDepth 20000 in
theorem dX0_copyFrom_34 : decode cX0_copyFrom 34 = .ok (.getfield 22, 3) := by decide +kernel
set_option maxRecDepth 20000 in
theorem dX0_copyFrom_37 : decode cX0_copyFrom 37 = .ok (.putfield 22, 3) := by decide +kernel
set_option maxRecDepth 20000 in
theorem dX0_copyFrom_40 : decode cX0_copyFrom 40 = .ok (.aload_n 0, 1) := by decide +kernel
set_option maxRecDepth 20000 in
theorem dX0_copyFrom_41 : decode cX0_copyFrom 41 = .ok (.aload_n 1, 1) := by decide +kernel
set_option maxRecDepth 20000 in
theorem dX0_copyFrom_42 : decode cX0_copyFrom 42 = .ok (.getfield 26, 3) := by decide +kernel
set_option maxRecDepth 20000 in
theorem dX0_copyFrom_45 : decode cX0_copyFrom 45 = .ok (.putfield 26, 3) := by decide +kernel
set_option maxRecDepth 20000 in
theorem dX0_copyFrom_48 : decode cX0_copyFrom 48 = .ok (.aload_n 0, 1) := by decide +kernel
set_option maxRecDepth 20000 in
theorem dX0_copyFrom_49 : decode cX0_copyFrom 49 = .ok (.aload_n 1, 1) := by decide +kernel
set_option maxRecDepth 20000 in
theorem dX0_copyFrom_50 : decode cX0_copyFrom 50 = .ok (.getfield 29, 3) := by decide +kernel
set_option maxRecDepth 20000 in
theorem dX0_copyFrom_53 : decode cX0_copyFrom 53 = .ok (.putfield 29, 3) := by decide +kernel
set_option maxRecDepth 20000 in
theorem dX0_copyFrom_56 : decode cX0_copyFrom 56 = .ok (.aload_n 0, 1) := by decide +kernel
set_option maxRecDepth 20000 in
theorem dX0_copyFrom_57 : decode cX0_copyFrom 57 = .ok (.aload_n 1, 1) := by decide +kernel
set_option maxRecDepth 20000 in
theorem dX0_copyFrom_58 : decode cX0_copyFrom 58 = .ok (.getfield 32, 3) := by decide +kernel
set_option maxRecDepth 20000 in
theorem dX0_copyFrom_61 : decode cX0_copyFrom 61 = .ok (.putfield 32, 3) := by decide +kernel
set_option maxRecDepth 20000 in
theorem dX0_copyFrom_64 : decode cX0_copyFrom 64 = .ok (.return_, 1) := by decide +kernel
set_option maxRecDepth 20000 in
theorem dX1_init_0 : decode cX1_init 0 = .ok (.aload_n 0, 1) := by decide +kernel
set_option maxRecDepth 20000 in
theorem dX1_init_1 : decode cX1_init 1 = .ok (.invokespecial 3, 3) := by decide +kernel
set_option maxRecDepth 20000 in
theorem dX1_init_4 : decode cX1_init 4 = .ok (.aload_n 0, 1) := by decide +kernel
set_option maxRecDepth 20000 in
theorem dX1_init_5 : decode cX1_init 5 = .ok (.bipush 60, 2) := by decide +kernel
set_option maxRecDepth 20000 in
theorem dX1_init_7 : decode cX1_init 7 = .ok (.newarray .char, 2) := by decide +kernel
set_option maxRecDepth 20000 in
theorem dX1_init_9 : decode cX1_init 9 = .ok (.putfield 9, 3) := by decide +kernel
set_option maxRecDepth 20000 in
theorem dX1_init_12 : decode cX1_init 12 = .ok (.aload_n 0, 1) := by decide +kernel
set_option maxRecDepth 20000 in
theorem dX1_init_13 : decode cX1_init 13 = .ok (.iconst 0, 1) := by decide +kernel
set_option maxRecDepth 20000 in
theorem dX1_init_14 : decode cX1_init 14 = .ok (.putfield 15, 3) := by decide +kernel
set_option maxRecDepth 20000 in
theorem dX1_init_17 : decode cX1_init 17 = .ok (.aload_n 0, 1) := by decide +kernel
set_option maxRecDepth 20000 in
theorem dX1_init_18 : decode cX1_init 18 = .ok (.bipush 60, 2) := by decide +kernel
set_option maxRecDepth 20000 in
theorem dX1_init_20 : decode cX1_init 20 = .ok (.anewarray 19, 3) := by decide +kernel
set_option maxRecDepth 20000 in
theorem dX1_init_23 : decode cX1_init 23 = .ok (.putfield 21, 3) := by decide +kernel
set_option maxRecDepth 20000 in
theorem dX1_init_26 : decode cX1_init 26 = .ok (.aload_n 0, 1) := by decide +kernel
set_option maxRecDepth 20000 in
theorem dX1_init_27 : decode cX1_init 27 = .ok (.iconst 0, 1) := by decide +kernel
set_option maxRecDepth 20000 in
theorem dX1_init_28 : decode cX1_init 28 = .ok (.putfield 25, 3) := by decide +kernel
set_option maxRecDepth 20000 in
theorem dX1_init_31 : decode cX1_init 31 = .ok (.iconst 0, 1) := by decide +kernel
set_option maxRecDepth 20000 in
theorem dX1_init_32 : decode cX1_init 32 = .ok (.istore_n 1, 1) := by decide +kernel
set_option maxRecDepth 20000 in
theorem dX1_init_33 : decode cX1_init 33 = .ok (.iload_n 1, 1) := by decide +kernel
set_option maxRecDepth 20000 in
theorem dX1_init_34 : decode cX1_init 34 = .ok (.aload_n 0, 1) := by decide +kernel
set_option maxRecDepth 20000 in
theorem dX1_init_35 : decode cX1_init 35 = .ok (.getfield 21, 3) := by decide +kernel
set_option maxRecDepth 20000 in
theorem dX1_init_38 : decode cX1_init 38 = .ok (.arraylength, 1) := by decide +kernel
set_option maxRecDepth 20000 in
theorem dX1_init_39 : decode cX1_init 39 = .ok (.if_icmp .ge 22, 3) := by decide +kernel
set_option maxRecDepth 20000 in
theorem dX1_init_42 : decode cX1_init 42 = .ok (.aload_n 0, 1) := by decide +kernel
set_option maxRecDepth 20000 in
theorem dX1_init_43 : decode cX1_init 43 = .ok (.getfield 21, 3) := by decide +kernel
set_option maxRecDepth 20000 in
theorem dX1_init_46 : decode cX1_init 46 = .ok (.iload_n 1, 1) := by decide +kernel
set_option maxRecDepth 20000 in
theorem dX1_init_47 : decode cX1_init 47 = .ok (.new 19, 3) := by decide +kernel
set_option maxRecDepth 20000 in
theorem dX1_init_50 : decode cX1_init 50 = .ok (.dup, 1) := by decide +kernel
set_option maxRecDepth 20000 in
theorem dX1_init_51 : decode cX1_init 51 = .ok (.invokespecial 28, 3) := by decide +kernel
set_option maxRecDepth 20000 in
theorem dX1_init_54 : decode cX1_init 54 = .ok (.aastore, 1) := by decide +kernel
set_option maxRecDepth 20000 in
theorem dX1_init_55 : decode cX1_init 55 = .ok (.iinc 1 1, 3) := by decide +kernel
set_option maxRecDepth 20000 in
theorem dX1_init_58 : decode cX1_init 58 = .ok (.goto (-25), 3) := by decide +kernel
set_option maxRecDepth 20000 in
theorem dX1_init_61 : decode cX1_init 61 = .ok (.return_, 1) := by decide +kernel
set_option maxRecDepth 20000 in
theorem dX1_append_0 : decode cX1_append 0 = .ok (.aload_n 0, 1) := by decide +kernel
set_option maxRecDepth 20000 in
theorem dX1_append_1 : decode cX1_append 1 = .ok (.getfield 15, 3) := by decide +kernel
set_option maxRecDepth 20000 in
theorem dX1_append_4 : decode cX1_append 4 = .ok (.ifCond .lt 35, 3) := by decide +kernel
set_option maxRecDepth 20000 in
theorem dX1_append_7 : decode cX1_append 7 = .ok (.aload_n 0, 1) := by decide +kernel
set_option maxRecDepth 20000 in
theorem dX1_append_8 : decode cX1_append 8 = .ok (.getfield 15, 3) := by decide +kernel
set_option maxRecDepth 20000 in
theorem dX1_append_11 : decode cX1_append 11 = .ok (.aload_n 0, 1) := by decide +kernel
set_option maxRecDepth 20000 in
theorem dX1_append_12 : decode cX1_append 12 = .ok (.getfield 9, 3) := by decide +kernel
set_option maxRecDepth 20000 in
theorem dX1_append_15 : decode cX1_append 15 = .ok (.arraylength, 1) := by decide +kernel
set_option maxRecDepth 20000 in
theorem dX1_append_16 : decode cX1_append 16 = .ok (.if_icmp .ge 23, 3) := by decide +kernel
set_option maxRecDepth 20000 in
theorem dX1_append_19 : decode cX1_append 19 = .ok (.aload_n 0, 1) := by decide +kernel
set_option maxRecDepth 20000 in
theorem dX1_append_20 : decode cX1_append 20 = .ok (.getfield 9, 3) := by decide +kernel
set_option maxRecDepth 20000 in
theorem dX1_append_23 : decode cX1_append 23 = .ok (.aload_n 0, 1) := by decide +kernel
set_option maxRecDepth 20000 in
theorem dX1_append_24 : decode cX1_append 24 = .ok (.getfield 15, 3) := by decide +kernel
set_option maxRecDepth 20000 in
theorem dX1_append_27 : decode cX1_append 27 = .ok (.iload_n 1, 1) := by decide +kernel
set_option maxRecDepth 20000 in
theorem dX1_append_28 : decode cX1_append 28 = .ok (.castore, 1) := by decide +kernel
set_option maxRecDepth 20000 in
theorem dX1_append_29 : decode cX1_append 29 = .ok (.aload_n 0, 1) := by decide +kernel
set_option maxRecDepth 20000 in
theorem dX1_append_30 : decode cX1_append 30 = .ok (.dup, 1) := by decide +kernel
set_option maxRecDepth 20000 in
theorem dX1_append_31 : decode cX1_append 31 = .ok (.getfield 15, 3) := by decide +kernel
set_option maxRecDepth 20000 in
theorem dX1_append_34 : decode cX1_append 34 = .ok (.iconst 1, 1) := by decide +kernel
set_option maxRecDepth 20000 in
theorem dX1_append_35 : decode cX1_append 35 = .ok (.iadd, 1) := by decide +kernel
set_option maxRecDepth 20000 in
theorem dX1_append_36 : decode cX1_append 36 = .ok (.putfield 15, 3) := by decide +kernel
set_option maxRecDepth 20000 in
theorem dX1_append_39 : decode cX1_append 39 = .ok (.return_, 1) := by decide +kernel
set_option maxRecDepth 20000 in
theorem dX1_read_0 : decode cX1_read 0 = .ok (.aload_n 0, 1) := by decide +kernel
set_option maxRecDepth 20000 in
theorem dX1_read_1 : decode cX1_read 1 = .ok (.iconst 0, 1) := by decide +kernel
set_option maxRecDepth 20000 in
theorem dX1_read_2 : decode cX1_read 2 = .ok (.putfield 25, 3) := by decide +kernel
set_option maxRecDepth 20000 in
theorem dX1_read_5 : decode cX1_read 5 = .ok (.iconst 0, 1) := by decide +kernel
set_option maxRecDepth 20000 in
theorem dX1_read_6 : decode cX1_read 6 = .ok (.istore_n 1, 1) := by decide +kernel
set_option maxRecDepth 20000 in
theorem dX1_read_7 : decode cX1_read 7 = .ok (.iconst 0, 1) := by decide +kernel
set_option maxRecDepth 20000 in
theorem dX1_read_8 : decode cX1_read 8 = .ok (.istore_n 2, 1) := by decide +kernel
set_option maxRecDepth 20000 in
theorem dX1_read_9 : decode cX1_read 9 = .ok (.iconst 0, 1) := by decide +kernel
set_option maxRecDepth 20000 in
theorem dX1_read_10 : decode cX1_read 10 = .ok (.istore_n 3, 1) := by decide +kernel
set_option maxRecDepth 20000 in
theorem dX1_read_11 : decode cX1_read 11 = .ok (.iconst 0, 1) := by decide +kernel
set_option maxRecDepth 20000 in
theorem dX1_read_12 : decode cX1_read 12 = .ok (.istore 4, 2) := by decide +kernel
set_option maxRecDepth 20000 in
theorem dX1_read_14 : decode cX1_read 14 = .ok (.iload 4, 2) := by decide +kernel
set_option maxRecDepth 20000 in
theorem dX1_read_16 : decode cX1_read 16 = .ok (.aload_n 0, 1) := by decide +kernel
set_option maxRecDepth 20000 in
theorem dX1_read_17 : decode cX1_read 17 = .ok (.getfield 15, 3) := by decide +kernel
set_option maxRecDepth 20000 in
theorem dX1_read_20 : decode cX1_read 20 = .ok (.if_icmp .ge 96, 3) := by decide +kernel
set_option maxRecDepth 20000 in
theorem dX1_read_23 : decode cX1_read 23 = .ok (.iload 4, 2) := by decide +kernel
set_option maxRecDepth 20000 in
theorem dX1_read_25 : decode cX1_read 25 = .ok (.aload_n 0, 1) := by decide +kernel
set_option maxRecDepth 20000 in
theorem dX1_read_26 : decode cX1_read 26 = .ok (.getfield 9, 3) := by decide +kernel
set_option maxRecDepth 20000 in
theorem dX1_read_29 : decode cX1_read 29 = .ok (.arraylength, 1) := by decide +kernel
set_option maxRecDepth 20000 in
theorem dX1_read_30 : decode cX1_read 30 = .ok (.if_icmp .ge 86, 3) := by decide +kernel
set_option maxRecDepth 20000 in
theorem dX1_read_33 : decode cX1_read 33 = .ok (.aload_n 0, 1) := by decide +kernel
set_option maxRecDepth 20000 in
theorem dX1_read_34 : decode cX1_read 34 = .ok (.getfield 9, 3) := by decide +kernel
set_option maxRecDepth 20000 in
theorem dX1_read_37 : decode cX1_read 37 = .ok (.iload 4, 2) := by decide +kernel
set_option maxRecDepth 20000 in
theorem dX1_read_39 : decode cX1_read 39 = .ok (.caload, 1) := by decide +kernel
set_option maxRecDepth 20000 in
theorem dX1_read_40 : decode cX1_read 40 = .ok (.istore 5, 2) := by decide +kernel
set_option maxRecDepth 20000 in
theorem dX1_read_42 : decode cX1_read 42 = .ok (.iload 5, 2) := by decide +kernel
set_option maxRecDepth 20000 in
theorem dX1_read_44 : decode cX1_read 44 = .ok (.iload_n 1, 1) := by decide +kernel
set_option maxRecDepth 20000 in
theorem dX1_read_45 : decode cX1_read 45 = .ok (.invokestatic 29, 3) := by decide +kernel
set_option maxRecDepth 20000 in
theorem dX1_read_48 : decode cX1_read 48 = .ok (.ifCond .ne 6, 3) := by decide +kernel
set_option maxRecDepth 20000 in
theorem dX1_read_51 : decode cX1_read 51 = .ok (.iload 4, 2) := by decide +kernel
set_option maxRecDepth 20000 in
theorem dX1_read_53 : decode cX1_read 53 = .ok (.ireturn, 1) := by decide +kernel
set_option maxRecDepth 20000 in
theorem dX1_read_54 : decode cX1_read 54 = .ok (.iload_n 1, 1) := by decide +kernel
set_option maxRecDepth 20000 in
theorem dX1_read_55 : decode cX1_read 55 = .ok (.ifCond .ne 14, 3) := by decide +kernel
set_option maxRecDepth 20000 in
theorem dX1_read_58 : decode cX1_read 58 = .ok (.iload 5, 2) := by decide +kernel
set_option maxRecDepth 20000 in
theorem dX1_read_60 : decode cX1_read 60 = .ok (.bipush 48, 2) := by decide +kernel
set_option maxRecDepth 20000 in
theorem dX1_read_62 : decode cX1_read 62 = .ok (.isub, 1) := by decide +kernel
set_option maxRecDepth 20000 in
theorem dX1_read_63 : decode cX1_read 63 = .ok (.istore_n 2, 1) := by decide +kernel
set_option maxRecDepth 20000 in
theorem dX1_read_64 : decode cX1_read 64 = .ok (.iconst 1, 1) := by decide +kernel
set_option maxRecDepth 20000 in
theorem dX1_read_65 : decode cX1_read 65 = .ok (.istore_n 1, 1) := by decide +kernel
set_option maxRecDepth 20000 in
theorem dX1_read_66 : decode cX1_read 66 = .ok (.goto 44, 3) := by decide +kernel
set_option maxRecDepth 20000 in
theorem dX1_read_69 : decode cX1_read 69 = .ok (.iload_n 1, 1) := by decide +kernel
set_option maxRecDepth 20000 in
theorem dX1_read_70 : decode cX1_read 70 = .ok (.iconst 1, 1) := by decide +kernel
set_option maxRecDepth 20000 in
theorem dX1_read_71 : decode cX1_read 71 = .ok (.if_icmp .ne 14, 3) := by decide +kernel
set_option maxRecDepth 20000 in
theorem dX1_read_74 : decode cX1_read 74 = .ok (.iload 5, 2) := by decide +kernel
set_option maxRecDepth 20000 in
theorem dX1_read_76 : decode cX1_read 76 = .ok (.bipush 97, 2) := by decide +kernel
set_option maxRecDepth 20000 in
theorem dX1_read_78 : decode cX1_read 78 = .ok (.isub, 1) := by decide +kernel
set_option maxRecDepth 20000 in
theorem dX1_read_79 : decode cX1_read 79 = .ok (.istore_n 3, 1) := by decide +kernel
set_option maxRecDepth 20000 in
theorem dX1_read_80 : decode cX1_read 80 = .ok (.iconst 2, 1) := by decide +kernel
set_option maxRecDepth 20000 in
theorem dX1_read_81 : decode cX1_read 81 = .ok (.istore_n 1, 1) := by decide +kernel
set_option maxRecDepth 20000 in
theorem dX1_read_82 : decode cX1_read 82 = .ok (.goto 28, 3) := by decide +kernel
set_option maxRecDepth 20000 in
theorem dX1_read_85 : decode cX1_read 85 = .ok (.iload 5, 2) := by decide +kernel
set_option maxRecDepth 20000 in
theorem dX1_read_87 : decode cX1_read 87 = .ok (.bipush 44, 2) := by decide +kernel
set_option maxRecDepth 20000 in
theorem dX1_read_89 : decode cX1_read 89 = .ok (.if_icmp .ne 8, 3) := by decide +kernel
set_option maxRecDepth 20000 in
theorem dX1_read_92 : decode cX1_read 92 = .ok (.iconst 0, 1) := by decide +kernel
set_option maxRecDepth 20000 in
theorem dX1_read_93 : decode cX1_read 93 = .ok (.istore_n 1, 1) := by decide +kernel
set_option maxRecDepth 20000 in
theorem dX1_read_94 : decode cX1_read 94 = .ok (.goto 16, 3) := by decide +kernel
set_option maxRecDepth 20000 in
theorem dX1_read_97 : decode cX1_read 97 = .ok (.aload_n 0, 1) := by decide +kernel
set_option maxRecDepth 20000 in
theorem dX1_read_98 : decode cX1_read 98 = .ok (.iload_n 2, 1) := by decide +kernel
set_option maxRecDepth 20000 in
theorem dX1_read_99 : decode cX1_read 99 = .ok (.iload_n 3, 1) := by decide +kernel
set_option maxRecDepth 20000 in
theorem dX1_read_100 : decode cX1_read 100 = .ok (.iload 5, 2) := by decide +kernel
set_option maxRecDepth 20000 in
theorem dX1_read_102 : decode cX1_read 102 = .ok (.bipush 48, 2) := by decide +kernel
set_option maxRecDepth 20000 in
theorem dX1_read_104 : decode cX1_read 104 = .ok (.isub, 1) := by decide +kernel
set_option maxRecDepth 20000 in
theorem dX1_read_105 : decode cX1_read 105 = .ok (.invokevirtual 33, 3) := by decide +kernel
set_option maxRecDepth 20000 in
theorem dX1_read_108 : decode cX1_read 108 = .ok (.iconst 3, 1) := by decide +kernel
set_option maxRecDepth 20000 in
theorem dX1_read_109 : decode cX1_read 109 = .ok (.istore_n 1, 1) := by decide +kernel
set_option maxRecDepth 20000 in
theorem dX1_read_110 : decode cX1_read 110 = .ok (.iinc 4 1, 3) := by decide +kernel
set_option maxRecDepth 20000 in
theorem dX1_read_113 : decode cX1_read 113 = .ok (.goto (-99), 3) := by decide +kernel
set_option maxRecDepth 20000 in
theorem dX1_read_116 : decode cX1_read 116 = .ok (.iload_n 1, 1) := by decide +kernel
set_option maxRecDepth 20000 in
theorem dX1_read_117 : decode cX1_read 117 = .ok (.iconst 3, 1) := by decide +kernel
set_option maxRecDepth 20000 in
theorem dX1_read_118 : decode cX1_read 118 = .ok (.if_icmp .ne 7, 3) := by decide +kernel
set_option maxRecDepth 20000 in
theorem dX1_read_121 : decode cX1_read 121 = .ok (.iconst (-1), 1) := by decide +kernel
set_option maxRecDepth 20000 in
theorem dX1_read_122 : decode cX1_read 122 = .ok (.goto 7, 3) := by decide +kernel
set_option maxRecDepth 20000 in
theorem dX1_read_125 : decode cX1_read 125 = .ok (.aload_n 0, 1) := by decide +kernel
set_option maxRecDepth 20000 in
theorem dX1_read_126 : decode cX1_read 126 = .ok (.getfield 15, 3) := by decide +kernel
set_option maxRecDepth 20000 in
theorem dX1_read_129 : decode cX1_read 129 = .ok (.ireturn, 1) := by decide +kernel
set_option maxRecDepth 20000 in
theorem dX1_isAllowed_0 : decode cX1_isAllowed 0 = .ok (.iload_n 0, 1) := by decide +kernel
set_option maxRecDepth 20000 in
theorem dX1_isAllowed_1 : decode cX1_isAllowed 1 = .ok (.bipush 49, 2) := by decide +kernel
set_option maxRecDepth 20000 in
theorem dX1_isAllowed_3 : decode cX1_isAllowed 3 = .ok (.if_icmp .lt 13, 3) := by decide +kernel
set_option maxRecDepth 20000 in
theorem dX1_isAllowed_6 : decode cX1_isAllowed 6 = .ok (.iload_n 0, 1) := by decide +kernel
set_option maxRecDepth 20000 in
theorem dX1_isAllowed_7 : decode cX1_isAllowed 7 = .ok (.bipush 57, 2) := by decide +kernel
set_option maxRecDepth 20000 in
theorem dX1_isAllowed_9 : decode cX1_isAllowed 9 = .ok (.if_icmp .gt 7, 3) := by decide +kernel
set_option maxRecDepth 20000 in
theorem dX1_isAllowed_12 : decode cX1_isAllowed 12 = .ok (.iconst 1, 1) := by decide +kernel
set_option maxRecDepth 20000 in
theorem dX1_isAllowed_13 : decode cX1_isAllowed 13 = .ok (.goto 4, 3) := by decide +kernel
set_option maxRecDepth 20000 in
theorem dX1_isAllowed_16 : decode cX1_isAllowed 16 = .ok (.iconst 0, 1) := by decide +kernel
set_option maxRecDepth 20000 in
theorem dX1_isAllowed_17 : decode cX1_isAllowed 17 = .ok (.istore_n 2, 1) := by decide +kernel
set_option maxRecDepth 20000 in
theorem dX1_isAllowed_18 : decode cX1_isAllowed 18 = .ok (.iload_n 1, 1) := by decide +kernel
set_option maxRecDepth 20000 in
theorem dX1_isAllowed_19 : decode cX1_isAllowed 19 = .ok (.tableswitch 61 0 2 #[25, 41, 59], 25) := by decide +kernel
set_option maxRecDepth 20000 in
theorem dX1_isAllowed_44 : decode cX1_isAllowed 44 = .ok (.iload_n 2, 1) := by decide +kernel
set_option maxRecDepth 20000 in
theorem dX1_isAllowed_45 : decode cX1_isAllowed 45 = .ok (.ifCond .ne 9, 3) := by decide +kernel
set_option maxRecDepth 20000 in
theorem dX1_isAllowed_48 : decode cX1_isAllowed 48 = .ok (.iload_n 0, 1) := by decide +kernel
set_option maxRecDepth 20000 in
theorem dX1_isAllowed_49 : decode cX1_isAllowed 49 = .ok (.bipush 48, 2) := by decide +kernel
set_option maxRecDepth 20000 in
theorem dX1_isAllowed_51 : decode cX1_isAllowed 51 = .ok (.if_icmp .ne 7, 3) := by decide +kernel
set_option maxRecDepth 20000 in
theorem dX1_isAllowed_54 : decode cX1_isAllowed 54 = .ok (.iconst 1, 1) := by decide +kernel
set_option maxRecDepth 20000 in
theorem dX1_isAllowed_55 : decode cX1_isAllowed 55 = .ok (.goto 4, 3) := by decide +kernel
set_option maxRecDepth 20000 in
theorem dX1_isAllowed_58 : decode cX1_isAllowed 58 = .ok (.iconst 0, 1) := by decide +kernel
set_option maxRecDepth 20000 in
theorem dX1_isAllowed_59 : decode cX1_isAllowed 59 = .ok (.ireturn, 1) := by decide +kernel
set_option maxRecDepth 20000 in
theorem dX1_isAllowed_60 : decode cX1_isAllowed 60 = .ok (.iload_n 0, 1) := by decide +kernel
set_option maxRecDepth 20000 in
theorem dX1_isAllowed_61 : decode cX1_isAllowed 61 = .ok (.bipush 97, 2) := by decide +kernel
set_option maxRecDepth 20000 in
theorem dX1_isAllowed_63 : decode cX1_isAllowed 63 = .ok (.if_icmp .eq 9, 3) := by decide +kernel
set_option maxRecDepth 20000 in
theorem dX1_isAllowed_66 : decode cX1_isAllowed 66 = .ok (.iload_n 0, 1) := by decide +kernel
set_option maxRecDepth 20000 in
theorem dX1_isAllowed_67 : decode cX1_isAllowed 67 = .ok (.bipush 98, 2) := by decide +kernel
set_option maxRecDepth 20000 in
theorem dX1_isAllowed_69 : decode cX1_isAllowed 69 = .ok (.if_icmp .ne 7, 3) := by decide +kernel
set_option maxRecDepth 20000 in
theorem dX1_isAllowed_72 : decode cX1_isAllowed 72 = .ok (.iconst 1, 1) := by decide +kernel
set_option maxRecDepth 20000 in
theorem dX1_isAllowed_73 : decode cX1_isAllowed 73 = .ok (.goto 4, 3) := by decide +kernel
set_option maxRecDepth 20000 in
theorem dX1_isAllowed_76 : decode cX1_isAllowed 76 = .ok (.iconst 0, 1) := by decide +kernel
set_option maxRecDepth 20000 in
theorem dX1_isAllowed_77 : decode cX1_isAllowed 77 = .ok (.ireturn, 1) := by decide +kernel
set_option maxRecDepth 20000 in
theorem dX1_isAllowed_78 : decode cX1_isAllowed 78 = .ok (.iload_n 2, 1) := by decide +kernel
set_option maxRecDepth 20000 in
theorem dX1_isAllowed_79 : decode cX1_isAllowed 79 = .ok (.ireturn, 1) := by decide +kernel
set_option maxRecDepth 20000 in
theorem dX1_isAllowed_80 : decode cX1_isAllowed 80 = .ok (.iload_n 2, 1) := by decide +kernel
set_option maxRecDepth 20000 in
theorem dX1_isAllowed_81 : decode cX1_isAllowed 81 = .ok (.ifCond .ne 9, 3) := by decide +kernel
set_option maxRecDepth 20000 in
theorem dX1_isAllowed_84 : decode cX1_isAllowed 84 = .ok (.iload_n 0, 1) := by decide +kernel
set_option maxRecDepth 20000 in
theorem dX1_isAllowed_85 : decode cX1_isAllowed 85 = .ok (.bipush 44, 2) := by decide +kernel
set_option maxRecDepth 20000 in
theorem dX1_isAllowed_87 : decode cX1_isAllowed 87 = .ok (.if_icmp .ne 7, 3) := by decide +kernel
set_option maxRecDepth 20000 in
theorem dX1_isAllowed_90 : decode cX1_isAllowed 90 = .ok (.iconst 1, 1) := by decide +kernel
set_option maxRecDepth 20000 in
theorem dX1_isAllowed_91 : decode cX1_isAllowed 91 = .ok (.goto 4, 3) := by decide +kernel
set_option maxRecDepth 20000 in
theorem dX1_isAllowed_94 : decode cX1_isAllowed 94 = .ok (.iconst 0, 1) := by decide +kernel
set_option maxRecDepth 20000 in
theorem dX1_isAllowed_95 : decode cX1_isAllowed 95 = .ok (.ireturn, 1) := by decide +kernel
set_option maxRecDepth 20000 in
theorem dX1_wish_0 : decode cX1_wish 0 = .ok (.aload_n 0, 1) := by decide +kernel
set_option maxRecDepth 20000 in
theorem dX1_wish_1 : decode cX1_wish 1 = .ok (.getfield 25, 3) := by decide +kernel
set_option maxRecDepth 20000 in
theorem dX1_wish_4 : decode cX1_wish 4 = .ok (.ifCond .lt 64, 3) := by decide +kernel
set_option maxRecDepth 20000 in
theorem dX1_wish_7 : decode cX1_wish 7 = .ok (.aload_n 0, 1) := by decide +kernel
set_option maxRecDepth 20000 in
theorem dX1_wish_8 : decode cX1_wish 8 = .ok (.getfield 25, 3) := by decide +kernel
set_option maxRecDepth 20000 in
theorem dX1_wish_11 : decode cX1_wish 11 = .ok (.aload_n 0, 1) := by decide +kernel
set_option maxRecDepth 20000 in
theorem dX1_wish_12 : decode cX1_wish 12 = .ok (.getfield 21, 3) := by decide +kernel
set_option maxRecDepth 20000 in
theorem dX1_wish_15 : decode cX1_wish 15 = .ok (.arraylength, 1) := by decide +kernel
set_option maxRecDepth 20000 in
theorem dX1_wish_16 : decode cX1_wish 16 = .ok (.if_icmp .ge 52, 3) := by decide +kernel
set_option maxRecDepth 20000 in
theorem dX1_wish_19 : decode cX1_wish 19 = .ok (.aload_n 0, 1) := by decide +kernel
set_option maxRecDepth 20000 in
theorem dX1_wish_20 : decode cX1_wish 20 = .ok (.getfield 21, 3) := by decide +kernel
set_option maxRecDepth 20000 in
theorem dX1_wish_23 : decode cX1_wish 23 = .ok (.aload_n 0, 1) := by decide +kernel
set_option maxRecDepth 20000 in
theorem dX1_wish_24 : decode cX1_wish 24 = .ok (.getfield 25, 3) := by decide +kernel
set_option maxRecDepth 20000 in
theorem dX1_wish_27 : decode cX1_wish 27 = .ok (.aaload, 1) := by decide +kernel
set_option maxRecDepth 20000 in
theorem dX1_wish_28 : decode cX1_wish 28 = .ok (.iload_n 1, 1) := by decide +kernel
set_option maxRecDepth 20000 in
theorem dX1_wish_29 : decode cX1_wish 29 = .ok (.putfield 37, 3) := by decide +kernel
set_option maxRecDepth 20000 in
theorem dX1_wish_32 : decode cX1_wish 32 = .ok (.aload_n 0, 1) := by decide +kernel
set_option maxRecDepth 20000 in
theorem dX1_wish_33 : decode cX1_wish 33 = .ok (.getfield 21, 3) := by decide +kernel
set_option maxRecDepth 20000 in
theorem dX1_wish_36 : decode cX1_wish 36 = .ok (.aload_n 0, 1) := by decide +kernel
set_option maxRecDepth 20000 in
theorem dX1_wish_37 : decode cX1_wish 37 = .ok (.getfield 25, 3) := by decide +kernel
set_option maxRecDepth 20000 in
theorem dX1_wish_40 : decode cX1_wish 40 = .ok (.aaload, 1) := by decide +kernel
set_option maxRecDepth 20000 in
theorem dX1_wish_41 : decode cX1_wish 41 = .ok (.iload_n 2, 1) := by decide +kernel
set_option maxRecDepth 20000 in
theorem dX1_wish_42 : decode cX1_wish 42 = .ok (.putfield 40, 3) := by decide +kernel
set_option maxRecDepth 20000 in
theorem dX1_wish_45 : decode cX1_wish 45 = .ok (.aload_n 0, 1) := by decide +kernel
set_option maxRecDepth 20000 in
theorem dX1_wish_46 : decode cX1_wish 46 = .ok (.getfield 21, 3) := by decide +kernel
set_option maxRecDepth 20000 in
theorem dX1_wish_49 : decode cX1_wish 49 = .ok (.aload_n 0, 1) := by decide +kernel
set_option maxRecDepth 20000 in
theorem dX1_wish_50 : decode cX1_wish 50 = .ok (.getfield 25, 3) := by decide +kernel
set_option maxRecDepth 20000 in
theorem dX1_wish_53 : decode cX1_wish 53 = .ok (.aaload, 1) := by decide +kernel
set_option maxRecDepth 20000 in
theorem dX1_wish_54 : decode cX1_wish 54 = .ok (.iload_n 3, 1) := by decide +kernel
set_option maxRecDepth 20000 in
theorem dX1_wish_55 : decode cX1_wish 55 = .ok (.putfield 43, 3) := by decide +kernel
set_option maxRecDepth 20000 in
theorem dX1_wish_58 : decode cX1_wish 58 = .ok (.aload_n 0, 1) := by decide +kernel
set_option maxRecDepth 20000 in
theorem dX1_wish_59 : decode cX1_wish 59 = .ok (.dup, 1) := by decide +kernel
set_option maxRecDepth 20000 in
theorem dX1_wish_60 : decode cX1_wish 60 = .ok (.getfield 25, 3) := by decide +kernel
set_option maxRecDepth 20000 in
theorem dX1_wish_63 : decode cX1_wish 63 = .ok (.iconst 1, 1) := by decide +kernel
set_option maxRecDepth 20000 in
theorem dX1_wish_64 : decode cX1_wish 64 = .ok (.iadd, 1) := by decide +kernel
set_option maxRecDepth 20000 in
theorem dX1_wish_65 : decode cX1_wish 65 = .ok (.putfield 25, 3) := by decide +kernel
set_option maxRecDepth 20000 in
theorem dX1_wish_68 : decode cX1_wish 68 = .ok (.return_, 1) := by decide +kernel
set_option maxRecDepth 20000 in
theorem dX2_init_0 : decode cX2_init 0 = .ok (.aload_n 0, 1) := by decide +kernel
set_option maxRecDepth 20000 in
theorem dX2_init_1 : decode cX2_init 1 = .ok (.invokespecial 3, 3) := by decide +kernel
set_option maxRecDepth 20000 in
theorem dX2_init_4 : decode cX2_init 4 = .ok (.aload_n 0, 1) := by decide +kernel
set_option maxRecDepth 20000 in
theorem dX2_init_5 : decode cX2_init 5 = .ok (.iconst 4, 1) := by decide +kernel
set_option maxRecDepth 20000 in
theorem dX2_init_6 : decode cX2_init 6 = .ok (.anewarray 9, 3) := by decide +kernel
set_option maxRecDepth 20000 in
theorem dX2_init_9 : decode cX2_init 9 = .ok (.putfield 11, 3) := by decide +kernel
set_option maxRecDepth 20000 in
theorem dX2_init_12 : decode cX2_init 12 = .ok (.aload_n 0, 1) := by decide +kernel
set_option maxRecDepth 20000 in
theorem dX2_init_13 : decode cX2_init 13 = .ok (.iconst 0, 1) := by decide +kernel
set_option maxRecDepth 20000 in
theorem dX2_init_14 : decode cX2_init 14 = .ok (.putfield 17, 3) := by decide +kernel
set_option maxRecDepth 20000 in
theorem dX2_init_17 : decode cX2_init 17 = .ok (.iconst 0, 1) := by decide +kernel
set_option maxRecDepth 20000 in
theorem dX2_init_18 : decode cX2_init 18 = .ok (.istore_n 1, 1) := by decide +kernel
set_option maxRecDepth 20000 in
theorem dX2_init_19 : decode cX2_init 19 = .ok (.iload_n 1, 1) := by decide +kernel
set_option maxRecDepth 20000 in
theorem dX2_init_20 : decode cX2_init 20 = .ok (.aload_n 0, 1) := by decide +kernel
set_option maxRecDepth 20000 in
theorem dX2_init_21 : decode cX2_init 21 = .ok (.getfield 11, 3) := by decide +kernel
set_option maxRecDepth 20000 in
theorem dX2_init_24 : decode cX2_init 24 = .ok (.arraylength, 1) := by decide +kernel
set_option maxRecDepth 20000 in
theorem dX2_init_25 : decode cX2_init 25 = .ok (.if_icmp .ge 22, 3) := by decide +kernel
set_option maxRecDepth 20000 in
theorem dX2_init_28 : decode cX2_init 28 = .ok (.aload_n 0, 1) := by decide +kernel
set_option maxRecDepth 20000 in
theorem dX2_init_29 : decode cX2_init 29 = .ok (.getfield 11, 3) := by decide +kernel
set_option maxRecDepth 20000 in
theorem dX2_init_32 : decode cX2_init 32 = .ok (.iload_n 1, 1) := by decide +kernel
set_option maxRecDepth 20000 in
theorem dX2_init_33 : decode cX2_init 33 = .ok (.new 9, 3) := by decide +kernel
set_option maxRecDepth 20000 in
theorem dX2_init_36 : decode cX2_init 36 = .ok (.dup, 1) := by decide +kernel
set_option maxRecDepth 20000 in
theorem dX2_init_37 : decode cX2_init 37 = .ok (.invokespecial 21, 3) := by decide +kernel
set_option maxRecDepth 20000 in
theorem dX2_init_40 : decode cX2_init 40 = .ok (.aastore, 1) := by decide +kernel
set_option maxRecDepth 20000 in
theorem dX2_init_41 : decode cX2_init 41 = .ok (.iinc 1 1, 3) := by decide +kernel
set_option maxRecDepth 20000 in
theorem dX2_init_44 : decode cX2_init 44 = .ok (.goto (-25), 3) := by decide +kernel
set_option maxRecDepth 20000 in
theorem dX2_init_47 : decode cX2_init 47 = .ok (.return_, 1) := by decide +kernel
set_option maxRecDepth 20000 in
theorem dX2_remember_0 : decode cX2_remember 0 = .ok (.aload_n 0, 1) := by decide +kernel
set_option maxRecDepth 20000 in
theorem dX2_remember_1 : decode cX2_remember 1 = .ok (.getfield 17, 3) := by decide +kernel
set_option maxRecDepth 20000 in
theorem dX2_remember_4 : decode cX2_remember 4 = .ok (.aload_n 0, 1) := by decide +kernel
set_option maxRecDepth 20000 in
theorem dX2_remember_5 : decode cX2_remember 5 = .ok (.getfield 11, 3) := by decide +kernel
set_option maxRecDepth 20000 in
theorem dX2_remember_8 : decode cX2_remember 8 = .ok (.arraylength, 1) := by decide +kernel
set_option maxRecDepth 20000 in
theorem dX2_remember_9 : decode cX2_remember 9 = .ok (.if_icmp .lt 7, 3) := by decide +kernel
set_option maxRecDepth 20000 in
theorem dX2_remember_12 : decode cX2_remember 12 = .ok (.aload_n 0, 1) := by decide +kernel
set_option maxRecDepth 20000 in
theorem dX2_remember_13 : decode cX2_remember 13 = .ok (.invokevirtual 22, 3) := by decide +kernel
set_option maxRecDepth 20000 in
theorem dX2_remember_16 : decode cX2_remember 16 = .ok (.aload_n 0, 1) := by decide +kernel
set_option maxRecDepth 20000 in
theorem dX2_remember_17 : decode cX2_remember 17 = .ok (.getfield 17, 3) := by decide +kernel
set_option maxRecDepth 20000 in
theorem dX2_remember_20 : decode cX2_remember 20 = .ok (.ifCond .lt 38, 3) := by decide +kernel
set_option maxRecDepth 20000 in
theorem dX2_remember_23 : decode cX2_remember 23 = .ok (.aload_n 0, 1) := by decide +kernel
set_option maxRecDepth 20000 in
theorem dX2_remember_24 : decode cX2_remember 24 = .ok (.getfield 17, 3) := by decide +kernel
set_option maxRecDepth 20000 in
theorem dX2_remember_27 : decode cX2_remember 27 = .ok (.aload_n 0, 1) := by decide +kernel
set_option maxRecDepth 20000 in
theorem dX2_remember_28 : decode cX2_remember 28 = .ok (.getfield 11, 3) := by decide +kernel
set_option maxRecDepth 20000 in
theorem dX2_remember_31 : decode cX2_remember 31 = .ok (.arraylength, 1) := by decide +kernel
set_option maxRecDepth 20000 in
theorem dX2_remember_32 : decode cX2_remember 32 = .ok (.if_icmp .ge 26, 3) := by decide +kernel
set_option maxRecDepth 20000 in
theorem dX2_remember_35 : decode cX2_remember 35 = .ok (.aload_n 0, 1) := by decide +kernel
set_option maxRecDepth 20000 in
theorem dX2_remember_36 : decode cX2_remember 36 = .ok (.getfield 11, 3) := by decide +kernel
set_option maxRecDepth 20000 in
theorem dX2_remember_39 : decode cX2_remember 39 = .ok (.aload_n 0, 1) := by decide +kernel
set_option maxRecDepth 20000 in
theorem dX2_remember_40 : decode cX2_remember 40 = .ok (.getfield 17, 3) := by decide +kernel
set_option maxRecDepth 20000 in
theorem dX2_remember_43 : decode cX2_remember 43 = .ok (.aaload, 1) := by decide +kernel
set_option maxRecDepth 20000 in
theorem dX2_remember_44 : decode cX2_remember 44 = .ok (.aload_n 1, 1) := by decide +kernel
set_option maxRecDepth 20000 in
theorem dX2_remember_45 : decode cX2_remember 45 = .ok (.invokevirtual 25, 3) := by decide +kernel
set_option maxRecDepth 20000 in
theorem dX2_remember_48 : decode cX2_remember 48 = .ok (.aload_n 0, 1) := by decide +kernel
set_option maxRecDepth 20000 in
theorem dX2_remember_49 : decode cX2_remember 49 = .ok (.dup, 1) := by decide +kernel
set_option maxRecDepth 20000 in
theorem dX2_remember_50 : decode cX2_remember 50 = .ok (.getfield 17, 3) := by decide +kernel
set_option maxRecDepth 20000 in
theorem dX2_remember_53 : decode cX2_remember 53 = .ok (.iconst 1, 1) := by decide +kernel
set_option maxRecDepth 20000 in
theorem dX2_remember_54 : decode cX2_remember 54 = .ok (.iadd, 1) := by decide +kernel
set_option maxRecDepth 20000 in
theorem dX2_remember_55 : decode cX2_remember 55 = .ok (.putfield 17, 3) := by decide +kernel
set_option maxRecDepth 20000 in
theorem dX2_remember_58 : decode cX2_remember 58 = .ok (.return_, 1) := by decide +kernel
set_option maxRecDepth 20000 in
theorem dX2_dropOldest_0 : decode cX2_dropOldest 0 = .ok (.iconst 1, 1) := by decide +kernel
set_option maxRecDepth 20000 in
theorem dX2_dropOldest_1 : decode cX2_dropOldest 1 = .ok (.istore_n 1, 1) := by decide +kernel
set_option maxRecDepth 20000 in
theorem dX2_dropOldest_2 : decode cX2_dropOldest 2 = .ok (.iload_n 1, 1) := by decide +kernel
set_option maxRecDepth 20000 in
theorem dX2_dropOldest_3 : decode cX2_dropOldest 3 = .ok (.aload_n 0, 1) := by decide +kernel
set_option maxRecDepth 20000 in
theorem dX2_dropOldest_4 : decode cX2_dropOldest 4 = .ok (.getfield 11, 3) := by decide +kernel
set_option maxRecDepth 20000 in
theorem dX2_dropOldest_7 : decode cX2_dropOldest 7 = .ok (.arraylength, 1) := by decide +kernel
set_option maxRecDepth 20000 in
theorem dX2_dropOldest_8 : decode cX2_dropOldest 8 = .ok (.if_icmp .ge 39, 3) := by decide +kernel
set_option maxRecDepth 20000 in
theorem dX2_dropOldest_11 : decode cX2_dropOldest 11 = .ok (.aload_n 0, 1) := by decide +kernel
set_option maxRecDepth 20000 in
theorem dX2_dropOldest_12 : decode cX2_dropOldest 12 = .ok (.getfield 11, 3) := by decide +kernel
set_option maxRecDepth 20000 in
theorem dX2_dropOldest_15 : decode cX2_dropOldest 15 = .ok (.iload_n 1, 1) := by decide +kernel
set_option maxRecDepth 20000 in
theorem dX2_dropOldest_16 : decode cX2_dropOldest 16 = .ok (.iconst 1, 1) := by decide +kernel
set_option maxRecDepth 20000 in
theorem dX2_dropOldest_17 : decode cX2_dropOldest 17 = .ok (.isub, 1) := by decide +kernel
set_option maxRecDepth 20000 in
theorem dX2_dropOldest_18 : decode cX2_dropOldest 18 = .ok (.aaload, 1) := by decide +kernel
set_option maxRecDepth 20000 in
theorem dX2_dropOldest_19 : decode cX2_dropOldest 19 = .ok (.astore_n 2, 1) := by decide +kernel
set_option maxRecDepth 20000 in
theorem dX2_dropOldest_20 : decode cX2_dropOldest 20 = .ok (.aload_n 0, 1) := by decide +kernel
set_option maxRecDepth 20000 in
theorem dX2_dropOldest_21 : decode cX2_dropOldest 21 = .ok (.getfield 11, 3) := by decide +kernel
set_option maxRecDepth 20000 in
theorem dX2_dropOldest_24 : decode cX2_dropOldest 24 = .ok (.iload_n 1, 1) := by decide +kernel
set_option maxRecDepth 20000 in
theorem dX2_dropOldest_25 : decode cX2_dropOldest 25 = .ok (.iconst 1, 1) := by decide +kernel
set_option maxRecDepth 20000 in
theorem dX2_dropOldest_26 : decode cX2_dropOldest 26 = .ok (.isub, 1) := by decide +kernel
set_option maxRecDepth 20000 in
theorem dX2_dropOldest_27 : decode cX2_dropOldest 27 = .ok (.aload_n 0, 1) := by decide +kernel
set_option maxRecDepth 20000 in
theorem dX2_dropOldest_28 : decode cX2_dropOldest 28 = .ok (.getfield 11, 3) := by decide +kernel
set_option maxRecDepth 20000 in
theorem dX2_dropOldest_31 : decode cX2_dropOldest 31 = .ok (.iload_n 1, 1) := by decide +kernel
set_option maxRecDepth 20000 in
theorem dX2_dropOldest_32 : decode cX2_dropOldest 32 = .ok (.aaload, 1) := by decide +kernel
set_option maxRecDepth 20000 in
theorem dX2_dropOldest_33 : decode cX2_dropOldest 33 = .ok (.aastore, 1) := by decide +kernel
set_option maxRecDepth 20000 in
theorem dX2_dropOldest_34 : decode cX2_dropOldest 34 = .ok (.aload_n 0, 1) := by decide +kernel
set_option maxRecDepth 20000 in
theorem dX2_dropOldest_35 : decode cX2_dropOldest 35 = .ok (.getfield 11, 3) := by decide +kernel
set_option maxRecDepth 20000 in
theorem dX2_dropOldest_38 : decode cX2_dropOldest 38 = .ok (.iload_n 1, 1) := by decide +kernel
set_option maxRecDepth 20000 in
theorem dX2_dropOldest_39 : decode cX2_dropOldest 39 = .ok (.aload_n 2, 1) := by decide +kernel
set_option maxRecDepth 20000 in
theorem dX2_dropOldest_40 : decode cX2_dropOldest 40 = .ok (.aastore, 1) := by decide +kernel
set_option maxRecDepth 20000 in
theorem dX2_dropOldest_41 : decode cX2_dropOldest 41 = .ok (.iinc 1 1, 3) := by decide +kernel
set_option maxRecDepth 20000 in
theorem dX2_dropOldest_44 : decode cX2_dropOldest 44 = .ok (.goto (-42), 3) := by decide +kernel
set_option maxRecDepth 20000 in
theorem dX2_dropOldest_47 : decode cX2_dropOldest 47 = .ok (.aload_n 0, 1) := by decide +kernel
set_option maxRecDepth 20000 in
theorem dX2_dropOldest_48 : decode cX2_dropOldest 48 = .ok (.aload_n 0, 1) := by decide +kernel
set_option maxRecDepth 20000 in
theorem dX2_dropOldest_49 : decode cX2_dropOldest 49 = .ok (.getfield 11, 3) := by decide +kernel
set_option maxRecDepth 20000 in
theorem dX2_dropOldest_52 : decode cX2_dropOldest 52 = .ok (.arraylength, 1) := by decide +kernel
set_option maxRecDepth 20000 in
theorem dX2_dropOldest_53 : decode cX2_dropOldest 53 = .ok (.iconst 1, 1) := by decide +kernel
set_option maxRecDepth 20000 in
theorem dX2_dropOldest_54 : decode cX2_dropOldest 54 = .ok (.isub, 1) := by decide +kernel
set_option maxRecDepth 20000 in
theorem dX2_dropOldest_55 : decode cX2_dropOldest 55 = .ok (.putfield 17, 3) := by decide +kernel
set_option maxRecDepth 20000 in
theorem dX2_dropOldest_58 : decode cX2_dropOldest 58 = .ok (.return_, 1) := by decide +kernel
set_option maxRecDepth 20000 in
theorem dX2_takeLatestInto_0 : decode cX2_takeLatestInto 0 = .ok (.aload_n 0, 1) := by decide +kernel
set_option maxRecDepth 20000 in
theorem dX2_takeLatestInto_1 : decode cX2_takeLatestInto 1 = .ok (.getfield 17, 3) := by decide +kernel
set_option maxRecDepth 20000 in
theorem dX2_takeLatestInto_4 : decode cX2_takeLatestInto 4 = .ok (.iconst 1, 1) := by decide +kernel
set_option maxRecDepth 20000 in
theorem dX2_takeLatestInto_5 : decode cX2_takeLatestInto 5 = .ok (.isub, 1) := by decide +kernel
set_option maxRecDepth 20000 in
theorem dX2_takeLatestInto_6 : decode cX2_takeLatestInto 6 = .ok (.istore_n 2, 1) := by decide +kernel
set_option maxRecDepth 20000 in
theorem dX2_takeLatestInto_7 : decode cX2_takeLatestInto 7 = .ok (.iload_n 2, 1) := by decide +kernel
set_option maxRecDepth 20000 in
theorem dX2_takeLatestInto_8 : decode cX2_takeLatestInto 8 = .ok (.ifCond .lt 27, 3) := by decide +kernel
set_option maxRecDepth 20000 in
theorem dX2_takeLatestInto_11 : decode cX2_takeLatestInto 11 = .ok (.iload_n 2, 1) := by decide +kernel
set_option maxRecDepth 20000 in
theorem dX2_takeLatestInto_12 : decode cX2_takeLatestInto 12 = .ok (.aload_n 0, 1) := by decide +kernel
set_option maxRecDepth 20000 in
theorem dX2_takeLatestInto_13 : decode cX2_takeLatestInto 13 = .ok (.getfield 11, 3) := by decide +kernel
set_option maxRecDepth 20000 in
theorem dX2_takeLatestInto_16 : decode cX2_takeLatestInto 16 = .ok (.arraylength, 1) := by decide +kernel
set_option maxRecDepth 20000 in
theorem dX2_takeLatestInto_17 : decode cX2_takeLatestInto 17 = .ok (.if_icmp .ge 18, 3) := by decide +kernel
set_option maxRecDepth 20000 in
theorem dX2_takeLatestInto_20 : decode cX2_takeLatestInto 20 = .ok (.aload_n 1, 1) := by decide +kernel
set_option maxRecDepth 20000 in
theorem dX2_takeLatestInto_21 : decode cX2_takeLatestInto 21 = .ok (.aload_n 0, 1) := by decide +kernel
set_option maxRecDepth 20000 in
theorem dX2_takeLatestInto_22 : decode cX2_takeLatestInto 22 = .ok (.getfield 11, 3) := by decide +kernel
set_option maxRecDepth 20000 in
theorem dX2_takeLatestInto_25 : decode cX2_takeLatestInto 25 = .ok (.iload_n 2, 1) := by decide +kernel
set_option maxRecDepth 20000 in
theorem dX2_takeLatestInto_26 : decode cX2_takeLatestInto 26 = .ok (.aaload, 1) := by decide +kernel
set_option maxRecDepth 20000 in
theorem dX2_takeLatestInto_27 : decode cX2_takeLatestInto 27 = .ok (.invokevirtual 25, 3) := by decide +kernel
set_option maxRecDepth 20000 in
theorem dX2_takeLatestInto_30 : decode cX2_takeLatestInto 30 = .ok (.aload_n 0, 1) := by decide +kernel
set_option maxRecDepth 20000 in
theorem dX2_takeLatestInto_31 : decode cX2_takeLatestInto 31 = .ok (.iload_n 2, 1) := by decide +kernel
set_option maxRecDepth 20000 in
theorem dX2_takeLatestInto_32 : decode cX2_takeLatestInto 32 = .ok (.putfield 17, 3) := by decide +kernel
set_option maxRecDepth 20000 in
theorem dX2_takeLatestInto_35 : decode cX2_takeLatestInto 35 = .ok (.return_, 1) := by decide +kernel
set_option maxRecDepth 20000 in
theorem dX3_init_0 : decode cX3_init 0 = .ok (.aload_n 0, 1) := by decide +kernel
set_option maxRecDepth 20000 in
theorem dX3_init_1 : decode cX3_init 1 = .ok (.invokespecial 1, 3) := by decide +kernel
set_option maxRecDepth 20000 in
theorem dX3_init_4 : decode cX3_init 4 = .ok (.aload_n 0, 1) := by decide +kernel
set_option maxRecDepth 20000 in
theorem dX3_init_5 : decode cX3_init 5 = .ok (.iconst 0, 1) := by decide +kernel
set_option maxRecDepth 20000 in
theorem dX3_init_6 : decode cX3_init 6 = .ok (.putfield 7, 3) := by decide +kernel
set_option maxRecDepth 20000 in
theorem dX3_init_9 : decode cX3_init 9 = .ok (.aload_n 0, 1) := by decide +kernel
set_option maxRecDepth 20000 in
theorem dX3_init_10 : decode cX3_init 10 = .ok (.iconst 0, 1) := by decide +kernel
set_option maxRecDepth 20000 in
theorem dX3_init_11 : decode cX3_init 11 = .ok (.putfield 13, 3) := by decide +kernel
set_option maxRecDepth 20000 in
theorem dX3_init_14 : decode cX3_init 14 = .ok (.aload_n 0, 1) := by decide +kernel
set_option maxRecDepth 20000 in
theorem dX3_init_15 : decode cX3_init 15 = .ok (.iconst 0, 1) := by decide +kernel
set_option maxRecDepth 20000 in
theorem dX3_init_16 : decode cX3_init 16 = .ok (.putfield 16, 3) := by decide +kernel
set_option maxRecDepth 20000 in
theorem dX3_init_19 : decode cX3_init 19 = .ok (.return_, 1) := by decide +kernel
set_option maxRecDepth 20000 in
theorem dX4_init_0 : decode cX4_init 0 = .ok (.aload_n 0, 1) := by decide +kernel
set_option maxRecDepth 20000 in
theorem dX4_init_1 : decode cX4_init 1 = .ok (.invokespecial 3, 3) := by decide +kernel
set_option maxRecDepth 20000 in
theorem dX4_init_4 : decode cX4_init 4 = .ok (.aload_n 0, 1) := by decide +kernel
set_option maxRecDepth 20000 in
theorem dX4_init_5 : decode cX4_init 5 = .ok (.iconst 0, 1) := by decide +kernel
set_option maxRecDepth 20000 in
theorem dX4_init_6 : decode cX4_init 6 = .ok (.putfield 9, 3) := by decide +kernel
set_option maxRecDepth 20000 in
theorem dX4_init_9 : decode cX4_init 9 = .ok (.aload_n 0, 1) := by decide +kernel
set_option maxRecDepth 20000 in
theorem dX4_init_10 : decode cX4_init 10 = .ok (.bipush 10, 2) := by decide +kernel
set_option maxRecDepth 20000 in
theorem dX4_init_12 : decode cX4_init 12 = .ok (.newarray .int, 2) := by decide +kernel
set_option maxRecDepth 20000 in
theorem dX4_init_14 : decode cX4_init 14 = .ok (.putfield 15, 3) := by decide +kernel
set_option maxRecDepth 20000 in
theorem dX4_init_17 : decode cX4_init 17 = .ok (.aload_n 0, 1) := by decide +kernel
set_option maxRecDepth 20000 in
theorem dX4_init_18 : decode cX4_init 18 = .ok (.bipush 20, 2) := by decide +kernel
set_option maxRecDepth 20000 in
theorem dX4_init_20 : decode cX4_init 20 = .ok (.newarray .int, 2) := by decide +kernel
set_option maxRecDepth 20000 in
theorem dX4_init_22 : decode cX4_init 22 = .ok (.putfield 19, 3) := by decide +kernel
set_option maxRecDepth 20000 in
theorem dX4_init_25 : decode cX4_init 25 = .ok (.aload_n 0, 1) := by decide +kernel
set_option maxRecDepth 20000 in
theorem dX4_init_26 : decode cX4_init 26 = .ok (.getstatic 22, 3) := by decide +kernel
set_option maxRecDepth 20000 in
theorem dX4_init_29 : decode cX4_init 29 = .ok (.arraylength, 1) := by decide +kernel
set_option maxRecDepth 20000 in
theorem dX4_init_30 : decode cX4_init 30 = .ok (.newarray .int, 2) := by decide +kernel
set_option maxRecDepth 20000 in
theorem dX4_init_32 : decode cX4_init 32 = .ok (.putfield 25, 3) := by decide +kernel
set_option maxRecDepth 20000 in
theorem dX4_init_35 : decode cX4_init 35 = .ok (.aload_n 0, 1) := by decide +kernel
set_option maxRecDepth 20000 in
theorem dX4_init_36 : decode cX4_init 36 = .ok (.bipush 30, 2) := by decide +kernel
set_option maxRecDepth 20000 in
theorem dX4_init_38 : decode cX4_init 38 = .ok (.anewarray 28, 3) := by decide +kernel
set_option maxRecDepth 20000 in
theorem dX4_init_41 : decode cX4_init 41 = .ok (.putfield 30, 3) := by decide +kernel
set_option maxRecDepth 20000 in
theorem dX4_init_44 : decode cX4_init 44 = .ok (.aload_n 0, 1) := by decide +kernel
set_option maxRecDepth 20000 in
theorem dX4_init_45 : decode cX4_init 45 = .ok (.iconst 0, 1) := by decide +kernel
set_option maxRecDepth 20000 in
theorem dX4_init_46 : decode cX4_init 46 = .ok (.putfield 34, 3) := by decide +kernel
set_option maxRecDepth 20000 in
theorem dX4_init_49 : decode cX4_init 49 = .ok (.aload_n 0, 1) := by decide +kernel
set_option maxRecDepth 20000 in
theorem dX4_init_50 : decode cX4_init 50 = .ok (.iconst 0, 1) := by decide +kernel
set_option maxRecDepth 20000 in
theorem dX4_init_51 : decode cX4_init 51 = .ok (.putfield 37, 3) := by decide +kernel
set_option maxRecDepth 20000 in
theorem dX4_init_54 : decode cX4_init 54 = .ok (.aload_n 0, 1) := by decide +kernel
set_option maxRecDepth 20000 in
theorem dX4_init_55 : decode cX4_init 55 = .ok (.iconst 0, 1) := by decide +kernel
set_option maxRecDepth 20000 in
theorem dX4_init_56 : decode cX4_init 56 = .ok (.putfield 40, 3) := by decide +kernel
set_option maxRecDepth 20000 in
theorem dX4_init_59 : decode cX4_init 59 = .ok (.aload_n 0, 1) := by decide +kernel
set_option maxRecDepth 20000 in
theorem dX4_init_60 : decode cX4_init 60 = .ok (.iconst 0, 1) := by decide +kernel
set_option maxRecDepth 20000 in
theorem dX4_init_61 : decode cX4_init 61 = .ok (.putfield 43, 3) := by decide +kernel
set_option maxRecDepth 20000 in
theorem dX4_init_64 : decode cX4_init 64 = .ok (.aload_n 0, 1) := by decide +kernel
set_option maxRecDepth 20000 in
theorem dX4_init_65 : decode cX4_init 65 = .ok (.iconst 0, 1) := by decide +kernel
set_option maxRecDepth 20000 in
theorem dX4_init_66 : decode cX4_init 66 = .ok (.putfield 46, 3) := by decide +kernel
set_option maxRecDepth 20000 in
theorem dX4_init_69 : decode cX4_init 69 = .ok (.aload_n 0, 1) := by decide +kernel
set_option maxRecDepth 20000 in
theorem dX4_init_70 : decode cX4_init 70 = .ok (.iconst 0, 1) := by decide +kernel
set_option maxRecDepth 20000 in
theorem dX4_init_71 : decode cX4_init 71 = .ok (.putfield 49, 3) := by decide +kernel
set_option maxRecDepth 20000 in
theorem dX4_init_74 : decode cX4_init 74 = .ok (.aload_n 0, 1) := by decide +kernel
set_option maxRecDepth 20000 in
theorem dX4_init_75 : decode cX4_init 75 = .ok (.iconst 0, 1) := by decide +kernel
set_option maxRecDepth 20000 in
theorem dX4_init_76 : decode cX4_init 76 = .ok (.putfield 52, 3) := by decide +kernel
set_option maxRecDepth 20000 in
theorem dX4_init_79 : decode cX4_init 79 = .ok (.iconst 0, 1) := by decide +kernel
set_option maxRecDepth 20000 in
theorem dX4_init_80 : decode cX4_init 80 = .ok (.istore_n 1, 1) := by decide +kernel
set_option maxRecDepth 20000 in
theorem dX4_init_81 : decode cX4_init 81 = .ok (.iload_n 1, 1) := by decide +kernel
set_option maxRecDepth 20000 in
theorem dX4_init_82 : decode cX4_init 82 = .ok (.aload_n 0, 1) := by decide +kernel
set_option maxRecDepth 20000 in
theorem dX4_init_83 : decode cX4_init 83 = .ok (.getfield 19, 3) := by decide +kernel
set_option maxRecDepth 20000 in
theorem dX4_init_86 : decode cX4_init 86 = .ok (.arraylength, 1) := by decide +kernel
set_option maxRecDepth 20000 in
theorem dX4_init_87 : decode cX4_init 87 = .ok (.if_icmp .ge 17, 3) := by decide +kernel
set_option maxRecDepth 20000 in
theorem dX4_init_90 : decode cX4_init 90 = .ok (.aload_n 0, 1) := by decide +kernel
set_option maxRecDepth 20000 in
theorem dX4_init_91 : decode cX4_init 91 = .ok (.getfield 19, 3) := by decide +kernel
set_option maxRecDepth 20000 in
theorem dX4_init_94 : decode cX4_init 94 = .ok (.iload_n 1, 1) := by decide +kernel
set_option maxRecDepth 20000 in
theorem dX4_init_95 : decode cX4_init 95 = .ok (.bipush (-5), 2) := by decide +kernel
set_option maxRecDepth 20000 in
theorem dX4_init_97 : decode cX4_init 97 = .ok (.iastore, 1) := by decide +kernel
set_option maxRecDepth 20000 in
theorem dX4_init_98 : decode cX4_init 98 = .ok (.iinc 1 1, 3) := by decide +kernel
set_option maxRecDepth 20000 in
theorem dX4_init_101 : decode cX4_init 101 = .ok (.goto (-20), 3) := by decide +kernel
set_option maxRecDepth 20000 in
theorem dX4_init_104 : decode cX4_init 104 = .ok (.iconst 0, 1) := by decide +kernel
set_option maxRecDepth 20000 in
theorem dX4_init_105 : decode cX4_init 105 = .ok (.istore_n 1, 1) := by decide +kernel
set_option maxRecDepth 20000 in
theorem dX4_init_106 : decode cX4_init 106 = .ok (.iload_n 1, 1) := by decide +kernel
set_option maxRecDepth 20000 in
theorem dX4_init_107 : decode cX4_init 107 = .ok (.aload_n 0, 1) := by decide +kernel
set_option maxRecDepth 20000 in
theorem dX4_init_108 : decode cX4_init 108 = .ok (.getfield 25, 3) := by decide +kernel
set_option maxRecDepth 20000 in
theorem dX4_init_111 : decode cX4_init 111 = .ok (.arraylength, 1) := by decide +kernel
set_option maxRecDepth 20000 in
theorem dX4_init_112 : decode cX4_init 112 = .ok (.if_icmp .ge 28, 3) := by decide +kernel
set_option maxRecDepth 20000 in
theorem dX4_init_115 : decode cX4_init 115 = .ok (.iload_n 1, 1) := by decide +kernel
set_option maxRecDepth 20000 in
theorem dX4_init_116 : decode cX4_init 116 = .ok (.getstatic 22, 3) := by decide +kernel
set_option maxRecDepth 20000 in
theorem dX4_init_119 : decode cX4_init 119 = .ok (.arraylength, 1) := by decide +kernel
set_option maxRecDepth 20000 in
theorem dX4_init_120 : decode cX4_init 120 = .ok (.if_icmp .ge 20, 3) := by decide +kernel
set_option maxRecDepth 20000 in
theorem dX4_init_123 : decode cX4_init 123 = .ok (.aload_n 0, 1) := by decide +kernel
set_option maxRecDepth 20000 in
theorem dX4_init_124 : decode cX4_init 124 = .ok (.getfield 25, 3) := by decide +kernel
set_option maxRecDepth 20000 in
theorem dX4_init_127 : decode cX4_init 127 = .ok (.iload_n 1, 1) := by decide +kernel
set_option maxRecDepth 20000 in
theorem dX4_init_128 : decode cX4_init 128 = .ok (.getstatic 22, 3) := by decide +kernel
set_option maxRecDepth 20000 in
theorem dX4_init_131 : decode cX4_init 131 = .ok (.iload_n 1, 1) := by decide +kernel
set_option maxRecDepth 20000 in
theorem dX4_init_132 : decode cX4_init 132 = .ok (.iaload, 1) := by decide +kernel
set_option maxRecDepth 20000 in
theorem dX4_init_133 : decode cX4_init 133 = .ok (.iastore, 1) := by decide +kernel
set_option maxRecDepth 20000 in
theorem dX4_init_134 : decode cX4_init 134 = .ok (.iinc 1 1, 3) := by decide +kernel
set_option maxRecDepth 20000 in
theorem dX4_init_137 : decode cX4_init 137 = .ok (.goto (-31), 3) := by decide +kernel
set_option maxRecDepth 20000 in
theorem dX4_init_140 : decode cX4_init 140 = .ok (.iconst 0, 1) := by decide +kernel
set_option maxRecDepth 20000 in
theorem dX4_init_141 : decode cX4_init 141 = .ok (.istore_n 1, 1) := by decide +kernel
set_option maxRecDepth 20000 in
theorem dX4_init_142 : decode cX4_init 142 = .ok (.iload_n 1, 1) := by decide +kernel
set_option maxRecDepth 20000 in
theorem dX4_init_143 : decode cX4_init 143 = .ok (.aload_n 0, 1) := by decide +kernel
set_option maxRecDepth 20000 in
theorem dX4_init_144 : decode cX4_init 144 = .ok (.getfield 30, 3) := by decide +kernel
set_option maxRecDepth 20000 in
theorem dX4_init_147 : decode cX4_init 147 = .ok (.arraylength, 1) := by decide +kernel
set_option maxRecDepth 20000 in
theorem dX4_init_148 : decode cX4_init 148 = .ok (.if_icmp .ge 22, 3) := by decide +kernel
set_option maxRecDepth 20000 in
theorem dX4_init_151 : decode cX4_init 151 = .ok (.aload_n 0, 1) := by decide +kernel
set_option maxRecDepth 20000 in
theorem dX4_init_152 : decode cX4_init 152 = .ok (.getfield 30, 3) := by decide +kernel
set_option maxRecDepth 20000 in
theorem dX4_init_155 : decode cX4_init 155 = .ok (.iload_n 1, 1) := by decide +kernel
set_option maxRecDepth 20000 in
theorem dX4_init_156 : decode cX4_init 156 = .ok (.new 28, 3) := by decide +kernel
set_option maxRecDepth 20000 in
theorem dX4_init_159 : decode cX4_init 159 = .ok (.dup, 1) := by decide +kernel
set_option maxRecDepth 20000 in
theorem dX4_init_160 : decode cX4_init 160 = .ok (.invokespecial 55, 3) := by decide +kernel
set_option maxRecDepth 20000 in
theorem dX4_init_163 : decode cX4_init 163 = .ok (.aastore, 1) := by decide +kernel
set_option maxRecDepth 20000 in
theorem dX4_init_164 : decode cX4_init 164 = .ok (.iinc 1 1, 3) := by decide +kernel
set_option maxRecDepth 20000 in
theorem dX4_init_167 : decode cX4_init 167 = .ok (.goto (-25), 3) := by decide +kernel
set_option maxRecDepth 20000 in
theorem dX4_init_170 : decode cX4_init 170 = .ok (.return_, 1) := by decide +kernel
set_option maxRecDepth 20000 in
theorem dX4_copyFrom_0 : decode cX4_copyFrom 0 = .ok (.aload_n 0, 1) := by decide +kernel
set_option maxRecDepth 20000 in
theorem dX4_copyFrom_1 : decode cX4_copyFrom 1 = .ok (.aload_n 1, 1) := by decide +kernel
set_option maxRecDepth 20000 in
theorem dX4_copyFrom_2 : decode cX4_copyFrom 2 = .ok (.getfield 9, 3) := by decide +kernel
set_option maxRecDepth 20000 in
theorem dX4_copyFrom_5 : decode cX4_copyFrom 5 = .ok (.putfield 9, 3) := by decide +kernel
set_option maxRecDepth 20000 in
theorem dX4_copyFrom_8 : decode cX4_copyFrom 8 = .ok (.aload_n 1, 1) := by decide +kernel
set_option maxRecDepth 20000 in
theorem dX4_copyFrom_9 : decode cX4_copyFrom 9 = .ok (.getfield 15, 3) := by decide +kernel
set_option maxRecDepth 20000 in
theorem dX4_copyFrom_12 : decode cX4_copyFrom 12 = .ok (.aload_n 0, 1) := by decide +kernel
set_option maxRecDepth 20000 in
theorem dX4_copyFrom_13 : decode cX4_copyFrom 13 = .ok (.getfield 15, 3) := by decide +kernel
set_option maxRecDepth 20000 in
theorem dX4_copyFrom_16 : decode cX4_copyFrom 16 = .ok (.invokestatic 56, 3) := by decide +kernel
set_option maxRecDepth 20000 in
theorem dX4_copyFrom_19 : decode cX4_copyFrom 19 = .ok (.aload_n 1, 1) := by decide +kernel
set_option maxRecDepth 20000 in
theorem dX4_copyFrom_20 : decode cX4_copyFrom 20 = .ok (.getfield 19, 3) := by decide +kernel
set_option maxRecDepth 20000 in
theorem dX4_copyFrom_23 : decode cX4_copyFrom 23 = .ok (.aload_n 0, 1) := by decide +kernel
set_option maxRecDepth 20000 in
theorem dX4_copyFrom_24 : decode cX4_copyFrom 24 = .ok (.getfield 19, 3) := by decide +kernel
set_option maxRecDepth 20000 in
theorem dX4_copyFrom_27 : decode cX4_copyFrom 27 = .ok (.invokestatic 56, 3) := by decide +kernel
set_option maxRecDepth 20000 in
theorem dX4_copyFrom_30 : decode cX4_copyFrom 30 = .ok (.aload_n 1, 1) := by decide +kernel
set_option maxRecDepth 20000 in
theorem dX4_copyFrom_31 : decode cX4_copyFrom 31 = .ok (.getfield 25, 3) := by decide +kernel
set_option maxRecDepth 20000 in
theorem dX4_copyFrom_34 : decode cX4_copyFrom 34 = .ok (.aload_n 0, 1) := by decide +kernel
set_option maxRecDepth 20000 in
theorem dX4_copyFrom_35 : decode cX4_copyFrom 35 = .ok (.getfield 25, 3) := by decide +kernel
set_option maxRecDepth 20000 in
theorem dX4_copyFrom_38 : decode cX4_copyFrom 38 = .ok (.invokestatic 56, 3) := by decide +kernel
set_option maxRecDepth 20000 in
theorem dX4_copyFrom_41 : decode cX4_copyFrom 41 = .ok (.iconst 0, 1) := by decide +kernel
set_option maxRecDepth 20000 in
theorem dX4_copyFrom_42 : decode cX4_copyFrom 42 = .ok (.istore_n 2, 1) := by decide +kernel
set_option maxRecDepth 20000 in
theorem dX4_copyFrom_43 : decode cX4_copyFrom 43 = .ok (.iload_n 2, 1) := by decide +kernel
set_option maxRecDepth 20000 in
theorem dX4_copyFrom_44 : decode cX4_copyFrom 44 = .ok (.aload_n 0, 1) := by decide +kernel
set_option maxRecDepth 20000 in
theorem dX4_copyFrom_45 : decode cX4_copyFrom 45 = .ok (.getfield 30, 3) := by decide +kernel
set_option maxRecDepth 20000 in
theorem dX4_copyFrom_48 : decode cX4_copyFrom 48 = .ok (.arraylength, 1) := by decide +kernel
set_option maxRecDepth 20000 in
theorem dX4_copyFrom_49 : decode cX4_copyFrom 49 = .ok (.if_icmp .ge 33, 3) := by decide +kernel
set_option maxRecDepth 20000 in
theorem dX4_copyFrom_52 : decode cX4_copyFrom 52 = .ok (.iload_n 2, 1) := by decide +kernel
set_option maxRecDepth 20000 in
theorem dX4_copyFrom_53 : decode cX4_copyFrom 53 = .ok (.aload_n 1, 1) := by decide +kernel
set_option maxRecDepth 20000 in
theorem dX4_copyFrom_54 : decode cX4_copyFrom 54 = .ok (.getfield 30, 3) := by decide +kernel
set_option maxRecDepth 20000 in
theorem dX4_copyFrom_57 : decode cX4_copyFrom 57 = .ok (.arraylength, 1) := by decide +kernel
set_option maxRecDepth 20000 in
theorem dX4_copyFrom_58 : decode cX4_copyFrom 58 = .ok (.if_icmp .ge 24, 3) := by decide +kernel
set_option maxRecDepth 20000 in
theorem dX4_copyFrom_61 : decode cX4_copyFrom 61 = .ok (.aload_n 0, 1) := by decide +kernel
set_option maxRecDepth 20000 in
theorem dX4_copyFrom_62 : decode cX4_copyFrom 62 = .ok (.getfield 30, 3) := by decide +kernel
set_option maxRecDepth 20000 in
theorem dX4_copyFrom_65 : decode cX4_copyFrom 65 = .ok (.iload_n 2, 1) := by decide +kernel
set_option maxRecDepth 20000 in
theorem dX4_copyFrom_66 : decode cX4_copyFrom 66 = .ok (.aaload, 1) := by decide +kernel
set_option maxRecDepth 20000 in
theorem dX4_copyFrom_67 : decode cX4_copyFrom 67 = .ok (.aload_n 1, 1) := by decide +kernel
set_option maxRecDepth 20000 in
theorem dX4_copyFrom_68 : decode cX4_copyFrom 68 = .ok (.getfield 30, 3) := by decide +kernel
set_option maxRecDepth 20000 in
theorem dX4_copyFrom_71 : decode cX4_copyFrom 71 = .ok (.iload_n 2, 1) := by decide +kernel
set_option maxRecDepth 20000 in
theorem dX4_copyFrom_72 : decode cX4_copyFrom 72 = .ok (.aaload, 1) := by decide +kernel
set_option maxRecDepth 20000 in
theorem dX4_copyFrom_73 : decode cX4_copyFrom 73 = .ok (.invokevirtual 60, 3) := by decide +kernel
set_option maxRecDepth 20000 in
theorem dX4_copyFrom_76 : decode cX4_copyFrom 76 = .ok (.iinc 2 1, 3) := by decide +kernel
set_option maxRecDepth 20000 in
theorem dX4_copyFrom_79 : decode cX4_copyFrom 79 = .ok (.goto (-36), 3) := by decide +kernel
set_option maxRecDepth 20000 in
theorem dX4_copyFrom_82 : decode cX4_copyFrom 82 = .ok (.aload_n 0, 1) := by decide +kernel
set_option maxRecDepth 20000 in
theorem dX4_copyFrom_83 : decode cX4_copyFrom 83 = .ok (.aload_n 1, 1) := by decide +kernel
set_option maxRecDepth 20000 in
theorem dX4_copyFrom_84 : decode cX4_copyFrom 84 = .ok (.getfield 34, 3) := by decide +kernel
set_option maxRecDepth 20000 in
theorem dX4_copyFrom_87 : decode cX4_copyFrom 87 = .ok (.putfield 34, 3) := by decide +kernel
set_option maxRecDepth 20000 in
theorem dX4_copyFrom_90 : decode cX4_copyFrom 90 = .ok (.aload_n 0, 1) := by decide +kernel
set_option maxRecDepth 20000 in
theorem dX4_copyFrom_91 : decode cX4_copyFrom 91 = .ok (.aload_n 1, 1) := by decide +kernel
set_option maxRecDepth 20000 in
theorem dX4_copyFrom_92 : decode cX4_copyFrom 92 = .ok (.getfield 37, 3) := by decide +kernel
set_option maxRecDepth 20000 in
theorem dX4_copyFrom_95 : decode cX4_copyFrom 95 = .ok (.putfield 37, 3) := by decide +kernel
set_option maxRecDepth 20000 in
theorem dX4_copyFrom_98 : decode cX4_copyFrom 98 = .ok (.aload_n 0, 1) := by decide +kernel
set_option maxRecDepth 20000 in
theorem dX4_copyFrom_99 : decode cX4_copyFrom 99 = .ok (.aload_n 1, 1) := by decide +kernel
set_option maxRecDepth 20000 in
theorem dX4_copyFrom_100 : decode cX4_copyFrom 100 = .ok (.getfield 40, 3) := by decide +kernel
set_option maxRecDepth 20000 in
theorem dX4_copyFrom_103 : decode cX4_copyFrom 103 = .ok (.putfield 40, 3) := by decide +kernel
set_option maxRecDepth 20000 in
theorem dX4_copyFrom_106 : decode cX4_copyFrom 106 = .ok (.aload_n 0, 1) := by decide +kernel
set_option maxRecDepth 20000 in
theorem dX4_copyFrom_107 : decode cX4_copyFrom 107 = .ok (.aload_n 1, 1) := by decide +kernel
set_option maxRecDepth 20000 in
theorem dX4_copyFrom_108 : decode cX4_copyFrom 108 = .ok (.getfield 43, 3) := by decide +kernel
set_option maxRecDepth 20000 in
theorem dX4_copyFrom_111 : decode cX4_copyFrom 111 = .ok (.putfield 43, 3) := by decide +kernel
set_option maxRecDepth 20000 in
theorem dX4_copyFrom_114 : decode cX4_copyFrom 114 = .ok (.aload_n 0, 1) := by decide +kernel
set_option maxRecDepth 20000 in
theorem dX4_copyFrom_115 : decode cX4_copyFrom 115 = .ok (.aload_n 1, 1) := by decide +kernel
set_option maxRecDepth 20000 in
theorem dX4_copyFrom_116 : decode cX4_copyFrom 116 = .ok (.getfield 46, 3) := by decide +kernel
set_option maxRecDepth 20000 in
theorem dX4_copyFrom_119 : decode cX4_copyFrom 119 = .ok (.putfield 46, 3) := by decide +kernel
set_option maxRecDepth 20000 in
theorem dX4_copyFrom_122 : decode cX4_copyFrom 122 = .ok (.aload_n 0, 1) := by decide +kernel
set_option maxRecDepth 20000 in
theorem dX4_copyFrom_123 : decode cX4_copyFrom 123 = .ok (.aload_n 1, 1) := by decide +kernel
set_option maxRecDepth 20000 in
theorem dX4_copyFrom_124 : decode cX4_copyFrom 124 = .ok (.getfield 49, 3) := by decide +kernel
set_option maxRecDepth 20000 in
theorem dX4_copyFrom_127 : decode cX4_copyFrom 127 = .ok (.putfield 49, 3) := by decide +kernel
set_option maxRecDepth 20000 in
theorem dX4_copyFrom_130 : decode cX4_copyFrom 130 = .ok (.aload_n 0, 1) := by decide +kernel
set_option maxRecDepth 20000 in
theorem dX4_copyFrom_131 : decode cX4_copyFrom 131 = .ok (.aload_n 1, 1) := by decide +kernel
set_option maxRecDepth 20000 in
theorem dX4_copyFrom_132 : decode cX4_copyFrom 132 = .ok (.getfield 52, 3) := by decide +kernel
set_option maxRecDepth 20000 in
theorem dX4_copyFrom_135 : decode cX4_copyFrom 135 = .ok (.putfield 52, 3) := by decide +kernel
set_option maxRecDepth 20000 in
theorem dX4_copyFrom_138 : decode cX4_copyFrom 138 = .ok (.return_, 1) := by decide +kernel
set_option maxRecDepth 20000 in
theorem dX4_copyRow_0 : decode cX4_copyRow 0 = .ok (.iconst 0, 1) := by decide +kernel
set_option maxRecDepth 20000 in
theorem dX4_copyRow_1 : decode cX4_copyRow 1 = .ok (.istore_n 2, 1) := by decide +kernel
set_option maxRecDepth 20000 in
theorem dX4_copyRow_2 : decode cX4_copyRow 2 = .ok (.iload_n 2, 1) := by decide +kernel
set_option maxRecDepth 20000 in
theorem dX4_copyRow_3 : decode cX4_copyRow 3 = .ok (.aload_n 0, 1) := by decide +kernel
set_option maxRecDepth 20000 in
theorem dX4_copyRow_4 : decode cX4_copyRow 4 = .ok (.arraylength, 1) := by decide +kernel
set_option maxRecDepth 20000 in
theorem dX4_copyRow_5 : decode cX4_copyRow 5 = .ok (.if_icmp .ge 21, 3) := by decide +kernel
set_option maxRecDepth 20000 in
theorem dX4_copyRow_8 : decode cX4_copyRow 8 = .ok (.iload_n 2, 1) := by decide +kernel
set_option maxRecDepth 20000 in
theorem dX4_copyRow_9 : decode cX4_copyRow 9 = .ok (.aload_n 1, 1) := by decide +kernel
set_option maxRecDepth 20000 in
theorem dX4_copyRow_10 : decode cX4_copyRow 10 = .ok (.arraylength, 1) := by decide +kernel
set_option maxRecDepth 20000 in
theorem dX4_copyRow_11 : decode cX4_copyRow 11 = .ok (.if_icmp .ge 15, 3) := by decide +kernel
set_option maxRecDepth 20000 in
theorem dX4_copyRow_14 : decode cX4_copyRow 14 = .ok (.aload_n 1, 1) := by decide +kernel
set_option maxRecDepth 20000 in
theorem dX4_copyRow_15 : decode cX4_copyRow 15 = .ok (.iload_n 2, 1) := by decide +kernel
set_option maxRecDepth 20000 in
theorem dX4_copyRow_16 : decode cX4_copyRow 16 = .ok (.aload_n 0, 1) := by decide +kernel
set_option maxRecDepth 20000 in
theorem dX4_copyRow_17 : decode cX4_copyRow 17 = .ok (.iload_n 2, 1) := by decide +kernel
set_option maxRecDepth 20000 in
theorem dX4_copyRow_18 : decode cX4_copyRow 18 = .ok (.iaload, 1) := by decide +kernel
set_option maxRecDepth 20000 in
theorem dX4_copyRow_19 : decode cX4_copyRow 19 = .ok (.iastore, 1) := by decide +kernel
set_option maxRecDepth 20000 in
theorem dX4_copyRow_20 : decode cX4_copyRow 20 = .ok (.iinc 2 1, 3) := by decide +kernel
set_option maxRecDepth 20000 in
theorem dX4_copyRow_23 : decode cX4_copyRow 23 = .ok (.goto (-21), 3) := by decide +kernel
set_option maxRecDepth 20000 in
theorem dX4_copyRow_26 : decode cX4_copyRow 26 = .ok (.return_, 1) := by decide +kernel
set_option maxRecDepth 20000 in
theorem dX4_setting_0 : decode cX4_setting 0 = .ok (.iload_n 1, 1) := by decide +kernel
set_option maxRecDepth 20000 in
theorem dX4_setting_1 : decode cX4_setting 1 = .ok (.ifCond .lt 21, 3) := by decide +kernel
set_option maxRecDepth 20000 in
theorem dX4_setting_4 : decode cX4_setting 4 = .ok (.iload_n 1, 1) := by decide +kernel
set_option maxRecDepth 20000 in
theorem dX4_setting_5 : decode cX4_setting 5 = .ok (.aload_n 0, 1) := by decide +kernel
set_option maxRecDepth 20000 in
theorem dX4_setting_6 : decode cX4_setting 6 = .ok (.getfield 25, 3) := by decide +kernel
set_option maxRecDepth 20000 in
theorem dX4_setting_9 : decode cX4_setting 9 = .ok (.arraylength, 1) := by decide +kernel
set_option maxRecDepth 20000 in
theorem dX4_setting_10 : decode cX4_setting 10 = .ok (.if_icmp .ge 12, 3) := by decide +kernel
set_option maxRecDepth 20000 in
theorem dX4_setting_13 : decode cX4_setting 13 = .ok (.aload_n 0, 1) := by decide +kernel
set_option maxRecDepth 20000 in
theorem dX4_setting_14 : decode cX4_setting 14 = .ok (.getfield 25, 3) := by decide +kernel
set_option maxRecDepth 20000 in
theorem dX4_setting_17 : decode cX4_setting 17 = .ok (.iload_n 1, 1) := by decide +kernel
set_option maxRecDepth 20000 in
theorem dX4_setting_18 : decode cX4_setting 18 = .ok (.iaload, 1) := by decide +kernel
set_option maxRecDepth 20000 in
theorem dX4_setting_19 : decode cX4_setting 19 = .ok (.goto 4, 3) := by decide +kernel
set_option maxRecDepth 20000 in
theorem dX4_setting_22 : decode cX4_setting 22 = .ok (.iconst 0, 1) := by decide +kernel
set_option maxRecDepth 20000 in
theorem dX4_setting_23 : decode cX4_setting 23 = .ok (.ireturn, 1) := by decide +kernel
set_option maxRecDepth 20000 in
theorem dX4_changeSetting_0 : decode cX4_changeSetting 0 = .ok (.iload_n 1, 1) := by decide +kernel
set_option maxRecDepth 20000 in
theorem dX4_changeSetting_1 : decode cX4_changeSetting 1 = .ok (.ifCond .lt 19, 3) := by decide +kernel
set_option maxRecDepth 20000 in
theorem dX4_changeSetting_4 : decode cX4_changeSetting 4 = .ok (.iload_n 1, 1) := by decide +kernel
set_option maxRecDepth 20000 in
theorem dX4_changeSetting_5 : decode cX4_changeSetting 5 = .ok (.aload_n 0, 1) := by decide +kernel
set_option maxRecDepth 20000 in
theorem dX4_changeSetting_6 : decode cX4_changeSetting 6 = .ok (.getfield 25, 3) := by decide +kernel
set_option maxRecDepth 20000 in
theorem dX4_changeSetting_9 : decode cX4_changeSetting 9 = .ok (.arraylength, 1) := by decide +kernel
set_option maxRecDepth 20000 in
theorem dX4_changeSetting_10 : decode cX4_changeSetting 10 = .ok (.if_icmp .ge 10, 3) := by decide +kernel
set_option maxRecDepth 20000 in
theorem dX4_changeSetting_13 : decode cX4_changeSetting 13 = .ok (.aload_n 0, 1) := by decide +kernel
set_option maxRecDepth 20000 in
theorem dX4_changeSetting_14 : decode cX4_changeSetting 14 = .ok (.getfield 25, 3) := by decide +kernel
set_option maxRecDepth 20000 in
theorem dX4_changeSetting_17 : decode cX4_changeSetting 17 = .ok (.iload_n 1, 1) := by decide +kernel
set_option maxRecDepth 20000 in
theorem dX4_changeSetting_18 : decode cX4_changeSetting 18 = .ok (.iload_n 2, 1) := by decide +kernel
set_option maxRecDepth 20000 in
theorem dX4_changeSetting_19 : decode cX4_changeSetting 19 = .ok (.iastore, 1) := by decide +kernel
set_option maxRecDepth 20000 in
theorem dX4_changeSetting_20 : decode cX4_changeSetting 20 = .ok (.return_, 1) := by decide +kernel
set_option maxRecDepth 20000 in
theorem dX4_hasEnd_0 : decode cX4_hasEnd 0 = .ok (.iload_n 1, 1) := by decide +kernel
set_option maxRecDepth 20000 in
theorem dX4_hasEnd_1 : decode cX4_hasEnd 1 = .ok (.ifCond .lt 15, 3) := by decide +kernel
set_option maxRecDepth 20000 in
theorem dX4_hasEnd_4 : decode cX4_hasEnd 4 = .ok (.iload_n 1, 1) := by decide +kernel
set_option maxRecDepth 20000 in
theorem dX4_hasEnd_5 : decode cX4_hasEnd 5 = .ok (.aload_n 0, 1) := by decide +kernel
set_option maxRecDepth 20000 in
theorem dX4_hasEnd_6 : decode cX4_hasEnd 6 = .ok (.getfield 9, 3) := by decide +kernel
set_option maxRecDepth 20000 in
theorem dX4_hasEnd_9 : decode cX4_hasEnd 9 = .ok (.if_icmp .ge 7, 3) := by decide +kernel
set_option maxRecDepth 20000 in
theorem dX4_hasEnd_12 : decode cX4_hasEnd 12 = .ok (.iconst 1, 1) := by decide +kernel
set_option maxRecDepth 20000 in
theorem dX4_hasEnd_13 : decode cX4_hasEnd 13 = .ok (.goto 4, 3) := by decide +kernel
set_option maxRecDepth 20000 in
theorem dX4_hasEnd_16 : decode cX4_hasEnd 16 = .ok (.iconst 0, 1) := by decide +kernel
set_option maxRecDepth 20000 in
theorem dX4_hasEnd_17 : decode cX4_hasEnd 17 = .ok (.ireturn, 1) := by decide +kernel
set_option maxRecDepth 20000 in
theorem dX4_openEnd_0 : decode cX4_openEnd 0 = .ok (.aload_n 0, 1) := by decide +kernel
set_option maxRecDepth 20000 in
theorem dX4_openEnd_1 : decode cX4_openEnd 1 = .ok (.getfield 9, 3) := by decide +kernel
set_option maxRecDepth 20000 in
theorem dX4_openEnd_4 : decode cX4_openEnd 4 = .ok (.istore_n 2, 1) := by decide +kernel
set_option maxRecDepth 20000 in
theorem dX4_openEnd_5 : decode cX4_openEnd 5 = .ok (.iload_n 2, 1) := by decide +kernel
set_option maxRecDepth 20000 in
theorem dX4_openEnd_6 : decode cX4_openEnd 6 = .ok (.ifCond .lt 12, 3) := by decide +kernel
set_option maxRecDepth 20000 in
theorem dX4_openEnd_9 : decode cX4_openEnd 9 = .ok (.iload_n 2, 1) := by decide +kernel
set_option maxRecDepth 20000 in
theorem dX4_openEnd_10 : decode cX4_openEnd 10 = .ok (.aload_n 0, 1) := by decide +kernel
set_option maxRecDepth 20000 in
theorem dX4_openEnd_11 : decode cX4_openEnd 11 = .ok (.getfield 15, 3) := by decide +kernel
set_option maxRecDepth 20000 in
theorem dX4_openEnd_14 : decode cX4_openEnd 14 = .ok (.arraylength, 1) := by decide +kernel
set_option maxRecDepth 20000 in
theorem dX4_openEnd_15 : decode cX4_openEnd 15 = .ok (.if_icmp .lt 6, 3) := by decide +kernel
set_option maxRecDepth 20000 in
theorem dX4_openEnd_18 : decode cX4_openEnd 18 = .ok (.bipush (-3), 2) := by decide +kernel
set_option maxRecDepth 20000 in
theorem dX4_openEnd_20 : decode cX4_openEnd 20 = .ok (.ireturn, 1) := by decide +kernel
set_option maxRecDepth 20000 in
theorem dX4_openEnd_21 : decode cX4_openEnd 21 = .ok (.aload_n 0, 1) := by decide +kernel
set_option maxRecDepth 20000 in
theorem dX4_openEnd_22 : decode cX4_openEnd 22 = .ok (.getfield 15, 3) := by decide +kernel
set_option maxRecDepth 20000 in
theorem dX4_openEnd_25 : decode cX4_openEnd 25 = .ok (.iload_n 2, 1) := by decide +kernel
set_option maxRecDepth 20000 in
theorem dX4_openEnd_26 : decode cX4_openEnd 26 = .ok (.iload_n 1, 1) := by decide +kernel
set_option maxRecDepth 20000 in
theorem dX4_openEnd_27 : decode cX4_openEnd 27 = .ok (.iastore, 1) := by decide +kernel
set_option maxRecDepth 20000 in
theorem dX4_openEnd_28 : decode cX4_openEnd 28 = .ok (.aload_n 0, 1) := by decide +kernel
set_option maxRecDepth 20000 in
theorem dX4_openEnd_29 : decode cX4_openEnd 29 = .ok (.iload_n 2, 1) := by decide +kernel
set_option maxRecDepth 20000 in
theorem dX4_openEnd_30 : decode cX4_openEnd 30 = .ok (.iconst 1, 1) := by decide +kernel
set_option maxRecDepth 20000 in
theorem dX4_openEnd_31 : decode cX4_openEnd 31 = .ok (.iadd, 1) := by decide +kernel
set_option maxRecDepth 20000 in
theorem dX4_openEnd_32 : decode cX4_openEnd 32 = .ok (.putfield 9, 3) := by decide +kernel
set_option maxRecDepth 20000 in
theorem dX4_openEnd_35 : decode cX4_openEnd 35 = .ok (.iload_n 2, 1) := by decide +kernel
set_option maxRecDepth 20000 in
theorem dX4_openEnd_36 : decode cX4_openEnd 36 = .ok (.ireturn, 1) := by decide +kernel
set_option maxRecDepth 20000 in
theorem dX4_minuteOf_0 : decode cX4_minuteOf 0 = .ok (.iload_n 1, 1) := by decide +kernel
set_option maxRecDepth 20000 in
theorem dX4_minuteOf_1 : decode cX4_minuteOf 1 = .ok (.ifCond .lt 21, 3) := by decide +kernel
set_option maxRecDepth 20000 in
theorem dX4_minuteOf_4 : decode cX4_minuteOf 4 = .ok (.iload_n 1, 1) := by decide +kernel
set_option maxRecDepth 20000 in
theorem dX4_minuteOf_5 : decode cX4_minuteOf 5 = .ok (.aload_n 0, 1) := by decide +kernel
set_option maxRecDepth 20000 in
theorem dX4_minuteOf_6 : decode cX4_minuteOf 6 = .ok (.getfield 15, 3) := by decide +kernel
set_option maxRecDepth 20000 in
theorem dX4_minuteOf_9 : decode cX4_minuteOf 9 = .ok (.arraylength, 1) := by decide +kernel
set_option maxRecDepth 20000 in
theorem dX4_minuteOf_10 : decode cX4_minuteOf 10 = .ok (.if_icmp .ge 12, 3) := by decide +kernel
set_option maxRecDepth 20000 in
theorem dX4_minuteOf_13 : decode cX4_minuteOf 13 = .ok (.aload_n 0, 1) := by decide +kernel
set_option maxRecDepth 20000 in
theorem dX4_minuteOf_14 : decode cX4_minuteOf 14 = .ok (.getfield 15, 3) := by decide +kernel
set_option maxRecDepth 20000 in
theorem dX4_minuteOf_17 : decode cX4_minuteOf 17 = .ok (.iload_n 1, 1) := by decide +kernel
set_option maxRecDepth 20000 in
theorem dX4_minuteOf_18 : decode cX4_minuteOf 18 = .ok (.iaload, 1) := by decide +kernel
set_option maxRecDepth 20000 in
theorem dX4_minuteOf_19 : decode cX4_minuteOf 19 = .ok (.goto 4, 3) := by decide +kernel
set_option maxRecDepth 20000 in
theorem dX4_minuteOf_22 : decode cX4_minuteOf 22 = .ok (.iconst 0, 1) := by decide +kernel
set_option maxRecDepth 20000 in
theorem dX4_minuteOf_23 : decode cX4_minuteOf 23 = .ok (.ireturn, 1) := by decide +kernel
set_option maxRecDepth 20000 in
theorem dX4_isEarlier_0 : decode cX4_isEarlier 0 = .ok (.aload_n 0, 1) := by decide +kernel
set_option maxRecDepth 20000 in
theorem dX4_isEarlier_1 : decode cX4_isEarlier 1 = .ok (.iload_n 1, 1) := by decide +kernel
set_option maxRecDepth 20000 in
theorem dX4_isEarlier_2 : decode cX4_isEarlier 2 = .ok (.invokevirtual 64, 3) := by decide +kernel
set_option maxRecDepth 20000 in
theorem dX4_isEarlier_5 : decode cX4_isEarlier 5 = .ok (.aload_n 0, 1) := by decide +kernel
set_option maxRecDepth 20000 in
theorem dX4_isEarlier_6 : decode cX4_isEarlier 6 = .ok (.iload_n 2, 1) := by decide +kernel
set_option maxRecDepth 20000 in
theorem dX4_isEarlier_7 : decode cX4_isEarlier 7 = .ok (.invokevirtual 64, 3) := by decide +kernel
set_option maxRecDepth 20000 in
theorem dX4_isEarlier_10 : decode cX4_isEarlier 10 = .ok (.isub, 1) := by decide +kernel
set_option maxRecDepth 20000 in
theorem dX4_isEarlier_11 : decode cX4_isEarlier 11 = .ok (.istore_n 3, 1) := by decide +kernel
set_option maxRecDepth 20000 in
theorem dX4_isEarlier_12 : decode cX4_isEarlier 12 = .ok (.iload_n 3, 1) := by decide +kernel
set_option maxRecDepth 20000 in
theorem dX4_isEarlier_13 : decode cX4_isEarlier 13 = .ok (.ifCond .eq 15, 3) := by decide +kernel
set_option maxRecDepth 20000 in
theorem dX4_isEarlier_16 : decode cX4_isEarlier 16 = .ok (.iload_n 3, 1) := by decide +kernel
set_option maxRecDepth 20000 in
theorem dX4_isEarlier_17 : decode cX4_isEarlier 17 = .ok (.ifCond .ge 7, 3) := by decide +kernel
set_option maxRecDepth 20000 in
theorem dX4_isEarlier_20 : decode cX4_isEarlier 20 = .ok (.iconst 1, 1) := by decide +kernel
set_option maxRecDepth 20000 in
theorem dX4_isEarlier_21 : decode cX4_isEarlier 21 = .ok (.goto 17, 3) := by decide +kernel
set_option maxRecDepth 20000 in
theorem dX4_isEarlier_24 : decode cX4_isEarlier 24 = .ok (.iconst 0, 1) := by decide +kernel
set_option maxRecDepth 20000 in
theorem dX4_isEarlier_25 : decode cX4_isEarlier 25 = .ok (.goto 13, 3) := by decide +kernel
set_option maxRecDepth 20000 in
theorem dX4_isEarlier_28 : decode cX4_isEarlier 28 = .ok (.iload_n 1, 1) := by decide +kernel
set_option maxRecDepth 20000 in
theorem dX4_isEarlier_29 : decode cX4_isEarlier 29 = .ok (.iload_n 2, 1) := by decide +kernel
set_option maxRecDepth 20000 in
theorem dX4_isEarlier_30 : decode cX4_isEarlier 30 = .ok (.if_icmp .ge 7, 3) := by decide +kernel
set_option maxRecDepth 20000 in
theorem dX4_isEarlier_33 : decode cX4_isEarlier 33 = .ok (.iconst 1, 1) := by decide +kernel
set_option maxRecDepth 20000 in
theorem dX4_isEarlier_34 : decode cX4_isEarlier 34 = .ok (.goto 4, 3) := by decide +kernel
set_option maxRecDepth 20000 in
theorem dX4_isEarlier_37 : decode cX4_isEarlier 37 = .ok (.iconst 0, 1) := by decide +kernel
set_option maxRecDepth 20000 in
theorem dX4_isEarlier_38 : decode cX4_isEarlier 38 = .ok (.ireturn, 1) := by decide +kernel
set_option maxRecDepth 20000 in
theorem dX4_endOfRank_0 : decode cX4_endOfRank 0 = .ok (.iconst 0, 1) := by decide +kernel
set_option maxRecDepth 20000 in
theorem dX4_endOfRank_1 : decode cX4_endOfRank 1 = .ok (.istore_n 2, 1) := by decide +kernel
set_option maxRecDepth 20000 in
theorem dX4_endOfRank_2 : decode cX4_endOfRank 2 = .ok (.iload_n 2, 1) := by decide +kernel
set_option maxRecDepth 20000 in
theorem dX4_endOfRank_3 : decode cX4_endOfRank 3 = .ok (.aload_n 0, 1) := by decide +kernel
set_option maxRecDepth 20000 in
theorem dX4_endOfRank_4 : decode cX4_endOfRank 4 = .ok (.getfield 9, 3) := by decide +kernel
set_option maxRecDepth 20000 in
theorem dX4_endOfRank_7 : decode cX4_endOfRank 7 = .ok (.if_icmp .ge 20, 3) := by decide +kernel
set_option maxRecDepth 20000 in
theorem dX4_endOfRank_10 : decode cX4_endOfRank 10 = .ok (.aload_n 0, 1) := by decide +kernel
set_option maxRecDepth 20000 in
theorem dX4_endOfRank_11 : decode cX4_endOfRank 11 = .ok (.iload_n 2, 1) := by decide +kernel
set_option maxRecDepth 20000 in
theorem dX4_endOfRank_12 : decode cX4_endOfRank 12 = .ok (.invokevirtual 68, 3) := by decide +kernel
set_option maxRecDepth 20000 in
theorem dX4_endOfRank_15 : decode cX4_endOfRank 15 = .ok (.iload_n 1, 1) := by decide +kernel
set_option maxRecDepth 20000 in
theorem dX4_endOfRank_16 : decode cX4_endOfRank 16 = .ok (.if_icmp .ne 5, 3) := by decide +kernel
set_option maxRecDepth 20000 in
theorem dX4_endOfRank_19 : decode cX4_endOfRank 19 = .ok (.iload_n 2, 1) := by decide +kernel
set_option maxRecDepth 20000 in
theorem dX4_endOfRank_20 : decode cX4_endOfRank 20 = .ok (.ireturn, 1) := by decide +kernel
set_option maxRecDepth 20000 in
theorem dX4_endOfRank_21 : decode cX4_endOfRank 21 = .ok (.iinc 2 1, 3) := by decide +kernel
set_option maxRecDepth 20000 in
theorem dX4_endOfRank_24 : decode cX4_endOfRank 24 = .ok (.goto (-22), 3) := by decide +kernel
set_option maxRecDepth 20000 in
theorem dX4_endOfRank_27 : decode cX4_endOfRank 27 = .ok (.bipush (-5), 2) := by decide +kernel
set_option maxRecDepth 20000 in
theorem dX4_endOfRank_29 : decode cX4_endOfRank 29 = .ok (.ireturn, 1) := by decide +kernel
set_option maxRecDepth 20000 in
theorem dX4_rankOf_0 : decode cX4_rankOf 0 = .ok (.iconst 0, 1) := by decide +kernel
set_option maxRecDepth 20000 in
theorem dX4_rankOf_1 : decode cX4_rankOf 1 = .ok (.istore_n 2, 1) := by decide +kernel
set_option maxRecDepth 20000 in
theorem dX4_rankOf_2 : decode cX4_rankOf 2 = .ok (.iconst 0, 1) := by decide +kernel
set_option maxRecDepth 20000 in
theorem dX4_rankOf_3 : decode cX4_rankOf 3 = .ok (.istore_n 3, 1) := by decide +kernel
set_option maxRecDepth 20000 in
theorem dX4_rankOf_4 : decode cX4_rankOf 4 = .ok (.iload_n 3, 1) := by decide +kernel
set_option maxRecDepth 20000 in
theorem dX4_rankOf_5 : decode cX4_rankOf 5 = .ok (.aload_n 0, 1) := by decide +kernel
set_option maxRecDepth 20000 in
theorem dX4_rankOf_6 : decode cX4_rankOf 6 = .ok (.getfield 9, 3) := by decide +kernel
set_option maxRecDepth 20000 in
theorem dX4_rankOf_9 : decode cX4_rankOf 9 = .ok (.if_icmp .ge 21, 3) := by decide +kernel
set_option maxRecDepth 20000 in
theorem dX4_rankOf_12 : decode cX4_rankOf 12 = .ok (.aload_n 0, 1) := by decide +kernel
set_option maxRecDepth 20000 in
theorem dX4_rankOf_13 : decode cX4_rankOf 13 = .ok (.iload_n 3, 1) := by decide +kernel
set_option maxRecDepth 20000 in
theorem dX4_rankOf_14 : decode cX4_rankOf 14 = .ok (.iload_n 1, 1) := by decide +kernel
set_option maxRecDepth 20000 in
theorem dX4_rankOf_15 : decode cX4_rankOf 15 = .ok (.invokevirtual 71, 3) := by decide +kernel
set_option maxRecDepth 20000 in
theorem dX4_rankOf_18 : decode cX4_rankOf 18 = .ok (.ifCond .eq 6, 3) := by decide +kernel
set_option maxRecDepth 20000 in
theorem dX4_rankOf_21 : decode cX4_rankOf 21 = .ok (.iinc 2 1, 3) := by decide +kernel
set_option maxRecDepth 20000 in
theorem dX4_rankOf_24 : decode cX4_rankOf 24 = .ok (.iinc 3 1, 3) := by decide +kernel
set_option maxRecDepth 20000 in
theorem dX4_rankOf_27 : decode cX4_rankOf 27 = .ok (.goto (-23), 3) := by decide +kernel
set_option maxRecDepth 20000 in
theorem dX4_rankOf_30 : decode cX4_rankOf 30 = .ok (.iload_n 2, 1) := by decide +kernel
set_option maxRecDepth 20000 in
theorem dX4_rankOf_31 : decode cX4_rankOf 31 = .ok (.ireturn, 1) := by decide +kernel
set_option maxRecDepth 20000 in
theorem dX4_bookingOf_0 : decode cX4_bookingOf 0 = .ok (.aload_n 0, 1) := by decide +kernel
set_option maxRecDepth 20000 in
theorem dX4_bookingOf_1 : decode cX4_bookingOf 1 = .ok (.getfield 30, 3) := by decide +kernel
set_option maxRecDepth 20000 in
theorem dX4_bookingOf_4 : decode cX4_bookingOf 4 = .ok (.astore_n 2, 1) := by decide +kernel
set_option maxRecDepth 20000 in
theorem dX4_bookingOf_5 : decode cX4_bookingOf 5 = .ok (.aload_n 2, 1) := by decide +kernel
set_option maxRecDepth 20000 in
theorem dX4_bookingOf_6 : decode cX4_bookingOf 6 = .ok (.arraylength, 1) := by decide +kernel
set_option maxRecDepth 20000 in
theorem dX4_bookingOf_7 : decode cX4_bookingOf 7 = .ok (.istore_n 3, 1) := by decide +kernel
set_option maxRecDepth 20000 in
theorem dX4_bookingOf_8 : decode cX4_bookingOf 8 = .ok (.iconst 0, 1) := by decide +kernel
set_option maxRecDepth 20000 in
theorem dX4_bookingOf_9 : decode cX4_bookingOf 9 = .ok (.istore 4, 2) := by decide +kernel
set_option maxRecDepth 20000 in
theorem dX4_bookingOf_11 : decode cX4_bookingOf 11 = .ok (.iload 4, 2) := by decide +kernel
set_option maxRecDepth 20000 in
theorem dX4_bookingOf_13 : decode cX4_bookingOf 13 = .ok (.iload_n 3, 1) := by decide +kernel
set_option maxRecDepth 20000 in
theorem dX4_bookingOf_14 : decode cX4_bookingOf 14 = .ok (.if_icmp .ge 35, 3) := by decide +kernel
set_option maxRecDepth 20000 in
theorem dX4_bookingOf_17 : decode cX4_bookingOf 17 = .ok (.aload_n 2, 1) := by decide +kernel
set_option maxRecDepth 20000 in
theorem dX4_bookingOf_18 : decode cX4_bookingOf 18 = .ok (.iload 4, 2) := by decide +kernel
set_option maxRecDepth 20000 in
theorem dX4_bookingOf_20 : decode cX4_bookingOf 20 = .ok (.aaload, 1) := by decide +kernel
set_option maxRecDepth 20000 in
theorem dX4_bookingOf_21 : decode cX4_bookingOf 21 = .ok (.astore 5, 2) := by decide +kernel
set_option maxRecDepth 20000 in
theorem dX4_bookingOf_23 : decode cX4_bookingOf 23 = .ok (.aload 5, 2) := by decide +kernel
set_option maxRecDepth 20000 in
theorem dX4_bookingOf_25 : decode cX4_bookingOf 25 = .ok (.invokevirtual 75, 3) := by decide +kernel
set_option maxRecDepth 20000 in
theorem dX4_bookingOf_28 : decode cX4_bookingOf 28 = .ok (.ifCond .eq 15, 3) := by decide +kernel
set_option maxRecDepth 20000 in
theorem dX4_bookingOf_31 : decode cX4_bookingOf 31 = .ok (.aload 5, 2) := by decide +kernel
set_option maxRecDepth 20000 in
theorem dX4_bookingOf_33 : decode cX4_bookingOf 33 = .ok (.getfield 79, 3) := by decide +kernel
set_option maxRecDepth 20000 in
theorem dX4_bookingOf_36 : decode cX4_bookingOf 36 = .ok (.iload_n 1, 1) := by decide +kernel
set_option maxRecDepth 20000 in
theorem dX4_bookingOf_37 : decode cX4_bookingOf 37 = .ok (.if_icmp .ne 6, 3) := by decide +kernel
set_option maxRecDepth 20000 in
theorem dX4_bookingOf_40 : decode cX4_bookingOf 40 = .ok (.aload 5, 2) := by decide +kernel
set_option maxRecDepth 20000 in
theorem dX4_bookingOf_42 : decode cX4_bookingOf 42 = .ok (.areturn, 1) := by decide +kernel
set_option maxRecDepth 20000 in
theorem dX4_bookingOf_43 : decode cX4_bookingOf 43 = .ok (.iinc 4 1, 3) := by decide +kernel
set_option maxRecDepth 20000 in
theorem dX4_bookingOf_46 : decode cX4_bookingOf 46 = .ok (.goto (-35), 3) := by decide +kernel
set_option maxRecDepth 20000 in
theorem dX4_bookingOf_49 : decode cX4_bookingOf 49 = .ok (.aconst_null, 1) := by decide +kernel
set_option maxRecDepth 20000 in
theorem dX4_bookingOf_50 : decode cX4_bookingOf 50 = .ok (.areturn, 1) := by decide +kernel
set_option maxRecDepth 20000 in
theorem dX4_enter_0 : decode cX4_enter 0 = .ok (.aload_n 0, 1) := by decide +kernel
set_option maxRecDepth 20000 in
theorem dX4_enter_1 : decode cX4_enter 1 = .ok (.iload_n 2, 1) := by decide +kernel
set_option maxRecDepth 20000 in
theorem dX4_enter_2 : decode cX4_enter 2 = .ok (.iload_n 1, 1) := by decide +kernel
set_option maxRecDepth 20000 in
theorem dX4_enter_3 : decode cX4_enter 3 = .ok (.iload_n 3, 1) := by decide +kernel
set_option maxRecDepth 20000 in
theorem dX4_enter_4 : decode cX4_enter 4 = .ok (.aconst_null, 1) := by decide +kernel
set_option maxRecDepth 20000 in
theorem dX4_enter_5 : decode cX4_enter 5 = .ok (.invokevirtual 82, 3) := by decide +kernel
set_option maxRecDepth 20000 in
theorem dX4_enter_8 : decode cX4_enter 8 = .ok (.ifCond .ne 7, 3) := by decide +kernel
set_option maxRecDepth 20000 in
theorem dX4_enter_11 : decode cX4_enter 11 = .ok (.iconst 1, 1) := by decide +kernel
set_option maxRecDepth 20000 in
theorem dX4_enter_12 : decode cX4_enter 12 = .ok (.goto 4, 3) := by decide +kernel
set_option maxRecDepth 20000 in
theorem dX4_enter_15 : decode cX4_enter 15 = .ok (.iconst 0, 1) := by decide +kernel
set_option maxRecDepth 20000 in
theorem dX4_enter_16 : decode cX4_enter 16 = .ok (.istore 4, 2) := by decide +kernel
set_option maxRecDepth 20000 in
theorem dX4_enter_18 : decode cX4_enter 18 = .ok (.aload_n 0, 1) := by decide +kernel
set_option maxRecDepth 20000 in
theorem dX4_enter_19 : decode cX4_enter 19 = .ok (.getfield 30, 3) := by decide +kernel
set_option maxRecDepth 20000 in
theorem dX4_enter_22 : decode cX4_enter 22 = .ok (.astore 5, 2) := by decide +kernel
set_option maxRecDepth 20000 in
theorem dX4_enter_24 : decode cX4_enter 24 = .ok (.aload 5, 2) := by decide +kernel
set_option maxRecDepth 20000 in
theorem dX4_enter_26 : decode cX4_enter 26 = .ok (.arraylength, 1) := by decide +kernel
set_option maxRecDepth 20000 in
theorem dX4_enter_27 : decode cX4_enter 27 = .ok (.istore 6, 2) := by decide +kernel
set_option maxRecDepth 20000 in
theorem dX4_enter_29 : decode cX4_enter 29 = .ok (.iconst 0, 1) := by decide +kernel
set_option maxRecDepth 20000 in
theorem dX4_enter_30 : decode cX4_enter 30 = .ok (.istore 7, 2) := by decide +kernel
set_option maxRecDepth 20000 in
theorem dX4_enter_32 : decode cX4_enter 32 = .ok (.iload 7, 2) := by decide +kernel
set_option maxRecDepth 20000 in
theorem dX4_enter_34 : decode cX4_enter 34 = .ok (.iload 6, 2) := by decide +kernel
set_option maxRecDepth 20000 in
theorem dX4_enter_36 : decode cX4_enter 36 = .ok (.if_icmp .ge 74, 3) := by decide +kernel
set_option maxRecDepth 20000 in
theorem dX4_enter_39 : decode cX4_enter 39 = .ok (.aload 5, 2) := by decide +kernel
set_option maxRecDepth 20000 in
theorem dX4_enter_41 : decode cX4_enter 41 = .ok (.iload 7, 2) := by decide +kernel
set_option maxRecDepth 20000 in
theorem dX4_enter_43 : decode cX4_enter 43 = .ok (.aaload, 1) := by decide +kernel
set_option maxRecDepth 20000 in
theorem dX4_enter_44 : decode cX4_enter 44 = .ok (.astore 8, 2) := by decide +kernel
set_option maxRecDepth 20000 in
theorem dX4_enter_46 : decode cX4_enter 46 = .ok (.aload 8, 2) := by decide +kernel
set_option maxRecDepth 20000 in
theorem dX4_enter_48 : decode cX4_enter 48 = .ok (.invokevirtual 75, 3) := by decide +kernel
set_option maxRecDepth 20000 in
theorem dX4_enter_51 : decode cX4_enter 51 = .ok (.ifCond .ne 53, 3) := by decide +kernel
set_option maxRecDepth 20000 in
theorem dX4_enter_54 : decode cX4_enter 54 = .ok (.aload 8, 2) := by decide +kernel
set_option maxRecDepth 20000 in
theorem dX4_enter_56 : decode cX4_enter 56 = .ok (.aload_n 0, 1) := by decide +kernel
set_option maxRecDepth 20000 in
theorem dX4_enter_57 : decode cX4_enter 57 = .ok (.getfield 34, 3) := by decide +kernel
set_option maxRecDepth 20000 in
theorem dX4_enter_60 : decode cX4_enter 60 = .ok (.putfield 79, 3) := by decide +kernel
set_option maxRecDepth 20000 in
theorem dX4_enter_63 : decode cX4_enter 63 = .ok (.aload 8, 2) := by decide +kernel
set_option maxRecDepth 20000 in
theorem dX4_enter_65 : decode cX4_enter 65 = .ok (.iload_n 1, 1) := by decide +kernel
set_option maxRecDepth 20000 in
theorem dX4_enter_66 : decode cX4_enter 66 = .ok (.putfield 86, 3) := by decide +kernel
set_option maxRecDepth 20000 in
theorem dX4_enter_69 : decode cX4_enter 69 = .ok (.aload 8, 2) := by decide +kernel
set_option maxRecDepth 20000 in
theorem dX4_enter_71 : decode cX4_enter 71 = .ok (.iload_n 2, 1) := by decide +kernel
set_option maxRecDepth 20000 in
theorem dX4_enter_72 : decode cX4_enter 72 = .ok (.putfield 89, 3) := by decide +kernel
set_option maxRecDepth 20000 in
theorem dX4_enter_75 : decode cX4_enter 75 = .ok (.aload 8, 2) := by decide +kernel
set_option maxRecDepth 20000 in
theorem dX4_enter_77 : decode cX4_enter 77 = .ok (.iload_n 3, 1) := by decide +kernel
set_option maxRecDepth 20000 in
theorem dX4_enter_78 : decode cX4_enter 78 = .ok (.putfield 92, 3) := by decide +kernel
set_option maxRecDepth 20000 in
theorem dX4_enter_81 : decode cX4_enter 81 = .ok (.aload 8, 2) := by decide +kernel
set_option maxRecDepth 20000 in
theorem dX4_enter_83 : decode cX4_enter 83 = .ok (.iload 4, 2) := by decide +kernel
set_option maxRecDepth 20000 in
theorem dX4_enter_85 : decode cX4_enter 85 = .ok (.putfield 95, 3) := by decide +kernel
set_option maxRecDepth 20000 in
theorem dX4_enter_88 : decode cX4_enter 88 = .ok (.aload_n 0, 1) := by decide +kernel
set_option maxRecDepth 20000 in
theorem dX4_enter_89 : decode cX4_enter 89 = .ok (.dup, 1) := by decide +kernel
set_option maxRecDepth 20000 in
theorem dX4_enter_90 : decode cX4_enter 90 = .ok (.getfield 34, 3) := by decide +kernel
set_option maxRecDepth 20000 in
theorem dX4_enter_93 : decode cX4_enter 93 = .ok (.iconst 1, 1) := by decide +kernel
set_option maxRecDepth 20000 in
theorem dX4_enter_94 : decode cX4_enter 94 = .ok (.iadd, 1) := by decide +kernel
set_option maxRecDepth 20000 in
theorem dX4_enter_95 : decode cX4_enter 95 = .ok (.putfield 34, 3) := by decide +kernel
set_option maxRecDepth 20000 in
theorem dX4_enter_98 : decode cX4_enter 98 = .ok (.aload 8, 2) := by decide +kernel
set_option maxRecDepth 20000 in
theorem dX4_enter_100 : decode cX4_enter 100 = .ok (.getfield 79, 3) := by decide +kernel
set_option maxRecDepth 20000 in
theorem dX4_enter_103 : decode cX4_enter 103 = .ok (.ireturn, 1) := by decide +kernel
set_option maxRecDepth 20000 in
theorem dX4_enter_104 : decode cX4_enter 104 = .ok (.iinc 7 1, 3) := by decide +kernel
set_option maxRecDepth 20000 in
theorem dX4_enter_107 : decode cX4_enter 107 = .ok (.goto (-75), 3) := by decide +kernel
set_option maxRecDepth 20000 in
theorem dX4_enter_110 : decode cX4_enter 110 = .ok (.bipush (-3), 2) := by decide +kernel
set_option maxRecDepth 20000 in
theorem dX4_enter_112 : decode cX4_enter 112 = .ok (.ireturn, 1) := by decide +kernel
set_option maxRecDepth 20000 in
theorem dX4_workerCount_0 : decode cX4_workerCount 0 = .ok (.iconst 0, 1) := by decide +kernel
set_option maxRecDepth 20000 in
theorem dX4_workerCount_1 : decode cX4_workerCount 1 = .ok (.istore_n 1, 1) := by decide +kernel
set_option maxRecDepth 20000 in
theorem dX4_workerCount_2 : decode cX4_workerCount 2 = .ok (.aload_n 0, 1) := by decide +kernel
set_option maxRecDepth 20000 in
theorem dX4_workerCount_3 : decode cX4_workerCount 3 = .ok (.getfield 30, 3) := by decide +kernel
set_option maxRecDepth 20000 in
theorem dX4_workerCount_6 : decode cX4_workerCount 6 = .ok (.astore_n 2, 1) := by decide +kernel
set_option maxRecDepth 20000 in
theorem dX4_workerCount_7 : decode cX4_workerCount 7 = .ok (.aload_n 2, 1) := by decide +kernel
set_option maxRecDepth 20000 in
theorem dX4_workerCount_8 : decode cX4_workerCount 8 = .ok (.arraylength, 1) := by decide +kernel
set_option maxRecDepth 20000 in
theorem dX4_workerCount_9 : decode cX4_workerCount 9 = .ok (.istore_n 3, 1) := by decide +kernel
set_option maxRecDepth 20000 in
theorem dX4_workerCount_10 : decode cX4_workerCount 10 = .ok (.iconst 0, 1) := by decide +kernel
set_option maxRecDepth 20000 in
theorem dX4_workerCount_11 : decode cX4_workerCount 11 = .ok (.istore 4, 2) := by decide +kernel
set_option maxRecDepth 20000 in
theorem dX4_workerCount_13 : decode cX4_workerCount 13 = .ok (.iload 4, 2) := by decide +kernel
set_option maxRecDepth 20000 in
theorem dX4_workerCount_15 : decode cX4_workerCount 15 = .ok (.iload_n 3, 1) := by decide +kernel
set_option maxRecDepth 20000 in
theorem dX4_workerCount_16 : decode cX4_workerCount 16 = .ok (.if_icmp .ge 26, 3) := by decide +kernel
set_option maxRecDepth 20000 in
theorem dX4_workerCount_19 : decode cX4_workerCount 19 = .ok (.aload_n 2, 1) := by decide +kernel
set_option maxRecDepth 20000 in
theorem dX4_workerCount_20 : decode cX4_workerCount 20 = .ok (.iload 4, 2) := by decide +kernel
set_option maxRecDepth 20000 in
theorem dX4_workerCount_22 : decode cX4_workerCount 22 = .ok (.aaload, 1) := by decide +kernel
set_option maxRecDepth 20000 in
theorem dX4_workerCount_23 : decode cX4_workerCount 23 = .ok (.astore 5, 2) := by decide +kernel
set_option maxRecDepth 20000 in
theorem dX4_workerCount_25 : decode cX4_workerCount 25 = .ok (.aload 5, 2) := by decide +kernel
set_option maxRecDepth 20000 in
theorem dX4_workerCount_27 : decode cX4_workerCount 27 = .ok (.invokevirtual 75, 3) := by decide +kernel
set_option maxRecDepth 20000 in
theorem dX4_workerCount_30 : decode cX4_workerCount 30 = .ok (.ifCond .eq 6, 3) := by decide +kernel
set_option maxRecDepth 20000 in
theorem dX4_workerCount_33 : decode cX4_workerCount 33 = .ok (.iinc 1 1, 3) := by decide +kernel
set_option maxRecDepth 20000 in
theorem dX4_workerCount_36 : decode cX4_workerCount 36 = .ok (.iinc 4 1, 3) := by decide +kernel
set_option maxRecDepth 20000 in
theorem dX4_workerCount_39 : decode cX4_workerCount 39 = .ok (.goto (-26), 3) := by decide +kernel
set_option maxRecDepth 20000 in
theorem dX4_workerCount_42 : decode cX4_workerCount 42 = .ok (.iload_n 1, 1) := by decide +kernel
set_option maxRecDepth 20000 in
theorem dX4_workerCount_43 : decode cX4_workerCount 43 = .ok (.ireturn, 1) := by decide +kernel
set_option maxRecDepth 20000 in
theorem dX4_waitingCount_0 : decode cX4_waitingCount 0 = .ok (.iconst 0, 1) := by decide +kernel
set_option maxRecDepth 20000 in
theorem dX4_waitingCount_1 : decode cX4_waitingCount 1 = .ok (.istore_n 1, 1) := by decide +kernel
set_option maxRecDepth 20000 in
theorem dX4_waitingCount_2 : decode cX4_waitingCount 2 = .ok (.aload_n 0, 1) := by decide +kernel
set_option maxRecDepth 20000 in
theorem dX4_waitingCount_3 : decode cX4_waitingCount 3 = .ok (.getfield 30, 3) := by decide +kernel
set_option maxRecDepth 20000 in
theorem dX4_waitingCount_6 : decode cX4_waitingCount 6 = .ok (.astore_n 2, 1) := by decide +kernel
set_option maxRecDepth 20000 in
theorem dX4_waitingCount_7 : decode cX4_waitingCount 7 = .ok (.aload_n 2, 1) := by decide +kernel
set_option maxRecDepth 20000 in
theorem dX4_waitingCount_8 : decode cX4_waitingCount 8 = .ok (.arraylength, 1) := by decide +kernel
set_option maxRecDepth 20000 in
theorem dX4_waitingCount_9 : decode cX4_waitingCount 9 = .ok (.istore_n 3, 1) := by decide +kernel
set_option maxRecDepth 20000 in
theorem dX4_waitingCount_10 : decode cX4_waitingCount 10 = .ok (.iconst 0, 1) := by decide +kernel
set_option maxRecDepth 20000 in
theorem dX4_waitingCount_11 : decode cX4_waitingCount 11 = .ok (.istore 4, 2) := by decide +kernel
set_option maxRecDepth 20000 in
theorem dX4_waitingCount_13 : decode cX4_waitingCount 13 = .ok (.iload 4, 2) := by decide +kernel
set_option maxRecDepth 20000 in
theorem dX4_waitingCount_15 : decode cX4_waitingCount 15 = .ok (.iload_n 3, 1) := by decide +kernel
set_option maxRecDepth 20000 in
theorem dX4_waitingCount_16 : decode cX4_waitingCount 16 = .ok (.if_icmp .ge 26, 3) := by decide +kernel
set_option maxRecDepth 20000 in
theorem dX4_waitingCount_19 : decode cX4_waitingCount 19 = .ok (.aload_n 2, 1) := by decide +kernel
set_option maxRecDepth 20000 in
theorem dX4_waitingCount_20 : decode cX4_waitingCount 20 = .ok (.iload 4, 2) := by decide +kernel
set_option maxRecDepth 20000 in
theorem dX4_waitingCount_22 : decode cX4_waitingCount 22 = .ok (.aaload, 1) := by decide +kernel
set_option maxRecDepth 20000 in
theorem dX4_waitingCount_23 : decode cX4_waitingCount 23 = .ok (.astore 5, 2) := by decide +kernel
set_option maxRecDepth 20000 in
theorem dX4_waitingCount_25 : decode cX4_waitingCount 25 = .ok (.aload 5, 2) := by decide +kernel
set_option maxRecDepth 20000 in
theorem dX4_waitingCount_27 : decode cX4_waitingCount 27 = .ok (.invokevirtual 99, 3) := by decide +kernel
set_option maxRecDepth 20000 in
theorem dX4_waitingCount_30 : decode cX4_waitingCount 30 = .ok (.ifCond .eq 6, 3) := by decide +kernel
set_option maxRecDepth 20000 in
theorem dX4_waitingCount_33 : decode cX4_waitingCount 33 = .ok (.iinc 1 1, 3) := by decide +kernel
set_option maxRecDepth 20000 in
theorem dX4_waitingCount_36 : decode cX4_waitingCount 36 = .ok (.iinc 4 1, 3) := by decide +kernel
set_option maxRecDepth 20000 in
theorem dX4_waitingCount_39 : decode cX4_waitingCount 39 = .ok (.goto (-26), 3) := by decide +kernel
set_option maxRecDepth 20000 in
theorem dX4_waitingCount_42 : decode cX4_waitingCount 42 = .ok (.iload_n 1, 1) := by decide +kernel
set_option maxRecDepth 20000 in
theorem dX4_waitingCount_43 : decode cX4_waitingCount 43 = .ok (.ireturn, 1) := by decide +kernel
set_option maxRecDepth 20000 in
theorem dX4_reason_0 : decode cX4_reason 0 = .ok (.aload_n 0, 1) := by decide +kernel
set_option maxRecDepth 20000 in
theorem dX4_reason_1 : decode cX4_reason 1 = .ok (.iload_n 2, 1) := by decide +kernel
set_option maxRecDepth 20000 in
theorem dX4_reason_2 : decode cX4_reason 2 = .ok (.invokevirtual 102, 3) := by decide +kernel
set_option maxRecDepth 20000 in
theorem dX4_reason_5 : decode cX4_reason 5 = .ok (.ifCond .ne 5, 3) := by decide +kernel
set_option maxRecDepth 20000 in
theorem dX4_reason_8 : decode cX4_reason 8 = .ok (.iconst 1, 1) := by decide +kernel
set_option maxRecDepth 20000 in
theorem dX4_reason_9 : decode cX4_reason 9 = .ok (.ireturn, 1) := by decide +kernel
set_option maxRecDepth 20000 in
theorem dX4_reason_10 : decode cX4_reason 10 = .ok (.aload_n 0, 1) := by decide +kernel
set_option maxRecDepth 20000 in
theorem dX4_reason_11 : decode cX4_reason 11 = .ok (.iload_n 1, 1) := by decide +kernel
set_option maxRecDepth 20000 in
theorem dX4_reason_12 : decode cX4_reason 12 = .ok (.iload_n 2, 1) := by decide +kernel
set_option maxRecDepth 20000 in
theorem dX4_reason_13 : decode cX4_reason 13 = .ok (.aload_n 0, 1) := by decide +kernel
set_option maxRecDepth 20000 in
theorem dX4_reason_14 : decode cX4_reason 14 = .ok (.iload_n 1, 1) := by decide +kernel
set_option maxRecDepth 20000 in
theorem dX4_reason_15 : decode cX4_reason 15 = .ok (.iload_n 2, 1) := by decide +kernel
set_option maxRecDepth 20000 in
theorem dX4_reason_16 : decode cX4_reason 16 = .ok (.invokevirtual 106, 3) := by decide +kernel
set_option maxRecDepth 20000 in
theorem dX4_reason_19 : decode cX4_reason 19 = .ok (.iconst 1, 1) := by decide +kernel
set_option maxRecDepth 20000 in
theorem dX4_reason_20 : decode cX4_reason 20 = .ok (.aload 4, 2) := by decide +kernel
set_option maxRecDepth 20000 in
theorem dX4_reason_22 : decode cX4_reason 22 = .ok (.invokevirtual 110, 3) := by decide +kernel
set_option maxRecDepth 20000 in
theorem dX4_reason_25 : decode cX4_reason 25 = .ok (.aload_n 0, 1) := by decide +kernel
set_option maxRecDepth 20000 in
theorem dX4_reason_26 : decode cX4_reason 26 = .ok (.iconst 1, 1) := by decide +kernel
set_option maxRecDepth 20000 in
theorem dX4_reason_27 : decode cX4_reason 27 = .ok (.invokevirtual 114, 3) := by decide +kernel
set_option maxRecDepth 20000 in
theorem dX4_reason_30 : decode cX4_reason 30 = .ok (.if_icmp .lt 5, 3) := by decide +kernel
set_option maxRecDepth 20000 in
theorem dX4_reason_33 : decode cX4_reason 33 = .ok (.iconst 2, 1) := by decide +kernel
set_option maxRecDepth 20000 in
theorem dX4_reason_34 : decode cX4_reason 34 = .ok (.ireturn, 1) := by decide +kernel
set_option maxRecDepth 20000 in
theorem dX4_reason_35 : decode cX4_reason 35 = .ok (.aload_n 0, 1) := by decide +kernel
set_option maxRecDepth 20000 in
theorem dX4_reason_36 : decode cX4_reason 36 = .ok (.iload_n 1, 1) := by decide +kernel
set_option maxRecDepth 20000 in
theorem dX4_reason_37 : decode cX4_reason 37 = .ok (.iload_n 2, 1) := by decide +kernel
set_option maxRecDepth 20000 in
theorem dX4_reason_38 : decode cX4_reason 38 = .ok (.iload_n 3, 1) := by decide +kernel
set_option maxRecDepth 20000 in
theorem dX4_reason_39 : decode cX4_reason 39 = .ok (.invokevirtual 117, 3) := by decide +kernel
set_option maxRecDepth 20000 in
theorem dX4_reason_42 : decode cX4_reason 42 = .ok (.aload_n 0, 1) := by decide +kernel
set_option maxRecDepth 20000 in
theorem dX4_reason_43 : decode cX4_reason 43 = .ok (.iconst 3, 1) := by decide +kernel
set_option maxRecDepth 20000 in
theorem dX4_reason_44 : decode cX4_reason 44 = .ok (.invokevirtual 114, 3) := by decide +kernel
set_option maxRecDepth 20000 in
theorem dX4_reason_47 : decode cX4_reason 47 = .ok (.if_icmp .le 7, 3) := by decide +kernel
set_option maxRecDepth 20000 in
theorem dX4_reason_50 : decode cX4_reason 50 = .ok (.iconst 3, 1) := by decide +kernel
set_option maxRecDepth 20000 in
theorem dX4_reason_51 : decode cX4_reason 51 = .ok (.goto 4, 3) := by decide +kernel
set_option maxRecDepth 20000 in
theorem dX4_reason_54 : decode cX4_reason 54 = .ok (.iconst 0, 1) := by decide +kernel
set_option maxRecDepth 20000 in
theorem dX4_reason_55 : decode cX4_reason 55 = .ok (.ireturn, 1) := by decide +kernel
set_option maxRecDepth 20000 in
theorem dX4_lookAtWaiting_0 : decode cX4_lookAtWaiting 0 = .ok (.aconst_null, 1) := by decide +kernel
set_option maxRecDepth 20000 in
theorem dX4_lookAtWaiting_1 : decode cX4_lookAtWaiting 1 = .ok (.astore_n 1, 1) := by decide +kernel
set_option maxRecDepth 20000 in
theorem dX4_lookAtWaiting_2 : decode cX4_lookAtWaiting 2 = .ok (.iconst 0, 1) := by decide +kernel
set_option maxRecDepth 20000 in
theorem dX4_lookAtWaiting_3 : decode cX4_lookAtWaiting 3 = .ok (.istore_n 2, 1) := by decide +kernel
set_option maxRecDepth 20000 in
theorem dX4_lookAtWaiting_4 : decode cX4_lookAtWaiting 4 = .ok (.iload_n 2, 1) := by decide +kernel
set_option maxRecDepth 20000 in
theorem dX4_lookAtWaiting_5 : decode cX4_lookAtWaiting 5 = .ok (.aload_n 0, 1) := by decide +kernel
set_option maxRecDepth 20000 in
theorem dX4_lookAtWaiting_6 : decode cX4_lookAtWaiting 6 = .ok (.getfield 30, 3) := by decide +kernel
set_option maxRecDepth 20000 in
theorem dX4_lookAtWaiting_9 : decode cX4_lookAtWaiting 9 = .ok (.arraylength, 1) := by decide +kernel
set_option maxRecDepth 20000 in
theorem dX4_lookAtWaiting_10 : decode cX4_lookAtWaiting 10 = .ok (.if_icmp .ge 47, 3) := by decide +kernel
set_option maxRecDepth 20000 in
theorem dX4_lookAtWaiting_13 : decode cX4_lookAtWaiting 13 = .ok (.aload_n 0, 1) := by decide +kernel
set_option maxRecDepth 20000 in
theorem dX4_lookAtWaiting_14 : decode cX4_lookAtWaiting 14 = .ok (.aload_n 1, 1) := by decide +kernel
set_option maxRecDepth 20000 in
theorem dX4_lookAtWaiting_15 : decode cX4_lookAtWaiting 15 = .ok (.invokevirtual 121, 3) := by decide +kernel
set_option maxRecDepth 20000 in
theorem dX4_lookAtWaiting_18 : decode cX4_lookAtWaiting 18 = .ok (.astore_n 3, 1) := by decide +kernel
set_option maxRecDepth 20000 in
theorem dX4_lookAtWaiting_19 : decode cX4_lookAtWaiting 19 = .ok (.aload_n 3, 1) := by decide +kernel
set_option maxRecDepth 20000 in
theorem dX4_lookAtWaiting_20 : decode cX4_lookAtWaiting 20 = .ok (.ifnonnull 4, 3) := by decide +kernel
set_option maxRecDepth 20000 in
theorem dX4_lookAtWaiting_23 : decode cX4_lookAtWaiting 23 = .ok (.return_, 1) := by decide +kernel
set_option maxRecDepth 20000 in
theorem dX4_lookAtWaiting_24 : decode cX4_lookAtWaiting 24 = .ok (.aload_n 0, 1) := by decide +kernel
set_option maxRecDepth 20000 in
theorem dX4_lookAtWaiting_25 : decode cX4_lookAtWaiting 25 = .ok (.aload_n 3, 1) := by decide +kernel
set_option maxRecDepth 20000 in
theorem dX4_lookAtWaiting_26 : decode cX4_lookAtWaiting 26 = .ok (.getfield 89, 3) := by decide +kernel
set_option maxRecDepth 20000 in
theorem dX4_lookAtWaiting_29 : decode cX4_lookAtWaiting 29 = .ok (.aload_n 3, 1) := by decide +kernel
set_option maxRecDepth 20000 in
theorem dX4_lookAtWaiting_30 : decode cX4_lookAtWaiting 30 = .ok (.getfield 86, 3) := by decide +kernel
set_option maxRecDepth 20000 in
theorem dX4_lookAtWaiting_33 : decode cX4_lookAtWaiting 33 = .ok (.aload_n 3, 1) := by decide +kernel
set_option maxRecDepth 20000 in
theorem dX4_lookAtWaiting_34 : decode cX4_lookAtWaiting 34 = .ok (.getfield 92, 3) := by decide +kernel
set_option maxRecDepth 20000 in
theorem dX4_lookAtWaiting_37 : decode cX4_lookAtWaiting 37 = .ok (.aconst_null, 1) := by decide +kernel
set_option maxRecDepth 20000 in
theorem dX4_lookAtWaiting_38 : decode cX4_lookAtWaiting 38 = .ok (.invokevirtual 82, 3) := by decide +kernel
set_option maxRecDepth 20000 in
theorem dX4_lookAtWaiting_41 : decode cX4_lookAtWaiting 41 = .ok (.ifCond .ne 8, 3) := by decide +kernel
set_option maxRecDepth 20000 in
theorem dX4_lookAtWaiting_44 : decode cX4_lookAtWaiting 44 = .ok (.aload_n 3, 1) := by decide +kernel
set_option maxRecDepth 20000 in
theorem dX4_lookAtWaiting_45 : decode cX4_lookAtWaiting 45 = .ok (.iconst 1, 1) := by decide +kernel
set_option maxRecDepth 20000 in
theorem dX4_lookAtWaiting_46 : decode cX4_lookAtWaiting 46 = .ok (.putfield 95, 3) := by decide +kernel
set_option maxRecDepth 20000 in
theorem dX4_lookAtWaiting_49 : decode cX4_lookAtWaiting 49 = .ok (.aload_n 3, 1) := by decide +kernel
set_option maxRecDepth 20000 in
theorem dX4_lookAtWaiting_50 : decode cX4_lookAtWaiting 50 = .ok (.astore_n 1, 1) := by decide +kernel
set_option maxRecDepth 20000 in
theorem dX4_lookAtWaiting_51 : decode cX4_lookAtWaiting 51 = .ok (.iinc 2 1, 3) := by decide +kernel
set_option maxRecDepth 20000 in
theorem dX4_lookAtWaiting_54 : decode cX4_lookAtWaiting 54 = .ok (.goto (-50), 3) := by decide +kernel
set_option maxRecDepth 20000 in
theorem dX4_lookAtWaiting_57 : decode cX4_lookAtWaiting 57 = .ok (.return_, 1) := by decide +kernel
set_option maxRecDepth 20000 in
theorem dX4_nextWaiting_0 : decode cX4_nextWaiting 0 = .ok (.aconst_null, 1) := by decide +kernel
set_option maxRecDepth 20000 in
theorem dX4_nextWaiting_1 : decode cX4_nextWaiting 1 = .ok (.astore_n 2, 1) := by decide +kernel
set_option maxRecDepth 20000 in
theorem dX4_nextWaiting_2 : decode cX4_nextWaiting 2 = .ok (.aload_n 0, 1) := by decide +kernel
set_option maxRecDepth 20000 in
theorem dX4_nextWaiting_3 : decode cX4_nextWaiting 3 = .ok (.getfield 30, 3) := by decide +kernel
set_option maxRecDepth 20000 in
theorem dX4_nextWaiting_6 : decode cX4_nextWaiting 6 = .ok (.astore_n 3, 1) := by decide +kernel
set_option maxRecDepth 20000 in
theorem dX4_nextWaiting_7 : decode cX4_nextWaiting 7 = .ok (.aload_n 3, 1) := by decide +kernel
set_option maxRecDepth 20000 in
theorem dX4_nextWaiting_8 : decode cX4_nextWaiting 8 = .ok (.arraylength, 1) := by decide +kernel
set_option maxRecDepth 20000 in
theorem dX4_nextWaiting_9 : decode cX4_nextWaiting 9 = .ok (.istore 4, 2) := by decide +kernel
set_option maxRecDepth 20000 in
theorem dX4_nextWaiting_11 : decode cX4_nextWaiting 11 = .ok (.iconst 0, 1) := by decide +kernel
set_option maxRecDepth 20000 in
theorem dX4_nextWaiting_12 : decode cX4_nextWaiting 12 = .ok (.istore 5, 2) := by decide +kernel
set_option maxRecDepth 20000 in
theorem dX4_nextWaiting_14 : decode cX4_nextWaiting 14 = .ok (.iload 5, 2) := by decide +kernel
set_option maxRecDepth 20000 in
theorem dX4_nextWaiting_16 : decode cX4_nextWaiting 16 = .ok (.iload 4, 2) := by decide +kernel
set_option maxRecDepth 20000 in
theorem dX4_nextWaiting_18 : decode cX4_nextWaiting 18 = .ok (.if_icmp .ge 54, 3) := by decide +kernel
set_option maxRecDepth 20000 in
theorem dX4_nextWaiting_21 : decode cX4_nextWaiting 21 = .ok (.aload_n 3, 1) := by decide +kernel
set_option maxRecDepth 20000 in
theorem dX4_nextWaiting_22 : decode cX4_nextWaiting 22 = .ok (.iload 5, 2) := by decide +kernel
set_option maxRecDepth 20000 in
theorem dX4_nextWaiting_24 : decode cX4_nextWaiting 24 = .ok (.aaload, 1) := by decide +kernel
set_option maxRecDepth 20000 in
theorem dX4_nextWaiting_25 : decode cX4_nextWaiting 25 = .ok (.astore 6, 2) := by decide +kernel
set_option maxRecDepth 20000 in
theorem dX4_nextWaiting_27 : decode cX4_nextWaiting 27 = .ok (.aload 6, 2) := by decide +kernel
set_option maxRecDepth 20000 in
theorem dX4_nextWaiting_29 : decode cX4_nextWaiting 29 = .ok (.invokevirtual 99, 3) := by decide +kernel
set_option maxRecDepth 20000 in
theorem dX4_nextWaiting_32 : decode cX4_nextWaiting 32 = .ok (.ifCond .eq 34, 3) := by decide +kernel
set_option maxRecDepth 20000 in
theorem dX4_nextWaiting_35 : decode cX4_nextWaiting 35 = .ok (.aload_n 1, 1) := by decide +kernel
set_option maxRecDepth 20000 in
theorem dX4_nextWaiting_36 : decode cX4_nextWaiting 36 = .ok (.ifnull 13, 3) := by decide +kernel
set_option maxRecDepth 20000 in
theorem dX4_nextWaiting_39 : decode cX4_nextWaiting 39 = .ok (.aload_n 0, 1) := by decide +kernel
set_option maxRecDepth 20000 in
theorem dX4_nextWaiting_40 : decode cX4_nextWaiting 40 = .ok (.aload_n 1, 1) := by decide +kernel
set_option maxRecDepth 20000 in
theorem dX4_nextWaiting_41 : decode cX4_nextWaiting 41 = .ok (.aload 6, 2) := by decide +kernel
set_option maxRecDepth 20000 in
theorem dX4_nextWaiting_43 : decode cX4_nextWaiting 43 = .ok (.invokevirtual 125, 3) := by decide +kernel
set_option maxRecDepth 20000 in
theorem dX4_nextWaiting_46 : decode cX4_nextWaiting 46 = .ok (.ifCond .eq 20, 3) := by decide +kernel
set_option maxRecDepth 20000 in
theorem dX4_nextWaiting_49 : decode cX4_nextWaiting 49 = .ok (.aload_n 2, 1) := by decide +kernel
set_option maxRecDepth 20000 in
theorem dX4_nextWaiting_50 : decode cX4_nextWaiting 50 = .ok (.ifnull 13, 3) := by decide +kernel
set_option maxRecDepth 20000 in
theorem dX4_nextWaiting_53 : decode cX4_nextWaiting 53 = .ok (.aload_n 0, 1) := by decide +kernel
set_option maxRecDepth 20000 in
theorem dX4_nextWaiting_54 : decode cX4_nextWaiting 54 = .ok (.aload 6, 2) := by decide +kernel
set_option maxRecDepth 20000 in
theorem dX4_nextWaiting_56 : decode cX4_nextWaiting 56 = .ok (.aload_n 2, 1) := by decide +kernel
set_option maxRecDepth 20000 in
theorem dX4_nextWaiting_57 : decode cX4_nextWaiting 57 = .ok (.invokevirtual 125, 3) := by decide +kernel
set_option maxRecDepth 20000 in
theorem dX4_nextWaiting_60 : decode cX4_nextWaiting 60 = .ok (.ifCond .eq 6, 3) := by decide +kernel
set_option maxRecDepth 20000 in
theorem dX4_nextWaiting_63 : decode cX4_nextWaiting 63 = .ok (.aload 6, 2) := by decide +kernel
set_option maxRecDepth 20000 in
theorem dX4_nextWaiting_65 : decode cX4_nextWaiting 65 = .ok (.astore_n 2, 1) := by decide +kernel
set_option maxRecDepth 20000 in
theorem dX4_nextWaiting_66 : decode cX4_nextWaiting 66 = .ok (.iinc 5 1, 3) := by decide +kernel
set_option maxRecDepth 20000 in
theorem dX4_nextWaiting_69 : decode cX4_nextWaiting 69 = .ok (.goto (-55), 3) := by decide +kernel
set_option maxRecDepth 20000 in
theorem dX4_nextWaiting_72 : decode cX4_nextWaiting 72 = .ok (.aload_n 2, 1) := by decide +kernel
set_option maxRecDepth 20000 in
theorem dX4_nextWaiting_73 : decode cX4_nextWaiting 73 = .ok (.areturn, 1) := by decide +kernel
set_option maxRecDepth 20000 in
theorem dX4_isLookedAtAheadOf_0 : decode cX4_isLookedAtAheadOf 0 = .ok (.aload_n 1, 1) := by decide +kernel
set_option maxRecDepth 20000 in
theorem dX4_isLookedAtAheadOf_1 : decode cX4_isLookedAtAheadOf 1 = .ok (.getfield 86, 3) := by decide +kernel
set_option maxRecDepth 20000 in
theorem dX4_isLookedAtAheadOf_4 : decode cX4_isLookedAtAheadOf 4 = .ok (.aload_n 2, 1) := by decide +kernel
set_option maxRecDepth 20000 in
theorem dX4_isLookedAtAheadOf_5 : decode cX4_isLookedAtAheadOf 5 = .ok (.getfield 86, 3) := by decide +kernel
set_option maxRecDepth 20000 in
theorem dX4_isLookedAtAheadOf_8 : decode cX4_isLookedAtAheadOf 8 = .ok (.if_icmp .eq 16, 3) := by decide +kernel
set_option maxRecDepth 20000 in
theorem dX4_isLookedAtAheadOf_11 : decode cX4_isLookedAtAheadOf 11 = .ok (.aload_n 0, 1) := by decide +kernel
set_option maxRecDepth 20000 in
theorem dX4_isLookedAtAheadOf_12 : decode cX4_isLookedAtAheadOf 12 = .ok (.aload_n 1, 1) := by decide +kernel
set_option maxRecDepth 20000 in
theorem dX4_isLookedAtAheadOf_13 : decode cX4_isLookedAtAheadOf 13 = .ok (.getfield 86, 3) := by decide +kernel
set_option maxRecDepth 20000 in
theorem dX4_isLookedAtAheadOf_16 : decode cX4_isLookedAtAheadOf 16 = .ok (.aload_n 2, 1) := by decide +kernel
set_option maxRecDepth 20000 in
theorem dX4_isLookedAtAheadOf_17 : decode cX4_isLookedAtAheadOf 17 = .ok (.getfield 86, 3) := by decide +kernel
set_option maxRecDepth 20000 in
theorem dX4_isLookedAtAheadOf_20 : decode cX4_isLookedAtAheadOf 20 = .ok (.invokevirtual 71, 3) := by decide +kernel
set_option maxRecDepth 20000 in
theorem dX4_isLookedAtAheadOf_23 : decode cX4_isLookedAtAheadOf 23 = .ok (.ireturn, 1) := by decide +kernel
set_option maxRecDepth 20000 in
theorem dX4_isLookedAtAheadOf_24 : decode cX4_isLookedAtAheadOf 24 = .ok (.aload_n 1, 1) := by decide +kernel
set_option maxRecDepth 20000 in
theorem dX4_isLookedAtAheadOf_25 : decode cX4_isLookedAtAheadOf 25 = .ok (.getfield 89, 3) := by decide +kernel
set_option maxRecDepth 20000 in
theorem dX4_isLookedAtAheadOf_28 : decode cX4_isLookedAtAheadOf 28 = .ok (.aload_n 2, 1) := by decide +kernel
set_option maxRecDepth 20000 in
theorem dX4_isLookedAtAheadOf_29 : decode cX4_isLookedAtAheadOf 29 = .ok (.getfield 89, 3) := by decide +kernel
set_option maxRecDepth 20000 in
theorem dX4_isLookedAtAheadOf_32 : decode cX4_isLookedAtAheadOf 32 = .ok (.if_icmp .eq 20, 3) := by decide +kernel
set_option maxRecDepth 20000 in
theorem dX4_isLookedAtAheadOf_35 : decode cX4_isLookedAtAheadOf 35 = .ok (.aload_n 1, 1) := by decide +kernel
set_option maxRecDepth 20000 in
theorem dX4_isLookedAtAheadOf_36 : decode cX4_isLookedAtAheadOf 36 = .ok (.getfield 89, 3) := by decide +kernel
set_option maxRecDepth 20000 in
theorem dX4_isLookedAtAheadOf_39 : decode cX4_isLookedAtAheadOf 39 = .ok (.aload_n 2, 1) := by decide +kernel
set_option maxRecDepth 20000 in
theorem dX4_isLookedAtAheadOf_40 : decode cX4_isLookedAtAheadOf 40 = .ok (.getfield 89, 3) := by decide +kernel
set_option maxRecDepth 20000 in
theorem dX4_isLookedAtAheadOf_43 : decode cX4_isLookedAtAheadOf 43 = .ok (.if_icmp .ge 7, 3) := by decide +kernel
set_option maxRecDepth 20000 in
theorem dX4_isLookedAtAheadOf_46 : decode cX4_isLookedAtAheadOf 46 = .ok (.iconst 1, 1) := by decide +kernel
set_option maxRecDepth 20000 in
theorem dX4_isLookedAtAheadOf_47 : decode cX4_isLookedAtAheadOf 47 = .ok (.goto 4, 3) := by decide +kernel
set_option maxRecDepth 20000 in
theorem dX4_isLookedAtAheadOf_50 : decode cX4_isLookedAtAheadOf 50 = .ok (.iconst 0, 1) := by decide +kernel
set_option maxRecDepth 20000 in
theorem dX4_isLookedAtAheadOf_51 : decode cX4_isLookedAtAheadOf 51 = .ok (.ireturn, 1) := by decide +kernel
set_option maxRecDepth 20000 in
theorem dX4_isLookedAtAheadOf_52 : decode cX4_isLookedAtAheadOf 52 = .ok (.aload_n 1, 1) := by decide +kernel
set_option maxRecDepth 20000 in
theorem dX4_isLookedAtAheadOf_53 : decode cX4_isLookedAtAheadOf 53 = .ok (.getfield 92, 3) := by decide +kernel
set_option maxRecDepth 20000 in
theorem dX4_isLookedAtAheadOf_56 : decode cX4_isLookedAtAheadOf 56 = .ok (.aload_n 2, 1) := by decide +kernel
set_option maxRecDepth 20000 in
theorem dX4_isLookedAtAheadOf_57 : decode cX4_isLookedAtAheadOf 57 = .ok (.getfield 92, 3) := by decide +kernel
set_option maxRecDepth 20000 in
theorem dX4_isLookedAtAheadOf_60 : decode cX4_isLookedAtAheadOf 60 = .ok (.if_icmp .eq 22, 3) := by decide +kernel
set_option maxRecDepth 20000 in
theorem dX4_isLookedAtAheadOf_63 : decode cX4_isLookedAtAheadOf 63 = .ok (.aload_n 1, 1) := by decide +kernel
set_option maxRecDepth 20000 in
theorem dX4_isLookedAtAheadOf_64 : decode cX4_isLookedAtAheadOf 64 = .ok (.getfield 92, 3) := by decide +kernel
set_option maxRecDepth 20000 in
theorem dX4_isLookedAtAheadOf_67 : decode cX4_isLookedAtAheadOf 67 = .ok (.aload_n 2, 1) := by decide +kernel
set_option maxRecDepth 20000 in
theorem dX4_isLookedAtAheadOf_68 : decode cX4_isLookedAtAheadOf 68 = .ok (.getfield 92, 3) := by decide +kernel
set_option maxRecDepth 20000 in
theorem dX4_isLookedAtAheadOf_71 : decode cX4_isLookedAtAheadOf 71 = .ok (.if_icmp .ge 7, 3) := by decide +kernel
set_option maxRecDepth 20000 in
theorem dX4_isLookedAtAheadOf_74 : decode cX4_isLookedAtAheadOf 74 = .ok (.iconst 1, 1) := by decide +kernel
set_option maxRecDepth 20000 in
theorem dX4_isLookedAtAheadOf_75 : decode cX4_isLookedAtAheadOf 75 = .ok (.goto 23, 3) := by decide +kernel
set_option maxRecDepth 20000 in
theorem dX4_isLookedAtAheadOf_78 : decode cX4_isLookedAtAheadOf 78 = .ok (.iconst 0, 1) := by decide +kernel
set_option maxRecDepth 20000 in
theorem dX4_isLookedAtAheadOf_79 : decode cX4_isLookedAtAheadOf 79 = .ok (.goto 19, 3) := by decide +kernel
set_option maxRecDepth 20000 in
theorem dX4_isLookedAtAheadOf_82 : decode cX4_isLookedAtAheadOf 82 = .ok (.aload_n 1, 1) := by decide +kernel
set_option maxRecDepth 20000 in
theorem dX4_isLookedAtAheadOf_83 : decode cX4_isLookedAtAheadOf 83 = .ok (.getfield 79, 3) := by decide +kernel
set_option maxRecDepth 20000 in
theorem dX4_isLookedAtAheadOf_86 : decode cX4_isLookedAtAheadOf 86 = .ok (.aload_n 2, 1) := by decide +kernel
set_option maxRecDepth 20000 in
theorem dX4_isLookedAtAheadOf_87 : decode cX4_isLookedAtAheadOf 87 = .ok (.getfield 79, 3) := by decide +kernel
set_option maxRecDepth 20000 in
theorem dX4_isLookedAtAheadOf_90 : decode cX4_isLookedAtAheadOf 90 = .ok (.if_icmp .ge 7, 3) := by decide +kernel
set_option maxRecDepth 20000 in
theorem dX4_isLookedAtAheadOf_93 : decode cX4_isLookedAtAheadOf 93 = .ok (.iconst 1, 1) := by decide +kernel
set_option maxRecDepth 20000 in
theorem dX4_isLookedAtAheadOf_94 : decode cX4_isLookedAtAheadOf 94 = .ok (.goto 4, 3) := by decide +kernel
set_option maxRecDepth 20000 in
theorem dX4_isLookedAtAheadOf_97 : decode cX4_isLookedAtAheadOf 97 = .ok (.iconst 0, 1) := by decide +kernel
set_option maxRecDepth 20000 in
theorem dX4_isLookedAtAheadOf_98 : decode cX4_isLookedAtAheadOf 98 = .ok (.ireturn, 1) := by decide +kernel
set_option maxRecDepth 20000 in
theorem dX4_busIndex_0 : decode cX4_busIndex 0 = .ok (.iload_n 0, 1) := by decide +kernel
set_option maxRecDepth 20000 in
theorem dX4_busIndex_1 : decode cX4_busIndex 1 = .ok (.invokestatic 129, 3) := by decide +kernel
set_option maxRecDepth 20000 in
theorem dX4_busIndex_4 : decode cX4_busIndex 4 = .ok (.ifCond .eq 22, 3) := by decide +kernel
set_option maxRecDepth 20000 in
theorem dX4_busIndex_7 : decode cX4_busIndex 7 = .ok (.iload_n 1, 1) := by decide +kernel
set_option maxRecDepth 20000 in
theorem dX4_busIndex_8 : decode cX4_busIndex 8 = .ok (.ifCond .lt 18, 3) := by decide +kernel
set_option maxRecDepth 20000 in
theorem dX4_busIndex_11 : decode cX4_busIndex 11 = .ok (.iload_n 1, 1) := by decide +kernel
set_option maxRecDepth 20000 in
theorem dX4_busIndex_12 : decode cX4_busIndex 12 = .ok (.bipush 10, 2) := by decide +kernel
set_option maxRecDepth 20000 in
theorem dX4_busIndex_14 : decode cX4_busIndex 14 = .ok (.if_icmp .ge 12, 3) := by decide +kernel
set_option maxRecDepth 20000 in
theorem dX4_busIndex_17 : decode cX4_busIndex 17 = .ok (.iload_n 0, 1) := by decide +kernel
set_option maxRecDepth 20000 in
theorem dX4_busIndex_18 : decode cX4_busIndex 18 = .ok (.bipush 10, 2) := by decide +kernel
set_option maxRecDepth 20000 in
theorem dX4_busIndex_20 : decode cX4_busIndex 20 = .ok (.imul, 1) := by decide +kernel
set_option maxRecDepth 20000 in
theorem dX4_busIndex_21 : decode cX4_busIndex 21 = .ok (.iload_n 1, 1) := by decide +kernel
set_option maxRecDepth 20000 in
theorem dX4_busIndex_22 : decode cX4_busIndex 22 = .ok (.iadd, 1) := by decide +kernel
set_option maxRecDepth 20000 in
theorem dX4_busIndex_23 : decode cX4_busIndex 23 = .ok (.goto 4, 3) := by decide +kernel
set_option maxRecDepth 20000 in
theorem dX4_busIndex_26 : decode cX4_busIndex 26 = .ok (.iconst (-1), 1) := by decide +kernel
set_option maxRecDepth 20000 in
theorem dX4_busIndex_27 : decode cX4_busIndex 27 = .ok (.ireturn, 1) := by decide +kernel
set_option maxRecDepth 20000 in
theorem dX4_partnerOf_0 : decode cX4_partnerOf 0 = .ok (.iload_n 1, 1) := by decide +kernel
set_option maxRecDepth 20000 in
theorem dX4_partnerOf_1 : decode cX4_partnerOf 1 = .ok (.iload_n 2, 1) := by decide +kernel
set_option maxRecDepth 20000 in
theorem dX4_partnerOf_2 : decode cX4_partnerOf 2 = .ok (.invokestatic 132, 3) := by decide +kernel
set_option maxRecDepth 20000 in
theorem dX4_partnerOf_5 : decode cX4_partnerOf 5 = .ok (.istore_n 3, 1) := by decide +kernel
set_option maxRecDepth 20000 in
theorem dX4_partnerOf_6 : decode cX4_partnerOf 6 = .ok (.iload_n 3, 1) := by decide +kernel
set_option maxRecDepth 20000 in
theorem dX4_partnerOf_7 : decode cX4_partnerOf 7 = .ok (.ifCond .lt 21, 3) := by decide +kernel
set_option maxRecDepth 20000 in
theorem dX4_partnerOf_10 : decode cX4_partnerOf 10 = .ok (.iload_n 3, 1) := by decide +kernel
set_option maxRecDepth 20000 in
theorem dX4_partnerOf_11 : decode cX4_partnerOf 11 = .ok (.aload_n 0, 1) := by decide +kernel
set_option maxRecDepth 20000 in
theorem dX4_partnerOf_12 : decode cX4_partnerOf 12 = .ok (.getfield 19, 3) := by decide +kernel
set_option maxRecDepth 20000 in
theorem dX4_partnerOf_15 : decode cX4_partnerOf 15 = .ok (.arraylength, 1) := by decide +kernel
set_option maxRecDepth 20000 in
theorem dX4_partnerOf_16 : decode cX4_partnerOf 16 = .ok (.if_icmp .ge 12, 3) := by decide +kernel
set_option maxRecDepth 20000 in
theorem dX4_partnerOf_19 : decode cX4_partnerOf 19 = .ok (.aload_n 0, 1) := by decide +kernel
set_option maxRecDepth 20000 in
theorem dX4_partnerOf_20 : decode cX4_partnerOf 20 = .ok (.getfield 19, 3) := by decide +kernel
set_option maxRecDepth 20000 in
theorem dX4_partnerOf_23 : decode cX4_partnerOf 23 = .ok (.iload_n 3, 1) := by decide +kernel
set_option maxRecDepth 20000 in
theorem dX4_partnerOf_24 : decode cX4_partnerOf 24 = .ok (.iaload, 1) := by decide +kernel
set_option maxRecDepth 20000 in
theorem dX4_partnerOf_25 : decode cX4_partnerOf 25 = .ok (.goto 5, 3) := by decide +kernel
set_option maxRecDepth 20000 in
theorem dX4_partnerOf_28 : decode cX4_partnerOf 28 = .ok (.bipush (-5), 2) := by decide +kernel
set_option maxRecDepth 20000 in
theorem dX4_partnerOf_30 : decode cX4_partnerOf 30 = .ok (.ireturn, 1) := by decide +kernel
set_option maxRecDepth 20000 in
theorem dX4_tie_0 : decode cX4_tie 0 = .ok (.iload_n 1, 1) := by decide +kernel
set_option maxRecDepth 20000 in
theorem dX4_tie_1 : decode cX4_tie 1 = .ok (.iload_n 2, 1) := by decide +kernel
set_option maxRecDepth 20000 in
theorem dX4_tie_2 : decode cX4_tie 2 = .ok (.invokestatic 132, 3) := by decide +kernel
set_option maxRecDepth 20000 in
theorem dX4_tie_5 : decode cX4_tie 5 = .ok (.istore 4, 2) := by decide +kernel
set_option maxRecDepth 20000 in
theorem dX4_tie_7 : decode cX4_tie 7 = .ok (.iload 4, 2) := by decide +kernel
set_option maxRecDepth 20000 in
theorem dX4_tie_9 : decode cX4_tie 9 = .ok (.ifCond .lt 21, 3) := by decide +kernel
set_option maxRecDepth 20000 in
theorem dX4_tie_12 : decode cX4_tie 12 = .ok (.iload 4, 2) := by decide +kernel
set_option maxRecDepth 20000 in
theorem dX4_tie_14 : decode cX4_tie 14 = .ok (.aload_n 0, 1) := by decide +kernel
set_option maxRecDepth 20000 in
theorem dX4_tie_15 : decode cX4_tie 15 = .ok (.getfield 19, 3) := by decide +kernel
set_option maxRecDepth 20000 in
theorem dX4_tie_18 : decode cX4_tie 18 = .ok (.arraylength, 1) := by decide +kernel
set_option maxRecDepth 20000 in
theorem dX4_tie_19 : decode cX4_tie 19 = .ok (.if_icmp .ge 11, 3) := by decide +kernel
set_option maxRecDepth 20000 in
theorem dX4_tie_22 : decode cX4_tie 22 = .ok (.aload_n 0, 1) := by decide +kernel
set_option maxRecDepth 20000 in
theorem dX4_tie_23 : decode cX4_tie 23 = .ok (.getfield 19, 3) := by decide +kernel
set_option maxRecDepth 20000 in
theorem dX4_tie_26 : decode cX4_tie 26 = .ok (.iload 4, 2) := by decide +kernel
set_option maxRecDepth 20000 in
theorem dX4_tie_28 : decode cX4_tie 28 = .ok (.iload_n 3, 1) := by decide +kernel
set_option maxRecDepth 20000 in
theorem dX4_tie_29 : decode cX4_tie 29 = .ok (.iastore, 1) := by decide +kernel
set_option maxRecDepth 20000 in
theorem dX4_tie_30 : decode cX4_tie 30 = .ok (.return_, 1) := by decide +kernel
set_option maxRecDepth 20000 in
theorem dX4_pairCount_0 : decode cX4_pairCount 0 = .ok (.iconst 0, 1) := by decide +kernel
set_option maxRecDepth 20000 in
theorem dX4_pairCount_1 : decode cX4_pairCount 1 = .ok (.istore_n 1, 1) := by decide +kernel
set_option maxRecDepth 20000 in
theorem dX4_pairCount_2 : decode cX4_pairCount 2 = .ok (.aload_n 0, 1) := by decide +kernel
set_option maxRecDepth 20000 in
theorem dX4_pairCount_3 : decode cX4_pairCount 3 = .ok (.getfield 19, 3) := by decide +kernel
set_option maxRecDepth 20000 in
theorem dX4_pairCount_6 : decode cX4_pairCount 6 = .ok (.astore_n 2, 1) := by decide +kernel
set_option maxRecDepth 20000 in
theorem dX4_pairCount_7 : decode cX4_pairCount 7 = .ok (.aload_n 2, 1) := by decide +kernel
set_option maxRecDepth 20000 in
theorem dX4_pairCount_8 : decode cX4_pairCount 8 = .ok (.arraylength, 1) := by decide +kernel
set_option maxRecDepth 20000 in
theorem dX4_pairCount_9 : decode cX4_pairCount 9 = .ok (.istore_n 3, 1) := by decide +kernel
set_option maxRecDepth 20000 in
theorem dX4_pairCount_10 : decode cX4_pairCount 10 = .ok (.iconst 0, 1) := by decide +kernel
set_option maxRecDepth 20000 in
theorem dX4_pairCount_11 : decode cX4_pairCount 11 = .ok (.istore 4, 2) := by decide +kernel
set_option maxRecDepth 20000 in
theorem dX4_pairCount_13 : decode cX4_pairCount 13 = .ok (.iload 4, 2) := by decide +kernel
set_option maxRecDepth 20000 in
theorem dX4_pairCount_15 : decode cX4_pairCount 15 = .ok (.iload_n 3, 1) := by decide +kernel
set_option maxRecDepth 20000 in
theorem dX4_pairCount_16 : decode cX4_pairCount 16 = .ok (.if_icmp .ge 25, 3) := by decide +kernel
set_option maxRecDepth 20000 in
theorem dX4_pairCount_19 : decode cX4_pairCount 19 = .ok (.aload_n 2, 1) := by decide +kernel
set_option maxRecDepth 20000 in
theorem dX4_pairCount_20 : decode cX4_pairCount 20 = .ok (.iload 4, 2) := by decide +kernel
set_option maxRecDepth 20000 in
theorem dX4_pairCount_22 : decode cX4_pairCount 22 = .ok (.iaload, 1) := by decide +kernel
set_option maxRecDepth 20000 in
theorem dX4_pairCount_23 : decode cX4_pairCount 23 = .ok (.istore 5, 2) := by decide +kernel
set_option maxRecDepth 20000 in
theorem dX4_pairCount_25 : decode cX4_pairCount 25 = .ok (.iload 5, 2) := by decide +kernel
set_option maxRecDepth 20000 in
theorem dX4_pairCount_27 : decode cX4_pairCount 27 = .ok (.bipush (-5), 2) := by decide +kernel
set_option maxRecDepth 20000 in
theorem dX4_pairCount_29 : decode cX4_pairCount 29 = .ok (.if_icmp .eq 6, 3) := by decide +kernel
set_option maxRecDepth 20000 in
theorem dX4_pairCount_32 : decode cX4_pairCount 32 = .ok (.iinc 1 1, 3) := by decide +kernel
set_option maxRecDepth 20000 in
theorem dX4_pairCount_35 : decode cX4_pairCount 35 = .ok (.iinc 4 1, 3) := by decide +kernel
set_option maxRecDepth 20000 in
theorem dX4_pairCount_38 : decode cX4_pairCount 38 = .ok (.goto (-25), 3) := by decide +kernel
set_option maxRecDepth 20000 in
theorem dX4_pairCount_41 : decode cX4_pairCount 41 = .ok (.iload_n 1, 1) := by decide +kernel
set_option maxRecDepth 20000 in
theorem dX4_pairCount_42 : decode cX4_pairCount 42 = .ok (.iconst 2, 1) := by decide +kernel
set_option maxRecDepth 20000 in
theorem dX4_pairCount_43 : decode cX4_pairCount 43 = .ok (.idiv, 1) := by decide +kernel
set_option maxRecDepth 20000 in
theorem dX4_pairCount_44 : decode cX4_pairCount 44 = .ok (.ireturn, 1) := by decide +kernel
set_option maxRecDepth 20000 in
theorem dX4_startOf_0 : decode cX4_startOf 0 = .ok (.aload_n 0, 1) := by decide +kernel
set_option maxRecDepth 20000 in
theorem dX4_startOf_1 : decode cX4_startOf 1 = .ok (.iload_n 2, 1) := by decide +kernel
set_option maxRecDepth 20000 in
theorem dX4_startOf_2 : decode cX4_startOf 2 = .ok (.invokevirtual 102, 3) := by decide +kernel
set_option maxRecDepth 20000 in
theorem dX4_startOf_5 : decode cX4_startOf 5 = .ok (.ifCond .eq 19, 3) := by decide +kernel
set_option maxRecDepth 20000 in
theorem dX4_startOf_8 : decode cX4_startOf 8 = .ok (.aload_n 0, 1) := by decide +kernel
set_option maxRecDepth 20000 in
theorem dX4_startOf_9 : decode cX4_startOf 9 = .ok (.iload_n 1, 1) := by decide +kernel
set_option maxRecDepth 20000 in
theorem dX4_startOf_10 : decode cX4_startOf 10 = .ok (.invokevirtual 64, 3) := by decide +kernel
set_option maxRecDepth 20000 in
theorem dX4_startOf_13 : decode cX4_startOf 13 = .ok (.aload_n 0, 1) := by decide +kernel
set_option maxRecDepth 20000 in
theorem dX4_startOf_14 : decode cX4_startOf 14 = .ok (.iload_n 2, 1) := by decide +kernel
set_option maxRecDepth 20000 in
theorem dX4_startOf_15 : decode cX4_startOf 15 = .ok (.invokevirtual 64, 3) := by decide +kernel
set_option maxRecDepth 20000 in
theorem dX4_startOf_18 : decode cX4_startOf 18 = .ok (.invokestatic 135, 3) := by decide +kernel
set_option maxRecDepth 20000 in
theorem dX4_startOf_21 : decode cX4_startOf 21 = .ok (.goto 8, 3) := by decide +kernel
set_option maxRecDepth 20000 in
theorem dX4_startOf_24 : decode cX4_startOf 24 = .ok (.aload_n 0, 1) := by decide +kernel
set_option maxRecDepth 20000 in
theorem dX4_startOf_25 : decode cX4_startOf 25 = .ok (.iload_n 1, 1) := by decide +kernel
set_option maxRecDepth 20000 in
theorem dX4_startOf_26 : decode cX4_startOf 26 = .ok (.invokevirtual 64, 3) := by decide +kernel
set_option maxRecDepth 20000 in
theorem dX4_startOf_29 : decode cX4_startOf 29 = .ok (.ireturn, 1) := by decide +kernel
set_option maxRecDepth 20000 in
theorem dX4_minutesBehind_0 : decode cX4_minutesBehind 0 = .ok (.aload_n 0, 1) := by decide +kernel
set_option maxRecDepth 20000 in
theorem dX4_minutesBehind_1 : decode cX4_minutesBehind 1 = .ok (.iload_n 2, 1) := by decide +kernel
set_option maxRecDepth 20000 in
theorem dX4_minutesBehind_2 : decode cX4_minutesBehind 2 = .ok (.aload_n 0, 1) := by decide +kernel
set_option maxRecDepth 20000 in
theorem dX4_minutesBehind_3 : decode cX4_minutesBehind 3 = .ok (.iload_n 1, 1) := by decide +kernel
set_option maxRecDepth 20000 in
theorem dX4_minutesBehind_4 : decode cX4_minutesBehind 4 = .ok (.iload_n 2, 1) := by decide +kernel
set_option maxRecDepth 20000 in
theorem dX4_minutesBehind_5 : decode cX4_minutesBehind 5 = .ok (.invokevirtual 106, 3) := by decide +kernel
set_option maxRecDepth 20000 in
theorem dX4_minutesBehind_8 : decode cX4_minutesBehind 8 = .ok (.invokevirtual 140, 3) := by decide +kernel
set_option maxRecDepth 20000 in
theorem dX4_minutesBehind_11 : decode cX4_minutesBehind 11 = .ok (.aload_n 0, 1) := by decide +kernel
set_option maxRecDepth 20000 in
theorem dX4_minutesBehind_12 : decode cX4_minutesBehind 12 = .ok (.iload_n 2, 1) := by decide +kernel
set_option maxRecDepth 20000 in
theorem dX4_minutesBehind_13 : decode cX4_minutesBehind 13 = .ok (.invokevirtual 64, 3) := by decide +kernel
set_option maxRecDepth 20000 in
theorem dX4_minutesBehind_16 : decode cX4_minutesBehind 16 = .ok (.isub, 1) := by decide +kernel
set_option maxRecDepth 20000 in
theorem dX4_minutesBehind_17 : decode cX4_minutesBehind 17 = .ok (.iload_n 3, 1) := by decide +kernel
set_option maxRecDepth 20000 in
theorem dX4_minutesBehind_18 : decode cX4_minutesBehind 18 = .ok (.aload_n 0, 1) := by decide +kernel
set_option maxRecDepth 20000 in
theorem dX4_minutesBehind_19 : decode cX4_minutesBehind 19 = .ok (.iconst 0, 1) := by decide +kernel
set_option maxRecDepth 20000 in
theorem dX4_minutesBehind_20 : decode cX4_minutesBehind 20 = .ok (.invokevirtual 114, 3) := by decide +kernel
set_option maxRecDepth 20000 in
theorem dX4_minutesBehind_23 : decode cX4_minutesBehind 23 = .ok (.imul, 1) := by decide +kernel
set_option maxRecDepth 20000 in
theorem dX4_minutesBehind_24 : decode cX4_minutesBehind 24 = .ok (.iadd, 1) := by decide +kernel
set_option maxRecDepth 20000 in
theorem dX4_minutesBehind_25 : decode cX4_minutesBehind 25 = .ok (.ireturn, 1) := by decide +kernel
set_option maxRecDepth 20000 in
theorem dX4_isInTime_0 : decode cX4_isInTime 0 = .ok (.iload_n 2, 1) := by decide +kernel
set_option maxRecDepth 20000 in
theorem dX4_isInTime_1 : decode cX4_isInTime 1 = .ok (.aload_n 0, 1) := by decide +kernel
set_option maxRecDepth 20000 in
theorem dX4_isInTime_2 : decode cX4_isInTime 2 = .ok (.aload_n 1, 1) := by decide +kernel
set_option maxRecDepth 20000 in
theorem dX4_isInTime_3 : decode cX4_isInTime 3 = .ok (.getfield 86, 3) := by decide +kernel
set_option maxRecDepth 20000 in
theorem dX4_isInTime_6 : decode cX4_isInTime 6 = .ok (.invokevirtual 64, 3) := by decide +kernel
set_option maxRecDepth 20000 in
theorem dX4_isInTime_9 : decode cX4_isInTime 9 = .ok (.isub, 1) := by decide +kernel
set_option maxRecDepth 20000 in
theorem dX4_isInTime_10 : decode cX4_isInTime 10 = .ok (.aload_n 1, 1) := by decide +kernel
set_option maxRecDepth 20000 in
theorem dX4_isInTime_11 : decode cX4_isInTime 11 = .ok (.getfield 92, 3) := by decide +kernel
set_option maxRecDepth 20000 in
theorem dX4_isInTime_14 : decode cX4_isInTime 14 = .ok (.aload_n 0, 1) := by decide +kernel
set_option maxRecDepth 20000 in
theorem dX4_isInTime_15 : decode cX4_isInTime 15 = .ok (.iconst 0, 1) := by decide +kernel
set_option maxRecDepth 20000 in
theorem dX4_isInTime_16 : decode cX4_isInTime 16 = .ok (.invokevirtual 114, 3) := by decide +kernel
set_option maxRecDepth 20000 in
theorem dX4_isInTime_19 : decode cX4_isInTime 19 = .ok (.imul, 1) := by decide +kernel
set_option maxRecDepth 20000 in
theorem dX4_isInTime_20 : decode cX4_isInTime 20 = .ok (.iadd, 1) := by decide +kernel
set_option maxRecDepth 20000 in
theorem dX4_isInTime_21 : decode cX4_isInTime 21 = .ok (.istore_n 3, 1) := by decide +kernel
set_option maxRecDepth 20000 in
theorem dX4_isInTime_22 : decode cX4_isInTime 22 = .ok (.iload_n 3, 1) := by decide +kernel
set_option maxRecDepth 20000 in
theorem dX4_isInTime_23 : decode cX4_isInTime 23 = .ok (.aload_n 0, 1) := by decide +kernel
set_option maxRecDepth 20000 in
theorem dX4_isInTime_24 : decode cX4_isInTime 24 = .ok (.iconst 3, 1) := by decide +kernel
set_option maxRecDepth 20000 in
theorem dX4_isInTime_25 : decode cX4_isInTime 25 = .ok (.invokevirtual 114, 3) := by decide +kernel
set_option maxRecDepth 20000 in
theorem dX4_isInTime_28 : decode cX4_isInTime 28 = .ok (.if_icmp .gt 7, 3) := by decide +kernel
set_option maxRecDepth 20000 in
theorem dX4_isInTime_31 : decode cX4_isInTime 31 = .ok (.iconst 1, 1) := by decide +kernel
set_option maxRecDepth 20000 in
theorem dX4_isInTime_32 : decode cX4_isInTime 32 = .ok (.goto 4, 3) := by decide +kernel
set_option maxRecDepth 20000 in
theorem dX4_isInTime_35 : decode cX4_isInTime 35 = .ok (.iconst 0, 1) := by decide +kernel
set_option maxRecDepth 20000 in
theorem dX4_isInTime_36 : decode cX4_isInTime 36 = .ok (.ireturn, 1) := by decide +kernel
set_option maxRecDepth 20000 in
theorem dX4_takenSeats_0 : decode cX4_takenSeats 0 = .ok (.iconst 0, 1) := by decide +kernel
set_option maxRecDepth 20000 in
theorem dX4_takenSeats_1 : decode cX4_takenSeats 1 = .ok (.istore 6, 2) := by decide +kernel
set_option maxRecDepth 20000 in
theorem dX4_takenSeats_3 : decode cX4_takenSeats 3 = .ok (.aload_n 0, 1) := by decide +kernel
set_option maxRecDepth 20000 in
theorem dX4_takenSeats_4 : decode cX4_takenSeats 4 = .ok (.getfield 30, 3) := by decide +kernel
set_option maxRecDepth 20000 in
theorem dX4_takenSeats_7 : decode cX4_takenSeats 7 = .ok (.astore 7, 2) := by decide +kernel
set_option maxRecDepth 20000 in
theorem dX4_takenSeats_9 : decode cX4_takenSeats 9 = .ok (.aload 7, 2) := by decide +kernel
set_option maxRecDepth 20000 in
theorem dX4_takenSeats_11 : decode cX4_takenSeats 11 = .ok (.arraylength, 1) := by decide +kernel
set_option maxRecDepth 20000 in
theorem dX4_takenSeats_12 : decode cX4_takenSeats 12 = .ok (.istore 8, 2) := by decide +kernel
set_option maxRecDepth 20000 in
theorem dX4_takenSeats_14 : decode cX4_takenSeats 14 = .ok (.iconst 0, 1) := by decide +kernel
set_option maxRecDepth 20000 in
theorem dX4_takenSeats_15 : decode cX4_takenSeats 15 = .ok (.istore 9, 2) := by decide +kernel
set_option maxRecDepth 20000 in
theorem dX4_takenSeats_17 : decode cX4_takenSeats 17 = .ok (.iload 9, 2) := by decide +kernel
set_option maxRecDepth 20000 in
theorem dX4_takenSeats_19 : decode cX4_takenSeats 19 = .ok (.iload 8, 2) := by decide +kernel
set_option maxRecDepth 20000 in
theorem dX4_takenSeats_21 : decode cX4_takenSeats 21 = .ok (.if_icmp .ge 55, 3) := by decide +kernel
set_option maxRecDepth 20000 in
theorem dX4_takenSeats_24 : decode cX4_takenSeats 24 = .ok (.aload 7, 2) := by decide +kernel
set_option maxRecDepth 20000 in
theorem dX4_takenSeats_26 : decode cX4_takenSeats 26 = .ok (.iload 9, 2) := by decide +kernel
set_option maxRecDepth 20000 in
theorem dX4_takenSeats_28 : decode cX4_takenSeats 28 = .ok (.aaload, 1) := by decide +kernel
set_option maxRecDepth 20000 in
theorem dX4_takenSeats_29 : decode cX4_takenSeats 29 = .ok (.astore 10, 2) := by decide +kernel
set_option maxRecDepth 20000 in
theorem dX4_takenSeats_31 : decode cX4_takenSeats 31 = .ok (.aload 10, 2) := by decide +kernel
set_option maxRecDepth 20000 in
theorem dX4_takenSeats_33 : decode cX4_takenSeats 33 = .ok (.invokevirtual 143, 3) := by decide +kernel
set_option maxRecDepth 20000 in
theorem dX4_takenSeats_36 : decode cX4_takenSeats 36 = .ok (.ifCond .eq 34, 3) := by decide +kernel
set_option maxRecDepth 20000 in
theorem dX4_takenSeats_39 : decode cX4_takenSeats 39 = .ok (.aload 10, 2) := by decide +kernel
set_option maxRecDepth 20000 in
theorem dX4_takenSeats_41 : decode cX4_takenSeats 41 = .ok (.iload_n 1, 1) := by decide +kernel
set_option maxRecDepth 20000 in
theorem dX4_takenSeats_42 : decode cX4_takenSeats 42 = .ok (.iload_n 2, 1) := by decide +kernel
set_option maxRecDepth 20000 in
theorem dX4_takenSeats_43 : decode cX4_takenSeats 43 = .ok (.iload_n 3, 1) := by decide +kernel
set_option maxRecDepth 20000 in
theorem dX4_takenSeats_44 : decode cX4_takenSeats 44 = .ok (.invokevirtual 146, 3) := by decide +kernel
set_option maxRecDepth 20000 in
theorem dX4_takenSeats_47 : decode cX4_takenSeats 47 = .ok (.ifCond .eq 23, 3) := by decide +kernel
set_option maxRecDepth 20000 in
theorem dX4_takenSeats_50 : decode cX4_takenSeats 50 = .ok (.aload 10, 2) := by decide +kernel
set_option maxRecDepth 20000 in
theorem dX4_takenSeats_52 : decode cX4_takenSeats 52 = .ok (.getfield 92, 3) := by decide +kernel
set_option maxRecDepth 20000 in
theorem dX4_takenSeats_55 : decode cX4_takenSeats 55 = .ok (.iload 4, 2) := by decide +kernel
set_option maxRecDepth 20000 in
theorem dX4_takenSeats_57 : decode cX4_takenSeats 57 = .ok (.if_icmp .lt 13, 3) := by decide +kernel
set_option maxRecDepth 20000 in
theorem dX4_takenSeats_60 : decode cX4_takenSeats 60 = .ok (.aload 10, 2) := by decide +kernel
set_option maxRecDepth 20000 in
theorem dX4_takenSeats_62 : decode cX4_takenSeats 62 = .ok (.aload 5, 2) := by decide +kernel
set_option maxRecDepth 20000 in
theorem dX4_takenSeats_64 : decode cX4_takenSeats 64 = .ok (.if_acmp .eq 6, 3) := by decide +kernel
set_option maxRecDepth 20000 in
theorem dX4_takenSeats_67 : decode cX4_takenSeats 67 = .ok (.iinc 6 1, 3) := by decide +kernel
set_option maxRecDepth 20000 in
theorem dX4_takenSeats_70 : decode cX4_takenSeats 70 = .ok (.iinc 9 1, 3) := by decide +kernel
set_option maxRecDepth 20000 in
theorem dX4_takenSeats_73 : decode cX4_takenSeats 73 = .ok (.goto (-56), 3) := by decide +kernel
set_option maxRecDepth 20000 in
theorem dX4_takenSeats_76 : decode cX4_takenSeats 76 = .ok (.iload 6, 2) := by decide +kernel
set_option maxRecDepth 20000 in
theorem dX4_takenSeats_78 : decode cX4_takenSeats 78 = .ok (.ireturn, 1) := by decide +kernel
set_option maxRecDepth 20000 in
theorem dX4_waitingFor_0 : decode cX4_waitingFor 0 = .ok (.iconst 0, 1) := by decide +kernel
set_option maxRecDepth 20000 in
theorem dX4_waitingFor_1 : decode cX4_waitingFor 1 = .ok (.istore 4, 2) := by decide +kernel
set_option maxRecDepth 20000 in
theorem dX4_waitingFor_3 : decode cX4_waitingFor 3 = .ok (.aload_n 0, 1) := by decide +kernel
set_option maxRecDepth 20000 in
theorem dX4_waitingFor_4 : decode cX4_waitingFor 4 = .ok (.getfield 30, 3) := by decide +kernel
set_option maxRecDepth 20000 in
theorem dX4_waitingFor_7 : decode cX4_waitingFor 7 = .ok (.astore 5, 2) := by decide +kernel
set_option maxRecDepth 20000 in
theorem dX4_waitingFor_9 : decode cX4_waitingFor 9 = .ok (.aload 5, 2) := by decide +kernel
set_option maxRecDepth 20000 in
theorem dX4_waitingFor_11 : decode cX4_waitingFor 11 = .ok (.arraylength, 1) := by decide +kernel
set_option maxRecDepth 20000 in
theorem dX4_waitingFor_12 : decode cX4_waitingFor 12 = .ok (.istore 6, 2) := by decide +kernel
set_option maxRecDepth 20000 in
theorem dX4_waitingFor_14 : decode cX4_waitingFor 14 = .ok (.iconst 0, 1) := by decide +kernel
set_option maxRecDepth 20000 in
theorem dX4_waitingFor_15 : decode cX4_waitingFor 15 = .ok (.istore 7, 2) := by decide +kernel
set_option maxRecDepth 20000 in
theorem dX4_waitingFor_17 : decode cX4_waitingFor 17 = .ok (.iload 7, 2) := by decide +kernel
set_option maxRecDepth 20000 in
theorem dX4_waitingFor_19 : decode cX4_waitingFor 19 = .ok (.iload 6, 2) := by decide +kernel
set_option maxRecDepth 20000 in
theorem dX4_waitingFor_21 : decode cX4_waitingFor 21 = .ok (.if_icmp .ge 38, 3) := by decide +kernel
set_option maxRecDepth 20000 in
theorem dX4_waitingFor_24 : decode cX4_waitingFor 24 = .ok (.aload 5, 2) := by decide +kernel
set_option maxRecDepth 20000 in
theorem dX4_waitingFor_26 : decode cX4_waitingFor 26 = .ok (.iload 7, 2) := by decide +kernel
set_option maxRecDepth 20000 in
theorem dX4_waitingFor_28 : decode cX4_waitingFor 28 = .ok (.aaload, 1) := by decide +kernel
set_option maxRecDepth 20000 in
theorem dX4_waitingFor_29 : decode cX4_waitingFor 29 = .ok (.astore 8, 2) := by decide +kernel
set_option maxRecDepth 20000 in
theorem dX4_waitingFor_31 : decode cX4_waitingFor 31 = .ok (.aload 8, 2) := by decide +kernel
set_option maxRecDepth 20000 in
theorem dX4_waitingFor_33 : decode cX4_waitingFor 33 = .ok (.invokevirtual 99, 3) := by decide +kernel
set_option maxRecDepth 20000 in
theorem dX4_waitingFor_36 : decode cX4_waitingFor 36 = .ok (.ifCond .eq 17, 3) := by decide +kernel
set_option maxRecDepth 20000 in
theorem dX4_waitingFor_39 : decode cX4_waitingFor 39 = .ok (.aload 8, 2) := by decide +kernel
set_option maxRecDepth 20000 in
theorem dX4_waitingFor_41 : decode cX4_waitingFor 41 = .ok (.iload_n 1, 1) := by decide +kernel
set_option maxRecDepth 20000 in
theorem dX4_waitingFor_42 : decode cX4_waitingFor 42 = .ok (.iload_n 2, 1) := by decide +kernel
set_option maxRecDepth 20000 in
theorem dX4_waitingFor_43 : decode cX4_waitingFor 43 = .ok (.iload_n 3, 1) := by decide +kernel
set_option maxRecDepth 20000 in
theorem dX4_waitingFor_44 : decode cX4_waitingFor 44 = .ok (.invokevirtual 146, 3) := by decide +kernel
set_option maxRecDepth 20000 in
theorem dX4_waitingFor_47 : decode cX4_waitingFor 47 = .ok (.ifCond .eq 6, 3) := by decide +kernel
set_option maxRecDepth 20000 in
theorem dX4_waitingFor_50 : decode cX4_waitingFor 50 = .ok (.iinc 4 1, 3) := by decide +kernel
set_option maxRecDepth 20000 in
theorem dX4_waitingFor_53 : decode cX4_waitingFor 53 = .ok (.iinc 7 1, 3) := by decide +kernel
set_option maxRecDepth 20000 in
theorem dX4_waitingFor_56 : decode cX4_waitingFor 56 = .ok (.goto (-39), 3) := by decide +kernel
set_option maxRecDepth 20000 in
theorem dX4_waitingFor_59 : decode cX4_waitingFor 59 = .ok (.iload 4, 2) := by decide +kernel
set_option maxRecDepth 20000 in
theorem dX4_waitingFor_61 : decode cX4_waitingFor 61 = .ok (.ireturn, 1) := by decide +kernel
set_option maxRecDepth 20000 in
theorem dX4_farthestPromised_0 : decode cX4_farthestPromised 0 = .ok (.iconst 0, 1) := by decide +kernel
set_option maxRecDepth 20000 in
theorem dX4_farthestPromised_1 : decode cX4_farthestPromised 1 = .ok (.istore 4, 2) := by decide +kernel
set_option maxRecDepth 20000 in
theorem dX4_farthestPromised_3 : decode cX4_farthestPromised 3 = .ok (.aload_n 0, 1) := by decide +kernel
set_option maxRecDepth 20000 in
theorem dX4_farthestPromised_4 : decode cX4_farthestPromised 4 = .ok (.getfield 30, 3) := by decide +kernel
set_option maxRecDepth 20000 in
theorem dX4_farthestPromised_7 : decode cX4_farthestPromised 7 = .ok (.astore 5, 2) := by decide +kernel
set_option maxRecDepth 20000 in
theorem dX4_farthestPromised_9 : decode cX4_farthestPromised 9 = .ok (.aload 5, 2) := by decide +kernel
set_option maxRecDepth 20000 in
theorem dX4_farthestPromised_11 : decode cX4_farthestPromised 11 = .ok (.arraylength, 1) := by decide +kernel
set_option maxRecDepth 20000 in
theorem dX4_farthestPromised_12 : decode cX4_farthestPromised 12 = .ok (.istore 6, 2) := by decide +kernel
set_option maxRecDepth 20000 in
theorem dX4_farthestPromised_14 : decode cX4_farthestPromised 14 = .ok (.iconst 0, 1) := by decide +kernel
set_option maxRecDepth 20000 in
theorem dX4_farthestPromised_15 : decode cX4_farthestPromised 15 = .ok (.istore 7, 2) := by decide +kernel
set_option maxRecDepth 20000 in
theorem dX4_farthestPromised_17 : decode cX4_farthestPromised 17 = .ok (.iload 7, 2) := by decide +kernel
set_option maxRecDepth 20000 in
theorem dX4_farthestPromised_19 : decode cX4_farthestPromised 19 = .ok (.iload 6, 2) := by decide +kernel
set_option maxRecDepth 20000 in
theorem dX4_farthestPromised_21 : decode cX4_farthestPromised 21 = .ok (.if_icmp .ge 47, 3) := by decide +kernel
set_option maxRecDepth 20000 in
theorem dX4_farthestPromised_24 : decode cX4_farthestPromised 24 = .ok (.aload 5, 2) := by decide +kernel
set_option maxRecDepth 20000 in
theorem dX4_farthestPromised_26 : decode cX4_farthestPromised 26 = .ok (.iload 7, 2) := by decide +kernel
set_option maxRecDepth 20000 in
theorem dX4_farthestPromised_28 : decode cX4_farthestPromised 28 = .ok (.aaload, 1) := by decide +kernel
set_option maxRecDepth 20000 in
theorem dX4_farthestPromised_29 : decode cX4_farthestPromised 29 = .ok (.astore 8, 2) := by decide +kernel
set_option maxRecDepth 20000 in
theorem dX4_farthestPromised_31 : decode cX4_farthestPromised 31 = .ok (.aload 8, 2) := by decide +kernel
set_option maxRecDepth 20000 in
theorem dX4_farthestPromised_33 : decode cX4_farthestPromised 33 = .ok (.invokevirtual 143, 3) := by decide +kernel
set_option maxRecDepth 20000 in
theorem dX4_farthestPromised_36 : decode cX4_farthestPromised 36 = .ok (.ifCond .eq 26, 3) := by decide +kernel
set_option maxRecDepth 20000 in
theorem dX4_farthestPromised_39 : decode cX4_farthestPromised 39 = .ok (.aload 8, 2) := by decide +kernel
set_option maxRecDepth 20000 in
theorem dX4_farthestPromised_41 : decode cX4_farthestPromised 41 = .ok (.iload_n 1, 1) := by decide +kernel
set_option maxRecDepth 20000 in
theorem dX4_farthestPromised_42 : decode cX4_farthestPromised 42 = .ok (.iload_n 2, 1) := by decide +kernel
set_option maxRecDepth 20000 in
theorem dX4_farthestPromised_43 : decode cX4_farthestPromised 43 = .ok (.iload_n 3, 1) := by decide +kernel
set_option maxRecDepth 20000 in
theorem dX4_farthestPromised_44 : decode cX4_farthestPromised 44 = .ok (.invokevirtual 146, 3) := by decide +kernel
set_option maxRecDepth 20000 in
theorem dX4_farthestPromised_47 : decode cX4_farthestPromised 47 = .ok (.ifCond .eq 15, 3) := by decide +kernel
set_option maxRecDepth 20000 in
theorem dX4_farthestPromised_50 : decode cX4_farthestPromised 50 = .ok (.iload 4, 2) := by decide +kernel
set_option maxRecDepth 20000 in
theorem dX4_farthestPromised_52 : decode cX4_farthestPromised 52 = .ok (.aload 8, 2) := by decide +kernel
set_option maxRecDepth 20000 in
theorem dX4_farthestPromised_54 : decode cX4_farthestPromised 54 = .ok (.getfield 92, 3) := by decide +kernel
set_option maxRecDepth 20000 in
theorem dX4_farthestPromised_57 : decode cX4_farthestPromised 57 = .ok (.invokestatic 135, 3) := by decide +kernel
set_option maxRecDepth 20000 in
theorem dX4_farthestPromised_60 : decode cX4_farthestPromised 60 = .ok (.istore 4, 2) := by decide +kernel
set_option maxRecDepth 20000 in
theorem dX4_farthestPromised_62 : decode cX4_farthestPromised 62 = .ok (.iinc 7 1, 3) := by decide +kernel
set_option maxRecDepth 20000 in
theorem dX4_farthestPromised_65 : decode cX4_farthestPromised 65 = .ok (.goto (-48), 3) := by decide +kernel
set_option maxRecDepth 20000 in
theorem dX4_farthestPromised_68 : decode cX4_farthestPromised 68 = .ok (.iload 4, 2) := by decide +kernel
set_option maxRecDepth 20000 in
theorem dX4_farthestPromised_70 : decode cX4_farthestPromised 70 = .ok (.ireturn, 1) := by decide +kernel
set_option maxRecDepth 20000 in
theorem dX4_canMerge_0 : decode cX4_canMerge 0 = .ok (.aload_n 0, 1) := by decide +kernel
set_option maxRecDepth 20000 in
theorem dX4_canMerge_1 : decode cX4_canMerge 1 = .ok (.iload_n 1, 1) := by decide +kernel
set_option maxRecDepth 20000 in
theorem dX4_canMerge_2 : decode cX4_canMerge 2 = .ok (.iload_n 2, 1) := by decide +kernel
set_option maxRecDepth 20000 in
theorem dX4_canMerge_3 : decode cX4_canMerge 3 = .ok (.invokevirtual 106, 3) := by decide +kernel
set_option maxRecDepth 20000 in
theorem dX4_canMerge_6 : decode cX4_canMerge 6 = .ok (.bipush (-5), 2) := by decide +kernel
set_option maxRecDepth 20000 in
theorem dX4_canMerge_8 : decode cX4_canMerge 8 = .ok (.if_icmp .ne 14, 3) := by decide +kernel
set_option maxRecDepth 20000 in
theorem dX4_canMerge_11 : decode cX4_canMerge 11 = .ok (.aload_n 0, 1) := by decide +kernel
set_option maxRecDepth 20000 in
theorem dX4_canMerge_12 : decode cX4_canMerge 12 = .ok (.iload_n 1, 1) := by decide +kernel
set_option maxRecDepth 20000 in
theorem dX4_canMerge_13 : decode cX4_canMerge 13 = .ok (.iload_n 3, 1) := by decide +kernel
set_option maxRecDepth 20000 in
theorem dX4_canMerge_14 : decode cX4_canMerge 14 = .ok (.invokevirtual 106, 3) := by decide +kernel
set_option maxRecDepth 20000 in
theorem dX4_canMerge_17 : decode cX4_canMerge 17 = .ok (.bipush (-5), 2) := by decide +kernel
set_option maxRecDepth 20000 in
theorem dX4_canMerge_19 : decode cX4_canMerge 19 = .ok (.if_icmp .eq 5, 3) := by decide +kernel
set_option maxRecDepth 20000 in
theorem dX4_canMerge_22 : decode cX4_canMerge 22 = .ok (.iconst 0, 1) := by decide +kernel
set_option maxRecDepth 20000 in
theorem dX4_canMerge_23 : decode cX4_canMerge 23 = .ok (.ireturn, 1) := by decide +kernel
set_option maxRecDepth 20000 in
theorem dX4_canMerge_24 : decode cX4_canMerge 24 = .ok (.aload_n 0, 1) := by decide +kernel
set_option maxRecDepth 20000 in
theorem dX4_canMerge_25 : decode cX4_canMerge 25 = .ok (.iload_n 2, 1) := by decide +kernel
set_option maxRecDepth 20000 in
theorem dX4_canMerge_26 : decode cX4_canMerge 26 = .ok (.invokevirtual 64, 3) := by decide +kernel
set_option maxRecDepth 20000 in
theorem dX4_canMerge_29 : decode cX4_canMerge 29 = .ok (.aload_n 0, 1) := by decide +kernel
set_option maxRecDepth 20000 in
theorem dX4_canMerge_30 : decode cX4_canMerge 30 = .ok (.iload_n 3, 1) := by decide +kernel
set_option maxRecDepth 20000 in
theorem dX4_canMerge_31 : decode cX4_canMerge 31 = .ok (.invokevirtual 64, 3) := by decide +kernel
set_option maxRecDepth 20000 in
theorem dX4_canMerge_34 : decode cX4_canMerge 34 = .ok (.isub, 1) := by decide +kernel
set_option maxRecDepth 20000 in
theorem dX4_canMerge_35 : decode cX4_canMerge 35 = .ok (.invokestatic 150, 3) := by decide +kernel
set_option maxRecDepth 20000 in
theorem dX4_canMerge_38 : decode cX4_canMerge 38 = .ok (.aload_n 0, 1) := by decide +kernel
set_option maxRecDepth 20000 in
theorem dX4_canMerge_39 : decode cX4_canMerge 39 = .ok (.iconst 2, 1) := by decide +kernel
set_option maxRecDepth 20000 in
theorem dX4_canMerge_40 : decode cX4_canMerge 40 = .ok (.invokevirtual 114, 3) := by decide +kernel
set_option maxRecDepth 20000 in
theorem dX4_canMerge_43 : decode cX4_canMerge 43 = .ok (.if_icmp .le 5, 3) := by decide +kernel
set_option maxRecDepth 20000 in
theorem dX4_canMerge_46 : decode cX4_canMerge 46 = .ok (.iconst 0, 1) := by decide +kernel
set_option maxRecDepth 20000 in
theorem dX4_canMerge_47 : decode cX4_canMerge 47 = .ok (.ireturn, 1) := by decide +kernel
set_option maxRecDepth 20000 in
theorem dX4_canMerge_48 : decode cX4_canMerge 48 = .ok (.aload_n 0, 1) := by decide +kernel
set_option maxRecDepth 20000 in
theorem dX4_canMerge_49 : decode cX4_canMerge 49 = .ok (.iload_n 1, 1) := by decide +kernel
set_option maxRecDepth 20000 in
theorem dX4_canMerge_50 : decode cX4_canMerge 50 = .ok (.iload_n 2, 1) := by decide +kernel
set_option maxRecDepth 20000 in
theorem dX4_canMerge_51 : decode cX4_canMerge 51 = .ok (.iload_n 3, 1) := by decide +kernel
set_option maxRecDepth 20000 in
theorem dX4_canMerge_52 : decode cX4_canMerge 52 = .ok (.iconst 1, 1) := by decide +kernel
set_option maxRecDepth 20000 in
theorem dX4_canMerge_53 : decode cX4_canMerge 53 = .ok (.aconst_null, 1) := by decide +kernel
set_option maxRecDepth 20000 in
theorem dX4_canMerge_54 : decode cX4_canMerge 54 = .ok (.invokevirtual 110, 3) := by decide +kernel
set_option maxRecDepth 20000 in
theorem dX4_canMerge_57 : decode cX4_canMerge 57 = .ok (.aload_n 0, 1) := by decide +kernel
set_option maxRecDepth 20000 in
theorem dX4_canMerge_58 : decode cX4_canMerge 58 = .ok (.iconst 1, 1) := by decide +kernel
set_option maxRecDepth 20000 in
theorem dX4_canMerge_59 : decode cX4_canMerge 59 = .ok (.invokevirtual 114, 3) := by decide +kernel
set_option maxRecDepth 20000 in
theorem dX4_canMerge_62 : decode cX4_canMerge 62 = .ok (.if_icmp .gt 17, 3) := by decide +kernel
set_option maxRecDepth 20000 in
theorem dX4_canMerge_65 : decode cX4_canMerge 65 = .ok (.aload_n 0, 1) := by decide +kernel
set_option maxRecDepth 20000 in
theorem dX4_canMerge_66 : decode cX4_canMerge 66 = .ok (.iload_n 1, 1) := by decide +kernel
set_option maxRecDepth 20000 in
theorem dX4_canMerge_67 : decode cX4_canMerge 67 = .ok (.iload_n 2, 1) := by decide +kernel
set_option maxRecDepth 20000 in
theorem dX4_canMerge_68 : decode cX4_canMerge 68 = .ok (.iload_n 3, 1) := by decide +kernel
set_option maxRecDepth 20000 in
theorem dX4_canMerge_69 : decode cX4_canMerge 69 = .ok (.invokevirtual 153, 3) := by decide +kernel
set_option maxRecDepth 20000 in
theorem dX4_canMerge_72 : decode cX4_canMerge 72 = .ok (.ifCond .eq 7, 3) := by decide +kernel
set_option maxRecDepth 20000 in
theorem dX4_canMerge_75 : decode cX4_canMerge 75 = .ok (.iconst 1, 1) := by decide +kernel
set_option maxRecDepth 20000 in
theorem dX4_canMerge_76 : decode cX4_canMerge 76 = .ok (.goto 4, 3) := by decide +kernel
set_option maxRecDepth 20000 in
theorem dX4_canMerge_79 : decode cX4_canMerge 79 = .ok (.iconst 0, 1) := by decide +kernel
set_option maxRecDepth 20000 in
theorem dX4_canMerge_80 : decode cX4_canMerge 80 = .ok (.ireturn, 1) := by decide +kernel
set_option maxRecDepth 20000 in
theorem dX4_isInTimeForAll_0 : decode cX4_isInTimeForAll 0 = .ok (.aload_n 0, 1) := by decide +kernel
set_option maxRecDepth 20000 in
theorem dX4_isInTimeForAll_1 : decode cX4_isInTimeForAll 1 = .ok (.iload_n 2, 1) := by decide +kernel
set_option maxRecDepth 20000 in
theorem dX4_isInTimeForAll_2 : decode cX4_isInTimeForAll 2 = .ok (.iload_n 3, 1) := by decide +kernel
set_option maxRecDepth 20000 in
theorem dX4_isInTimeForAll_3 : decode cX4_isInTimeForAll 3 = .ok (.invokevirtual 140, 3) := by decide +kernel
set_option maxRecDepth 20000 in
theorem dX4_isInTimeForAll_6 : decode cX4_isInTimeForAll 6 = .ok (.istore 4, 2) := by decide +kernel
set_option maxRecDepth 20000 in
theorem dX4_isInTimeForAll_8 : decode cX4_isInTimeForAll 8 = .ok (.aload_n 0, 1) := by decide +kernel
set_option maxRecDepth 20000 in
theorem dX4_isInTimeForAll_9 : decode cX4_isInTimeForAll 9 = .ok (.getfield 30, 3) := by decide +kernel
set_option maxRecDepth 20000 in
theorem dX4_isInTimeForAll_12 : decode cX4_isInTimeForAll 12 = .ok (.astore 5, 2) := by decide +kernel
set_option maxRecDepth 20000 in
theorem dX4_isInTimeForAll_14 : decode cX4_isInTimeForAll 14 = .ok (.aload 5, 2) := by decide +kernel
set_option maxRecDepth 20000 in
theorem dX4_isInTimeForAll_16 : decode cX4_isInTimeForAll 16 = .ok (.arraylength, 1) := by decide +kernel
set_option maxRecDepth 20000 in
theorem dX4_isInTimeForAll_17 : decode cX4_isInTimeForAll 17 = .ok (.istore 6, 2) := by decide +kernel
set_option maxRecDepth 20000 in
theorem dX4_isInTimeForAll_19 : decode cX4_isInTimeForAll 19 = .ok (.iconst 0, 1) := by decide +kernel
set_option maxRecDepth 20000 in
theorem dX4_isInTimeForAll_20 : decode cX4_isInTimeForAll 20 = .ok (.istore 7, 2) := by decide +kernel
set_option maxRecDepth 20000 in
theorem dX4_isInTimeForAll_22 : decode cX4_isInTimeForAll 22 = .ok (.iload 7, 2) := by decide +kernel
set_option maxRecDepth 20000 in
theorem dX4_isInTimeForAll_24 : decode cX4_isInTimeForAll 24 = .ok (.iload 6, 2) := by decide +kernel
set_option maxRecDepth 20000 in
theorem dX4_isInTimeForAll_26 : decode cX4_isInTimeForAll 26 = .ok (.if_icmp .ge 48, 3) := by decide +kernel
set_option maxRecDepth 20000 in
theorem dX4_isInTimeForAll_29 : decode cX4_isInTimeForAll 29 = .ok (.aload 5, 2) := by decide +kernel
set_option maxRecDepth 20000 in
theorem dX4_isInTimeForAll_31 : decode cX4_isInTimeForAll 31 = .ok (.iload 7, 2) := by decide +kernel
set_option maxRecDepth 20000 in
theorem dX4_isInTimeForAll_33 : decode cX4_isInTimeForAll 33 = .ok (.aaload, 1) := by decide +kernel
set_option maxRecDepth 20000 in
theorem dX4_isInTimeForAll_34 : decode cX4_isInTimeForAll 34 = .ok (.astore 8, 2) := by decide +kernel
set_option maxRecDepth 20000 in
theorem dX4_isInTimeForAll_36 : decode cX4_isInTimeForAll 36 = .ok (.aload 8, 2) := by decide +kernel
set_option maxRecDepth 20000 in
theorem dX4_isInTimeForAll_38 : decode cX4_isInTimeForAll 38 = .ok (.invokevirtual 143, 3) := by decide +kernel
set_option maxRecDepth 20000 in
theorem dX4_isInTimeForAll_41 : decode cX4_isInTimeForAll 41 = .ok (.ifCond .eq 27, 3) := by decide +kernel
set_option maxRecDepth 20000 in
theorem dX4_isInTimeForAll_44 : decode cX4_isInTimeForAll 44 = .ok (.aload 8, 2) := by decide +kernel
set_option maxRecDepth 20000 in
theorem dX4_isInTimeForAll_46 : decode cX4_isInTimeForAll 46 = .ok (.iload_n 1, 1) := by decide +kernel
set_option maxRecDepth 20000 in
theorem dX4_isInTimeForAll_47 : decode cX4_isInTimeForAll 47 = .ok (.iload_n 2, 1) := by decide +kernel
set_option maxRecDepth 20000 in
theorem dX4_isInTimeForAll_48 : decode cX4_isInTimeForAll 48 = .ok (.iload_n 3, 1) := by decide +kernel
set_option maxRecDepth 20000 in
theorem dX4_isInTimeForAll_49 : decode cX4_isInTimeForAll 49 = .ok (.invokevirtual 146, 3) := by decide +kernel
set_option maxRecDepth 20000 in
theorem dX4_isInTimeForAll_52 : decode cX4_isInTimeForAll 52 = .ok (.ifCond .eq 16, 3) := by decide +kernel
set_option maxRecDepth 20000 in
theorem dX4_isInTimeForAll_55 : decode cX4_isInTimeForAll 55 = .ok (.aload_n 0, 1) := by decide +kernel
set_option maxRecDepth 20000 in
theorem dX4_isInTimeForAll_56 : decode cX4_isInTimeForAll 56 = .ok (.aload 8, 2) := by decide +kernel
set_option maxRecDepth 20000 in
theorem dX4_isInTimeForAll_58 : decode cX4_isInTimeForAll 58 = .ok (.iload 4, 2) := by decide +kernel
set_option maxRecDepth 20000 in
theorem dX4_isInTimeForAll_60 : decode cX4_isInTimeForAll 60 = .ok (.invokevirtual 156, 3) := by decide +kernel
set_option maxRecDepth 20000 in
theorem dX4_isInTimeForAll_63 : decode cX4_isInTimeForAll 63 = .ok (.ifCond .ne 5, 3) := by decide +kernel
set_option maxRecDepth 20000 in
theorem dX4_isInTimeForAll_66 : decode cX4_isInTimeForAll 66 = .ok (.iconst 0, 1) := by decide +kernel
set_option maxRecDepth 20000 in
theorem dX4_isInTimeForAll_67 : decode cX4_isInTimeForAll 67 = .ok (.ireturn, 1) := by decide +kernel
set_option maxRecDepth 20000 in
theorem dX4_isInTimeForAll_68 : decode cX4_isInTimeForAll 68 = .ok (.iinc 7 1, 3) := by decide +kernel
set_option maxRecDepth 20000 in
theorem dX4_isInTimeForAll_71 : decode cX4_isInTimeForAll 71 = .ok (.goto (-49), 3) := by decide +kernel
set_option maxRecDepth 20000 in
theorem dX4_isInTimeForAll_74 : decode cX4_isInTimeForAll 74 = .ok (.iconst 1, 1) := by decide +kernel
set_option maxRecDepth 20000 in
theorem dX4_isInTimeForAll_75 : decode cX4_isInTimeForAll 75 = .ok (.ireturn, 1) := by decide +kernel
set_option maxRecDepth 20000 in
theorem dX4_canRide_0 : decode cX4_canRide 0 = .ok (.aload_n 0, 1) := by decide +kernel
set_option maxRecDepth 20000 in
theorem dX4_canRide_1 : decode cX4_canRide 1 = .ok (.iload_n 2, 1) := by decide +kernel
set_option maxRecDepth 20000 in
theorem dX4_canRide_2 : decode cX4_canRide 2 = .ok (.iload_n 3, 1) := by decide +kernel
set_option maxRecDepth 20000 in
theorem dX4_canRide_3 : decode cX4_canRide 3 = .ok (.invokevirtual 140, 3) := by decide +kernel
set_option maxRecDepth 20000 in
theorem dX4_canRide_6 : decode cX4_canRide 6 = .ok (.istore 4, 2) := by decide +kernel
set_option maxRecDepth 20000 in
theorem dX4_canRide_8 : decode cX4_canRide 8 = .ok (.aload_n 0, 1) := by decide +kernel
set_option maxRecDepth 20000 in
theorem dX4_canRide_9 : decode cX4_canRide 9 = .ok (.aload_n 1, 1) := by decide +kernel
set_option maxRecDepth 20000 in
theorem dX4_canRide_10 : decode cX4_canRide 10 = .ok (.iload 4, 2) := by decide +kernel
set_option maxRecDepth 20000 in
theorem dX4_canRide_12 : decode cX4_canRide 12 = .ok (.invokevirtual 156, 3) := by decide +kernel
set_option maxRecDepth 20000 in
theorem dX4_canRide_15 : decode cX4_canRide 15 = .ok (.ifCond .ne 5, 3) := by decide +kernel
set_option maxRecDepth 20000 in
theorem dX4_canRide_18 : decode cX4_canRide 18 = .ok (.iconst 0, 1) := by decide +kernel
set_option maxRecDepth 20000 in
theorem dX4_canRide_19 : decode cX4_canRide 19 = .ok (.ireturn, 1) := by decide +kernel
set_option maxRecDepth 20000 in
theorem dX4_canRide_20 : decode cX4_canRide 20 = .ok (.iconst 0, 1) := by decide +kernel
set_option maxRecDepth 20000 in
theorem dX4_canRide_21 : decode cX4_canRide 21 = .ok (.istore 5, 2) := by decide +kernel
set_option maxRecDepth 20000 in
theorem dX4_canRide_23 : decode cX4_canRide 23 = .ok (.aload_n 0, 1) := by decide +kernel
set_option maxRecDepth 20000 in
theorem dX4_canRide_24 : decode cX4_canRide 24 = .ok (.getfield 30, 3) := by decide +kernel
set_option maxRecDepth 20000 in
theorem dX4_canRide_27 : decode cX4_canRide 27 = .ok (.astore 6, 2) := by decide +kernel
set_option maxRecDepth 20000 in
theorem dX4_canRide_29 : decode cX4_canRide 29 = .ok (.aload 6, 2) := by decide +kernel
set_option maxRecDepth 20000 in
theorem dX4_canRide_31 : decode cX4_canRide 31 = .ok (.arraylength, 1) := by decide +kernel
set_option maxRecDepth 20000 in
theorem dX4_canRide_32 : decode cX4_canRide 32 = .ok (.istore 7, 2) := by decide +kernel
set_option maxRecDepth 20000 in
theorem dX4_canRide_34 : decode cX4_canRide 34 = .ok (.iconst 0, 1) := by decide +kernel
set_option maxRecDepth 20000 in
theorem dX4_canRide_35 : decode cX4_canRide 35 = .ok (.istore 8, 2) := by decide +kernel
set_option maxRecDepth 20000 in
theorem dX4_canRide_37 : decode cX4_canRide 37 = .ok (.iload 8, 2) := by decide +kernel
set_option maxRecDepth 20000 in
theorem dX4_canRide_39 : decode cX4_canRide 39 = .ok (.iload 7, 2) := by decide +kernel
set_option maxRecDepth 20000 in
theorem dX4_canRide_41 : decode cX4_canRide 41 = .ok (.if_icmp .ge 61, 3) := by decide +kernel
set_option maxRecDepth 20000 in
theorem dX4_canRide_44 : decode cX4_canRide 44 = .ok (.aload 6, 2) := by decide +kernel
set_option maxRecDepth 20000 in
theorem dX4_canRide_46 : decode cX4_canRide 46 = .ok (.iload 8, 2) := by decide +kernel
set_option maxRecDepth 20000 in
theorem dX4_canRide_48 : decode cX4_canRide 48 = .ok (.aaload, 1) := by decide +kernel
set_option maxRecDepth 20000 in
theorem dX4_canRide_49 : decode cX4_canRide 49 = .ok (.astore 9, 2) := by decide +kernel
set_option maxRecDepth 20000 in
theorem dX4_canRide_51 : decode cX4_canRide 51 = .ok (.aload 9, 2) := by decide +kernel
set_option maxRecDepth 20000 in
theorem dX4_canRide_53 : decode cX4_canRide 53 = .ok (.invokevirtual 143, 3) := by decide +kernel
set_option maxRecDepth 20000 in
theorem dX4_canRide_56 : decode cX4_canRide 56 = .ok (.ifCond .eq 40, 3) := by decide +kernel
set_option maxRecDepth 20000 in
theorem dX4_canRide_59 : decode cX4_canRide 59 = .ok (.aload 9, 2) := by decide +kernel
set_option maxRecDepth 20000 in
theorem dX4_canRide_61 : decode cX4_canRide 61 = .ok (.aload_n 1, 1) := by decide +kernel
set_option maxRecDepth 20000 in
theorem dX4_canRide_62 : decode cX4_canRide 62 = .ok (.getfield 89, 3) := by decide +kernel
set_option maxRecDepth 20000 in
theorem dX4_canRide_65 : decode cX4_canRide 65 = .ok (.iload_n 2, 1) := by decide +kernel
set_option maxRecDepth 20000 in
theorem dX4_canRide_66 : decode cX4_canRide 66 = .ok (.iload_n 3, 1) := by decide +kernel
set_option maxRecDepth 20000 in
theorem dX4_canRide_67 : decode cX4_canRide 67 = .ok (.invokevirtual 146, 3) := by decide +kernel
set_option maxRecDepth 20000 in
theorem dX4_canRide_70 : decode cX4_canRide 70 = .ok (.ifCond .eq 26, 3) := by decide +kernel
set_option maxRecDepth 20000 in
theorem dX4_canRide_73 : decode cX4_canRide 73 = .ok (.aload_n 0, 1) := by decide +kernel
set_option maxRecDepth 20000 in
theorem dX4_canRide_74 : decode cX4_canRide 74 = .ok (.aload 9, 2) := by decide +kernel
set_option maxRecDepth 20000 in
theorem dX4_canRide_76 : decode cX4_canRide 76 = .ok (.iload 4, 2) := by decide +kernel
set_option maxRecDepth 20000 in
theorem dX4_canRide_78 : decode cX4_canRide 78 = .ok (.invokevirtual 156, 3) := by decide +kernel
set_option maxRecDepth 20000 in
theorem dX4_canRide_81 : decode cX4_canRide 81 = .ok (.ifCond .eq 15, 3) := by decide +kernel
set_option maxRecDepth 20000 in
theorem dX4_canRide_84 : decode cX4_canRide 84 = .ok (.aload 9, 2) := by decide +kernel
set_option maxRecDepth 20000 in
theorem dX4_canRide_86 : decode cX4_canRide 86 = .ok (.aload_n 1, 1) := by decide +kernel
set_option maxRecDepth 20000 in
theorem dX4_canRide_87 : decode cX4_canRide 87 = .ok (.invokevirtual 160, 3) := by decide +kernel
set_option maxRecDepth 20000 in
theorem dX4_canRide_90 : decode cX4_canRide 90 = .ok (.ifCond .eq 6, 3) := by decide +kernel
set_option maxRecDepth 20000 in
theorem dX4_canRide_93 : decode cX4_canRide 93 = .ok (.iinc 5 1, 3) := by decide +kernel
set_option maxRecDepth 20000 in
theorem dX4_canRide_96 : decode cX4_canRide 96 = .ok (.iinc 8 1, 3) := by decide +kernel
set_option maxRecDepth 20000 in
theorem dX4_canRide_99 : decode cX4_canRide 99 = .ok (.goto (-62), 3) := by decide +kernel
set_option maxRecDepth 20000 in
theorem dX4_canRide_102 : decode cX4_canRide 102 = .ok (.iload 5, 2) := by decide +kernel
set_option maxRecDepth 20000 in
theorem dX4_canRide_104 : decode cX4_canRide 104 = .ok (.aload_n 0, 1) := by decide +kernel
set_option maxRecDepth 20000 in
theorem dX4_canRide_105 : decode cX4_canRide 105 = .ok (.iconst 1, 1) := by decide +kernel
set_option maxRecDepth 20000 in
theorem dX4_canRide_106 : decode cX4_canRide 106 = .ok (.invokevirtual 114, 3) := by decide +kernel
set_option maxRecDepth 20000 in
theorem dX4_canRide_109 : decode cX4_canRide 109 = .ok (.if_icmp .ge 7, 3) := by decide +kernel
set_option maxRecDepth 20000 in
theorem dX4_canRide_112 : decode cX4_canRide 112 = .ok (.iconst 1, 1) := by decide +kernel
set_option maxRecDepth 20000 in
theorem dX4_canRide_113 : decode cX4_canRide 113 = .ok (.goto 4, 3) := by decide +kernel
set_option maxRecDepth 20000 in
theorem dX4_canRide_116 : decode cX4_canRide 116 = .ok (.iconst 0, 1) := by decide +kernel
set_option maxRecDepth 20000 in
theorem dX4_canRide_117 : decode cX4_canRide 117 = .ok (.ireturn, 1) := by decide +kernel
set_option maxRecDepth 20000 in
theorem dX4_costToday_0 : decode cX4_costToday 0 = .ok (.iconst 0, 1) := by decide +kernel
set_option maxRecDepth 20000 in
theorem dX4_costToday_1 : decode cX4_costToday 1 = .ok (.istore 4, 2) := by decide +kernel
set_option maxRecDepth 20000 in
theorem dX4_costToday_3 : decode cX4_costToday 3 = .ok (.aload_n 0, 1) := by decide +kernel
set_option maxRecDepth 20000 in
theorem dX4_costToday_4 : decode cX4_costToday 4 = .ok (.getfield 30, 3) := by decide +kernel
set_option maxRecDepth 20000 in
theorem dX4_costToday_7 : decode cX4_costToday 7 = .ok (.astore 5, 2) := by decide +kernel
set_option maxRecDepth 20000 in
theorem dX4_costToday_9 : decode cX4_costToday 9 = .ok (.aload 5, 2) := by decide +kernel
set_option maxRecDepth 20000 in
theorem dX4_costToday_11 : decode cX4_costToday 11 = .ok (.arraylength, 1) := by decide +kernel
set_option maxRecDepth 20000 in
theorem dX4_costToday_12 : decode cX4_costToday 12 = .ok (.istore 6, 2) := by decide +kernel
set_option maxRecDepth 20000 in
theorem dX4_costToday_14 : decode cX4_costToday 14 = .ok (.iconst 0, 1) := by decide +kernel
set_option maxRecDepth 20000 in
theorem dX4_costToday_15 : decode cX4_costToday 15 = .ok (.istore 7, 2) := by decide +kernel
set_option maxRecDepth 20000 in
theorem dX4_costToday_17 : decode cX4_costToday 17 = .ok (.iload 7, 2) := by decide +kernel
set_option maxRecDepth 20000 in
theorem dX4_costToday_19 : decode cX4_costToday 19 = .ok (.iload 6, 2) := by decide +kernel
set_option maxRecDepth 20000 in
theorem dX4_costToday_21 : decode cX4_costToday 21 = .ok (.if_icmp .ge 58, 3) := by decide +kernel
set_option maxRecDepth 20000 in
theorem dX4_costToday_24 : decode cX4_costToday 24 = .ok (.aload 5, 2) := by decide +kernel
set_option maxRecDepth 20000 in
theorem dX4_costToday_26 : decode cX4_costToday 26 = .ok (.iload 7, 2) := by decide +kernel
set_option maxRecDepth 20000 in
theorem dX4_costToday_28 : decode cX4_costToday 28 = .ok (.aaload, 1) := by decide +kernel
set_option maxRecDepth 20000 in
theorem dX4_costToday_29 : decode cX4_costToday 29 = .ok (.astore 8, 2) := by decide +kernel
set_option maxRecDepth 20000 in
theorem dX4_costToday_31 : decode cX4_costToday 31 = .ok (.aload 8, 2) := by decide +kernel
set_option maxRecDepth 20000 in
theorem dX4_costToday_33 : decode cX4_costToday 33 = .ok (.invokevirtual 143, 3) := by decide +kernel
set_option maxRecDepth 20000 in
theorem dX4_costToday_36 : decode cX4_costToday 36 = .ok (.ifCond .eq 37, 3) := by decide +kernel
set_option maxRecDepth 20000 in
theorem dX4_costToday_39 : decode cX4_costToday 39 = .ok (.aload 8, 2) := by decide +kernel
set_option maxRecDepth 20000 in
theorem dX4_costToday_41 : decode cX4_costToday 41 = .ok (.iload_n 1, 1) := by decide +kernel
set_option maxRecDepth 20000 in
theorem dX4_costToday_42 : decode cX4_costToday 42 = .ok (.iload_n 2, 1) := by decide +kernel
set_option maxRecDepth 20000 in
theorem dX4_costToday_43 : decode cX4_costToday 43 = .ok (.iload_n 3, 1) := by decide +kernel
set_option maxRecDepth 20000 in
theorem dX4_costToday_44 : decode cX4_costToday 44 = .ok (.invokevirtual 146, 3) := by decide +kernel
set_option maxRecDepth 20000 in
theorem dX4_costToday_47 : decode cX4_costToday 47 = .ok (.ifCond .eq 26, 3) := by decide +kernel
set_option maxRecDepth 20000 in
theorem dX4_costToday_50 : decode cX4_costToday 50 = .ok (.aload_n 0, 1) := by decide +kernel
set_option maxRecDepth 20000 in
theorem dX4_costToday_51 : decode cX4_costToday 51 = .ok (.aload 8, 2) := by decide +kernel
set_option maxRecDepth 20000 in
theorem dX4_costToday_53 : decode cX4_costToday 53 = .ok (.iload_n 2, 1) := by decide +kernel
set_option maxRecDepth 20000 in
theorem dX4_costToday_54 : decode cX4_costToday 54 = .ok (.iload_n 3, 1) := by decide +kernel
set_option maxRecDepth 20000 in
theorem dX4_costToday_55 : decode cX4_costToday 55 = .ok (.invokevirtual 164, 3) := by decide +kernel
set_option maxRecDepth 20000 in
theorem dX4_costToday_58 : decode cX4_costToday 58 = .ok (.ifCond .eq 15, 3) := by decide +kernel
set_option maxRecDepth 20000 in
theorem dX4_costToday_61 : decode cX4_costToday 61 = .ok (.iload 4, 2) := by decide +kernel
set_option maxRecDepth 20000 in
theorem dX4_costToday_63 : decode cX4_costToday 63 = .ok (.aload 8, 2) := by decide +kernel
set_option maxRecDepth 20000 in
theorem dX4_costToday_65 : decode cX4_costToday 65 = .ok (.getfield 92, 3) := by decide +kernel
set_option maxRecDepth 20000 in
theorem dX4_costToday_68 : decode cX4_costToday 68 = .ok (.invokestatic 135, 3) := by decide +kernel
set_option maxRecDepth 20000 in
theorem dX4_costToday_71 : decode cX4_costToday 71 = .ok (.istore 4, 2) := by decide +kernel
set_option maxRecDepth 20000 in
theorem dX4_costToday_73 : decode cX4_costToday 73 = .ok (.iinc 7 1, 3) := by decide +kernel
set_option maxRecDepth 20000 in
theorem dX4_costToday_76 : decode cX4_costToday 76 = .ok (.goto (-59), 3) := by decide +kernel
set_option maxRecDepth 20000 in
theorem dX4_costToday_79 : decode cX4_costToday 79 = .ok (.iload 4, 2) := by decide +kernel
set_option maxRecDepth 20000 in
theorem dX4_costToday_81 : decode cX4_costToday 81 = .ok (.ifCond .ne 7, 3) := by decide +kernel
set_option maxRecDepth 20000 in
theorem dX4_costToday_84 : decode cX4_costToday 84 = .ok (.iconst 0, 1) := by decide +kernel
set_option maxRecDepth 20000 in
theorem dX4_costToday_85 : decode cX4_costToday 85 = .ok (.goto 10, 3) := by decide +kernel
set_option maxRecDepth 20000 in
theorem dX4_costToday_88 : decode cX4_costToday 88 = .ok (.bipush 20, 2) := by decide +kernel
set_option maxRecDepth 20000 in
theorem dX4_costToday_90 : decode cX4_costToday 90 = .ok (.iconst 2, 1) := by decide +kernel
set_option maxRecDepth 20000 in
theorem dX4_costToday_91 : decode cX4_costToday 91 = .ok (.iload 4, 2) := by decide +kernel
set_option maxRecDepth 20000 in
theorem dX4_costToday_93 : decode cX4_costToday 93 = .ok (.imul, 1) := by decide +kernel
set_option maxRecDepth 20000 in
theorem dX4_costToday_94 : decode cX4_costToday 94 = .ok (.iadd, 1) := by decide +kernel
set_option maxRecDepth 20000 in
theorem dX4_costToday_95 : decode cX4_costToday 95 = .ok (.ireturn, 1) := by decide +kernel
set_option maxRecDepth 20000 in
theorem dX4_runBuses_0 : decode cX4_runBuses 0 = .ok (.iconst 0, 1) := by decide +kernel
set_option maxRecDepth 20000 in
theorem dX4_runBuses_1 : decode cX4_runBuses 1 = .ok (.istore_n 1, 1) := by decide +kernel
set_option maxRecDepth 20000 in
theorem dX4_runBuses_2 : decode cX4_runBuses 2 = .ok (.iload_n 1, 1) := by decide +kernel
set_option maxRecDepth 20000 in
theorem dX4_runBuses_3 : decode cX4_runBuses 3 = .ok (.iconst 2, 1) := by decide +kernel
set_option maxRecDepth 20000 in
theorem dX4_runBuses_4 : decode cX4_runBuses 4 = .ok (.if_icmp .ge 75, 3) := by decide +kernel
set_option maxRecDepth 20000 in
theorem dX4_runBuses_7 : decode cX4_runBuses 7 = .ok (.iconst 0, 1) := by decide +kernel
set_option maxRecDepth 20000 in
theorem dX4_runBuses_8 : decode cX4_runBuses 8 = .ok (.istore_n 2, 1) := by decide +kernel
set_option maxRecDepth 20000 in
theorem dX4_runBuses_9 : decode cX4_runBuses 9 = .ok (.iload_n 2, 1) := by decide +kernel
set_option maxRecDepth 20000 in
theorem dX4_runBuses_10 : decode cX4_runBuses 10 = .ok (.aload_n 0, 1) := by decide +kernel
set_option maxRecDepth 20000 in
theorem dX4_runBuses_11 : decode cX4_runBuses 11 = .ok (.getfield 9, 3) := by decide +kernel
set_option maxRecDepth 20000 in
theorem dX4_runBuses_14 : decode cX4_runBuses 14 = .ok (.if_icmp .ge 59, 3) := by decide +kernel
set_option maxRecDepth 20000 in
theorem dX4_runBuses_17 : decode cX4_runBuses 17 = .ok (.aload_n 0, 1) := by decide +kernel
set_option maxRecDepth 20000 in
theorem dX4_runBuses_18 : decode cX4_runBuses 18 = .ok (.iload_n 1, 1) := by decide +kernel
set_option maxRecDepth 20000 in
theorem dX4_runBuses_19 : decode cX4_runBuses 19 = .ok (.iload_n 2, 1) := by decide +kernel
set_option maxRecDepth 20000 in
theorem dX4_runBuses_20 : decode cX4_runBuses 20 = .ok (.invokevirtual 106, 3) := by decide +kernel
set_option maxRecDepth 20000 in
theorem dX4_runBuses_23 : decode cX4_runBuses 23 = .ok (.istore_n 3, 1) := by decide +kernel
set_option maxRecDepth 20000 in
theorem dX4_runBuses_24 : decode cX4_runBuses 24 = .ok (.iload_n 3, 1) := by decide +kernel
set_option maxRecDepth 20000 in
theorem dX4_runBuses_25 : decode cX4_runBuses 25 = .ok (.bipush (-5), 2) := by decide +kernel
set_option maxRecDepth 20000 in
theorem dX4_runBuses_27 : decode cX4_runBuses 27 = .ok (.if_icmp .eq 16, 3) := by decide +kernel
set_option maxRecDepth 20000 in
theorem dX4_runBuses_30 : decode cX4_runBuses 30 = .ok (.aload_n 0, 1) := by decide +kernel
set_option maxRecDepth 20000 in
theorem dX4_runBuses_31 : decode cX4_runBuses 31 = .ok (.iload_n 2, 1) := by decide +kernel
set_option maxRecDepth 20000 in
theorem dX4_runBuses_32 : decode cX4_runBuses 32 = .ok (.iload_n 3, 1) := by decide +kernel
set_option maxRecDepth 20000 in
theorem dX4_runBuses_33 : decode cX4_runBuses 33 = .ok (.invokevirtual 71, 3) := by decide +kernel
set_option maxRecDepth 20000 in
theorem dX4_runBuses_36 : decode cX4_runBuses 36 = .ok (.ifCond .eq 7, 3) := by decide +kernel
set_option maxRecDepth 20000 in
theorem dX4_runBuses_39 : decode cX4_runBuses 39 = .ok (.iconst 1, 1) := by decide +kernel
set_option maxRecDepth 20000 in
theorem dX4_runBuses_40 : decode cX4_runBuses 40 = .ok (.goto 4, 3) := by decide +kernel
set_option maxRecDepth 20000 in
theorem dX4_runBuses_43 : decode cX4_runBuses 43 = .ok (.iconst 0, 1) := by decide +kernel
set_option maxRecDepth 20000 in
theorem dX4_runBuses_44 : decode cX4_runBuses 44 = .ok (.istore 4, 2) := by decide +kernel
set_option maxRecDepth 20000 in
theorem dX4_runBuses_46 : decode cX4_runBuses 46 = .ok (.iload 4, 2) := by decide +kernel
set_option maxRecDepth 20000 in
theorem dX4_runBuses_48 : decode cX4_runBuses 48 = .ok (.ifCond .ne 19, 3) := by decide +kernel
set_option maxRecDepth 20000 in
theorem dX4_runBuses_51 : decode cX4_runBuses 51 = .ok (.aload_n 0, 1) := by decide +kernel
set_option maxRecDepth 20000 in
theorem dX4_runBuses_52 : decode cX4_runBuses 52 = .ok (.dup, 1) := by decide +kernel
set_option maxRecDepth 20000 in
theorem dX4_runBuses_53 : decode cX4_runBuses 53 = .ok (.getfield 49, 3) := by decide +kernel
set_option maxRecDepth 20000 in
theorem dX4_runBuses_56 : decode cX4_runBuses 56 = .ok (.aload_n 0, 1) := by decide +kernel
set_option maxRecDepth 20000 in
theorem dX4_runBuses_57 : decode cX4_runBuses 57 = .ok (.iload_n 1, 1) := by decide +kernel
set_option maxRecDepth 20000 in
theorem dX4_runBuses_58 : decode cX4_runBuses 58 = .ok (.iload_n 2, 1) := by decide +kernel
set_option maxRecDepth 20000 in
theorem dX4_runBuses_59 : decode cX4_runBuses 59 = .ok (.iload_n 3, 1) := by decide +kernel
set_option maxRecDepth 20000 in
theorem dX4_runBuses_60 : decode cX4_runBuses 60 = .ok (.invokevirtual 168, 3) := by decide +kernel
set_option maxRecDepth 20000 in
theorem dX4_runBuses_63 : decode cX4_runBuses 63 = .ok (.iadd, 1) := by decide +kernel
set_option maxRecDepth 20000 in
theorem dX4_runBuses_64 : decode cX4_runBuses 64 = .ok (.putfield 49, 3) := by decide +kernel
set_option maxRecDepth 20000 in
theorem dX4_runBuses_67 : decode cX4_runBuses 67 = .ok (.iinc 2 1, 3) := by decide +kernel
set_option maxRecDepth 20000 in
theorem dX4_runBuses_70 : decode cX4_runBuses 70 = .ok (.goto (-61), 3) := by decide +kernel
set_option maxRecDepth 20000 in
theorem dX4_runBuses_73 : decode cX4_runBuses 73 = .ok (.iinc 1 1, 3) := by decide +kernel
set_option maxRecDepth 20000 in
theorem dX4_runBuses_76 : decode cX4_runBuses 76 = .ok (.goto (-74), 3) := by decide +kernel
set_option maxRecDepth 20000 in
theorem dX4_runBuses_79 : decode cX4_runBuses 79 = .ok (.return_, 1) := by decide +kernel
set_option maxRecDepth 20000 in
theorem dX4_bringHome_0 : decode cX4_bringHome 0 = .ok (.aload_n 0, 1) := by decide +kernel
set_option maxRecDepth 20000 in
theorem dX4_bringHome_1 : decode cX4_bringHome 1 = .ok (.getfield 30, 3) := by decide +kernel
set_option maxRecDepth 20000 in
theorem dX4_bringHome_4 : decode cX4_bringHome 4 = .ok (.astore_n 1, 1) := by decide +kernel
set_option maxRecDepth 20000 in
theorem dX4_bringHome_5 : decode cX4_bringHome 5 = .ok (.aload_n 1, 1) := by decide +kernel
set_option maxRecDepth 20000 in
theorem dX4_bringHome_6 : decode cX4_bringHome 6 = .ok (.arraylength, 1) := by decide +kernel
set_option maxRecDepth 20000 in
theorem dX4_bringHome_7 : decode cX4_bringHome 7 = .ok (.istore_n 2, 1) := by decide +kernel
set_option maxRecDepth 20000 in
theorem dX4_bringHome_8 : decode cX4_bringHome 8 = .ok (.iconst 0, 1) := by decide +kernel
set_option maxRecDepth 20000 in
theorem dX4_bringHome_9 : decode cX4_bringHome 9 = .ok (.istore_n 3, 1) := by decide +kernel
set_option maxRecDepth 20000 in
theorem dX4_bringHome_10 : decode cX4_bringHome 10 = .ok (.iload_n 3, 1) := by decide +kernel
set_option maxRecDepth 20000 in
theorem dX4_bringHome_11 : decode cX4_bringHome 11 = .ok (.iload_n 2, 1) := by decide +kernel
set_option maxRecDepth 20000 in
theorem dX4_bringHome_12 : decode cX4_bringHome 12 = .ok (.if_icmp .ge 60, 3) := by decide +kernel
set_option maxRecDepth 20000 in
theorem dX4_bringHome_15 : decode cX4_bringHome 15 = .ok (.aload_n 1, 1) := by decide +kernel
set_option maxRecDepth 20000 in
theorem dX4_bringHome_16 : decode cX4_bringHome 16 = .ok (.iload_n 3, 1) := by decide +kernel
set_option maxRecDepth 20000 in
theorem dX4_bringHome_17 : decode cX4_bringHome 17 = .ok (.aaload, 1) := by decide +kernel
set_option maxRecDepth 20000 in
theorem dX4_bringHome_18 : decode cX4_bringHome 18 = .ok (.astore 4, 2) := by decide +kernel
set_option maxRecDepth 20000 in
theorem dX4_bringHome_20 : decode cX4_bringHome 20 = .ok (.aload 4, 2) := by decide +kernel
set_option maxRecDepth 20000 in
theorem dX4_bringHome_22 : decode cX4_bringHome 22 = .ok (.invokevirtual 143, 3) := by decide +kernel
set_option maxRecDepth 20000 in
theorem dX4_bringHome_25 : decode cX4_bringHome 25 = .ok (.ifCond .eq 12, 3) := by decide +kernel
set_option maxRecDepth 20000 in
theorem dX4_bringHome_28 : decode cX4_bringHome 28 = .ok (.aload_n 0, 1) := by decide +kernel
set_option maxRecDepth 20000 in
theorem dX4_bringHome_29 : decode cX4_bringHome 29 = .ok (.aload 4, 2) := by decide +kernel
set_option maxRecDepth 20000 in
theorem dX4_bringHome_31 : decode cX4_bringHome 31 = .ok (.invokevirtual 171, 3) := by decide +kernel
set_option maxRecDepth 20000 in
theorem dX4_bringHome_34 : decode cX4_bringHome 34 = .ok (.goto 32, 3) := by decide +kernel
set_option maxRecDepth 20000 in
theorem dX4_bringHome_37 : decode cX4_bringHome 37 = .ok (.aload 4, 2) := by decide +kernel
set_option maxRecDepth 20000 in
theorem dX4_bringHome_39 : decode cX4_bringHome 39 = .ok (.invokevirtual 99, 3) := by decide +kernel
set_option maxRecDepth 20000 in
theorem dX4_bringHome_42 : decode cX4_bringHome 42 = .ok (.ifCond .eq 24, 3) := by decide +kernel
set_option maxRecDepth 20000 in
theorem dX4_bringHome_45 : decode cX4_bringHome 45 = .ok (.aload 4, 2) := by decide +kernel
set_option maxRecDepth 20000 in
theorem dX4_bringHome_47 : decode cX4_bringHome 47 = .ok (.dup, 1) := by decide +kernel
set_option maxRecDepth 20000 in
theorem dX4_bringHome_48 : decode cX4_bringHome 48 = .ok (.getfield 174, 3) := by decide +kernel
set_option maxRecDepth 20000 in
theorem dX4_bringHome_51 : decode cX4_bringHome 51 = .ok (.iconst 1, 1) := by decide +kernel
set_option maxRecDepth 20000 in
theorem dX4_bringHome_52 : decode cX4_bringHome 52 = .ok (.iadd, 1) := by decide +kernel
set_option maxRecDepth 20000 in
theorem dX4_bringHome_53 : decode cX4_bringHome 53 = .ok (.putfield 174, 3) := by decide +kernel
set_option maxRecDepth 20000 in
theorem dX4_bringHome_56 : decode cX4_bringHome 56 = .ok (.aload_n 0, 1) := by decide +kernel
set_option maxRecDepth 20000 in
theorem dX4_bringHome_57 : decode cX4_bringHome 57 = .ok (.dup, 1) := by decide +kernel
set_option maxRecDepth 20000 in
theorem dX4_bringHome_58 : decode cX4_bringHome 58 = .ok (.getfield 46, 3) := by decide +kernel
set_option maxRecDepth 20000 in
theorem dX4_bringHome_61 : decode cX4_bringHome 61 = .ok (.iconst 1, 1) := by decide +kernel
set_option maxRecDepth 20000 in
theorem dX4_bringHome_62 : decode cX4_bringHome 62 = .ok (.iadd, 1) := by decide +kernel
set_option maxRecDepth 20000 in
theorem dX4_bringHome_63 : decode cX4_bringHome 63 = .ok (.putfield 46, 3) := by decide +kernel
set_option maxRecDepth 20000 in
theorem dX4_bringHome_66 : decode cX4_bringHome 66 = .ok (.iinc 3 1, 3) := by decide +kernel
set_option maxRecDepth 20000 in
theorem dX4_bringHome_69 : decode cX4_bringHome 69 = .ok (.goto (-59), 3) := by decide +kernel
set_option maxRecDepth 20000 in
theorem dX4_bringHome_72 : decode cX4_bringHome 72 = .ok (.return_, 1) := by decide +kernel
set_option maxRecDepth 20000 in
theorem dX4_bringRiderHome_0 : decode cX4_bringRiderHome 0 = .ok (.aload_n 0, 1) := by decide +kernel
set_option maxRecDepth 20000 in
theorem dX4_bringRiderHome_1 : decode cX4_bringRiderHome 1 = .ok (.aload_n 1, 1) := by decide +kernel
set_option maxRecDepth 20000 in
theorem dX4_bringRiderHome_2 : decode cX4_bringRiderHome 2 = .ok (.aload_n 1, 1) := by decide +kernel
set_option maxRecDepth 20000 in
theorem dX4_bringRiderHome_3 : decode cX4_bringRiderHome 3 = .ok (.getfield 86, 3) := by decide +kernel
set_option maxRecDepth 20000 in
theorem dX4_bringRiderHome_6 : decode cX4_bringRiderHome 6 = .ok (.aload_n 0, 1) := by decide +kernel
set_option maxRecDepth 20000 in
theorem dX4_bringRiderHome_7 : decode cX4_bringRiderHome 7 = .ok (.aload_n 1, 1) := by decide +kernel
set_option maxRecDepth 20000 in
theorem dX4_bringRiderHome_8 : decode cX4_bringRiderHome 8 = .ok (.getfield 89, 3) := by decide +kernel
set_option maxRecDepth 20000 in
theorem dX4_bringRiderHome_11 : decode cX4_bringRiderHome 11 = .ok (.aload_n 1, 1) := by decide +kernel
set_option maxRecDepth 20000 in
theorem dX4_bringRiderHome_12 : decode cX4_bringRiderHome 12 = .ok (.getfield 86, 3) := by decide +kernel
set_option maxRecDepth 20000 in
theorem dX4_bringRiderHome_15 : decode cX4_bringRiderHome 15 = .ok (.invokevirtual 106, 3) := by decide +kernel
set_option maxRecDepth 20000 in
theorem dX4_bringRiderHome_18 : decode cX4_bringRiderHome 18 = .ok (.invokevirtual 164, 3) := by decide +kernel
set_option maxRecDepth 20000 in
theorem dX4_bringRiderHome_21 : decode cX4_bringRiderHome 21 = .ok (.ifCond .eq 26, 3) := by decide +kernel
set_option maxRecDepth 20000 in
theorem dX4_bringRiderHome_24 : decode cX4_bringRiderHome 24 = .ok (.aload_n 1, 1) := by decide +kernel
set_option maxRecDepth 20000 in
theorem dX4_bringRiderHome_25 : decode cX4_bringRiderHome 25 = .ok (.dup, 1) := by decide +kernel
set_option maxRecDepth 20000 in
theorem dX4_bringRiderHome_26 : decode cX4_bringRiderHome 26 = .ok (.getfield 175, 3) := by decide +kernel
set_option maxRecDepth 20000 in
theorem dX4_bringRiderHome_29 : decode cX4_bringRiderHome 29 = .ok (.iconst 1, 1) := by decide +kernel
set_option maxRecDepth 20000 in
theorem dX4_bringRiderHome_30 : decode cX4_bringRiderHome 30 = .ok (.iadd, 1) := by decide +kernel
set_option maxRecDepth 20000 in
theorem dX4_bringRiderHome_31 : decode cX4_bringRiderHome 31 = .ok (.putfield 175, 3) := by decide +kernel
set_option maxRecDepth 20000 in
theorem dX4_bringRiderHome_34 : decode cX4_bringRiderHome 34 = .ok (.aload_n 0, 1) := by decide +kernel
set_option maxRecDepth 20000 in
theorem dX4_bringRiderHome_35 : decode cX4_bringRiderHome 35 = .ok (.dup, 1) := by decide +kernel
set_option maxRecDepth 20000 in
theorem dX4_bringRiderHome_36 : decode cX4_bringRiderHome 36 = .ok (.getfield 40, 3) := by decide +kernel
set_option maxRecDepth 20000 in
theorem dX4_bringRiderHome_39 : decode cX4_bringRiderHome 39 = .ok (.iconst 1, 1) := by decide +kernel
set_option maxRecDepth 20000 in
theorem dX4_bringRiderHome_40 : decode cX4_bringRiderHome 40 = .ok (.iadd, 1) := by decide +kernel
set_option maxRecDepth 20000 in
theorem dX4_bringRiderHome_41 : decode cX4_bringRiderHome 41 = .ok (.putfield 40, 3) := by decide +kernel
set_option maxRecDepth 20000 in
theorem dX4_bringRiderHome_44 : decode cX4_bringRiderHome 44 = .ok (.goto 41, 3) := by decide +kernel
set_option maxRecDepth 20000 in
theorem dX4_bringRiderHome_47 : decode cX4_bringRiderHome 47 = .ok (.aload_n 1, 1) := by decide +kernel
set_option maxRecDepth 20000 in
theorem dX4_bringRiderHome_48 : decode cX4_bringRiderHome 48 = .ok (.dup, 1) := by decide +kernel
set_option maxRecDepth 20000 in
theorem dX4_bringRiderHome_49 : decode cX4_bringRiderHome 49 = .ok (.getfield 176, 3) := by decide +kernel
set_option maxRecDepth 20000 in
theorem dX4_bringRiderHome_52 : decode cX4_bringRiderHome 52 = .ok (.iconst 1, 1) := by decide +kernel
set_option maxRecDepth 20000 in
theorem dX4_bringRiderHome_53 : decode cX4_bringRiderHome 53 = .ok (.iadd, 1) := by decide +kernel
set_option maxRecDepth 20000 in
theorem dX4_bringRiderHome_54 : decode cX4_bringRiderHome 54 = .ok (.putfield 176, 3) := by decide +kernel
set_option maxRecDepth 20000 in
theorem dX4_bringRiderHome_57 : decode cX4_bringRiderHome 57 = .ok (.aload_n 0, 1) := by decide +kernel
set_option maxRecDepth 20000 in
theorem dX4_bringRiderHome_58 : decode cX4_bringRiderHome 58 = .ok (.dup, 1) := by decide +kernel
set_option maxRecDepth 20000 in
theorem dX4_bringRiderHome_59 : decode cX4_bringRiderHome 59 = .ok (.getfield 43, 3) := by decide +kernel
set_option maxRecDepth 20000 in
theorem dX4_bringRiderHome_62 : decode cX4_bringRiderHome 62 = .ok (.iconst 1, 1) := by decide +kernel
set_option maxRecDepth 20000 in
theorem dX4_bringRiderHome_63 : decode cX4_bringRiderHome 63 = .ok (.iadd, 1) := by decide +kernel
set_option maxRecDepth 20000 in
theorem dX4_bringRiderHome_64 : decode cX4_bringRiderHome 64 = .ok (.putfield 43, 3) := by decide +kernel
set_option maxRecDepth 20000 in
theorem dX4_bringRiderHome_67 : decode cX4_bringRiderHome 67 = .ok (.aload_n 0, 1) := by decide +kernel
set_option maxRecDepth 20000 in
theorem dX4_bringRiderHome_68 : decode cX4_bringRiderHome 68 = .ok (.dup, 1) := by decide +kernel
set_option maxRecDepth 20000 in
theorem dX4_bringRiderHome_69 : decode cX4_bringRiderHome 69 = .ok (.getfield 52, 3) := by decide +kernel
set_option maxRecDepth 20000 in
theorem dX4_bringRiderHome_72 : decode cX4_bringRiderHome 72 = .ok (.bipush 8, 2) := by decide +kernel
set_option maxRecDepth 20000 in
theorem dX4_bringRiderHome_74 : decode cX4_bringRiderHome 74 = .ok (.iconst 3, 1) := by decide +kernel
set_option maxRecDepth 20000 in
theorem dX4_bringRiderHome_75 : decode cX4_bringRiderHome 75 = .ok (.aload_n 1, 1) := by decide +kernel
set_option maxRecDepth 20000 in
theorem dX4_bringRiderHome_76 : decode cX4_bringRiderHome 76 = .ok (.getfield 92, 3) := by decide +kernel
set_option maxRecDepth 20000 in
theorem dX4_bringRiderHome_79 : decode cX4_bringRiderHome 79 = .ok (.imul, 1) := by decide +kernel
set_option maxRecDepth 20000 in
theorem dX4_bringRiderHome_80 : decode cX4_bringRiderHome 80 = .ok (.iadd, 1) := by decide +kernel
set_option maxRecDepth 20000 in
theorem dX4_bringRiderHome_81 : decode cX4_bringRiderHome 81 = .ok (.iadd, 1) := by decide +kernel
set_option maxRecDepth 20000 in
theorem dX4_bringRiderHome_82 : decode cX4_bringRiderHome 82 = .ok (.putfield 52, 3) := by decide +kernel
set_option maxRecDepth 20000 in
theorem dX4_bringRiderHome_85 : decode cX4_bringRiderHome 85 = .ok (.return_, 1) := by decide +kernel
set_option maxRecDepth 20000 in
theorem dX5_init_0 : decode cX5_init 0 = .ok (.aload_n 0, 1) := by decide +kernel
set_option maxRecDepth 20000 in
theorem dX5_init_1 : decode cX5_init 1 = .ok (.invokespecial 1, 3) := by decide +kernel
set_option maxRecDepth 20000 in
theorem dX5_init_4 : decode cX5_init 4 = .ok (.aload_n 0, 1) := by decide +kernel
set_option maxRecDepth 20000 in
theorem dX5_init_5 : decode cX5_init 5 = .ok (.new 7, 3) := by decide +kernel
set_option maxRecDepth 20000 in
theorem dX5_init_8 : decode cX5_init 8 = .ok (.dup, 1) := by decide +kernel
set_option maxRecDepth 20000 in
theorem dX5_init_9 : decode cX5_init 9 = .ok (.invokespecial 9, 3) := by decide +kernel
set_option maxRecDepth 20000 in
theorem dX5_init_12 : decode cX5_init 12 = .ok (.putfield 10, 3) := by decide +kernel
set_option maxRecDepth 20000 in
theorem dX5_init_15 : decode cX5_init 15 = .ok (.aload_n 0, 1) := by decide +kernel
set_option maxRecDepth 20000 in
theorem dX5_init_16 : decode cX5_init 16 = .ok (.new 16, 3) := by decide +kernel
set_option maxRecDepth 20000 in
theorem dX5_init_19 : decode cX5_init 19 = .ok (.dup, 1) := by decide +kernel
set_option maxRecDepth 20000 in
theorem dX5_init_20 : decode cX5_init 20 = .ok (.invokespecial 18, 3) := by decide +kernel
set_option maxRecDepth 20000 in
theorem dX5_init_23 : decode cX5_init 23 = .ok (.putfield 19, 3) := by decide +kernel
set_option maxRecDepth 20000 in
theorem dX5_init_26 : decode cX5_init 26 = .ok (.aload_n 0, 1) := by decide +kernel
set_option maxRecDepth 20000 in
theorem dX5_init_27 : decode cX5_init 27 = .ok (.new 23, 3) := by decide +kernel
set_option maxRecDepth 20000 in
theorem dX5_init_30 : decode cX5_init 30 = .ok (.dup, 1) := by decide +kernel
set_option maxRecDepth 20000 in
theorem dX5_init_31 : decode cX5_init 31 = .ok (.invokespecial 25, 3) := by decide +kernel
set_option maxRecDepth 20000 in
theorem dX5_init_34 : decode cX5_init 34 = .ok (.putfield 26, 3) := by decide +kernel
set_option maxRecDepth 20000 in
theorem dX5_init_37 : decode cX5_init 37 = .ok (.aload_n 0, 1) := by decide +kernel
set_option maxRecDepth 20000 in
theorem dX5_init_38 : decode cX5_init 38 = .ok (.new 7, 3) := by decide +kernel
set_option maxRecDepth 20000 in
theorem dX5_init_41 : decode cX5_init 41 = .ok (.dup, 1) := by decide +kernel
set_option maxRecDepth 20000 in
theorem dX5_init_42 : decode cX5_init 42 = .ok (.invokespecial 9, 3) := by decide +kernel
set_option maxRecDepth 20000 in
theorem dX5_init_45 : decode cX5_init 45 = .ok (.putfield 30, 3) := by decide +kernel
set_option maxRecDepth 20000 in
theorem dX5_init_48 : decode cX5_init 48 = .ok (.aload_n 0, 1) := by decide +kernel
set_option maxRecDepth 20000 in
theorem dX5_init_49 : decode cX5_init 49 = .ok (.iconst 0, 1) := by decide +kernel
set_option maxRecDepth 20000 in
theorem dX5_init_50 : decode cX5_init 50 = .ok (.putfield 33, 3) := by decide +kernel
set_option maxRecDepth 20000 in
theorem dX5_init_53 : decode cX5_init 53 = .ok (.return_, 1) := by decide +kernel
set_option maxRecDepth 20000 in
theorem dX5_addEnd_0 : decode cX5_addEnd 0 = .ok (.iload_n 1, 1) := by decide +kernel
set_option maxRecDepth 20000 in
theorem dX5_addEnd_1 : decode cX5_addEnd 1 = .ok (.ifCond .lt 10, 3) := by decide +kernel
set_option maxRecDepth 20000 in
theorem dX5_addEnd_4 : decode cX5_addEnd 4 = .ok (.iload_n 1, 1) := by decide +kernel
set_option maxRecDepth 20000 in
theorem dX5_addEnd_5 : decode cX5_addEnd 5 = .ok (.sipush 1440, 3) := by decide +kernel
set_option maxRecDepth 20000 in
theorem dX5_addEnd_8 : decode cX5_addEnd 8 = .ok (.if_icmp .lt 6, 3) := by decide +kernel
set_option maxRecDepth 20000 in
theorem dX5_addEnd_11 : decode cX5_addEnd 11 = .ok (.bipush (-2), 2) := by decide +kernel
set_option maxRecDepth 20000 in
theorem dX5_addEnd_13 : decode cX5_addEnd 13 = .ok (.ireturn, 1) := by decide +kernel
set_option maxRecDepth 20000 in
theorem dX5_addEnd_14 : decode cX5_addEnd 14 = .ok (.aload_n 0, 1) := by decide +kernel
set_option maxRecDepth 20000 in
theorem dX5_addEnd_15 : decode cX5_addEnd 15 = .ok (.getfield 10, 3) := by decide +kernel
set_option maxRecDepth 20000 in
theorem dX5_addEnd_18 : decode cX5_addEnd 18 = .ok (.getfield 37, 3) := by decide +kernel
set_option maxRecDepth 20000 in
theorem dX5_addEnd_21 : decode cX5_addEnd 21 = .ok (.bipush 10, 2) := by decide +kernel
set_option maxRecDepth 20000 in
theorem dX5_addEnd_23 : decode cX5_addEnd 23 = .ok (.if_icmp .lt 6, 3) := by decide +kernel
set_option maxRecDepth 20000 in
theorem dX5_addEnd_26 : decode cX5_addEnd 26 = .ok (.bipush (-3), 2) := by decide +kernel
set_option maxRecDepth 20000 in
theorem dX5_addEnd_28 : decode cX5_addEnd 28 = .ok (.ireturn, 1) := by decide +kernel
set_option maxRecDepth 20000 in
theorem dX5_addEnd_29 : decode cX5_addEnd 29 = .ok (.aload_n 0, 1) := by decide +kernel
set_option maxRecDepth 20000 in
theorem dX5_addEnd_30 : decode cX5_addEnd 30 = .ok (.getfield 26, 3) := by decide +kernel
set_option maxRecDepth 20000 in
theorem dX5_addEnd_33 : decode cX5_addEnd 33 = .ok (.aload_n 0, 1) := by decide +kernel
set_option maxRecDepth 20000 in
theorem dX5_addEnd_34 : decode cX5_addEnd 34 = .ok (.getfield 10, 3) := by decide +kernel
set_option maxRecDepth 20000 in
theorem dX5_addEnd_37 : decode cX5_addEnd 37 = .ok (.invokevirtual 41, 3) := by decide +kernel
set_option maxRecDepth 20000 in
theorem dX5_addEnd_40 : decode cX5_addEnd 40 = .ok (.aload_n 0, 1) := by decide +kernel
set_option maxRecDepth 20000 in
theorem dX5_addEnd_41 : decode cX5_addEnd 41 = .ok (.getfield 10, 3) := by decide +kernel
set_option maxRecDepth 20000 in
theorem dX5_addEnd_44 : decode cX5_addEnd 44 = .ok (.iload_n 1, 1) := by decide +kernel
set_option maxRecDepth 20000 in
theorem dX5_addEnd_45 : decode cX5_addEnd 45 = .ok (.invokevirtual 45, 3) := by decide +kernel
set_option maxRecDepth 20000 in
theorem dX5_addEnd_48 : decode cX5_addEnd 48 = .ok (.ireturn, 1) := by decide +kernel
set_option maxRecDepth 20000 in
theorem dX5_book_0 : decode cX5_book 0 = .ok (.aload_n 0, 1) := by decide +kernel
set_option maxRecDepth 20000 in
theorem dX5_book_1 : decode cX5_book 1 = .ok (.getfield 10, 3) := by decide +kernel
set_option maxRecDepth 20000 in
theorem dX5_book_4 : decode cX5_book 4 = .ok (.iload_n 1, 1) := by decide +kernel
set_option maxRecDepth 20000 in
theorem dX5_book_5 : decode cX5_book 5 = .ok (.invokevirtual 49, 3) := by decide +kernel
set_option maxRecDepth 20000 in
theorem dX5_book_8 : decode cX5_book 8 = .ok (.ifCond .eq 17, 3) := by decide +kernel
set_option maxRecDepth 20000 in
theorem dX5_book_11 : decode cX5_book 11 = .ok (.iload_n 2, 1) := by decide +kernel
set_option maxRecDepth 20000 in
theorem dX5_book_12 : decode cX5_book 12 = .ok (.invokestatic 53, 3) := by decide +kernel
set_option maxRecDepth 20000 in
theorem dX5_book_15 : decode cX5_book 15 = .ok (.ifCond .eq 10, 3) := by decide +kernel
set_option maxRecDepth 20000 in
theorem dX5_book_18 : decode cX5_book 18 = .ok (.iload_n 3, 1) := by decide +kernel
set_option maxRecDepth 20000 in
theorem dX5_book_19 : decode cX5_book 19 = .ok (.invokestatic 56, 3) := by decide +kernel
set_option maxRecDepth 20000 in
theorem dX5_book_22 : decode cX5_book 22 = .ok (.ifCond .ne 5, 3) := by decide +kernel
set_option maxRecDepth 20000 in
theorem dX5_book_25 : decode cX5_book 25 = .ok (.iconst (-1), 1) := by decide +kernel
set_option maxRecDepth 20000 in
theorem dX5_book_26 : decode cX5_book 26 = .ok (.ireturn, 1) := by decide +kernel
set_option maxRecDepth 20000 in
theorem dX5_book_27 : decode cX5_book 27 = .ok (.aload_n 0, 1) := by decide +kernel
set_option maxRecDepth 20000 in
theorem dX5_book_28 : decode cX5_book 28 = .ok (.getfield 10, 3) := by decide +kernel
set_option maxRecDepth 20000 in
theorem dX5_book_31 : decode cX5_book 31 = .ok (.invokevirtual 59, 3) := by decide +kernel
set_option maxRecDepth 20000 in
theorem dX5_book_34 : decode cX5_book 34 = .ok (.bipush 30, 2) := by decide +kernel
set_option maxRecDepth 20000 in
theorem dX5_book_36 : decode cX5_book 36 = .ok (.if_icmp .lt 6, 3) := by decide +kernel
set_option maxRecDepth 20000 in
theorem dX5_book_39 : decode cX5_book 39 = .ok (.bipush (-3), 2) := by decide +kernel
set_option maxRecDepth 20000 in
theorem dX5_book_41 : decode cX5_book 41 = .ok (.ireturn, 1) := by decide +kernel
set_option maxRecDepth 20000 in
theorem dX5_book_42 : decode cX5_book 42 = .ok (.aload_n 0, 1) := by decide +kernel
set_option maxRecDepth 20000 in
theorem dX5_book_43 : decode cX5_book 43 = .ok (.getfield 26, 3) := by decide +kernel
set_option maxRecDepth 20000 in
theorem dX5_book_46 : decode cX5_book 46 = .ok (.aload_n 0, 1) := by decide +kernel
set_option maxRecDepth 20000 in
theorem dX5_book_47 : decode cX5_book 47 = .ok (.getfield 10, 3) := by decide +kernel
set_option maxRecDepth 20000 in
theorem dX5_book_50 : decode cX5_book 50 = .ok (.invokevirtual 41, 3) := by decide +kernel
set_option maxRecDepth 20000 in
theorem dX5_book_53 : decode cX5_book 53 = .ok (.aload_n 0, 1) := by decide +kernel
set_option maxRecDepth 20000 in
theorem dX5_book_54 : decode cX5_book 54 = .ok (.getfield 10, 3) := by decide +kernel
set_option maxRecDepth 20000 in
theorem dX5_book_57 : decode cX5_book 57 = .ok (.iload_n 1, 1) := by decide +kernel
set_option maxRecDepth 20000 in
theorem dX5_book_58 : decode cX5_book 58 = .ok (.iload_n 2, 1) := by decide +kernel
set_option maxRecDepth 20000 in
theorem dX5_book_59 : decode cX5_book 59 = .ok (.iload_n 3, 1) := by decide +kernel
set_option maxRecDepth 20000 in
theorem dX5_book_60 : decode cX5_book 60 = .ok (.invokevirtual 63, 3) := by decide +kernel
set_option maxRecDepth 20000 in
theorem dX5_book_63 : decode cX5_book 63 = .ok (.ireturn, 1) := by decide +kernel
set_option maxRecDepth 20000 in
theorem dX5_bookAll_0 : decode cX5_bookAll 0 = .ok (.aload_n 0, 1) := by decide +kernel
set_option maxRecDepth 20000 in
theorem dX5_bookAll_1 : decode cX5_bookAll 1 = .ok (.getfield 19, 3) := by decide +kernel
set_option maxRecDepth 20000 in
theorem dX5_bookAll_4 : decode cX5_bookAll 4 = .ok (.invokevirtual 67, 3) := by decide +kernel
set_option maxRecDepth 20000 in
theorem dX5_bookAll_7 : decode cX5_bookAll 7 = .ok (.istore_n 1, 1) := by decide +kernel
set_option maxRecDepth 20000 in
theorem dX5_bookAll_8 : decode cX5_bookAll 8 = .ok (.iload_n 1, 1) := by decide +kernel
set_option maxRecDepth 20000 in
theorem dX5_bookAll_9 : decode cX5_bookAll 9 = .ok (.iconst (-1), 1) := by decide +kernel
set_option maxRecDepth 20000 in
theorem dX5_bookAll_10 : decode cX5_bookAll 10 = .ok (.if_icmp .eq 8, 3) := by decide +kernel
set_option maxRecDepth 20000 in
theorem dX5_bookAll_13 : decode cX5_bookAll 13 = .ok (.bipush (-100), 2) := by decide +kernel
set_option maxRecDepth 20000 in
theorem dX5_bookAll_15 : decode cX5_bookAll 15 = .ok (.iload_n 1, 1) := by decide +kernel
set_option maxRecDepth 20000 in
theorem dX5_bookAll_16 : decode cX5_bookAll 16 = .ok (.isub, 1) := by decide +kernel
set_option maxRecDepth 20000 in
theorem dX5_bookAll_17 : decode cX5_bookAll 17 = .ok (.ireturn, 1) := by decide +kernel
set_option maxRecDepth 20000 in
theorem dX5_bookAll_18 : decode cX5_bookAll 18 = .ok (.aload_n 0, 1) := by decide +kernel
set_option maxRecDepth 20000 in
theorem dX5_bookAll_19 : decode cX5_bookAll 19 = .ok (.invokevirtual 70, 3) := by decide +kernel
set_option maxRecDepth 20000 in
theorem dX5_bookAll_22 : decode cX5_bookAll 22 = .ok (.ifCond .ne 5, 3) := by decide +kernel
set_option maxRecDepth 20000 in
theorem dX5_bookAll_25 : decode cX5_bookAll 25 = .ok (.iconst (-1), 1) := by decide +kernel
set_option maxRecDepth 20000 in
theorem dX5_bookAll_26 : decode cX5_bookAll 26 = .ok (.ireturn, 1) := by decide +kernel
set_option maxRecDepth 20000 in
theorem dX5_bookAll_27 : decode cX5_bookAll 27 = .ok (.aload_n 0, 1) := by decide +kernel
set_option maxRecDepth 20000 in
theorem dX5_bookAll_28 : decode cX5_bookAll 28 = .ok (.getfield 10, 3) := by decide +kernel
set_option maxRecDepth 20000 in
theorem dX5_bookAll_31 : decode cX5_bookAll 31 = .ok (.invokevirtual 59, 3) := by decide +kernel
set_option maxRecDepth 20000 in
theorem dX5_bookAll_34 : decode cX5_bookAll 34 = .ok (.aload_n 0, 1) := by decide +kernel
set_option maxRecDepth 20000 in
theorem dX5_bookAll_35 : decode cX5_bookAll 35 = .ok (.getfield 19, 3) := by decide +kernel
set_option maxRecDepth 20000 in
theorem dX5_bookAll_38 : decode cX5_bookAll 38 = .ok (.getfield 74, 3) := by decide +kernel
set_option maxRecDepth 20000 in
theorem dX5_bookAll_41 : decode cX5_bookAll 41 = .ok (.iadd, 1) := by decide +kernel
set_option maxRecDepth 20000 in
theorem dX5_bookAll_42 : decode cX5_bookAll 42 = .ok (.bipush 30, 2) := by decide +kernel
set_option maxRecDepth 20000 in
theorem dX5_bookAll_44 : decode cX5_bookAll 44 = .ok (.if_icmp .le 6, 3) := by decide +kernel
set_option maxRecDepth 20000 in
theorem dX5_bookAll_47 : decode cX5_bookAll 47 = .ok (.bipush (-3), 2) := by decide +kernel
set_option maxRecDepth 20000 in
theorem dX5_bookAll_49 : decode cX5_bookAll 49 = .ok (.ireturn, 1) := by decide +kernel
set_option maxRecDepth 20000 in
theorem dX5_bookAll_50 : decode cX5_bookAll 50 = .ok (.aload_n 0, 1) := by decide +kernel
set_option maxRecDepth 20000 in
theorem dX5_bookAll_51 : decode cX5_bookAll 51 = .ok (.getfield 26, 3) := by decide +kernel
set_option maxRecDepth 20000 in
theorem dX5_bookAll_54 : decode cX5_bookAll 54 = .ok (.aload_n 0, 1) := by decide +kernel
set_option maxRecDepth 20000 in
theorem dX5_bookAll_55 : decode cX5_bookAll 55 = .ok (.getfield 10, 3) := by decide +kernel
set_option maxRecDepth 20000 in
theorem dX5_bookAll_58 : decode cX5_bookAll 58 = .ok (.invokevirtual 41, 3) := by decide +kernel
set_option maxRecDepth 20000 in
theorem dX5_bookAll_61 : decode cX5_bookAll 61 = .ok (.aload_n 0, 1) := by decide +kernel
set_option maxRecDepth 20000 in
theorem dX5_bookAll_62 : decode cX5_bookAll 62 = .ok (.invokevirtual 77, 3) := by decide +kernel
set_option maxRecDepth 20000 in
theorem dX5_bookAll_65 : decode cX5_bookAll 65 = .ok (.aload_n 0, 1) := by decide +kernel
set_option maxRecDepth 20000 in
theorem dX5_bookAll_66 : decode cX5_bookAll 66 = .ok (.getfield 19, 3) := by decide +kernel
set_option maxRecDepth 20000 in
theorem dX5_bookAll_69 : decode cX5_bookAll 69 = .ok (.getfield 74, 3) := by decide +kernel
set_option maxRecDepth 20000 in
theorem dX5_bookAll_72 : decode cX5_bookAll 72 = .ok (.ireturn, 1) := by decide +kernel
set_option maxRecDepth 20000 in
theorem dX5_takeBack_0 : decode cX5_takeBack 0 = .ok (.aload_n 0, 1) := by decide +kernel
set_option maxRecDepth 20000 in
theorem dX5_takeBack_1 : decode cX5_takeBack 1 = .ok (.getfield 10, 3) := by decide +kernel
set_option maxRecDepth 20000 in
theorem dX5_takeBack_4 : decode cX5_takeBack 4 = .ok (.iload_n 1, 1) := by decide +kernel
set_option maxRecDepth 20000 in
theorem dX5_takeBack_5 : decode cX5_takeBack 5 = .ok (.invokevirtual 80, 3) := by decide +kernel
set_option maxRecDepth 20000 in
theorem dX5_takeBack_8 : decode cX5_takeBack 8 = .ok (.astore_n 2, 1) := by decide +kernel
set_option maxRecDepth 20000 in
theorem dX5_takeBack_9 : decode cX5_takeBack 9 = .ok (.aload_n 2, 1) := by decide +kernel
set_option maxRecDepth 20000 in
theorem dX5_takeBack_10 : decode cX5_takeBack 10 = .ok (.ifnonnull 5, 3) := by decide +kernel
set_option maxRecDepth 20000 in
theorem dX5_takeBack_13 : decode cX5_takeBack 13 = .ok (.iconst (-1), 1) := by decide +kernel
set_option maxRecDepth 20000 in
theorem dX5_takeBack_14 : decode cX5_takeBack 14 = .ok (.ireturn, 1) := by decide +kernel
set_option maxRecDepth 20000 in
theorem dX5_takeBack_15 : decode cX5_takeBack 15 = .ok (.aload_n 0, 1) := by decide +kernel
set_option maxRecDepth 20000 in
theorem dX5_takeBack_16 : decode cX5_takeBack 16 = .ok (.getfield 26, 3) := by decide +kernel
set_option maxRecDepth 20000 in
theorem dX5_takeBack_19 : decode cX5_takeBack 19 = .ok (.aload_n 0, 1) := by decide +kernel
set_option maxRecDepth 20000 in
theorem dX5_takeBack_20 : decode cX5_takeBack 20 = .ok (.getfield 10, 3) := by decide +kernel
set_option maxRecDepth 20000 in
theorem dX5_takeBack_23 : decode cX5_takeBack 23 = .ok (.invokevirtual 41, 3) := by decide +kernel
set_option maxRecDepth 20000 in
theorem dX5_takeBack_26 : decode cX5_takeBack 26 = .ok (.aload_n 2, 1) := by decide +kernel
set_option maxRecDepth 20000 in
theorem dX5_takeBack_27 : decode cX5_takeBack 27 = .ok (.invokevirtual 84, 3) := by decide +kernel
set_option maxRecDepth 20000 in
theorem dX5_takeBack_30 : decode cX5_takeBack 30 = .ok (.aload_n 0, 1) := by decide +kernel
set_option maxRecDepth 20000 in
theorem dX5_takeBack_31 : decode cX5_takeBack 31 = .ok (.getfield 10, 3) := by decide +kernel
set_option maxRecDepth 20000 in
theorem dX5_takeBack_34 : decode cX5_takeBack 34 = .ok (.invokevirtual 89, 3) := by decide +kernel
set_option maxRecDepth 20000 in
theorem dX5_takeBack_37 : decode cX5_takeBack 37 = .ok (.aload_n 0, 1) := by decide +kernel
set_option maxRecDepth 20000 in
theorem dX5_takeBack_38 : decode cX5_takeBack 38 = .ok (.getfield 10, 3) := by decide +kernel
set_option maxRecDepth 20000 in
theorem dX5_takeBack_41 : decode cX5_takeBack 41 = .ok (.invokevirtual 92, 3) := by decide +kernel
set_option maxRecDepth 20000 in
theorem dX5_takeBack_44 : decode cX5_takeBack 44 = .ok (.ireturn, 1) := by decide +kernel
set_option maxRecDepth 20000 in
theorem dX5_stay_0 : decode cX5_stay 0 = .ok (.aload_n 0, 1) := by decide +kernel
set_option maxRecDepth 20000 in
theorem dX5_stay_1 : decode cX5_stay 1 = .ok (.getfield 10, 3) := by decide +kernel
set_option maxRecDepth 20000 in
theorem dX5_stay_4 : decode cX5_stay 4 = .ok (.iload_n 1, 1) := by decide +kernel
set_option maxRecDepth 20000 in
theorem dX5_stay_5 : decode cX5_stay 5 = .ok (.invokevirtual 80, 3) := by decide +kernel
set_option maxRecDepth 20000 in
theorem dX5_stay_8 : decode cX5_stay 8 = .ok (.astore_n 3, 1) := by decide +kernel
set_option maxRecDepth 20000 in
theorem dX5_stay_9 : decode cX5_stay 9 = .ok (.aload_n 3, 1) := by decide +kernel
set_option maxRecDepth 20000 in
theorem dX5_stay_10 : decode cX5_stay 10 = .ok (.ifnull 14, 3) := by decide +kernel
set_option maxRecDepth 20000 in
theorem dX5_stay_13 : decode cX5_stay 13 = .ok (.aload_n 0, 1) := by decide +kernel
set_option maxRecDepth 20000 in
theorem dX5_stay_14 : decode cX5_stay 14 = .ok (.getfield 10, 3) := by decide +kernel
set_option maxRecDepth 20000 in
theorem dX5_stay_17 : decode cX5_stay 17 = .ok (.iload_n 2, 1) := by decide +kernel
set_option maxRecDepth 20000 in
theorem dX5_stay_18 : decode cX5_stay 18 = .ok (.invokevirtual 49, 3) := by decide +kernel
set_option maxRecDepth 20000 in
theorem dX5_stay_21 : decode cX5_stay 21 = .ok (.ifCond .ne 5, 3) := by decide +kernel
set_option maxRecDepth 20000 in
theorem dX5_stay_24 : decode cX5_stay 24 = .ok (.iconst (-1), 1) := by decide +kernel
set_option maxRecDepth 20000 in
theorem dX5_stay_25 : decode cX5_stay 25 = .ok (.ireturn, 1) := by decide +kernel
set_option maxRecDepth 20000 in
theorem dX5_stay_26 : decode cX5_stay 26 = .ok (.aload_n 3, 1) := by decide +kernel
set_option maxRecDepth 20000 in
theorem dX5_stay_27 : decode cX5_stay 27 = .ok (.getfield 95, 3) := by decide +kernel
set_option maxRecDepth 20000 in
theorem dX5_stay_30 : decode cX5_stay 30 = .ok (.iload_n 2, 1) := by decide +kernel
set_option maxRecDepth 20000 in
theorem dX5_stay_31 : decode cX5_stay 31 = .ok (.if_icmp .ne 6, 3) := by decide +kernel
set_option maxRecDepth 20000 in
theorem dX5_stay_34 : decode cX5_stay 34 = .ok (.bipush (-5), 2) := by decide +kernel
set_option maxRecDepth 20000 in
theorem dX5_stay_36 : decode cX5_stay 36 = .ok (.ireturn, 1) := by decide +kernel
set_option maxRecDepth 20000 in
theorem dX5_stay_37 : decode cX5_stay 37 = .ok (.aload_n 0, 1) := by decide +kernel
set_option maxRecDepth 20000 in
theorem dX5_stay_38 : decode cX5_stay 38 = .ok (.getfield 26, 3) := by decide +kernel
set_option maxRecDepth 20000 in
theorem dX5_stay_41 : decode cX5_stay 41 = .ok (.aload_n 0, 1) := by decide +kernel
set_option maxRecDepth 20000 in
theorem dX5_stay_42 : decode cX5_stay 42 = .ok (.getfield 10, 3) := by decide +kernel
set_option maxRecDepth 20000 in
theorem dX5_stay_45 : decode cX5_stay 45 = .ok (.invokevirtual 41, 3) := by decide +kernel
set_option maxRecDepth 20000 in
theorem dX5_stay_48 : decode cX5_stay 48 = .ok (.aload_n 3, 1) := by decide +kernel
set_option maxRecDepth 20000 in
theorem dX5_stay_49 : decode cX5_stay 49 = .ok (.iload_n 2, 1) := by decide +kernel
set_option maxRecDepth 20000 in
theorem dX5_stay_50 : decode cX5_stay 50 = .ok (.putfield 95, 3) := by decide +kernel
set_option maxRecDepth 20000 in
theorem dX5_stay_53 : decode cX5_stay 53 = .ok (.aload_n 3, 1) := by decide +kernel
set_option maxRecDepth 20000 in
theorem dX5_stay_54 : decode cX5_stay 54 = .ok (.iconst 0, 1) := by decide +kernel
set_option maxRecDepth 20000 in
theorem dX5_stay_55 : decode cX5_stay 55 = .ok (.putfield 98, 3) := by decide +kernel
set_option maxRecDepth 20000 in
theorem dX5_stay_58 : decode cX5_stay 58 = .ok (.aload_n 0, 1) := by decide +kernel
set_option maxRecDepth 20000 in
theorem dX5_stay_59 : decode cX5_stay 59 = .ok (.getfield 10, 3) := by decide +kernel
set_option maxRecDepth 20000 in
theorem dX5_stay_62 : decode cX5_stay 62 = .ok (.invokevirtual 89, 3) := by decide +kernel
set_option maxRecDepth 20000 in
theorem dX5_stay_65 : decode cX5_stay 65 = .ok (.aload_n 3, 1) := by decide +kernel
set_option maxRecDepth 20000 in
theorem dX5_stay_66 : decode cX5_stay 66 = .ok (.getfield 98, 3) := by decide +kernel
set_option maxRecDepth 20000 in
theorem dX5_stay_69 : decode cX5_stay 69 = .ok (.ifCond .eq 7, 3) := by decide +kernel
set_option maxRecDepth 20000 in
theorem dX5_stay_72 : decode cX5_stay 72 = .ok (.iconst 1, 1) := by decide +kernel
set_option maxRecDepth 20000 in
theorem dX5_stay_73 : decode cX5_stay 73 = .ok (.goto 4, 3) := by decide +kernel
set_option maxRecDepth 20000 in
theorem dX5_stay_76 : decode cX5_stay 76 = .ok (.iconst 0, 1) := by decide +kernel
set_option maxRecDepth 20000 in
theorem dX5_stay_77 : decode cX5_stay 77 = .ok (.ireturn, 1) := by decide +kernel
set_option maxRecDepth 20000 in
theorem dX5_merge_0 : decode cX5_merge 0 = .ok (.aload_n 0, 1) := by decide +kernel
set_option maxRecDepth 20000 in
theorem dX5_merge_1 : decode cX5_merge 1 = .ok (.iload_n 1, 1) := by decide +kernel
set_option maxRecDepth 20000 in
theorem dX5_merge_2 : decode cX5_merge 2 = .ok (.iload_n 2, 1) := by decide +kernel
set_option maxRecDepth 20000 in
theorem dX5_merge_3 : decode cX5_merge 3 = .ok (.iload_n 3, 1) := by decide +kernel
set_option maxRecDepth 20000 in
theorem dX5_merge_4 : decode cX5_merge 4 = .ok (.invokevirtual 101, 3) := by decide +kernel
set_option maxRecDepth 20000 in
theorem dX5_merge_7 : decode cX5_merge 7 = .ok (.istore 4, 2) := by decide +kernel
set_option maxRecDepth 20000 in
theorem dX5_merge_9 : decode cX5_merge 9 = .ok (.iload 4, 2) := by decide +kernel
set_option maxRecDepth 20000 in
theorem dX5_merge_11 : decode cX5_merge 11 = .ok (.ifCond .eq 6, 3) := by decide +kernel
set_option maxRecDepth 20000 in
theorem dX5_merge_14 : decode cX5_merge 14 = .ok (.iload 4, 2) := by decide +kernel
set_option maxRecDepth 20000 in
theorem dX5_merge_16 : decode cX5_merge 16 = .ok (.ireturn, 1) := by decide +kernel
set_option maxRecDepth 20000 in
theorem dX5_merge_17 : decode cX5_merge 17 = .ok (.aload_n 0, 1) := by decide +kernel
set_option maxRecDepth 20000 in
theorem dX5_merge_18 : decode cX5_merge 18 = .ok (.getfield 26, 3) := by decide +kernel
set_option maxRecDepth 20000 in
theorem dX5_merge_21 : decode cX5_merge 21 = .ok (.aload_n 0, 1) := by decide +kernel
set_option maxRecDepth 20000 in
theorem dX5_merge_22 : decode cX5_merge 22 = .ok (.getfield 10, 3) := by decide +kernel
set_option maxRecDepth 20000 in
theorem dX5_merge_25 : decode cX5_merge 25 = .ok (.invokevirtual 41, 3) := by decide +kernel
set_option maxRecDepth 20000 in
theorem dX5_merge_28 : decode cX5_merge 28 = .ok (.aload_n 0, 1) := by decide +kernel
set_option maxRecDepth 20000 in
theorem dX5_merge_29 : decode cX5_merge 29 = .ok (.getfield 10, 3) := by decide +kernel
set_option maxRecDepth 20000 in
theorem dX5_merge_32 : decode cX5_merge 32 = .ok (.iload_n 1, 1) := by decide +kernel
set_option maxRecDepth 20000 in
theorem dX5_merge_33 : decode cX5_merge 33 = .ok (.iload_n 2, 1) := by decide +kernel
set_option maxRecDepth 20000 in
theorem dX5_merge_34 : decode cX5_merge 34 = .ok (.iload_n 3, 1) := by decide +kernel
set_option maxRecDepth 20000 in
theorem dX5_merge_35 : decode cX5_merge 35 = .ok (.invokevirtual 104, 3) := by decide +kernel
set_option maxRecDepth 20000 in
theorem dX5_merge_38 : decode cX5_merge 38 = .ok (.aload_n 0, 1) := by decide +kernel
set_option maxRecDepth 20000 in
theorem dX5_merge_39 : decode cX5_merge 39 = .ok (.getfield 10, 3) := by decide +kernel
set_option maxRecDepth 20000 in
theorem dX5_merge_42 : decode cX5_merge 42 = .ok (.iload_n 1, 1) := by decide +kernel
set_option maxRecDepth 20000 in
theorem dX5_merge_43 : decode cX5_merge 43 = .ok (.iload_n 3, 1) := by decide +kernel
set_option maxRecDepth 20000 in
theorem dX5_merge_44 : decode cX5_merge 44 = .ok (.iload_n 2, 1) := by decide +kernel
set_option maxRecDepth 20000 in
theorem dX5_merge_45 : decode cX5_merge 45 = .ok (.invokevirtual 104, 3) := by decide +kernel
set_option maxRecDepth 20000 in
theorem dX5_merge_48 : decode cX5_merge 48 = .ok (.aload_n 0, 1) := by decide +kernel
set_option maxRecDepth 20000 in
theorem dX5_merge_49 : decode cX5_merge 49 = .ok (.getfield 10, 3) := by decide +kernel
set_option maxRecDepth 20000 in
theorem dX5_merge_52 : decode cX5_merge 52 = .ok (.invokevirtual 89, 3) := by decide +kernel
set_option maxRecDepth 20000 in
theorem dX5_merge_55 : decode cX5_merge 55 = .ok (.aload_n 0, 1) := by decide +kernel
set_option maxRecDepth 20000 in
theorem dX5_merge_56 : decode cX5_merge 56 = .ok (.getfield 10, 3) := by decide +kernel
set_option maxRecDepth 20000 in
theorem dX5_merge_59 : decode cX5_merge 59 = .ok (.iload_n 2, 1) := by decide +kernel
set_option maxRecDepth 20000 in
theorem dX5_merge_60 : decode cX5_merge 60 = .ok (.iload_n 3, 1) := by decide +kernel
set_option maxRecDepth 20000 in
theorem dX5_merge_61 : decode cX5_merge 61 = .ok (.invokevirtual 108, 3) := by decide +kernel
set_option maxRecDepth 20000 in
theorem dX5_merge_64 : decode cX5_merge 64 = .ok (.ireturn, 1) := by decide +kernel
set_option maxRecDepth 20000 in
theorem dX5_part_0 : decode cX5_part 0 = .ok (.iload_n 1, 1) := by decide +kernel
set_option maxRecDepth 20000 in
theorem dX5_part_1 : decode cX5_part 1 = .ok (.invokestatic 53, 3) := by decide +kernel
set_option maxRecDepth 20000 in
theorem dX5_part_4 : decode cX5_part 4 = .ok (.ifCond .eq 14, 3) := by decide +kernel
set_option maxRecDepth 20000 in
theorem dX5_part_7 : decode cX5_part 7 = .ok (.aload_n 0, 1) := by decide +kernel
set_option maxRecDepth 20000 in
theorem dX5_part_8 : decode cX5_part 8 = .ok (.getfield 10, 3) := by decide +kernel
set_option maxRecDepth 20000 in
theorem dX5_part_11 : decode cX5_part 11 = .ok (.iload_n 2, 1) := by decide +kernel
set_option maxRecDepth 20000 in
theorem dX5_part_12 : decode cX5_part 12 = .ok (.invokevirtual 49, 3) := by decide +kernel
set_option maxRecDepth 20000 in
theorem dX5_part_15 : decode cX5_part 15 = .ok (.ifCond .ne 5, 3) := by decide +kernel
set_option maxRecDepth 20000 in
theorem dX5_part_18 : decode cX5_part 18 = .ok (.iconst (-1), 1) := by decide +kernel
set_option maxRecDepth 20000 in
theorem dX5_part_19 : decode cX5_part 19 = .ok (.ireturn, 1) := by decide +kernel
set_option maxRecDepth 20000 in
theorem dX5_part_20 : decode cX5_part 20 = .ok (.aload_n 0, 1) := by decide +kernel
set_option maxRecDepth 20000 in
theorem dX5_part_21 : decode cX5_part 21 = .ok (.getfield 10, 3) := by decide +kernel
set_option maxRecDepth 20000 in
theorem dX5_part_24 : decode cX5_part 24 = .ok (.iload_n 1, 1) := by decide +kernel
set_option maxRecDepth 20000 in
theorem dX5_part_25 : decode cX5_part 25 = .ok (.iload_n 2, 1) := by decide +kernel
set_option maxRecDepth 20000 in
theorem dX5_part_26 : decode cX5_part 26 = .ok (.invokevirtual 112, 3) := by decide +kernel
set_option maxRecDepth 20000 in
theorem dX5_part_29 : decode cX5_part 29 = .ok (.istore_n 3, 1) := by decide +kernel
set_option maxRecDepth 20000 in
theorem dX5_part_30 : decode cX5_part 30 = .ok (.iload_n 3, 1) := by decide +kernel
set_option maxRecDepth 20000 in
theorem dX5_part_31 : decode cX5_part 31 = .ok (.bipush (-5), 2) := by decide +kernel
set_option maxRecDepth 20000 in
theorem dX5_part_33 : decode cX5_part 33 = .ok (.if_icmp .ne 6, 3) := by decide +kernel
set_option maxRecDepth 20000 in
theorem dX5_part_36 : decode cX5_part 36 = .ok (.bipush (-5), 2) := by decide +kernel
set_option maxRecDepth 20000 in
theorem dX5_part_38 : decode cX5_part 38 = .ok (.ireturn, 1) := by decide +kernel
set_option maxRecDepth 20000 in
theorem dX5_part_39 : decode cX5_part 39 = .ok (.aload_n 0, 1) := by decide +kernel
set_option maxRecDepth 20000 in
theorem dX5_part_40 : decode cX5_part 40 = .ok (.getfield 26, 3) := by decide +kernel
set_option maxRecDepth 20000 in
theorem dX5_part_43 : decode cX5_part 43 = .ok (.aload_n 0, 1) := by decide +kernel
set_option maxRecDepth 20000 in
theorem dX5_part_44 : decode cX5_part 44 = .ok (.getfield 10, 3) := by decide +kernel
set_option maxRecDepth 20000 in
theorem dX5_part_47 : decode cX5_part 47 = .ok (.invokevirtual 41, 3) := by decide +kernel
set_option maxRecDepth 20000 in
theorem dX5_part_50 : decode cX5_part 50 = .ok (.aload_n 0, 1) := by decide +kernel
set_option maxRecDepth 20000 in
theorem dX5_part_51 : decode cX5_part 51 = .ok (.getfield 10, 3) := by decide +kernel
set_option maxRecDepth 20000 in
theorem dX5_part_54 : decode cX5_part 54 = .ok (.iload_n 1, 1) := by decide +kernel
set_option maxRecDepth 20000 in
theorem dX5_part_55 : decode cX5_part 55 = .ok (.iload_n 2, 1) := by decide +kernel
set_option maxRecDepth 20000 in
theorem dX5_part_56 : decode cX5_part 56 = .ok (.bipush (-5), 2) := by decide +kernel
set_option maxRecDepth 20000 in
theorem dX5_part_58 : decode cX5_part 58 = .ok (.invokevirtual 104, 3) := by decide +kernel
set_option maxRecDepth 20000 in
theorem dX5_part_61 : decode cX5_part 61 = .ok (.aload_n 0, 1) := by decide +kernel
set_option maxRecDepth 20000 in
theorem dX5_part_62 : decode cX5_part 62 = .ok (.getfield 10, 3) := by decide +kernel
set_option maxRecDepth 20000 in
theorem dX5_part_65 : decode cX5_part 65 = .ok (.iload_n 1, 1) := by decide +kernel
set_option maxRecDepth 20000 in
theorem dX5_part_66 : decode cX5_part 66 = .ok (.iload_n 3, 1) := by decide +kernel
set_option maxRecDepth 20000 in
theorem dX5_part_67 : decode cX5_part 67 = .ok (.bipush (-5), 2) := by decide +kernel
set_option maxRecDepth 20000 in
theorem dX5_part_69 : decode cX5_part 69 = .ok (.invokevirtual 104, 3) := by decide +kernel
set_option maxRecDepth 20000 in
theorem dX5_part_72 : decode cX5_part 72 = .ok (.aload_n 0, 1) := by decide +kernel
set_option maxRecDepth 20000 in
theorem dX5_part_73 : decode cX5_part 73 = .ok (.getfield 10, 3) := by decide +kernel
set_option maxRecDepth 20000 in
theorem dX5_part_76 : decode cX5_part 76 = .ok (.invokevirtual 89, 3) := by decide +kernel
set_option maxRecDepth 20000 in
theorem dX5_part_79 : decode cX5_part 79 = .ok (.iload_n 3, 1) := by decide +kernel
set_option maxRecDepth 20000 in
theorem dX5_part_80 : decode cX5_part 80 = .ok (.ireturn, 1) := by decide +kernel
set_option maxRecDepth 20000 in
theorem dX5_set_0 : decode cX5_set 0 = .ok (.iload_n 1, 1) := by decide +kernel
set_option maxRecDepth 20000 in
theorem dX5_set_1 : decode cX5_set 1 = .ok (.iload_n 2, 1) := by decide +kernel
set_option maxRecDepth 20000 in
theorem dX5_set_2 : decode cX5_set 2 = .ok (.invokestatic 115, 3) := by decide +kernel
set_option maxRecDepth 20000 in
theorem dX5_set_5 : decode cX5_set 5 = .ok (.ifCond .ne 6, 3) := by decide +kernel
set_option maxRecDepth 20000 in
theorem dX5_set_8 : decode cX5_set 8 = .ok (.bipush (-2), 2) := by decide +kernel
set_option maxRecDepth 20000 in
theorem dX5_set_10 : decode cX5_set 10 = .ok (.ireturn, 1) := by decide +kernel
set_option maxRecDepth 20000 in
theorem dX5_set_11 : decode cX5_set 11 = .ok (.aload_n 0, 1) := by decide +kernel
set_option maxRecDepth 20000 in
theorem dX5_set_12 : decode cX5_set 12 = .ok (.getfield 10, 3) := by decide +kernel
set_option maxRecDepth 20000 in
theorem dX5_set_15 : decode cX5_set 15 = .ok (.iload_n 1, 1) := by decide +kernel
set_option maxRecDepth 20000 in
theorem dX5_set_16 : decode cX5_set 16 = .ok (.invokevirtual 119, 3) := by decide +kernel
set_option maxRecDepth 20000 in
theorem dX5_set_19 : decode cX5_set 19 = .ok (.istore_n 3, 1) := by decide +kernel
set_option maxRecDepth 20000 in
theorem dX5_set_20 : decode cX5_set 20 = .ok (.iload_n 3, 1) := by decide +kernel
set_option maxRecDepth 20000 in
theorem dX5_set_21 : decode cX5_set 21 = .ok (.iload_n 2, 1) := by decide +kernel
set_option maxRecDepth 20000 in
theorem dX5_set_22 : decode cX5_set 22 = .ok (.if_icmp .ne 6, 3) := by decide +kernel
set_option maxRecDepth 20000 in
theorem dX5_set_25 : decode cX5_set 25 = .ok (.bipush (-5), 2) := by decide +kernel
set_option maxRecDepth 20000 in
theorem dX5_set_27 : decode cX5_set 27 = .ok (.ireturn, 1) := by decide +kernel
set_option maxRecDepth 20000 in
theorem dX5_set_28 : decode cX5_set 28 = .ok (.aload_n 0, 1) := by decide +kernel
set_option maxRecDepth 20000 in
theorem dX5_set_29 : decode cX5_set 29 = .ok (.getfield 26, 3) := by decide +kernel
set_option maxRecDepth 20000 in
theorem dX5_set_32 : decode cX5_set 32 = .ok (.aload_n 0, 1) := by decide +kernel
set_option maxRecDepth 20000 in
theorem dX5_set_33 : decode cX5_set 33 = .ok (.getfield 10, 3) := by decide +kernel
set_option maxRecDepth 20000 in
theorem dX5_set_36 : decode cX5_set 36 = .ok (.invokevirtual 41, 3) := by decide +kernel
set_option maxRecDepth 20000 in
theorem dX5_set_39 : decode cX5_set 39 = .ok (.aload_n 0, 1) := by decide +kernel
set_option maxRecDepth 20000 in
theorem dX5_set_40 : decode cX5_set 40 = .ok (.getfield 10, 3) := by decide +kernel
set_option maxRecDepth 20000 in
theorem dX5_set_43 : decode cX5_set 43 = .ok (.iload_n 1, 1) := by decide +kernel
set_option maxRecDepth 20000 in
theorem dX5_set_44 : decode cX5_set 44 = .ok (.iload_n 2, 1) := by decide +kernel
set_option maxRecDepth 20000 in
theorem dX5_set_45 : decode cX5_set 45 = .ok (.invokevirtual 122, 3) := by decide +kernel
set_option maxRecDepth 20000 in
theorem dX5_set_48 : decode cX5_set 48 = .ok (.iload_n 1, 1) := by decide +kernel
set_option maxRecDepth 20000 in
theorem dX5_set_49 : decode cX5_set 49 = .ok (.iconst 2, 1) := by decide +kernel
set_option maxRecDepth 20000 in
theorem dX5_set_50 : decode cX5_set 50 = .ok (.if_icmp .eq 10, 3) := by decide +kernel
set_option maxRecDepth 20000 in
theorem dX5_set_53 : decode cX5_set 53 = .ok (.aload_n 0, 1) := by decide +kernel
set_option maxRecDepth 20000 in
theorem dX5_set_54 : decode cX5_set 54 = .ok (.getfield 10, 3) := by decide +kernel
set_option maxRecDepth 20000 in
theorem dX5_set_57 : decode cX5_set 57 = .ok (.invokevirtual 89, 3) := by decide +kernel
set_option maxRecDepth 20000 in
theorem dX5_set_60 : decode cX5_set 60 = .ok (.iload_n 3, 1) := by decide +kernel
set_option maxRecDepth 20000 in
theorem dX5_set_61 : decode cX5_set 61 = .ok (.ireturn, 1) := by decide +kernel
set_option maxRecDepth 20000 in
theorem dX5_passDay_0 : decode cX5_passDay 0 = .ok (.aload_n 0, 1) := by decide +kernel
set_option maxRecDepth 20000 in
theorem dX5_passDay_1 : decode cX5_passDay 1 = .ok (.getfield 26, 3) := by decide +kernel
set_option maxRecDepth 20000 in
theorem dX5_passDay_4 : decode cX5_passDay 4 = .ok (.aload_n 0, 1) := by decide +kernel
set_option maxRecDepth 20000 in
theorem dX5_passDay_5 : decode cX5_passDay 5 = .ok (.getfield 10, 3) := by decide +kernel
set_option maxRecDepth 20000 in
theorem dX5_passDay_8 : decode cX5_passDay 8 = .ok (.invokevirtual 41, 3) := by decide +kernel
set_option maxRecDepth 20000 in
theorem dX5_passDay_11 : decode cX5_passDay 11 = .ok (.aload_n 0, 1) := by decide +kernel
set_option maxRecDepth 20000 in
theorem dX5_passDay_12 : decode cX5_passDay 12 = .ok (.getfield 10, 3) := by decide +kernel
set_option maxRecDepth 20000 in
theorem dX5_passDay_15 : decode cX5_passDay 15 = .ok (.getfield 126, 3) := by decide +kernel
set_option maxRecDepth 20000 in
theorem dX5_passDay_18 : decode cX5_passDay 18 = .ok (.istore_n 1, 1) := by decide +kernel
set_option maxRecDepth 20000 in
theorem dX5_passDay_19 : decode cX5_passDay 19 = .ok (.aload_n 0, 1) := by decide +kernel
set_option maxRecDepth 20000 in
theorem dX5_passDay_20 : decode cX5_passDay 20 = .ok (.getfield 10, 3) := by decide +kernel
set_option maxRecDepth 20000 in
theorem dX5_passDay_23 : decode cX5_passDay 23 = .ok (.invokevirtual 129, 3) := by decide +kernel
set_option maxRecDepth 20000 in
theorem dX5_passDay_26 : decode cX5_passDay 26 = .ok (.aload_n 0, 1) := by decide +kernel
set_option maxRecDepth 20000 in
theorem dX5_passDay_27 : decode cX5_passDay 27 = .ok (.getfield 10, 3) := by decide +kernel
set_option maxRecDepth 20000 in
theorem dX5_passDay_30 : decode cX5_passDay 30 = .ok (.invokevirtual 132, 3) := by decide +kernel
set_option maxRecDepth 20000 in
theorem dX5_passDay_33 : decode cX5_passDay 33 = .ok (.aload_n 0, 1) := by decide +kernel
set_option maxRecDepth 20000 in
theorem dX5_passDay_34 : decode cX5_passDay 34 = .ok (.getfield 10, 3) := by decide +kernel
set_option maxRecDepth 20000 in
theorem dX5_passDay_37 : decode cX5_passDay 37 = .ok (.dup, 1) := by decide +kernel
set_option maxRecDepth 20000 in
theorem dX5_passDay_38 : decode cX5_passDay 38 = .ok (.getfield 135, 3) := by decide +kernel
set_option maxRecDepth 20000 in
theorem dX5_passDay_41 : decode cX5_passDay 41 = .ok (.iconst 1, 1) := by decide +kernel
set_option maxRecDepth 20000 in
theorem dX5_passDay_42 : decode cX5_passDay 42 = .ok (.iadd, 1) := by decide +kernel
set_option maxRecDepth 20000 in
theorem dX5_passDay_43 : decode cX5_passDay 43 = .ok (.putfield 135, 3) := by decide +kernel
set_option maxRecDepth 20000 in
theorem dX5_passDay_46 : decode cX5_passDay 46 = .ok (.aload_n 0, 1) := by decide +kernel
set_option maxRecDepth 20000 in
theorem dX5_passDay_47 : decode cX5_passDay 47 = .ok (.getfield 10, 3) := by decide +kernel
set_option maxRecDepth 20000 in
theorem dX5_passDay_50 : decode cX5_passDay 50 = .ok (.getfield 126, 3) := by decide +kernel
set_option maxRecDepth 20000 in
theorem dX5_passDay_53 : decode cX5_passDay 53 = .ok (.iload_n 1, 1) := by decide +kernel
set_option maxRecDepth 20000 in
theorem dX5_passDay_54 : decode cX5_passDay 54 = .ok (.isub, 1) := by decide +kernel
set_option maxRecDepth 20000 in
theorem dX5_passDay_55 : decode cX5_passDay 55 = .ok (.ireturn, 1) := by decide +kernel
set_option maxRecDepth 20000 in
theorem dX5_type_0 : decode cX5_type 0 = .ok (.aload_n 0, 1) := by decide +kernel
set_option maxRecDepth 20000 in
theorem dX5_type_1 : decode cX5_type 1 = .ok (.getfield 19, 3) := by decide +kernel
set_option maxRecDepth 20000 in
theorem dX5_type_4 : decode cX5_type 4 = .ok (.getfield 138, 3) := by decide +kernel
set_option maxRecDepth 20000 in
theorem dX5_type_7 : decode cX5_type 7 = .ok (.bipush 60, 2) := by decide +kernel
set_option maxRecDepth 20000 in
theorem dX5_type_9 : decode cX5_type 9 = .ok (.if_icmp .lt 6, 3) := by decide +kernel
set_option maxRecDepth 20000 in
theorem dX5_type_12 : decode cX5_type 12 = .ok (.bipush (-3), 2) := by decide +kernel
set_option maxRecDepth 20000 in
theorem dX5_type_14 : decode cX5_type 14 = .ok (.ireturn, 1) := by decide +kernel
set_option maxRecDepth 20000 in
theorem dX5_type_15 : decode cX5_type 15 = .ok (.aload_n 0, 1) := by decide +kernel
set_option maxRecDepth 20000 in
theorem dX5_type_16 : decode cX5_type 16 = .ok (.getfield 19, 3) := by decide +kernel
set_option maxRecDepth 20000 in
theorem dX5_type_19 : decode cX5_type 19 = .ok (.iload_n 1, 1) := by decide +kernel
set_option maxRecDepth 20000 in
theorem dX5_type_20 : decode cX5_type 20 = .ok (.invokevirtual 141, 3) := by decide +kernel
set_option maxRecDepth 20000 in
theorem dX5_type_23 : decode cX5_type 23 = .ok (.aload_n 0, 1) := by decide +kernel
set_option maxRecDepth 20000 in
theorem dX5_type_24 : decode cX5_type 24 = .ok (.getfield 19, 3) := by decide +kernel
set_option maxRecDepth 20000 in
theorem dX5_type_27 : decode cX5_type 27 = .ok (.getfield 138, 3) := by decide +kernel
set_option maxRecDepth 20000 in
theorem dX5_type_30 : decode cX5_type 30 = .ok (.ireturn, 1) := by decide +kernel
set_option maxRecDepth 20000 in
theorem dX5_clearText_0 : decode cX5_clearText 0 = .ok (.aload_n 0, 1) := by decide +kernel
set_option maxRecDepth 20000 in
theorem dX5_clearText_1 : decode cX5_clearText 1 = .ok (.getfield 19, 3) := by decide +kernel
set_option maxRecDepth 20000 in
theorem dX5_clearText_4 : decode cX5_clearText 4 = .ok (.getfield 138, 3) := by decide +kernel
set_option maxRecDepth 20000 in
theorem dX5_clearText_7 : decode cX5_clearText 7 = .ok (.istore_n 1, 1) := by decide +kernel
set_option maxRecDepth 20000 in
theorem dX5_clearText_8 : decode cX5_clearText 8 = .ok (.aload_n 0, 1) := by decide +kernel
set_option maxRecDepth 20000 in
theorem dX5_clearText_9 : decode cX5_clearText 9 = .ok (.getfield 19, 3) := by decide +kernel
set_option maxRecDepth 20000 in
theorem dX5_clearText_12 : decode cX5_clearText 12 = .ok (.iconst 0, 1) := by decide +kernel
set_option maxRecDepth 20000 in
theorem dX5_clearText_13 : decode cX5_clearText 13 = .ok (.putfield 138, 3) := by decide +kernel
set_option maxRecDepth 20000 in
theorem dX5_clearText_16 : decode cX5_clearText 16 = .ok (.iload_n 1, 1) := by decide +kernel
set_option maxRecDepth 20000 in
theorem dX5_clearText_17 : decode cX5_clearText 17 = .ok (.ireturn, 1) := by decide +kernel
set_option maxRecDepth 20000 in
theorem dX5_undo_0 : decode cX5_undo 0 = .ok (.aload_n 0, 1) := by decide +kernel
set_option maxRecDepth 20000 in
theorem dX5_undo_1 : decode cX5_undo 1 = .ok (.getfield 26, 3) := by decide +kernel
set_option maxRecDepth 20000 in
theorem dX5_undo_4 : decode cX5_undo 4 = .ok (.getfield 145, 3) := by decide +kernel
set_option maxRecDepth 20000 in
theorem dX5_undo_7 : decode cX5_undo 7 = .ok (.ifCond .ne 6, 3) := by decide +kernel
set_option maxRecDepth 20000 in
theorem dX5_undo_10 : decode cX5_undo 10 = .ok (.bipush (-5), 2) := by decide +kernel
set_option maxRecDepth 20000 in
theorem dX5_undo_12 : decode cX5_undo 12 = .ok (.ireturn, 1) := by decide +kernel
set_option maxRecDepth 20000 in
theorem dX5_undo_13 : decode cX5_undo 13 = .ok (.aload_n 0, 1) := by decide +kernel
set_option maxRecDepth 20000 in
theorem dX5_undo_14 : decode cX5_undo 14 = .ok (.getfield 26, 3) := by decide +kernel
set_option maxRecDepth 20000 in
theorem dX5_undo_17 : decode cX5_undo 17 = .ok (.aload_n 0, 1) := by decide +kernel
set_option maxRecDepth 20000 in
theorem dX5_undo_18 : decode cX5_undo 18 = .ok (.getfield 10, 3) := by decide +kernel
set_option maxRecDepth 20000 in
theorem dX5_undo_21 : decode cX5_undo 21 = .ok (.invokevirtual 148, 3) := by decide +kernel
set_option maxRecDepth 20000 in
theorem dX5_undo_24 : decode cX5_undo 24 = .ok (.aload_n 0, 1) := by decide +kernel
set_option maxRecDepth 20000 in
theorem dX5_undo_25 : decode cX5_undo 25 = .ok (.getfield 26, 3) := by decide +kernel
set_option maxRecDepth 20000 in
theorem dX5_undo_28 : decode cX5_undo 28 = .ok (.getfield 145, 3) := by decide +kernel
set_option maxRecDepth 20000 in
theorem dX5_undo_31 : decode cX5_undo 31 = .ok (.ireturn, 1) := by decide +kernel
set_option maxRecDepth 20000 in
theorem dX5_keep_0 : decode cX5_keep 0 = .ok (.aload_n 0, 1) := by decide +kernel
set_option maxRecDepth 20000 in
theorem dX5_keep_1 : decode cX5_keep 1 = .ok (.getfield 30, 3) := by decide +kernel
set_option maxRecDepth 20000 in
theorem dX5_keep_4 : decode cX5_keep 4 = .ok (.aload_n 0, 1) := by decide +kernel
set_option maxRecDepth 20000 in
theorem dX5_keep_5 : decode cX5_keep 5 = .ok (.getfield 10, 3) := by decide +kernel
set_option maxRecDepth 20000 in
theorem dX5_keep_8 : decode cX5_keep 8 = .ok (.invokevirtual 151, 3) := by decide +kernel
set_option maxRecDepth 20000 in
theorem dX5_keep_11 : decode cX5_keep 11 = .ok (.aload_n 0, 1) := by decide +kernel
set_option maxRecDepth 20000 in
theorem dX5_keep_12 : decode cX5_keep 12 = .ok (.iconst 1, 1) := by decide +kernel
set_option maxRecDepth 20000 in
theorem dX5_keep_13 : decode cX5_keep 13 = .ok (.putfield 33, 3) := by decide +kernel
set_option maxRecDepth 20000 in
theorem dX5_keep_16 : decode cX5_keep 16 = .ok (.aload_n 0, 1) := by decide +kernel
set_option maxRecDepth 20000 in
theorem dX5_keep_17 : decode cX5_keep 17 = .ok (.getfield 10, 3) := by decide +kernel
set_option maxRecDepth 20000 in
theorem dX5_keep_20 : decode cX5_keep 20 = .ok (.invokevirtual 59, 3) := by decide +kernel
set_option maxRecDepth 20000 in
theorem dX5_keep_23 : decode cX5_keep 23 = .ok (.ireturn, 1) := by decide +kernel
set_option maxRecDepth 20000 in
theorem dX5_restore_0 : decode cX5_restore 0 = .ok (.aload_n 0, 1) := by decide +kernel
set_option maxRecDepth 20000 in
theorem dX5_restore_1 : decode cX5_restore 1 = .ok (.getfield 33, 3) := by decide +kernel
set_option maxRecDepth 20000 in
theorem dX5_restore_4 : decode cX5_restore 4 = .ok (.ifCond .ne 6, 3) := by decide +kernel
set_option maxRecDepth 20000 in
theorem dX5_restore_7 : decode cX5_restore 7 = .ok (.bipush (-5), 2) := by decide +kernel
set_option maxRecDepth 20000 in
theorem dX5_restore_9 : decode cX5_restore 9 = .ok (.ireturn, 1) := by decide +kernel
set_option maxRecDepth 20000 in
theorem dX5_restore_10 : decode cX5_restore 10 = .ok (.aload_n 0, 1) := by decide +kernel
set_option maxRecDepth 20000 in
theorem dX5_restore_11 : decode cX5_restore 11 = .ok (.getfield 26, 3) := by decide +kernel
set_option maxRecDepth 20000 in
theorem dX5_restore_14 : decode cX5_restore 14 = .ok (.aload_n 0, 1) := by decide +kernel
set_option maxRecDepth 20000 in
theorem dX5_restore_15 : decode cX5_restore 15 = .ok (.getfield 10, 3) := by decide +kernel
set_option maxRecDepth 20000 in
theorem dX5_restore_18 : decode cX5_restore 18 = .ok (.invokevirtual 41, 3) := by decide +kernel
set_option maxRecDepth 20000 in
theorem dX5_restore_21 : decode cX5_restore 21 = .ok (.aload_n 0, 1) := by decide +kernel
set_option maxRecDepth 20000 in
theorem dX5_restore_22 : decode cX5_restore 22 = .ok (.getfield 10, 3) := by decide +kernel
set_option maxRecDepth 20000 in
theorem dX5_restore_25 : decode cX5_restore 25 = .ok (.aload_n 0, 1) := by decide +kernel
set_option maxRecDepth 20000 in
theorem dX5_restore_26 : decode cX5_restore 26 = .ok (.getfield 30, 3) := by decide +kernel
set_option maxRecDepth 20000 in
theorem dX5_restore_29 : decode cX5_restore 29 = .ok (.invokevirtual 151, 3) := by decide +kernel
set_option maxRecDepth 20000 in
theorem dX5_restore_32 : decode cX5_restore 32 = .ok (.aload_n 0, 1) := by decide +kernel
set_option maxRecDepth 20000 in
theorem dX5_restore_33 : decode cX5_restore 33 = .ok (.getfield 10, 3) := by decide +kernel
set_option maxRecDepth 20000 in
theorem dX5_restore_36 : decode cX5_restore 36 = .ok (.invokevirtual 59, 3) := by decide +kernel
set_option maxRecDepth 20000 in
theorem dX5_restore_39 : decode cX5_restore 39 = .ok (.ireturn, 1) := by decide +kernel
set_option maxRecDepth 20000 in
theorem dX5_worker_0 : decode cX5_worker 0 = .ok (.aload_n 0, 1) := by decide +kernel
set_option maxRecDepth 20000 in
theorem dX5_worker_1 : decode cX5_worker 1 = .ok (.getfield 10, 3) := by decide +kernel
set_option maxRecDepth 20000 in
theorem dX5_worker_4 : decode cX5_worker 4 = .ok (.iload_n 1, 1) := by decide +kernel
set_option maxRecDepth 20000 in
theorem dX5_worker_5 : decode cX5_worker 5 = .ok (.invokevirtual 80, 3) := by decide +kernel
set_option maxRecDepth 20000 in
theorem dX5_worker_8 : decode cX5_worker 8 = .ok (.astore_n 3, 1) := by decide +kernel
set_option maxRecDepth 20000 in
theorem dX5_worker_9 : decode cX5_worker 9 = .ok (.aload_n 3, 1) := by decide +kernel
set_option maxRecDepth 20000 in
theorem dX5_worker_10 : decode cX5_worker 10 = .ok (.ifnonnull 5, 3) := by decide +kernel
set_option maxRecDepth 20000 in
theorem dX5_worker_13 : decode cX5_worker 13 = .ok (.iconst (-1), 1) := by decide +kernel
set_option maxRecDepth 20000 in
theorem dX5_worker_14 : decode cX5_worker 14 = .ok (.ireturn, 1) := by decide +kernel
set_option maxRecDepth 20000 in
theorem dX5_worker_15 : decode cX5_worker 15 = .ok (.iload_n 2, 1) := by decide +kernel
set_option maxRecDepth 20000 in
theorem dX5_worker_16 : decode cX5_worker 16 = .ok (.tableswitch 136 0 8 #[52, 57, 62, 67, 80, 100, 121, 126, 131], 52) := by decide +kernel
set_option maxRecDepth 20000 in
theorem dX5_worker_68 : decode cX5_worker 68 = .ok (.aload_n 3, 1) := by decide +kernel
set_option maxRecDepth 20000 in
theorem dX5_worker_69 : decode cX5_worker 69 = .ok (.getfield 95, 3) := by decide +kernel
set_option maxRecDepth 20000 in
theorem dX5_worker_72 : decode cX5_worker 72 = .ok (.ireturn, 1) := by decide +kernel
set_option maxRecDepth 20000 in
theorem dX5_worker_73 : decode cX5_worker 73 = .ok (.aload_n 3, 1) := by decide +kernel
set_option maxRecDepth 20000 in
theorem dX5_worker_74 : decode cX5_worker 74 = .ok (.getfield 154, 3) := by decide +kernel
set_option maxRecDepth 20000 in
theorem dX5_worker_77 : decode cX5_worker 77 = .ok (.ireturn, 1) := by decide +kernel
set_option maxRecDepth 20000 in
theorem dX5_worker_78 : decode cX5_worker 78 = .ok (.aload_n 3, 1) := by decide +kernel
set_option maxRecDepth 20000 in
theorem dX5_worker_79 : decode cX5_worker 79 = .ok (.getfield 157, 3) := by decide +kernel
set_option maxRecDepth 20000 in
theorem dX5_worker_82 : decode cX5_worker 82 = .ok (.ireturn, 1) := by decide +kernel
set_option maxRecDepth 20000 in
theorem dX5_worker_83 : decode cX5_worker 83 = .ok (.aload_n 3, 1) := by decide +kernel
set_option maxRecDepth 20000 in
theorem dX5_worker_84 : decode cX5_worker 84 = .ok (.getfield 98, 3) := by decide +kernel
set_option maxRecDepth 20000 in
theorem dX5_worker_87 : decode cX5_worker 87 = .ok (.ifCond .eq 7, 3) := by decide +kernel
set_option maxRecDepth 20000 in
theorem dX5_worker_90 : decode cX5_worker 90 = .ok (.iconst 1, 1) := by decide +kernel
set_option maxRecDepth 20000 in
theorem dX5_worker_91 : decode cX5_worker 91 = .ok (.goto 4, 3) := by decide +kernel
set_option maxRecDepth 20000 in
theorem dX5_worker_94 : decode cX5_worker 94 = .ok (.iconst 0, 1) := by decide +kernel
set_option maxRecDepth 20000 in
theorem dX5_worker_95 : decode cX5_worker 95 = .ok (.ireturn, 1) := by decide +kernel
set_option maxRecDepth 20000 in
theorem dX5_worker_96 : decode cX5_worker 96 = .ok (.aload_n 0, 1) := by decide +kernel
set_option maxRecDepth 20000 in
theorem dX5_worker_97 : decode cX5_worker 97 = .ok (.getfield 10, 3) := by decide +kernel
set_option maxRecDepth 20000 in
theorem dX5_worker_100 : decode cX5_worker 100 = .ok (.aload_n 3, 1) := by decide +kernel
set_option maxRecDepth 20000 in
theorem dX5_worker_101 : decode cX5_worker 101 = .ok (.getfield 154, 3) := by decide +kernel
set_option maxRecDepth 20000 in
theorem dX5_worker_104 : decode cX5_worker 104 = .ok (.aload_n 3, 1) := by decide +kernel
set_option maxRecDepth 20000 in
theorem dX5_worker_105 : decode cX5_worker 105 = .ok (.getfield 95, 3) := by decide +kernel
set_option maxRecDepth 20000 in
theorem dX5_worker_108 : decode cX5_worker 108 = .ok (.aload_n 3, 1) := by decide +kernel
set_option maxRecDepth 20000 in
theorem dX5_worker_109 : decode cX5_worker 109 = .ok (.getfield 157, 3) := by decide +kernel
set_option maxRecDepth 20000 in
theorem dX5_worker_112 : decode cX5_worker 112 = .ok (.invokevirtual 160, 3) := by decide +kernel
set_option maxRecDepth 20000 in
theorem dX5_worker_115 : decode cX5_worker 115 = .ok (.ireturn, 1) := by decide +kernel
set_option maxRecDepth 20000 in
theorem dX5_worker_116 : decode cX5_worker 116 = .ok (.aload_n 0, 1) := by decide +kernel
set_option maxRecDepth 20000 in
theorem dX5_worker_117 : decode cX5_worker 117 = .ok (.getfield 10, 3) := by decide +kernel
set_option maxRecDepth 20000 in
theorem dX5_worker_120 : decode cX5_worker 120 = .ok (.aload_n 3, 1) := by decide +kernel
set_option maxRecDepth 20000 in
theorem dX5_worker_121 : decode cX5_worker 121 = .ok (.getfield 154, 3) := by decide +kernel
set_option maxRecDepth 20000 in
theorem dX5_worker_124 : decode cX5_worker 124 = .ok (.aload_n 3, 1) := by decide +kernel
set_option maxRecDepth 20000 in
theorem dX5_worker_125 : decode cX5_worker 125 = .ok (.getfield 95, 3) := by decide +kernel
set_option maxRecDepth 20000 in
theorem dX5_worker_128 : decode cX5_worker 128 = .ok (.aload_n 3, 1) := by decide +kernel
set_option maxRecDepth 20000 in
theorem dX5_worker_129 : decode cX5_worker 129 = .ok (.getfield 157, 3) := by decide +kernel
set_option maxRecDepth 20000 in
theorem dX5_worker_132 : decode cX5_worker 132 = .ok (.aload_n 3, 1) := by decide +kernel
set_option maxRecDepth 20000 in
theorem dX5_worker_133 : decode cX5_worker 133 = .ok (.invokevirtual 163, 3) := by decide +kernel
set_option maxRecDepth 20000 in
theorem dX5_worker_136 : decode cX5_worker 136 = .ok (.ireturn, 1) := by decide +kernel
set_option maxRecDepth 20000 in
theorem dX5_worker_137 : decode cX5_worker 137 = .ok (.aload_n 3, 1) := by decide +kernel
set_option maxRecDepth 20000 in
theorem dX5_worker_138 : decode cX5_worker 138 = .ok (.getfield 167, 3) := by decide +kernel
set_option maxRecDepth 20000 in
theorem dX5_worker_141 : decode cX5_worker 141 = .ok (.ireturn, 1) := by decide +kernel
set_option maxRecDepth 20000 in
theorem dX5_worker_142 : decode cX5_worker 142 = .ok (.aload_n 3, 1) := by decide +kernel
set_option maxRecDepth 20000 in
theorem dX5_worker_143 : decode cX5_worker 143 = .ok (.getfield 170, 3) := by decide +kernel
set_option maxRecDepth 20000 in
theorem dX5_worker_146 : decode cX5_worker 146 = .ok (.ireturn, 1) := by decide +kernel
set_option maxRecDepth 20000 in
theorem dX5_worker_147 : decode cX5_worker 147 = .ok (.aload_n 3, 1) := by decide +kernel
set_option maxRecDepth 20000 in
theorem dX5_worker_148 : decode cX5_worker 148 = .ok (.getfield 171, 3) := by decide +kernel
set_option maxRecDepth 20000 in
theorem dX5_worker_151 : decode cX5_worker 151 = .ok (.ireturn, 1) := by decide +kernel
set_option maxRecDepth 20000 in
theorem dX5_worker_152 : decode cX5_worker 152 = .ok (.bipush (-2), 2) := by decide +kernel
set_option maxRecDepth 20000 in
theorem dX5_worker_154 : decode cX5_worker 154 = .ok (.ireturn, 1) := by decide +kernel
set_option maxRecDepth 20000 in
theorem dX5_bus_0 : decode cX5_bus 0 = .ok (.iload_n 1, 1) := by decide +kernel
set_option maxRecDepth 20000 in
theorem dX5_bus_1 : decode cX5_bus 1 = .ok (.invokestatic 53, 3) := by decide +kernel
set_option maxRecDepth 20000 in
theorem dX5_bus_4 : decode cX5_bus 4 = .ok (.ifCond .eq 14, 3) := by decide +kernel
set_option maxRecDepth 20000 in
theorem dX5_bus_7 : decode cX5_bus 7 = .ok (.aload_n 0, 1) := by decide +kernel
set_option maxRecDepth 20000 in
theorem dX5_bus_8 : decode cX5_bus 8 = .ok (.getfield 10, 3) := by decide +kernel
set_option maxRecDepth 20000 in
theorem dX5_bus_11 : decode cX5_bus 11 = .ok (.iload_n 2, 1) := by decide +kernel
set_option maxRecDepth 20000 in
theorem dX5_bus_12 : decode cX5_bus 12 = .ok (.invokevirtual 49, 3) := by decide +kernel
set_option maxRecDepth 20000 in
theorem dX5_bus_15 : decode cX5_bus 15 = .ok (.ifCond .ne 5, 3) := by decide +kernel
set_option maxRecDepth 20000 in
theorem dX5_bus_18 : decode cX5_bus 18 = .ok (.iconst (-1), 1) := by decide +kernel
set_option maxRecDepth 20000 in
theorem dX5_bus_19 : decode cX5_bus 19 = .ok (.ireturn, 1) := by decide +kernel
set_option maxRecDepth 20000 in
theorem dX5_bus_20 : decode cX5_bus 20 = .ok (.aload_n 0, 1) := by decide +kernel
set_option maxRecDepth 20000 in
theorem dX5_bus_21 : decode cX5_bus 21 = .ok (.getfield 10, 3) := by decide +kernel
set_option maxRecDepth 20000 in
theorem dX5_bus_24 : decode cX5_bus 24 = .ok (.iload_n 1, 1) := by decide +kernel
set_option maxRecDepth 20000 in
theorem dX5_bus_25 : decode cX5_bus 25 = .ok (.iload_n 2, 1) := by decide +kernel
set_option maxRecDepth 20000 in
theorem dX5_bus_26 : decode cX5_bus 26 = .ok (.invokevirtual 112, 3) := by decide +kernel
set_option maxRecDepth 20000 in
theorem dX5_bus_29 : decode cX5_bus 29 = .ok (.istore 4, 2) := by decide +kernel
set_option maxRecDepth 20000 in
theorem dX5_bus_31 : decode cX5_bus 31 = .ok (.iload_n 3, 1) := by decide +kernel
set_option maxRecDepth 20000 in
theorem dX5_bus_32 : decode cX5_bus 32 = .ok (.tableswitch 104 0 5 #[40, 51, 54, 68, 80, 92], 40) := by decide +kernel
set_option maxRecDepth 20000 in
theorem dX5_bus_72 : decode cX5_bus 72 = .ok (.aload_n 0, 1) := by decide +kernel
set_option maxRecDepth 20000 in
theorem dX5_bus_73 : decode cX5_bus 73 = .ok (.getfield 10, 3) := by decide +kernel
set_option maxRecDepth 20000 in
theorem dX5_bus_76 : decode cX5_bus 76 = .ok (.iload_n 2, 1) := by decide +kernel
set_option maxRecDepth 20000 in
theorem dX5_bus_77 : decode cX5_bus 77 = .ok (.iload 4, 2) := by decide +kernel
set_option maxRecDepth 20000 in
theorem dX5_bus_79 : decode cX5_bus 79 = .ok (.invokevirtual 108, 3) := by decide +kernel
set_option maxRecDepth 20000 in
theorem dX5_bus_82 : decode cX5_bus 82 = .ok (.ireturn, 1) := by decide +kernel
set_option maxRecDepth 20000 in
theorem dX5_bus_83 : decode cX5_bus 83 = .ok (.iload 4, 2) := by decide +kernel
set_option maxRecDepth 20000 in
theorem dX5_bus_85 : decode cX5_bus 85 = .ok (.ireturn, 1) := by decide +kernel
set_option maxRecDepth 20000 in
theorem dX5_bus_86 : decode cX5_bus 86 = .ok (.aload_n 0, 1) := by decide +kernel
set_option maxRecDepth 20000 in
theorem dX5_bus_87 : decode cX5_bus 87 = .ok (.getfield 10, 3) := by decide +kernel
set_option maxRecDepth 20000 in
theorem dX5_bus_90 : decode cX5_bus 90 = .ok (.iload_n 1, 1) := by decide +kernel
set_option maxRecDepth 20000 in
theorem dX5_bus_91 : decode cX5_bus 91 = .ok (.iload_n 2, 1) := by decide +kernel
set_option maxRecDepth 20000 in
theorem dX5_bus_92 : decode cX5_bus 92 = .ok (.iload 4, 2) := by decide +kernel
set_option maxRecDepth 20000 in
theorem dX5_bus_94 : decode cX5_bus 94 = .ok (.iconst 1, 1) := by decide +kernel
set_option maxRecDepth 20000 in
theorem dX5_bus_95 : decode cX5_bus 95 = .ok (.aconst_null, 1) := by decide +kernel
set_option maxRecDepth 20000 in
theorem dX5_bus_96 : decode cX5_bus 96 = .ok (.invokevirtual 174, 3) := by decide +kernel
set_option maxRecDepth 20000 in
theorem dX5_bus_99 : decode cX5_bus 99 = .ok (.ireturn, 1) := by decide +kernel
set_option maxRecDepth 20000 in
theorem dX5_bus_100 : decode cX5_bus 100 = .ok (.aload_n 0, 1) := by decide +kernel
set_option maxRecDepth 20000 in
theorem dX5_bus_101 : decode cX5_bus 101 = .ok (.getfield 10, 3) := by decide +kernel
set_option maxRecDepth 20000 in
theorem dX5_bus_104 : decode cX5_bus 104 = .ok (.iload_n 1, 1) := by decide +kernel
set_option maxRecDepth 20000 in
theorem dX5_bus_105 : decode cX5_bus 105 = .ok (.iload_n 2, 1) := by decide +kernel
set_option maxRecDepth 20000 in
theorem dX5_bus_106 : decode cX5_bus 106 = .ok (.iload 4, 2) := by decide +kernel
set_option maxRecDepth 20000 in
theorem dX5_bus_108 : decode cX5_bus 108 = .ok (.invokevirtual 178, 3) := by decide +kernel
set_option maxRecDepth 20000 in
theorem dX5_bus_111 : decode cX5_bus 111 = .ok (.ireturn, 1) := by decide +kernel
set_option maxRecDepth 20000 in
theorem dX5_bus_112 : decode cX5_bus 112 = .ok (.aload_n 0, 1) := by decide +kernel
set_option maxRecDepth 20000 in
theorem dX5_bus_113 : decode cX5_bus 113 = .ok (.getfield 10, 3) := by decide +kernel
set_option maxRecDepth 20000 in
theorem dX5_bus_116 : decode cX5_bus 116 = .ok (.iload_n 1, 1) := by decide +kernel
set_option maxRecDepth 20000 in
theorem dX5_bus_117 : decode cX5_bus 117 = .ok (.iload_n 2, 1) := by decide +kernel
set_option maxRecDepth 20000 in
theorem dX5_bus_118 : decode cX5_bus 118 = .ok (.iload 4, 2) := by decide +kernel
set_option maxRecDepth 20000 in
theorem dX5_bus_120 : decode cX5_bus 120 = .ok (.invokevirtual 181, 3) := by decide +kernel
set_option maxRecDepth 20000 in
theorem dX5_bus_123 : decode cX5_bus 123 = .ok (.ireturn, 1) := by decide +kernel
set_option maxRecDepth 20000 in
theorem dX5_bus_124 : decode cX5_bus 124 = .ok (.aload_n 0, 1) := by decide +kernel
set_option maxRecDepth 20000 in
theorem dX5_bus_125 : decode cX5_bus 125 = .ok (.getfield 10, 3) := by decide +kernel
set_option maxRecDepth 20000 in
theorem dX5_bus_128 : decode cX5_bus 128 = .ok (.iload_n 1, 1) := by decide +kernel
set_option maxRecDepth 20000 in
theorem dX5_bus_129 : decode cX5_bus 129 = .ok (.iload_n 2, 1) := by decide +kernel
set_option maxRecDepth 20000 in
theorem dX5_bus_130 : decode cX5_bus 130 = .ok (.iload 4, 2) := by decide +kernel
set_option maxRecDepth 20000 in
theorem dX5_bus_132 : decode cX5_bus 132 = .ok (.invokevirtual 184, 3) := by decide +kernel
set_option maxRecDepth 20000 in
theorem dX5_bus_135 : decode cX5_bus 135 = .ok (.ireturn, 1) := by decide +kernel
set_option maxRecDepth 20000 in
theorem dX5_bus_136 : decode cX5_bus 136 = .ok (.bipush (-2), 2) := by decide +kernel
set_option maxRecDepth 20000 in
theorem dX5_bus_138 : decode cX5_bus 138 = .ok (.ireturn, 1) := by decide +kernel
set_option maxRecDepth 20000 in
theorem dX5_taken_0 : decode cX5_taken 0 = .ok (.iload_n 1, 1) := by decide +kernel
set_option maxRecDepth 20000 in
theorem dX5_taken_1 : decode cX5_taken 1 = .ok (.invokestatic 53, 3) := by decide +kernel
set_option maxRecDepth 20000 in
theorem dX5_taken_4 : decode cX5_taken 4 = .ok (.ifCond .eq 21, 3) := by decide +kernel
set_option maxRecDepth 20000 in
theorem dX5_taken_7 : decode cX5_taken 7 = .ok (.aload_n 0, 1) := by decide +kernel
set_option maxRecDepth 20000 in
theorem dX5_taken_8 : decode cX5_taken 8 = .ok (.getfield 10, 3) := by decide +kernel
set_option maxRecDepth 20000 in
theorem dX5_taken_11 : decode cX5_taken 11 = .ok (.iload_n 2, 1) := by decide +kernel
set_option maxRecDepth 20000 in
theorem dX5_taken_12 : decode cX5_taken 12 = .ok (.invokevirtual 49, 3) := by decide +kernel
set_option maxRecDepth 20000 in
theorem dX5_taken_15 : decode cX5_taken 15 = .ok (.ifCond .eq 10, 3) := by decide +kernel
set_option maxRecDepth 20000 in
theorem dX5_taken_18 : decode cX5_taken 18 = .ok (.iload_n 3, 1) := by decide +kernel
set_option maxRecDepth 20000 in
theorem dX5_taken_19 : decode cX5_taken 19 = .ok (.invokestatic 56, 3) := by decide +kernel
set_option maxRecDepth 20000 in
theorem dX5_taken_22 : decode cX5_taken 22 = .ok (.ifCond .ne 5, 3) := by decide +kernel
set_option maxRecDepth 20000 in
theorem dX5_taken_25 : decode cX5_taken 25 = .ok (.iconst (-1), 1) := by decide +kernel
set_option maxRecDepth 20000 in
theorem dX5_taken_26 : decode cX5_taken 26 = .ok (.ireturn, 1) := by decide +kernel
set_option maxRecDepth 20000 in
theorem dX5_taken_27 : decode cX5_taken 27 = .ok (.aload_n 0, 1) := by decide +kernel
set_option maxRecDepth 20000 in
theorem dX5_taken_28 : decode cX5_taken 28 = .ok (.getfield 10, 3) := by decide +kernel
set_option maxRecDepth 20000 in
theorem dX5_taken_31 : decode cX5_taken 31 = .ok (.iload_n 1, 1) := by decide +kernel
set_option maxRecDepth 20000 in
theorem dX5_taken_32 : decode cX5_taken 32 = .ok (.iload_n 2, 1) := by decide +kernel
set_option maxRecDepth 20000 in
theorem dX5_taken_33 : decode cX5_taken 33 = .ok (.aload_n 0, 1) := by decide +kernel
set_option maxRecDepth 20000 in
theorem dX5_taken_34 : decode cX5_taken 34 = .ok (.getfield 10, 3) := by decide +kernel
set_option maxRecDepth 20000 in
theorem dX5_taken_37 : decode cX5_taken 37 = .ok (.iload_n 1, 1) := by decide +kernel
set_option maxRecDepth 20000 in
theorem dX5_taken_38 : decode cX5_taken 38 = .ok (.iload_n 2, 1) := by decide +kernel
set_option maxRecDepth 20000 in
theorem dX5_taken_39 : decode cX5_taken 39 = .ok (.invokevirtual 112, 3) := by decide +kernel
set_option maxRecDepth 20000 in
theorem dX5_taken_42 : decode cX5_taken 42 = .ok (.iload_n 3, 1) := by decide +kernel
set_option maxRecDepth 20000 in
theorem dX5_taken_43 : decode cX5_taken 43 = .ok (.aconst_null, 1) := by decide +kernel
set_option maxRecDepth 20000 in
theorem dX5_taken_44 : decode cX5_taken 44 = .ok (.invokevirtual 174, 3) := by decide +kernel
set_option maxRecDepth 20000 in
theorem dX5_taken_47 : decode cX5_taken 47 = .ok (.ireturn, 1) := by decide +kernel
set_option maxRecDepth 20000 in
theorem dX5_why_0 : decode cX5_why 0 = .ok (.iload_n 1, 1) := by decide +kernel
set_option maxRecDepth 20000 in
theorem dX5_why_1 : decode cX5_why 1 = .ok (.invokestatic 53, 3) := by decide +kernel
set_option maxRecDepth 20000 in
theorem dX5_why_4 : decode cX5_why 4 = .ok (.ifCond .eq 10, 3) := by decide +kernel
set_option maxRecDepth 20000 in
theorem dX5_why_7 : decode cX5_why 7 = .ok (.iload_n 3, 1) := by decide +kernel
set_option maxRecDepth 20000 in
theorem dX5_why_8 : decode cX5_why 8 = .ok (.invokestatic 56, 3) := by decide +kernel
set_option maxRecDepth 20000 in
theorem dX5_why_11 : decode cX5_why 11 = .ok (.ifCond .ne 5, 3) := by decide +kernel
set_option maxRecDepth 20000 in
theorem dX5_why_14 : decode cX5_why 14 = .ok (.iconst (-1), 1) := by decide +kernel
set_option maxRecDepth 20000 in
theorem dX5_why_15 : decode cX5_why 15 = .ok (.ireturn, 1) := by decide +kernel
set_option maxRecDepth 20000 in
theorem dX5_why_16 : decode cX5_why 16 = .ok (.aload_n 0, 1) := by decide +kernel
set_option maxRecDepth 20000 in
theorem dX5_why_17 : decode cX5_why 17 = .ok (.getfield 10, 3) := by decide +kernel
set_option maxRecDepth 20000 in
theorem dX5_why_20 : decode cX5_why 20 = .ok (.iload_n 1, 1) := by decide +kernel
set_option maxRecDepth 20000 in
theorem dX5_why_21 : decode cX5_why 21 = .ok (.iload_n 2, 1) := by decide +kernel
set_option maxRecDepth 20000 in
theorem dX5_why_22 : decode cX5_why 22 = .ok (.iload_n 3, 1) := by decide +kernel
set_option maxRecDepth 20000 in
theorem dX5_why_23 : decode cX5_why 23 = .ok (.aconst_null, 1) := by decide +kernel
set_option maxRecDepth 20000 in
theorem dX5_why_24 : decode cX5_why 24 = .ok (.invokevirtual 163, 3) := by decide +kernel
set_option maxRecDepth 20000 in
theorem dX5_why_27 : decode cX5_why 27 = .ok (.ireturn, 1) := by decide +kernel
set_option maxRecDepth 20000 in
theorem dX5_spares_0 : decode cX5_spares 0 = .ok (.aload_n 0, 1) := by decide +kernel
set_option maxRecDepth 20000 in
theorem dX5_spares_1 : decode cX5_spares 1 = .ok (.iload_n 1, 1) := by decide +kernel
set_option maxRecDepth 20000 in
theorem dX5_spares_2 : decode cX5_spares 2 = .ok (.iload_n 2, 1) := by decide +kernel
set_option maxRecDepth 20000 in
theorem dX5_spares_3 : decode cX5_spares 3 = .ok (.iload_n 3, 1) := by decide +kernel
set_option maxRecDepth 20000 in
theorem dX5_spares_4 : decode cX5_spares 4 = .ok (.invokevirtual 101, 3) := by decide +kernel
set_option maxRecDepth 20000 in
theorem dX5_spares_7 : decode cX5_spares 7 = .ok (.istore 4, 2) := by decide +kernel
set_option maxRecDepth 20000 in
theorem dX5_spares_9 : decode cX5_spares 9 = .ok (.iload 4, 2) := by decide +kernel
set_option maxRecDepth 20000 in
theorem dX5_spares_11 : decode cX5_spares 11 = .ok (.ifCond .eq 6, 3) := by decide +kernel
set_option maxRecDepth 20000 in
theorem dX5_spares_14 : decode cX5_spares 14 = .ok (.iload 4, 2) := by decide +kernel
set_option maxRecDepth 20000 in
theorem dX5_spares_16 : decode cX5_spares 16 = .ok (.ireturn, 1) := by decide +kernel
set_option maxRecDepth 20000 in
theorem dX5_spares_17 : decode cX5_spares 17 = .ok (.aload_n 0, 1) := by decide +kernel
set_option maxRecDepth 20000 in
theorem dX5_spares_18 : decode cX5_spares 18 = .ok (.getfield 10, 3) := by decide +kernel
set_option maxRecDepth 20000 in
theorem dX5_spares_21 : decode cX5_spares 21 = .ok (.iload_n 1, 1) := by decide +kernel
set_option maxRecDepth 20000 in
theorem dX5_spares_22 : decode cX5_spares 22 = .ok (.iload_n 2, 1) := by decide +kernel
set_option maxRecDepth 20000 in
theorem dX5_spares_23 : decode cX5_spares 23 = .ok (.bipush (-5), 2) := by decide +kernel
set_option maxRecDepth 20000 in
theorem dX5_spares_25 : decode cX5_spares 25 = .ok (.invokevirtual 184, 3) := by decide +kernel
set_option maxRecDepth 20000 in
theorem dX5_spares_28 : decode cX5_spares 28 = .ok (.aload_n 0, 1) := by decide +kernel
set_option maxRecDepth 20000 in
theorem dX5_spares_29 : decode cX5_spares 29 = .ok (.getfield 10, 3) := by decide +kernel
set_option maxRecDepth 20000 in
theorem dX5_spares_32 : decode cX5_spares 32 = .ok (.iload_n 1, 1) := by decide +kernel
set_option maxRecDepth 20000 in
theorem dX5_spares_33 : decode cX5_spares 33 = .ok (.iload_n 3, 1) := by decide +kernel
set_option maxRecDepth 20000 in
theorem dX5_spares_34 : decode cX5_spares 34 = .ok (.bipush (-5), 2) := by decide +kernel
set_option maxRecDepth 20000 in
theorem dX5_spares_36 : decode cX5_spares 36 = .ok (.invokevirtual 184, 3) := by decide +kernel
set_option maxRecDepth 20000 in
theorem dX5_spares_39 : decode cX5_spares 39 = .ok (.iadd, 1) := by decide +kernel
set_option maxRecDepth 20000 in
theorem dX5_spares_40 : decode cX5_spares 40 = .ok (.istore 5, 2) := by decide +kernel
set_option maxRecDepth 20000 in
theorem dX5_spares_42 : decode cX5_spares 42 = .ok (.iload 5, 2) := by decide +kernel
set_option maxRecDepth 20000 in
theorem dX5_spares_44 : decode cX5_spares 44 = .ok (.aload_n 0, 1) := by decide +kernel
set_option maxRecDepth 20000 in
theorem dX5_spares_45 : decode cX5_spares 45 = .ok (.getfield 10, 3) := by decide +kernel
set_option maxRecDepth 20000 in
theorem dX5_spares_48 : decode cX5_spares 48 = .ok (.iload_n 1, 1) := by decide +kernel
set_option maxRecDepth 20000 in
theorem dX5_spares_49 : decode cX5_spares 49 = .ok (.iload_n 2, 1) := by decide +kernel
set_option maxRecDepth 20000 in
theorem dX5_spares_50 : decode cX5_spares 50 = .ok (.iload_n 3, 1) := by decide +kernel
set_option maxRecDepth 20000 in
theorem dX5_spares_51 : decode cX5_spares 51 = .ok (.invokevirtual 184, 3) := by decide +kernel
set_option maxRecDepth 20000 in
theorem dX5_spares_54 : decode cX5_spares 54 = .ok (.isub, 1) := by decide +kernel
set_option maxRecDepth 20000 in
theorem dX5_spares_55 : decode cX5_spares 55 = .ok (.ireturn, 1) := by decide +kernel
set_option maxRecDepth 20000 in
theorem dX5_byMinute_0 : decode cX5_byMinute 0 = .ok (.iload_n 1, 1) := by decide +kernel
set_option maxRecDepth 20000 in
theorem dX5_byMinute_1 : decode cX5_byMinute 1 = .ok (.ifCond .ge 6, 3) := by decide +kernel
set_option maxRecDepth 20000 in
theorem dX5_byMinute_4 : decode cX5_byMinute 4 = .ok (.bipush (-2), 2) := by decide +kernel
set_option maxRecDepth 20000 in
theorem dX5_byMinute_6 : decode cX5_byMinute 6 = .ok (.ireturn, 1) := by decide +kernel
set_option maxRecDepth 20000 in
theorem dX5_byMinute_7 : decode cX5_byMinute 7 = .ok (.aload_n 0, 1) := by decide +kernel
set_option maxRecDepth 20000 in
theorem dX5_byMinute_8 : decode cX5_byMinute 8 = .ok (.getfield 10, 3) := by decide +kernel
set_option maxRecDepth 20000 in
theorem dX5_byMinute_11 : decode cX5_byMinute 11 = .ok (.iload_n 1, 1) := by decide +kernel
set_option maxRecDepth 20000 in
theorem dX5_byMinute_12 : decode cX5_byMinute 12 = .ok (.invokevirtual 187, 3) := by decide +kernel
set_option maxRecDepth 20000 in
theorem dX5_byMinute_15 : decode cX5_byMinute 15 = .ok (.ireturn, 1) := by decide +kernel
set_option maxRecDepth 20000 in
theorem dX5_count_0 : decode cX5_count 0 = .ok (.iload_n 1, 1) := by decide +kernel
set_option maxRecDepth 20000 in
theorem dX5_count_1 : decode cX5_count 1 = .ok (.tableswitch 243 0 17 #[87, 95, 103, 119, 127, 135, 143, 151, 159, 167, 175, 183, 192, 201, 210, 219, 227, 235], 87) := by decide +kernel
set_option maxRecDepth 20000 in
theorem dX5_count_88 : decode cX5_count 88 = .ok (.aload_n 0, 1) := by decide +kernel
set_option maxRecDepth 20000 in
theorem dX5_count_89 : decode cX5_count 89 = .ok (.getfield 10, 3) := by decide +kernel
set_option maxRecDepth 20000 in
theorem dX5_count_92 : decode cX5_count 92 = .ok (.getfield 37, 3) := by decide +kernel
set_option maxRecDepth 20000 in
theorem dX5_count_95 : decode cX5_count 95 = .ok (.ireturn, 1) := by decide +kernel
set_option maxRecDepth 20000 in
theorem dX5_count_96 : decode cX5_count 96 = .ok (.aload_n 0, 1) := by decide +kernel
set_option maxRecDepth 20000 in
theorem dX5_count_97 : decode cX5_count 97 = .ok (.getfield 10, 3) := by decide +kernel
set_option maxRecDepth 20000 in
theorem dX5_count_100 : decode cX5_count 100 = .ok (.invokevirtual 59, 3) := by decide +kernel
set_option maxRecDepth 20000 in
theorem dX5_count_103 : decode cX5_count 103 = .ok (.ireturn, 1) := by decide +kernel
set_option maxRecDepth 20000 in
theorem dX5_count_104 : decode cX5_count 104 = .ok (.aload_n 0, 1) := by decide +kernel
set_option maxRecDepth 20000 in
theorem dX5_count_105 : decode cX5_count 105 = .ok (.getfield 10, 3) := by decide +kernel
set_option maxRecDepth 20000 in
theorem dX5_count_108 : decode cX5_count 108 = .ok (.invokevirtual 59, 3) := by decide +kernel
set_option maxRecDepth 20000 in
theorem dX5_count_111 : decode cX5_count 111 = .ok (.aload_n 0, 1) := by decide +kernel
set_option maxRecDepth 20000 in
theorem dX5_count_112 : decode cX5_count 112 = .ok (.getfield 10, 3) := by decide +kernel
set_option maxRecDepth 20000 in
theorem dX5_count_115 : decode cX5_count 115 = .ok (.invokevirtual 92, 3) := by decide +kernel
set_option maxRecDepth 20000 in
theorem dX5_count_118 : decode cX5_count 118 = .ok (.isub, 1) := by decide +kernel
set_option maxRecDepth 20000 in
theorem dX5_count_119 : decode cX5_count 119 = .ok (.ireturn, 1) := by decide +kernel
set_option maxRecDepth 20000 in
theorem dX5_count_120 : decode cX5_count 120 = .ok (.aload_n 0, 1) := by decide +kernel
set_option maxRecDepth 20000 in
theorem dX5_count_121 : decode cX5_count 121 = .ok (.getfield 10, 3) := by decide +kernel
set_option maxRecDepth 20000 in
theorem dX5_count_124 : decode cX5_count 124 = .ok (.invokevirtual 92, 3) := by decide +kernel
set_option maxRecDepth 20000 in
theorem dX5_count_127 : decode cX5_count 127 = .ok (.ireturn, 1) := by decide +kernel
set_option maxRecDepth 20000 in
theorem dX5_count_128 : decode cX5_count 128 = .ok (.aload_n 0, 1) := by decide +kernel
set_option maxRecDepth 20000 in
theorem dX5_count_129 : decode cX5_count 129 = .ok (.getfield 10, 3) := by decide +kernel
set_option maxRecDepth 20000 in
theorem dX5_count_132 : decode cX5_count 132 = .ok (.invokevirtual 190, 3) := by decide +kernel
set_option maxRecDepth 20000 in
theorem dX5_count_135 : decode cX5_count 135 = .ok (.ireturn, 1) := by decide +kernel
set_option maxRecDepth 20000 in
theorem dX5_count_136 : decode cX5_count 136 = .ok (.aload_n 0, 1) := by decide +kernel
set_option maxRecDepth 20000 in
theorem dX5_count_137 : decode cX5_count 137 = .ok (.getfield 10, 3) := by decide +kernel
set_option maxRecDepth 20000 in
theorem dX5_count_140 : decode cX5_count 140 = .ok (.getfield 135, 3) := by decide +kernel
set_option maxRecDepth 20000 in
theorem dX5_count_143 : decode cX5_count 143 = .ok (.ireturn, 1) := by decide +kernel
set_option maxRecDepth 20000 in
theorem dX5_count_144 : decode cX5_count 144 = .ok (.aload_n 0, 1) := by decide +kernel
set_option maxRecDepth 20000 in
theorem dX5_count_145 : decode cX5_count 145 = .ok (.getfield 10, 3) := by decide +kernel
set_option maxRecDepth 20000 in
theorem dX5_count_148 : decode cX5_count 148 = .ok (.getfield 193, 3) := by decide +kernel
set_option maxRecDepth 20000 in
theorem dX5_count_151 : decode cX5_count 151 = .ok (.ireturn, 1) := by decide +kernel
set_option maxRecDepth 20000 in
theorem dX5_count_152 : decode cX5_count 152 = .ok (.aload_n 0, 1) := by decide +kernel
set_option maxRecDepth 20000 in
theorem dX5_count_153 : decode cX5_count 153 = .ok (.getfield 10, 3) := by decide +kernel
set_option maxRecDepth 20000 in
theorem dX5_count_156 : decode cX5_count 156 = .ok (.getfield 126, 3) := by decide +kernel
set_option maxRecDepth 20000 in
theorem dX5_count_159 : decode cX5_count 159 = .ok (.ireturn, 1) := by decide +kernel
set_option maxRecDepth 20000 in
theorem dX5_count_160 : decode cX5_count 160 = .ok (.aload_n 0, 1) := by decide +kernel
set_option maxRecDepth 20000 in
theorem dX5_count_161 : decode cX5_count 161 = .ok (.getfield 10, 3) := by decide +kernel
set_option maxRecDepth 20000 in
theorem dX5_count_164 : decode cX5_count 164 = .ok (.getfield 194, 3) := by decide +kernel
set_option maxRecDepth 20000 in
theorem dX5_count_167 : decode cX5_count 167 = .ok (.ireturn, 1) := by decide +kernel
set_option maxRecDepth 20000 in
theorem dX5_count_168 : decode cX5_count 168 = .ok (.aload_n 0, 1) := by decide +kernel
set_option maxRecDepth 20000 in
theorem dX5_count_169 : decode cX5_count 169 = .ok (.getfield 10, 3) := by decide +kernel
set_option maxRecDepth 20000 in
theorem dX5_count_172 : decode cX5_count 172 = .ok (.getfield 195, 3) := by decide +kernel
set_option maxRecDepth 20000 in
theorem dX5_count_175 : decode cX5_count 175 = .ok (.ireturn, 1) := by decide +kernel
set_option maxRecDepth 20000 in
theorem dX5_count_176 : decode cX5_count 176 = .ok (.aload_n 0, 1) := by decide +kernel
set_option maxRecDepth 20000 in
theorem dX5_count_177 : decode cX5_count 177 = .ok (.getfield 10, 3) := by decide +kernel
set_option maxRecDepth 20000 in
theorem dX5_count_180 : decode cX5_count 180 = .ok (.getfield 198, 3) := by decide +kernel
set_option maxRecDepth 20000 in
theorem dX5_count_183 : decode cX5_count 183 = .ok (.ireturn, 1) := by decide +kernel
set_option maxRecDepth 20000 in
theorem dX5_count_184 : decode cX5_count 184 = .ok (.aload_n 0, 1) := by decide +kernel
set_option maxRecDepth 20000 in
theorem dX5_count_185 : decode cX5_count 185 = .ok (.getfield 10, 3) := by decide +kernel
set_option maxRecDepth 20000 in
theorem dX5_count_188 : decode cX5_count 188 = .ok (.iconst 0, 1) := by decide +kernel
set_option maxRecDepth 20000 in
theorem dX5_count_189 : decode cX5_count 189 = .ok (.invokevirtual 119, 3) := by decide +kernel
set_option maxRecDepth 20000 in
theorem dX5_count_192 : decode cX5_count 192 = .ok (.ireturn, 1) := by decide +kernel
set_option maxRecDepth 20000 in
theorem dX5_count_193 : decode cX5_count 193 = .ok (.aload_n 0, 1) := by decide +kernel
set_option maxRecDepth 20000 in
theorem dX5_count_194 : decode cX5_count 194 = .ok (.getfield 10, 3) := by decide +kernel
set_option maxRecDepth 20000 in
theorem dX5_count_197 : decode cX5_count 197 = .ok (.iconst 1, 1) := by decide +kernel
set_option maxRecDepth 20000 in
theorem dX5_count_198 : decode cX5_count 198 = .ok (.invokevirtual 119, 3) := by decide +kernel
set_option maxRecDepth 20000 in
theorem dX5_count_201 : decode cX5_count 201 = .ok (.ireturn, 1) := by decide +kernel
set_option maxRecDepth 20000 in
theorem dX5_count_202 : decode cX5_count 202 = .ok (.aload_n 0, 1) := by decide +kernel
set_option maxRecDepth 20000 in
theorem dX5_count_203 : decode cX5_count 203 = .ok (.getfield 10, 3) := by decide +kernel
set_option maxRecDepth 20000 in
theorem dX5_count_206 : decode cX5_count 206 = .ok (.iconst 2, 1) := by decide +kernel
set_option maxRecDepth 20000 in
theorem dX5_count_207 : decode cX5_count 207 = .ok (.invokevirtual 119, 3) := by decide +kernel
set_option maxRecDepth 20000 in
theorem dX5_count_210 : decode cX5_count 210 = .ok (.ireturn, 1) := by decide +kernel
set_option maxRecDepth 20000 in
theorem dX5_count_211 : decode cX5_count 211 = .ok (.aload_n 0, 1) := by decide +kernel
set_option maxRecDepth 20000 in
theorem dX5_count_212 : decode cX5_count 212 = .ok (.getfield 10, 3) := by decide +kernel
set_option maxRecDepth 20000 in
theorem dX5_count_215 : decode cX5_count 215 = .ok (.iconst 3, 1) := by decide +kernel
set_option maxRecDepth 20000 in
theorem dX5_count_216 : decode cX5_count 216 = .ok (.invokevirtual 119, 3) := by decide +kernel
set_option maxRecDepth 20000 in
theorem dX5_count_219 : decode cX5_count 219 = .ok (.ireturn, 1) := by decide +kernel
set_option maxRecDepth 20000 in
theorem dX5_count_220 : decode cX5_count 220 = .ok (.aload_n 0, 1) := by decide +kernel
set_option maxRecDepth 20000 in
theorem dX5_count_221 : decode cX5_count 221 = .ok (.getfield 10, 3) := by decide +kernel
set_option maxRecDepth 20000 in
theorem dX5_count_224 : decode cX5_count 224 = .ok (.getfield 201, 3) := by decide +kernel
set_option maxRecDepth 20000 in
theorem dX5_count_227 : decode cX5_count 227 = .ok (.ireturn, 1) := by decide +kernel
set_option maxRecDepth 20000 in
theorem dX5_count_228 : decode cX5_count 228 = .ok (.aload_n 0, 1) := by decide +kernel
set_option maxRecDepth 20000 in
theorem dX5_count_229 : decode cX5_count 229 = .ok (.getfield 26, 3) := by decide +kernel
set_option maxRecDepth 20000 in
theorem dX5_count_232 : decode cX5_count 232 = .ok (.getfield 145, 3) := by decide +kernel
set_option maxRecDepth 20000 in
theorem dX5_count_235 : decode cX5_count 235 = .ok (.ireturn, 1) := by decide +kernel
set_option maxRecDepth 20000 in
theorem dX5_count_236 : decode cX5_count 236 = .ok (.aload_n 0, 1) := by decide +kernel
set_option maxRecDepth 20000 in
theorem dX5_count_237 : decode cX5_count 237 = .ok (.getfield 19, 3) := by decide +kernel
set_option maxRecDepth 20000 in
theorem dX5_count_240 : decode cX5_count 240 = .ok (.getfield 138, 3) := by decide +kernel
set_option maxRecDepth 20000 in
theorem dX5_count_243 : decode cX5_count 243 = .ok (.ireturn, 1) := by decide +kernel
set_option maxRecDepth 20000 in
theorem dX5_count_244 : decode cX5_count 244 = .ok (.bipush (-2), 2) := by decide +kernel
set_option maxRecDepth 20000 in
theorem dX5_count_246 : decode cX5_count 246 = .ok (.ireturn, 1) := by decide +kernel
set_option maxRecDepth 20000 in
theorem dX5_isLine_0 : decode cX5_isLine 0 = .ok (.iload_n 0, 1) := by decide +kernel
set_option maxRecDepth 20000 in
theorem dX5_isLine_1 : decode cX5_isLine 1 = .ok (.ifCond .lt 12, 3) := by decide +kernel
set_option maxRecDepth 20000 in
theorem dX5_isLine_4 : decode cX5_isLine 4 = .ok (.iload_n 0, 1) := by decide +kernel
set_option maxRecDepth 20000 in
theorem dX5_isLine_5 : decode cX5_isLine 5 = .ok (.iconst 2, 1) := by decide +kernel
set_option maxRecDepth 20000 in
theorem dX5_isLine_6 : decode cX5_isLine 6 = .ok (.if_icmp .ge 7, 3) := by decide +kernel
set_option maxRecDepth 20000 in
theorem dX5_isLine_9 : decode cX5_isLine 9 = .ok (.iconst 1, 1) := by decide +kernel
set_option maxRecDepth 20000 in
theorem dX5_isLine_10 : decode cX5_isLine 10 = .ok (.goto 4, 3) := by decide +kernel
set_option maxRecDepth 20000 in
theorem dX5_isLine_13 : decode cX5_isLine 13 = .ok (.iconst 0, 1) := by decide +kernel
set_option maxRecDepth 20000 in
theorem dX5_isLine_14 : decode cX5_isLine 14 = .ok (.ireturn, 1) := by decide +kernel
set_option maxRecDepth 20000 in
theorem dX5_isStop_0 : decode cX5_isStop 0 = .ok (.iload_n 0, 1) := by decide +kernel
set_option maxRecDepth 20000 in
theorem dX5_isStop_1 : decode cX5_isStop 1 = .ok (.iconst 1, 1) := by decide +kernel
set_option maxRecDepth 20000 in
theorem dX5_isStop_2 : decode cX5_isStop 2 = .ok (.if_icmp .lt 13, 3) := by decide +kernel
set_option maxRecDepth 20000 in
theorem dX5_isStop_5 : decode cX5_isStop 5 = .ok (.iload_n 0, 1) := by decide +kernel
set_option maxRecDepth 20000 in
theorem dX5_isStop_6 : decode cX5_isStop 6 = .ok (.bipush 9, 2) := by decide +kernel
set_option maxRecDepth 20000 in
theorem dX5_isStop_8 : decode cX5_isStop 8 = .ok (.if_icmp .gt 7, 3) := by decide +kernel
set_option maxRecDepth 20000 in
theorem dX5_isStop_11 : decode cX5_isStop 11 = .ok (.iconst 1, 1) := by decide +kernel
set_option maxRecDepth 20000 in
theorem dX5_isStop_12 : decode cX5_isStop 12 = .ok (.goto 4, 3) := by decide +kernel
set_option maxRecDepth 20000 in
theorem dX5_isStop_15 : decode cX5_isStop 15 = .ok (.iconst 0, 1) := by decide +kernel
set_option maxRecDepth 20000 in
theorem dX5_isStop_16 : decode cX5_isStop 16 = .ok (.ireturn, 1) := by decide +kernel
set_option maxRecDepth 20000 in
theorem dX5_isSettingValue_0 : decode cX5_isSettingValue 0 = .ok (.iload_n 0, 1) := by decide +kernel
set_option maxRecDepth 20000 in
theorem dX5_isSettingValue_1 : decode cX5_isSettingValue 1 = .ok (.ifCond .lt 19, 3) := by decide +kernel
set_option maxRecDepth 20000 in
theorem dX5_isSettingValue_4 : decode cX5_isSettingValue 4 = .ok (.iload_n 0, 1) := by decide +kernel
set_option maxRecDepth 20000 in
theorem dX5_isSettingValue_5 : decode cX5_isSettingValue 5 = .ok (.getstatic 204, 3) := by decide +kernel
set_option maxRecDepth 20000 in
theorem dX5_isSettingValue_8 : decode cX5_isSettingValue 8 = .ok (.arraylength, 1) := by decide +kernel
set_option maxRecDepth 20000 in
theorem dX5_isSettingValue_9 : decode cX5_isSettingValue 9 = .ok (.if_icmp .ge 11, 3) := by decide +kernel
set_option maxRecDepth 20000 in
theorem dX5_isSettingValue_12 : decode cX5_isSettingValue 12 = .ok (.iload_n 0, 1) := by decide +kernel
set_option maxRecDepth 20000 in
theorem dX5_isSettingValue_13 : decode cX5_isSettingValue 13 = .ok (.getstatic 208, 3) := by decide +kernel
set_option maxRecDepth 20000 in
theorem dX5_isSettingValue_16 : decode cX5_isSettingValue 16 = .ok (.arraylength, 1) := by decide +kernel
set_option maxRecDepth 20000 in
theorem dX5_isSettingValue_17 : decode cX5_isSettingValue 17 = .ok (.if_icmp .lt 5, 3) := by decide +kernel
set_option maxRecDepth 20000 in
theorem dX5_isSettingValue_20 : decode cX5_isSettingValue 20 = .ok (.iconst 0, 1) := by decide +kernel
set_option maxRecDepth 20000 in
theorem dX5_isSettingValue_21 : decode cX5_isSettingValue 21 = .ok (.ireturn, 1) := by decide +kernel
set_option maxRecDepth 20000 in
theorem dX5_isSettingValue_22 : decode cX5_isSettingValue 22 = .ok (.iload_n 1, 1) := by decide +kernel
set_option maxRecDepth 20000 in
theorem dX5_isSettingValue_23 : decode cX5_isSettingValue 23 = .ok (.getstatic 204, 3) := by decide +kernel
set_option maxRecDepth 20000 in
theorem dX5_isSettingValue_26 : decode cX5_isSettingValue 26 = .ok (.iload_n 0, 1) := by decide +kernel
set_option maxRecDepth 20000 in
theorem dX5_isSettingValue_27 : decode cX5_isSettingValue 27 = .ok (.iaload, 1) := by decide +kernel
set_option maxRecDepth 20000 in
theorem dX5_isSettingValue_28 : decode cX5_isSettingValue 28 = .ok (.if_icmp .lt 16, 3) := by decide +kernel
set_option maxRecDepth 20000 in
theorem dX5_isSettingValue_31 : decode cX5_isSettingValue 31 = .ok (.iload_n 1, 1) := by decide +kernel
set_option maxRecDepth 20000 in
theorem dX5_isSettingValue_32 : decode cX5_isSettingValue 32 = .ok (.getstatic 208, 3) := by decide +kernel
set_option maxRecDepth 20000 in
theorem dX5_isSettingValue_35 : decode cX5_isSettingValue 35 = .ok (.iload_n 0, 1) := by decide +kernel
set_option maxRecDepth 20000 in
theorem dX5_isSettingValue_36 : decode cX5_isSettingValue 36 = .ok (.iaload, 1) := by decide +kernel
set_option maxRecDepth 20000 in
theorem dX5_isSettingValue_37 : decode cX5_isSettingValue 37 = .ok (.if_icmp .gt 7, 3) := by decide +kernel
set_option maxRecDepth 20000 in
theorem dX5_isSettingValue_40 : decode cX5_isSettingValue 40 = .ok (.iconst 1, 1) := by decide +kernel
set_option maxRecDepth 20000 in
theorem dX5_isSettingValue_41 : decode cX5_isSettingValue 41 = .ok (.goto 4, 3) := by decide +kernel
set_option maxRecDepth 20000 in
theorem dX5_isSettingValue_44 : decode cX5_isSettingValue 44 = .ok (.iconst 0, 1) := by decide +kernel
set_option maxRecDepth 20000 in
theorem dX5_isSettingValue_45 : decode cX5_isSettingValue 45 = .ok (.ireturn, 1) := by decide +kernel
set_option maxRecDepth 20000 in
theorem dX5_mergingError_0 : decode cX5_mergingError 0 = .ok (.iload_n 1, 1) := by decide +kernel
set_option maxRecDepth 20000 in
theorem dX5_mergingError_1 : decode cX5_mergingError 1 = .ok (.invokestatic 53, 3) := by decide +kernel
set_option maxRecDepth 20000 in
theorem dX5_mergingError_4 : decode cX5_mergingError 4 = .ok (.ifCond .eq 25, 3) := by decide +kernel
set_option maxRecDepth 20000 in
theorem dX5_mergingError_7 : decode cX5_mergingError 7 = .ok (.aload_n 0, 1) := by decide +kernel
set_option maxRecDepth 20000 in
theorem dX5_mergingError_8 : decode cX5_mergingError 8 = .ok (.getfield 10, 3) := by decide +kernel
set_option maxRecDepth 20000 in
theorem dX5_mergingError_11 : decode cX5_mergingError 11 = .ok (.iload_n 2, 1) := by decide +kernel
set_option maxRecDepth 20000 in
theorem dX5_mergingError_12 : decode cX5_mergingError 12 = .ok (.invokevirtual 49, 3) := by decide +kernel
set_option maxRecDepth 20000 in
theorem dX5_mergingError_15 : decode cX5_mergingError 15 = .ok (.ifCond .eq 14, 3) := by decide +kernel
set_option maxRecDepth 20000 in
theorem dX5_mergingError_18 : decode cX5_mergingError 18 = .ok (.aload_n 0, 1) := by decide +kernel
set_option maxRecDepth 20000 in
theorem dX5_mergingError_19 : decode cX5_mergingError 19 = .ok (.getfield 10, 3) := by decide +kernel
set_option maxRecDepth 20000 in
theorem dX5_mergingError_22 : decode cX5_mergingError 22 = .ok (.iload_n 3, 1) := by decide +kernel
set_option maxRecDepth 20000 in
theorem dX5_mergingError_23 : decode cX5_mergingError 23 = .ok (.invokevirtual 49, 3) := by decide +kernel
set_option maxRecDepth 20000 in
theorem dX5_mergingError_26 : decode cX5_mergingError 26 = .ok (.ifCond .ne 5, 3) := by decide +kernel
set_option maxRecDepth 20000 in
theorem dX5_mergingError_29 : decode cX5_mergingError 29 = .ok (.iconst (-1), 1) := by decide +kernel
set_option maxRecDepth 20000 in
theorem dX5_mergingError_30 : decode cX5_mergingError 30 = .ok (.ireturn, 1) := by decide +kernel
set_option maxRecDepth 20000 in
theorem dX5_mergingError_31 : decode cX5_mergingError 31 = .ok (.iload_n 2, 1) := by decide +kernel
set_option maxRecDepth 20000 in
theorem dX5_mergingError_32 : decode cX5_mergingError 32 = .ok (.iload_n 3, 1) := by decide +kernel
set_option maxRecDepth 20000 in
theorem dX5_mergingError_33 : decode cX5_mergingError 33 = .ok (.if_icmp .ne 6, 3) := by decide +kernel
set_option maxRecDepth 20000 in
theorem dX5_mergingError_36 : decode cX5_mergingError 36 = .ok (.bipush (-2), 2) := by decide +kernel
set_option maxRecDepth 20000 in
theorem dX5_mergingError_38 : decode cX5_mergingError 38 = .ok (.ireturn, 1) := by decide +kernel
set_option maxRecDepth 20000 in
theorem dX5_mergingError_39 : decode cX5_mergingError 39 = .ok (.aload_n 0, 1) := by decide +kernel
set_option maxRecDepth 20000 in
theorem dX5_mergingError_40 : decode cX5_mergingError 40 = .ok (.getfield 10, 3) := by decide +kernel
set_option maxRecDepth 20000 in
theorem dX5_mergingError_43 : decode cX5_mergingError 43 = .ok (.iload_n 1, 1) := by decide +kernel
set_option maxRecDepth 20000 in
theorem dX5_mergingError_44 : decode cX5_mergingError 44 = .ok (.iload_n 2, 1) := by decide +kernel
set_option maxRecDepth 20000 in
theorem dX5_mergingError_45 : decode cX5_mergingError 45 = .ok (.iload_n 3, 1) := by decide +kernel
set_option maxRecDepth 20000 in
theorem dX5_mergingError_46 : decode cX5_mergingError 46 = .ok (.invokevirtual 211, 3) := by decide +kernel
set_option maxRecDepth 20000 in
theorem dX5_mergingError_49 : decode cX5_mergingError 49 = .ok (.ifCond .eq 7, 3) := by decide +kernel
set_option maxRecDepth 20000 in
theorem dX5_mergingError_52 : decode cX5_mergingError 52 = .ok (.iconst 0, 1) := by decide +kernel
set_option maxRecDepth 20000 in
theorem dX5_mergingError_53 : decode cX5_mergingError 53 = .ok (.goto 5, 3) := by decide +kernel
set_option maxRecDepth 20000 in
theorem dX5_mergingError_56 : decode cX5_mergingError 56 = .ok (.bipush (-4), 2) := by decide +kernel
set_option maxRecDepth 20000 in
theorem dX5_mergingError_58 : decode cX5_mergingError 58 = .ok (.ireturn, 1) := by decide +kernel
set_option maxRecDepth 20000 in
theorem dX5_hasAllEnds_0 : decode cX5_hasAllEnds 0 = .ok (.iconst 0, 1) := by decide +kernel
set_option maxRecDepth 20000 in
theorem dX5_hasAllEnds_1 : decode cX5_hasAllEnds 1 = .ok (.istore_n 1, 1) := by decide +kernel
set_option maxRecDepth 20000 in
theorem dX5_hasAllEnds_2 : decode cX5_hasAllEnds 2 = .ok (.iload_n 1, 1) := by decide +kernel
set_option maxRecDepth 20000 in
theorem dX5_hasAllEnds_3 : decode cX5_hasAllEnds 3 = .ok (.aload_n 0, 1) := by decide +kernel
set_option maxRecDepth 20000 in
theorem dX5_hasAllEnds_4 : decode cX5_hasAllEnds 4 = .ok (.getfield 19, 3) := by decide +kernel
set_option maxRecDepth 20000 in
theorem dX5_hasAllEnds_7 : decode cX5_hasAllEnds 7 = .ok (.getfield 74, 3) := by decide +kernel
set_option maxRecDepth 20000 in
theorem dX5_hasAllEnds_10 : decode cX5_hasAllEnds 10 = .ok (.if_icmp .ge 45, 3) := by decide +kernel
set_option maxRecDepth 20000 in
theorem dX5_hasAllEnds_13 : decode cX5_hasAllEnds 13 = .ok (.iload_n 1, 1) := by decide +kernel
set_option maxRecDepth 20000 in
theorem dX5_hasAllEnds_14 : decode cX5_hasAllEnds 14 = .ok (.aload_n 0, 1) := by decide +kernel
set_option maxRecDepth 20000 in
theorem dX5_hasAllEnds_15 : decode cX5_hasAllEnds 15 = .ok (.getfield 19, 3) := by decide +kernel
set_option maxRecDepth 20000 in
theorem dX5_hasAllEnds_18 : decode cX5_hasAllEnds 18 = .ok (.getfield 215, 3) := by decide +kernel
set_option maxRecDepth 20000 in
theorem dX5_hasAllEnds_21 : decode cX5_hasAllEnds 21 = .ok (.arraylength, 1) := by decide +kernel
set_option maxRecDepth 20000 in
theorem dX5_hasAllEnds_22 : decode cX5_hasAllEnds 22 = .ok (.if_icmp .ge 33, 3) := by decide +kernel
set_option maxRecDepth 20000 in
theorem dX5_hasAllEnds_25 : decode cX5_hasAllEnds 25 = .ok (.aload_n 0, 1) := by decide +kernel
set_option maxRecDepth 20000 in
theorem dX5_hasAllEnds_26 : decode cX5_hasAllEnds 26 = .ok (.getfield 10, 3) := by decide +kernel
set_option maxRecDepth 20000 in
theorem dX5_hasAllEnds_29 : decode cX5_hasAllEnds 29 = .ok (.aload_n 0, 1) := by decide +kernel
set_option maxRecDepth 20000 in
theorem dX5_hasAllEnds_30 : decode cX5_hasAllEnds 30 = .ok (.getfield 19, 3) := by decide +kernel
set_option maxRecDepth 20000 in
theorem dX5_hasAllEnds_33 : decode cX5_hasAllEnds 33 = .ok (.getfield 215, 3) := by decide +kernel
set_option maxRecDepth 20000 in
theorem dX5_hasAllEnds_36 : decode cX5_hasAllEnds 36 = .ok (.iload_n 1, 1) := by decide +kernel
set_option maxRecDepth 20000 in
theorem dX5_hasAllEnds_37 : decode cX5_hasAllEnds 37 = .ok (.aaload, 1) := by decide +kernel
set_option maxRecDepth 20000 in
theorem dX5_hasAllEnds_38 : decode cX5_hasAllEnds 38 = .ok (.getfield 219, 3) := by decide +kernel
set_option maxRecDepth 20000 in
theorem dX5_hasAllEnds_41 : decode cX5_hasAllEnds 41 = .ok (.invokevirtual 49, 3) := by decide +kernel
set_option maxRecDepth 20000 in
theorem dX5_hasAllEnds_44 : decode cX5_hasAllEnds 44 = .ok (.ifCond .ne 5, 3) := by decide +kernel
set_option maxRecDepth 20000 in
theorem dX5_hasAllEnds_47 : decode cX5_hasAllEnds 47 = .ok (.iconst 0, 1) := by decide +kernel
set_option maxRecDepth 20000 in
theorem dX5_hasAllEnds_48 : decode cX5_hasAllEnds 48 = .ok (.ireturn, 1) := by decide +kernel
set_option maxRecDepth 20000 in
theorem dX5_hasAllEnds_49 : decode cX5_hasAllEnds 49 = .ok (.iinc 1 1, 3) := by decide +kernel
set_option maxRecDepth 20000 in
theorem dX5_hasAllEnds_52 : decode cX5_hasAllEnds 52 = .ok (.goto (-50), 3) := by decide +kernel
set_option maxRecDepth 20000 in
theorem dX5_hasAllEnds_55 : decode cX5_hasAllEnds 55 = .ok (.iconst 1, 1) := by decide +kernel
set_option maxRecDepth 20000 in
theorem dX5_hasAllEnds_56 : decode cX5_hasAllEnds 56 = .ok (.ireturn, 1) := by decide +kernel
set_option maxRecDepth 20000 in
theorem dX5_enterAll_0 : decode cX5_enterAll 0 = .ok (.iconst 0, 1) := by decide +kernel
set_option maxRecDepth 20000 in
theorem dX5_enterAll_1 : decode cX5_enterAll 1 = .ok (.istore_n 1, 1) := by decide +kernel
set_option maxRecDepth 20000 in
theorem dX5_enterAll_2 : decode cX5_enterAll 2 = .ok (.iload_n 1, 1) := by decide +kernel
set_option maxRecDepth 20000 in
theorem dX5_enterAll_3 : decode cX5_enterAll 3 = .ok (.aload_n 0, 1) := by decide +kernel
set_option maxRecDepth 20000 in
theorem dX5_enterAll_4 : decode cX5_enterAll 4 = .ok (.getfield 19, 3) := by decide +kernel
set_option maxRecDepth 20000 in
theorem dX5_enterAll_7 : decode cX5_enterAll 7 = .ok (.getfield 74, 3) := by decide +kernel
set_option maxRecDepth 20000 in
theorem dX5_enterAll_10 : decode cX5_enterAll 10 = .ok (.if_icmp .ge 51, 3) := by decide +kernel
set_option maxRecDepth 20000 in
theorem dX5_enterAll_13 : decode cX5_enterAll 13 = .ok (.iload_n 1, 1) := by decide +kernel
set_option maxRecDepth 20000 in
theorem dX5_enterAll_14 : decode cX5_enterAll 14 = .ok (.aload_n 0, 1) := by decide +kernel
set_option maxRecDepth 20000 in
theorem dX5_enterAll_15 : decode cX5_enterAll 15 = .ok (.getfield 19, 3) := by decide +kernel
set_option maxRecDepth 20000 in
theorem dX5_enterAll_18 : decode cX5_enterAll 18 = .ok (.getfield 215, 3) := by decide +kernel
set_option maxRecDepth 20000 in
theorem dX5_enterAll_21 : decode cX5_enterAll 21 = .ok (.arraylength, 1) := by decide +kernel
set_option maxRecDepth 20000 in
theorem dX5_enterAll_22 : decode cX5_enterAll 22 = .ok (.if_icmp .ge 39, 3) := by decide +kernel
set_option maxRecDepth 20000 in
theorem dX5_enterAll_25 : decode cX5_enterAll 25 = .ok (.aload_n 0, 1) := by decide +kernel
set_option maxRecDepth 20000 in
theorem dX5_enterAll_26 : decode cX5_enterAll 26 = .ok (.getfield 19, 3) := by decide +kernel
set_option maxRecDepth 20000 in
theorem dX5_enterAll_29 : decode cX5_enterAll 29 = .ok (.getfield 215, 3) := by decide +kernel
set_option maxRecDepth 20000 in
theorem dX5_enterAll_32 : decode cX5_enterAll 32 = .ok (.iload_n 1, 1) := by decide +kernel
set_option maxRecDepth 20000 in
theorem dX5_enterAll_33 : decode cX5_enterAll 33 = .ok (.aaload, 1) := by decide +kernel
set_option maxRecDepth 20000 in
theorem dX5_enterAll_34 : decode cX5_enterAll 34 = .ok (.astore_n 2, 1) := by decide +kernel
set_option maxRecDepth 20000 in
theorem dX5_enterAll_35 : decode cX5_enterAll 35 = .ok (.aload_n 0, 1) := by decide +kernel
set_option maxRecDepth 20000 in
theorem dX5_enterAll_36 : decode cX5_enterAll 36 = .ok (.getfield 10, 3) := by decide +kernel
set_option maxRecDepth 20000 in
theorem dX5_enterAll_39 : decode cX5_enterAll 39 = .ok (.aload_n 2, 1) := by decide +kernel
set_option maxRecDepth 20000 in
theorem dX5_enterAll_40 : decode cX5_enterAll 40 = .ok (.getfield 219, 3) := by decide +kernel
set_option maxRecDepth 20000 in
theorem dX5_enterAll_43 : decode cX5_enterAll 43 = .ok (.aload_n 2, 1) := by decide +kernel
set_option maxRecDepth 20000 in
theorem dX5_enterAll_44 : decode cX5_enterAll 44 = .ok (.getfield 222, 3) := by decide +kernel
set_option maxRecDepth 20000 in
theorem dX5_enterAll_47 : decode cX5_enterAll 47 = .ok (.aload_n 2, 1) := by decide +kernel
set_option maxRecDepth 20000 in
theorem dX5_enterAll_48 : decode cX5_enterAll 48 = .ok (.getfield 223, 3) := by decide +kernel
set_option maxRecDepth 20000 in
theorem dX5_enterAll_51 : decode cX5_enterAll 51 = .ok (.invokevirtual 63, 3) := by decide +kernel
set_option maxRecDepth 20000 in
theorem dX5_enterAll_54 : decode cX5_enterAll 54 = .ok (.pop, 1) := by decide +kernel
set_option maxRecDepth 20000 in
theorem dX5_enterAll_55 : decode cX5_enterAll 55 = .ok (.iinc 1 1, 3) := by decide +kernel
set_option maxRecDepth 20000 in
theorem dX5_enterAll_58 : decode cX5_enterAll 58 = .ok (.goto (-56), 3) := by decide +kernel
set_option maxRecDepth 20000 in
theorem dX5_enterAll_61 : decode cX5_enterAll 61 = .ok (.return_, 1) := by decide +kernel
set_option maxRecDepth 20000 in
theorem dX6_init_0 : decode cX6_init 0 = .ok (.aload_n 0, 1) := by decide +kernel
set_option maxRecDepth 20000 in
theorem dX6_init_1 : decode cX6_init 1 = .ok (.invokespecial 1, 3) := by decide +kernel
set_option maxRecDepth 20000 in
theorem dX6_init_4 : decode cX6_init 4 = .ok (.aload_n 0, 1) := by decide +kernel
set_option maxRecDepth 20000 in
theorem dX6_init_5 : decode cX6_init 5 = .ok (.sipush 283, 3) := by decide +kernel
set_option maxRecDepth 20000 in
theorem dX6_init_8 : decode cX6_init 8 = .ok (.newarray .int, 2) := by decide +kernel
set_option maxRecDepth 20000 in
theorem dX6_init_10 : decode cX6_init 10 = .ok (.putfield 7, 3) := by decide +kernel
set_option maxRecDepth 20000 in
theorem dX6_init_13 : decode cX6_init 13 = .ok (.aload_n 0, 1) := by decide +kernel
set_option maxRecDepth 20000 in
theorem dX6_init_14 : decode cX6_init 14 = .ok (.sipush 1132, 3) := by decide +kernel
set_option maxRecDepth 20000 in
theorem dX6_init_17 : decode cX6_init 17 = .ok (.newarray .int, 2) := by decide +kernel
set_option maxRecDepth 20000 in
theorem dX6_init_19 : decode cX6_init 19 = .ok (.putfield 13, 3) := by decide +kernel
set_option maxRecDepth 20000 in
theorem dX6_init_22 : decode cX6_init 22 = .ok (.aload_n 0, 1) := by decide +kernel
set_option maxRecDepth 20000 in
theorem dX6_init_23 : decode cX6_init 23 = .ok (.sipush 283, 3) := by decide +kernel
set_option maxRecDepth 20000 in
theorem dX6_init_26 : decode cX6_init 26 = .ok (.newarray .int, 2) := by decide +kernel
set_option maxRecDepth 20000 in
theorem dX6_init_28 : decode cX6_init 28 = .ok (.putfield 16, 3) := by decide +kernel
set_option maxRecDepth 20000 in
theorem dX6_init_31 : decode cX6_init 31 = .ok (.aload_n 0, 1) := by decide +kernel
set_option maxRecDepth 20000 in
theorem dX6_init_32 : decode cX6_init 32 = .ok (.bipush 60, 2) := by decide +kernel
set_option maxRecDepth 20000 in
theorem dX6_init_34 : decode cX6_init 34 = .ok (.newarray .int, 2) := by decide +kernel
set_option maxRecDepth 20000 in
theorem dX6_init_36 : decode cX6_init 36 = .ok (.putfield 19, 3) := by decide +kernel
set_option maxRecDepth 20000 in
theorem dX6_init_39 : decode cX6_init 39 = .ok (.aload_n 0, 1) := by decide +kernel
set_option maxRecDepth 20000 in
theorem dX6_init_40 : decode cX6_init 40 = .ok (.bipush 10, 2) := by decide +kernel
set_option maxRecDepth 20000 in
theorem dX6_init_42 : decode cX6_init 42 = .ok (.newarray .int, 2) := by decide +kernel
set_option maxRecDepth 20000 in
theorem dX6_init_44 : decode cX6_init 44 = .ok (.putfield 22, 3) := by decide +kernel
set_option maxRecDepth 20000 in
theorem dX6_init_47 : decode cX6_init 47 = .ok (.aload_n 0, 1) := by decide +kernel
set_option maxRecDepth 20000 in
theorem dX6_init_48 : decode cX6_init 48 = .ok (.bipush 30, 2) := by decide +kernel
set_option maxRecDepth 20000 in
theorem dX6_init_50 : decode cX6_init 50 = .ok (.newarray .boolean, 2) := by decide +kernel
set_option maxRecDepth 20000 in
theorem dX6_init_52 : decode cX6_init 52 = .ok (.putfield 25, 3) := by decide +kernel
set_option maxRecDepth 20000 in
theorem dX6_init_55 : decode cX6_init 55 = .ok (.aload_n 0, 1) := by decide +kernel
set_option maxRecDepth 20000 in
theorem dX6_init_56 : decode cX6_init 56 = .ok (.sipush 180, 3) := by decide +kernel
set_option maxRecDepth 20000 in
theorem dX6_init_59 : decode cX6_init 59 = .ok (.newarray .int, 2) := by decide +kernel
set_option maxRecDepth 20000 in
theorem dX6_init_61 : decode cX6_init 61 = .ok (.putfield 29, 3) := by decide +kernel
set_option maxRecDepth 20000 in
theorem dX6_init_64 : decode cX6_init 64 = .ok (.aload_n 0, 1) := by decide +kernel
set_option maxRecDepth 20000 in
theorem dX6_init_65 : decode cX6_init 65 = .ok (.iconst 0, 1) := by decide +kernel
set_option maxRecDepth 20000 in
theorem dX6_init_66 : decode cX6_init 66 = .ok (.putfield 32, 3) := by decide +kernel
set_option maxRecDepth 20000 in
theorem dX6_init_69 : decode cX6_init 69 = .ok (.aload_n 0, 1) := by decide +kernel
set_option maxRecDepth 20000 in
theorem dX6_init_70 : decode cX6_init 70 = .ok (.getfield 7, 3) := by decide +kernel
set_option maxRecDepth 20000 in
theorem dX6_init_73 : decode cX6_init 73 = .ok (.iconst 0, 1) := by decide +kernel
set_option maxRecDepth 20000 in
theorem dX6_init_74 : decode cX6_init 74 = .ok (.iconst 5, 1) := by decide +kernel
set_option maxRecDepth 20000 in
theorem dX6_init_75 : decode cX6_init 75 = .ok (.iastore, 1) := by decide +kernel
set_option maxRecDepth 20000 in
theorem dX6_init_76 : decode cX6_init 76 = .ok (.aload_n 0, 1) := by decide +kernel
set_option maxRecDepth 20000 in
theorem dX6_init_77 : decode cX6_init 77 = .ok (.getfield 7, 3) := by decide +kernel
set_option maxRecDepth 20000 in
theorem dX6_init_80 : decode cX6_init 80 = .ok (.iconst 1, 1) := by decide +kernel
set_option maxRecDepth 20000 in
theorem dX6_init_81 : decode cX6_init 81 = .ok (.bipush 6, 2) := by decide +kernel
set_option maxRecDepth 20000 in
theorem dX6_init_83 : decode cX6_init 83 = .ok (.iastore, 1) := by decide +kernel
set_option maxRecDepth 20000 in
theorem dX6_init_84 : decode cX6_init 84 = .ok (.aload_n 0, 1) := by decide +kernel
set_option maxRecDepth 20000 in
theorem dX6_init_85 : decode cX6_init 85 = .ok (.getfield 7, 3) := by decide +kernel
set_option maxRecDepth 20000 in
theorem dX6_init_88 : decode cX6_init 88 = .ok (.iconst 2, 1) := by decide +kernel
set_option maxRecDepth 20000 in
theorem dX6_init_89 : decode cX6_init 89 = .ok (.bipush 30, 2) := by decide +kernel
set_option maxRecDepth 20000 in
theorem dX6_init_91 : decode cX6_init 91 = .ok (.iastore, 1) := by decide +kernel
set_option maxRecDepth 20000 in
theorem dX6_init_92 : decode cX6_init 92 = .ok (.aload_n 0, 1) := by decide +kernel
set_option maxRecDepth 20000 in
theorem dX6_init_93 : decode cX6_init 93 = .ok (.getfield 7, 3) := by decide +kernel
set_option maxRecDepth 20000 in
theorem dX6_init_96 : decode cX6_init 96 = .ok (.iconst 3, 1) := by decide +kernel
set_option maxRecDepth 20000 in
theorem dX6_init_97 : decode cX6_init 97 = .ok (.bipush 90, 2) := by decide +kernel
set_option maxRecDepth 20000 in
theorem dX6_init_99 : decode cX6_init 99 = .ok (.iastore, 1) := by decide +kernel
set_option maxRecDepth 20000 in
theorem dX6_init_100 : decode cX6_init 100 = .ok (.return_, 1) := by decide +kernel
set_option maxRecDepth 20000 in
theorem dX6_in_0 : decode cX6_in 0 = .ok (.iload_n 0, 1) := by decide +kernel
set_option maxRecDepth 20000 in
theorem dX6_in_1 : decode cX6_in 1 = .ok (.iload_n 1, 1) := by decide +kernel
set_option maxRecDepth 20000 in
theorem dX6_in_2 : decode cX6_in 2 = .ok (.if_icmp .lt 12, 3) := by decide +kernel
set_option maxRecDepth 20000 in
theorem dX6_in_5 : decode cX6_in 5 = .ok (.iload_n 0, 1) := by decide +kernel
set_option maxRecDepth 20000 in
theorem dX6_in_6 : decode cX6_in 6 = .ok (.iload_n 2, 1) := by decide +kernel
set_option maxRecDepth 20000 in
theorem dX6_in_7 : decode cX6_in 7 = .ok (.if_icmp .gt 7, 3) := by decide +kernel
set_option maxRecDepth 20000 in
theorem dX6_in_10 : decode cX6_in 10 = .ok (.iconst 1, 1) := by decide +kernel
set_option maxRecDepth 20000 in
theorem dX6_in_11 : decode cX6_in 11 = .ok (.goto 4, 3) := by decide +kernel
set_option maxRecDepth 20000 in
theorem dX6_in_14 : decode cX6_in 14 = .ok (.iconst 0, 1) := by decide +kernel
set_option maxRecDepth 20000 in
theorem dX6_in_15 : decode cX6_in 15 = .ok (.ireturn, 1) := by decide +kernel
set_option maxRecDepth 20000 in
theorem dX6_of_0 : decode cX6_of 0 = .ok (.aload_n 0, 1) := by decide +kernel
set_option maxRecDepth 20000 in
theorem dX6_of_1 : decode cX6_of 1 = .ok (.getfield 7, 3) := by decide +kernel
set_option maxRecDepth 20000 in
theorem dX6_of_4 : decode cX6_of 4 = .ok (.bipush 43, 2) := by decide +kernel
set_option maxRecDepth 20000 in
theorem dX6_of_6 : decode cX6_of 6 = .ok (.bipush 8, 2) := by decide +kernel
set_option maxRecDepth 20000 in
theorem dX6_of_8 : decode cX6_of 8 = .ok (.iload_n 1, 1) := by decide +kernel
set_option maxRecDepth 20000 in
theorem dX6_of_9 : decode cX6_of 9 = .ok (.imul, 1) := by decide +kernel
set_option maxRecDepth 20000 in
theorem dX6_of_10 : decode cX6_of 10 = .ok (.iadd, 1) := by decide +kernel
set_option maxRecDepth 20000 in
theorem dX6_of_11 : decode cX6_of 11 = .ok (.iload_n 2, 1) := by decide +kernel
set_option maxRecDepth 20000 in
theorem dX6_of_12 : decode cX6_of 12 = .ok (.iadd, 1) := by decide +kernel
set_option maxRecDepth 20000 in
theorem dX6_of_13 : decode cX6_of 13 = .ok (.iaload, 1) := by decide +kernel
set_option maxRecDepth 20000 in
theorem dX6_of_14 : decode cX6_of 14 = .ok (.ireturn, 1) := by decide +kernel
set_option maxRecDepth 20000 in
theorem dX6_lay_0 : decode cX6_lay 0 = .ok (.aload_n 0, 1) := by decide +kernel
set_option maxRecDepth 20000 in
theorem dX6_lay_1 : decode cX6_lay 1 = .ok (.getfield 7, 3) := by decide +kernel
set_option maxRecDepth 20000 in
theorem dX6_lay_4 : decode cX6_lay 4 = .ok (.bipush 43, 2) := by decide +kernel
set_option maxRecDepth 20000 in
theorem dX6_lay_6 : decode cX6_lay 6 = .ok (.bipush 8, 2) := by decide +kernel
set_option maxRecDepth 20000 in
theorem dX6_lay_8 : decode cX6_lay 8 = .ok (.iload_n 1, 1) := by decide +kernel
set_option maxRecDepth 20000 in
theorem dX6_lay_9 : decode cX6_lay 9 = .ok (.imul, 1) := by decide +kernel
set_option maxRecDepth 20000 in
theorem dX6_lay_10 : decode cX6_lay 10 = .ok (.iadd, 1) := by decide +kernel
set_option maxRecDepth 20000 in
theorem dX6_lay_11 : decode cX6_lay 11 = .ok (.iload_n 2, 1) := by decide +kernel
set_option maxRecDepth 20000 in
theorem dX6_lay_12 : decode cX6_lay 12 = .ok (.iadd, 1) := by decide +kernel
set_option maxRecDepth 20000 in
theorem dX6_lay_13 : decode cX6_lay 13 = .ok (.iload_n 3, 1) := by decide +kernel
set_option maxRecDepth 20000 in
theorem dX6_lay_14 : decode cX6_lay 14 = .ok (.iastore, 1) := by decide +kernel
set_option maxRecDepth 20000 in
theorem dX6_lay_15 : decode cX6_lay 15 = .ok (.return_, 1) := by decide +kernel
set_option maxRecDepth 20000 in
theorem dX6_isEnd_0 : decode cX6_isEnd 0 = .ok (.iload_n 1, 1) := by decide +kernel
set_option maxRecDepth 20000 in
theorem dX6_isEnd_1 : decode cX6_isEnd 1 = .ok (.iconst 0, 1) := by decide +kernel
set_option maxRecDepth 20000 in
theorem dX6_isEnd_2 : decode cX6_isEnd 2 = .ok (.aload_n 0, 1) := by decide +kernel
set_option maxRecDepth 20000 in
theorem dX6_isEnd_3 : decode cX6_isEnd 3 = .ok (.getfield 7, 3) := by decide +kernel
set_option maxRecDepth 20000 in
theorem dX6_isEnd_6 : decode cX6_isEnd 6 = .ok (.iconst 4, 1) := by decide +kernel
set_option maxRecDepth 20000 in
theorem dX6_isEnd_7 : decode cX6_isEnd 7 = .ok (.iaload, 1) := by decide +kernel
set_option maxRecDepth 20000 in
theorem dX6_isEnd_8 : decode cX6_isEnd 8 = .ok (.iconst 1, 1) := by decide +kernel
set_option maxRecDepth 20000 in
theorem dX6_isEnd_9 : decode cX6_isEnd 9 = .ok (.isub, 1) := by decide +kernel
set_option maxRecDepth 20000 in
theorem dX6_isEnd_10 : decode cX6_isEnd 10 = .ok (.invokestatic 36, 3) := by decide +kernel
set_option maxRecDepth 20000 in
theorem dX6_isEnd_13 : decode cX6_isEnd 13 = .ok (.ireturn, 1) := by decide +kernel
set_option maxRecDepth 20000 in
theorem dX6_isLine_0 : decode cX6_isLine 0 = .ok (.iload_n 0, 1) := by decide +kernel
set_option maxRecDepth 20000 in
theorem dX6_isLine_1 : decode cX6_isLine 1 = .ok (.iconst 0, 1) := by decide +kernel
set_option maxRecDepth 20000 in
theorem dX6_isLine_2 : decode cX6_isLine 2 = .ok (.iconst 1, 1) := by decide +kernel
set_option maxRecDepth 20000 in
theorem dX6_isLine_3 : decode cX6_isLine 3 = .ok (.invokestatic 36, 3) := by decide +kernel
set_option maxRecDepth 20000 in
theorem dX6_isLine_6 : decode cX6_isLine 6 = .ok (.ireturn, 1) := by decide +kernel
set_option maxRecDepth 20000 in
theorem dX6_isStop_0 : decode cX6_isStop 0 = .ok (.iload_n 0, 1) := by decide +kernel
set_option maxRecDepth 20000 in
theorem dX6_isStop_1 : decode cX6_isStop 1 = .ok (.iconst 1, 1) := by decide +kernel
set_option maxRecDepth 20000 in
theorem dX6_isStop_2 : decode cX6_isStop 2 = .ok (.bipush 9, 2) := by decide +kernel
set_option maxRecDepth 20000 in
theorem dX6_isStop_4 : decode cX6_isStop 4 = .ok (.invokestatic 36, 3) := by decide +kernel
set_option maxRecDepth 20000 in
theorem dX6_isStop_7 : decode cX6_isStop 7 = .ok (.ireturn, 1) := by decide +kernel
set_option maxRecDepth 20000 in
theorem dX6_minute_0 : decode cX6_minute 0 = .ok (.aload_n 0, 1) := by decide +kernel
set_option maxRecDepth 20000 in
theorem dX6_minute_1 : decode cX6_minute 1 = .ok (.getfield 7, 3) := by decide +kernel
set_option maxRecDepth 20000 in
theorem dX6_minute_4 : decode cX6_minute 4 = .ok (.bipush 13, 2) := by decide +kernel
set_option maxRecDepth 20000 in
theorem dX6_minute_6 : decode cX6_minute 6 = .ok (.iload_n 1, 1) := by decide +kernel
set_option maxRecDepth 20000 in
theorem dX6_minute_7 : decode cX6_minute 7 = .ok (.iadd, 1) := by decide +kernel
set_option maxRecDepth 20000 in
theorem dX6_minute_8 : decode cX6_minute 8 = .ok (.iaload, 1) := by decide +kernel
set_option maxRecDepth 20000 in
theorem dX6_minute_9 : decode cX6_minute 9 = .ok (.ireturn, 1) := by decide +kernel
set_option maxRecDepth 20000 in
theorem dX6_partner_0 : decode cX6_partner 0 = .ok (.aload_n 0, 1) := by decide +kernel
set_option maxRecDepth 20000 in
theorem dX6_partner_1 : decode cX6_partner 1 = .ok (.getfield 7, 3) := by decide +kernel
set_option maxRecDepth 20000 in
theorem dX6_partner_4 : decode cX6_partner 4 = .ok (.bipush 23, 2) := by decide +kernel
set_option maxRecDepth 20000 in
theorem dX6_partner_6 : decode cX6_partner 6 = .ok (.bipush 10, 2) := by decide +kernel
set_option maxRecDepth 20000 in
theorem dX6_partner_8 : decode cX6_partner 8 = .ok (.iload_n 1, 1) := by decide +kernel
set_option maxRecDepth 20000 in
theorem dX6_partner_9 : decode cX6_partner 9 = .ok (.imul, 1) := by decide +kernel
set_option maxRecDepth 20000 in
theorem dX6_partner_10 : decode cX6_partner 10 = .ok (.iadd, 1) := by decide +kernel
set_option maxRecDepth 20000 in
theorem dX6_partner_11 : decode cX6_partner 11 = .ok (.iload_n 2, 1) := by decide +kernel
set_option maxRecDepth 20000 in
theorem dX6_partner_12 : decode cX6_partner 12 = .ok (.iadd, 1) := by decide +kernel
set_option maxRecDepth 20000 in
theorem dX6_partner_13 : decode cX6_partner 13 = .ok (.iaload, 1) := by decide +kernel
set_option maxRecDepth 20000 in
theorem dX6_partner_14 : decode cX6_partner 14 = .ok (.istore_n 3, 1) := by decide +kernel
set_option maxRecDepth 20000 in
theorem dX6_partner_15 : decode cX6_partner 15 = .ok (.iload_n 3, 1) := by decide +kernel
set_option maxRecDepth 20000 in
theorem dX6_partner_16 : decode cX6_partner 16 = .ok (.ifCond .ne 8, 3) := by decide +kernel
set_option maxRecDepth 20000 in
theorem dX6_partner_19 : decode cX6_partner 19 = .ok (.bipush (-5), 2) := by decide +kernel
set_option maxRecDepth 20000 in
theorem dX6_partner_21 : decode cX6_partner 21 = .ok (.goto 6, 3) := by decide +kernel
set_option maxRecDepth 20000 in
theorem dX6_partner_24 : decode cX6_partner 24 = .ok (.iload_n 3, 1) := by decide +kernel
set_option maxRecDepth 20000 in
theorem dX6_partner_25 : decode cX6_partner 25 = .ok (.iconst 1, 1) := by decide +kernel
set_option maxRecDepth 20000 in
theorem dX6_partner_26 : decode cX6_partner 26 = .ok (.isub, 1) := by decide +kernel
set_option maxRecDepth 20000 in
theorem dX6_partner_27 : decode cX6_partner 27 = .ok (.ireturn, 1) := by decide +kernel
set_option maxRecDepth 20000 in
theorem dX6_placeOf_0 : decode cX6_placeOf 0 = .ok (.iconst 0, 1) := by decide +kernel
set_option maxRecDepth 20000 in
theorem dX6_placeOf_1 : decode cX6_placeOf 1 = .ok (.istore_n 2, 1) := by decide +kernel
set_option maxRecDepth 20000 in
theorem dX6_placeOf_2 : decode cX6_placeOf 2 = .ok (.iload_n 2, 1) := by decide +kernel
set_option maxRecDepth 20000 in
theorem dX6_placeOf_3 : decode cX6_placeOf 3 = .ok (.aload_n 0, 1) := by decide +kernel
set_option maxRecDepth 20000 in
theorem dX6_placeOf_4 : decode cX6_placeOf 4 = .ok (.getfield 7, 3) := by decide +kernel
set_option maxRecDepth 20000 in
theorem dX6_placeOf_7 : decode cX6_placeOf 7 = .ok (.bipush 6, 2) := by decide +kernel
set_option maxRecDepth 20000 in
theorem dX6_placeOf_9 : decode cX6_placeOf 9 = .ok (.iaload, 1) := by decide +kernel
set_option maxRecDepth 20000 in
theorem dX6_placeOf_10 : decode cX6_placeOf 10 = .ok (.if_icmp .ge 21, 3) := by decide +kernel
set_option maxRecDepth 20000 in
theorem dX6_placeOf_13 : decode cX6_placeOf 13 = .ok (.aload_n 0, 1) := by decide +kernel
set_option maxRecDepth 20000 in
theorem dX6_placeOf_14 : decode cX6_placeOf 14 = .ok (.iload_n 2, 1) := by decide +kernel
set_option maxRecDepth 20000 in
theorem dX6_placeOf_15 : decode cX6_placeOf 15 = .ok (.iconst 0, 1) := by decide +kernel
set_option maxRecDepth 20000 in
theorem dX6_placeOf_16 : decode cX6_placeOf 16 = .ok (.invokevirtual 40, 3) := by decide +kernel
set_option maxRecDepth 20000 in
theorem dX6_placeOf_19 : decode cX6_placeOf 19 = .ok (.iload_n 1, 1) := by decide +kernel
set_option maxRecDepth 20000 in
theorem dX6_placeOf_20 : decode cX6_placeOf 20 = .ok (.if_icmp .ne 5, 3) := by decide +kernel
set_option maxRecDepth 20000 in
theorem dX6_placeOf_23 : decode cX6_placeOf 23 = .ok (.iload_n 2, 1) := by decide +kernel
set_option maxRecDepth 20000 in
theorem dX6_placeOf_24 : decode cX6_placeOf 24 = .ok (.ireturn, 1) := by decide +kernel
set_option maxRecDepth 20000 in
theorem dX6_placeOf_25 : decode cX6_placeOf 25 = .ok (.iinc 2 1, 3) := by decide +kernel
set_option maxRecDepth 20000 in
theorem dX6_placeOf_28 : decode cX6_placeOf 28 = .ok (.goto (-26), 3) := by decide +kernel
set_option maxRecDepth 20000 in
theorem dX6_placeOf_31 : decode cX6_placeOf 31 = .ok (.bipush (-5), 2) := by decide +kernel
set_option maxRecDepth 20000 in
theorem dX6_placeOf_33 : decode cX6_placeOf 33 = .ok (.ireturn, 1) := by decide +kernel
set_option maxRecDepth 20000 in
theorem dX6_records_0 : decode cX6_records 0 = .ok (.aload_n 0, 1) := by decide +kernel
set_option maxRecDepth 20000 in
theorem dX6_records_1 : decode cX6_records 1 = .ok (.getfield 44, 3) := by decide +kernel
set_option maxRecDepth 20000 in
theorem dX6_records_4 : decode cX6_records 4 = .ok (.iconst 4, 1) := by decide +kernel
set_option maxRecDepth 20000 in
theorem dX6_records_5 : decode cX6_records 5 = .ok (.if_icmp .ne 44, 3) := by decide +kernel
set_option maxRecDepth 20000 in
theorem dX6_records_8 : decode cX6_records 8 = .ok (.iconst 0, 1) := by decide +kernel
set_option maxRecDepth 20000 in
theorem dX6_records_9 : decode cX6_records 9 = .ok (.istore_n 1, 1) := by decide +kernel
set_option maxRecDepth 20000 in
theorem dX6_records_10 : decode cX6_records 10 = .ok (.iload_n 1, 1) := by decide +kernel
set_option maxRecDepth 20000 in
theorem dX6_records_11 : decode cX6_records 11 = .ok (.sipush 849, 3) := by decide +kernel
set_option maxRecDepth 20000 in
theorem dX6_records_14 : decode cX6_records 14 = .ok (.if_icmp .ge 25, 3) := by decide +kernel
set_option maxRecDepth 20000 in
theorem dX6_records_17 : decode cX6_records 17 = .ok (.aload_n 0, 1) := by decide +kernel
set_option maxRecDepth 20000 in
theorem dX6_records_18 : decode cX6_records 18 = .ok (.getfield 13, 3) := by decide +kernel
set_option maxRecDepth 20000 in
theorem dX6_records_21 : decode cX6_records 21 = .ok (.iload_n 1, 1) := by decide +kernel
set_option maxRecDepth 20000 in
theorem dX6_records_22 : decode cX6_records 22 = .ok (.aload_n 0, 1) := by decide +kernel
set_option maxRecDepth 20000 in
theorem dX6_records_23 : decode cX6_records 23 = .ok (.getfield 13, 3) := by decide +kernel
set_option maxRecDepth 20000 in
theorem dX6_records_26 : decode cX6_records 26 = .ok (.iload_n 1, 1) := by decide +kernel
set_option maxRecDepth 20000 in
theorem dX6_records_27 : decode cX6_records 27 = .ok (.sipush 283, 3) := by decide +kernel
set_option maxRecDepth 20000 in
theorem dX6_records_30 : decode cX6_records 30 = .ok (.iadd, 1) := by decide +kernel
set_option maxRecDepth 20000 in
theorem dX6_records_31 : decode cX6_records 31 = .ok (.iaload, 1) := by decide +kernel
set_option maxRecDepth 20000 in
theorem dX6_records_32 : decode cX6_records 32 = .ok (.iastore, 1) := by decide +kernel
set_option maxRecDepth 20000 in
theorem dX6_records_33 : decode cX6_records 33 = .ok (.iinc 1 1, 3) := by decide +kernel
set_option maxRecDepth 20000 in
theorem dX6_records_36 : decode cX6_records 36 = .ok (.goto (-26), 3) := by decide +kernel
set_option maxRecDepth 20000 in
theorem dX6_records_39 : decode cX6_records 39 = .ok (.aload_n 0, 1) := by decide +kernel
set_option maxRecDepth 20000 in
theorem dX6_records_40 : decode cX6_records 40 = .ok (.dup, 1) := by decide +kernel
set_option maxRecDepth 20000 in
theorem dX6_records_41 : decode cX6_records 41 = .ok (.getfield 44, 3) := by decide +kernel
set_option maxRecDepth 20000 in
theorem dX6_records_44 : decode cX6_records 44 = .ok (.iconst 1, 1) := by decide +kernel
set_option maxRecDepth 20000 in
theorem dX6_records_45 : decode cX6_records 45 = .ok (.isub, 1) := by decide +kernel
set_option maxRecDepth 20000 in
theorem dX6_records_46 : decode cX6_records 46 = .ok (.putfield 44, 3) := by decide +kernel
set_option maxRecDepth 20000 in
theorem dX6_records_49 : decode cX6_records 49 = .ok (.iconst 0, 1) := by decide +kernel
set_option maxRecDepth 20000 in
theorem dX6_records_50 : decode cX6_records 50 = .ok (.istore_n 1, 1) := by decide +kernel
set_option maxRecDepth 20000 in
theorem dX6_records_51 : decode cX6_records 51 = .ok (.iload_n 1, 1) := by decide +kernel
set_option maxRecDepth 20000 in
theorem dX6_records_52 : decode cX6_records 52 = .ok (.sipush 283, 3) := by decide +kernel
set_option maxRecDepth 20000 in
theorem dX6_records_55 : decode cX6_records 55 = .ok (.if_icmp .ge 30, 3) := by decide +kernel
set_option maxRecDepth 20000 in
theorem dX6_records_58 : decode cX6_records 58 = .ok (.aload_n 0, 1) := by decide +kernel
set_option maxRecDepth 20000 in
theorem dX6_records_59 : decode cX6_records 59 = .ok (.getfield 13, 3) := by decide +kernel
set_option maxRecDepth 20000 in
theorem dX6_records_62 : decode cX6_records 62 = .ok (.sipush 283, 3) := by decide +kernel
set_option maxRecDepth 20000 in
theorem dX6_records_65 : decode cX6_records 65 = .ok (.aload_n 0, 1) := by decide +kernel
set_option maxRecDepth 20000 in
theorem dX6_records_66 : decode cX6_records 66 = .ok (.getfield 44, 3) := by decide +kernel
set_option maxRecDepth 20000 in
theorem dX6_records_69 : decode cX6_records 69 = .ok (.imul, 1) := by decide +kernel
set_option maxRecDepth 20000 in
theorem dX6_records_70 : decode cX6_records 70 = .ok (.iload_n 1, 1) := by decide +kernel
set_option maxRecDepth 20000 in
theorem dX6_records_71 : decode cX6_records 71 = .ok (.iadd, 1) := by decide +kernel
set_option maxRecDepth 20000 in
theorem dX6_records_72 : decode cX6_records 72 = .ok (.aload_n 0, 1) := by decide +kernel
set_option maxRecDepth 20000 in
theorem dX6_records_73 : decode cX6_records 73 = .ok (.getfield 7, 3) := by decide +kernel
set_option maxRecDepth 20000 in
theorem dX6_records_76 : decode cX6_records 76 = .ok (.iload_n 1, 1) := by decide +kernel
set_option maxRecDepth 20000 in
theorem dX6_records_77 : decode cX6_records 77 = .ok (.iaload, 1) := by decide +kernel
set_option maxRecDepth 20000 in
theorem dX6_records_78 : decode cX6_records 78 = .ok (.iastore, 1) := by decide +kernel
set_option maxRecDepth 20000 in
theorem dX6_records_79 : decode cX6_records 79 = .ok (.iinc 1 1, 3) := by decide +kernel
set_option maxRecDepth 20000 in
theorem dX6_records_82 : decode cX6_records 82 = .ok (.goto (-31), 3) := by decide +kernel
set_option maxRecDepth 20000 in
theorem dX6_records_85 : decode cX6_records 85 = .ok (.aload_n 0, 1) := by decide +kernel
set_option maxRecDepth 20000 in
theorem dX6_records_86 : decode cX6_records 86 = .ok (.dup, 1) := by decide +kernel
set_option maxRecDepth 20000 in
theorem dX6_records_87 : decode cX6_records 87 = .ok (.getfield 44, 3) := by decide +kernel
set_option maxRecDepth 20000 in
theorem dX6_records_90 : decode cX6_records 90 = .ok (.iconst 1, 1) := by decide +kernel
set_option maxRecDepth 20000 in
theorem dX6_records_91 : decode cX6_records 91 = .ok (.iadd, 1) := by decide +kernel
set_option maxRecDepth 20000 in
theorem dX6_records_92 : decode cX6_records 92 = .ok (.putfield 44, 3) := by decide +kernel
set_option maxRecDepth 20000 in
theorem dX6_records_95 : decode cX6_records 95 = .ok (.return_, 1) := by decide +kernel
set_option maxRecDepth 20000 in
theorem dX6_later_0 : decode cX6_later 0 = .ok (.iload_n 0, 1) := by decide +kernel
set_option maxRecDepth 20000 in
theorem dX6_later_1 : decode cX6_later 1 = .ok (.iload_n 1, 1) := by decide +kernel
set_option maxRecDepth 20000 in
theorem dX6_later_2 : decode cX6_later 2 = .ok (.if_icmp .le 7, 3) := by decide +kernel
set_option maxRecDepth 20000 in
theorem dX6_later_5 : decode cX6_later 5 = .ok (.iload_n 0, 1) := by decide +kernel
set_option maxRecDepth 20000 in
theorem dX6_later_6 : decode cX6_later 6 = .ok (.goto 4, 3) := by decide +kernel
set_option maxRecDepth 20000 in
theorem dX6_later_9 : decode cX6_later 9 = .ok (.iload_n 1, 1) := by decide +kernel
set_option maxRecDepth 20000 in
theorem dX6_later_10 : decode cX6_later 10 = .ok (.ireturn, 1) := by decide +kernel
set_option maxRecDepth 20000 in
theorem dX6_startOf_0 : decode cX6_startOf 0 = .ok (.aload_n 0, 1) := by decide +kernel
set_option maxRecDepth 20000 in
theorem dX6_startOf_1 : decode cX6_startOf 1 = .ok (.iload_n 1, 1) := by decide +kernel
set_option maxRecDepth 20000 in
theorem dX6_startOf_2 : decode cX6_startOf 2 = .ok (.iload_n 2, 1) := by decide +kernel
set_option maxRecDepth 20000 in
theorem dX6_startOf_3 : decode cX6_startOf 3 = .ok (.invokevirtual 47, 3) := by decide +kernel
set_option maxRecDepth 20000 in
theorem dX6_startOf_6 : decode cX6_startOf 6 = .ok (.istore_n 3, 1) := by decide +kernel
set_option maxRecDepth 20000 in
theorem dX6_startOf_7 : decode cX6_startOf 7 = .ok (.iload_n 3, 1) := by decide +kernel
set_option maxRecDepth 20000 in
theorem dX6_startOf_8 : decode cX6_startOf 8 = .ok (.bipush (-5), 2) := by decide +kernel
set_option maxRecDepth 20000 in
theorem dX6_startOf_10 : decode cX6_startOf 10 = .ok (.if_icmp .ne 11, 3) := by decide +kernel
set_option maxRecDepth 20000 in
theorem dX6_startOf_13 : decode cX6_startOf 13 = .ok (.aload_n 0, 1) := by decide +kernel
set_option maxRecDepth 20000 in
theorem dX6_startOf_14 : decode cX6_startOf 14 = .ok (.iload_n 2, 1) := by decide +kernel
set_option maxRecDepth 20000 in
theorem dX6_startOf_15 : decode cX6_startOf 15 = .ok (.invokevirtual 50, 3) := by decide +kernel
set_option maxRecDepth 20000 in
theorem dX6_startOf_18 : decode cX6_startOf 18 = .ok (.goto 16, 3) := by decide +kernel
set_option maxRecDepth 20000 in
theorem dX6_startOf_21 : decode cX6_startOf 21 = .ok (.aload_n 0, 1) := by decide +kernel
set_option maxRecDepth 20000 in
theorem dX6_startOf_22 : decode cX6_startOf 22 = .ok (.iload_n 2, 1) := by decide +kernel
set_option maxRecDepth 20000 in
theorem dX6_startOf_23 : decode cX6_startOf 23 = .ok (.invokevirtual 50, 3) := by decide +kernel
set_option maxRecDepth 20000 in
theorem dX6_startOf_26 : decode cX6_startOf 26 = .ok (.aload_n 0, 1) := by decide +kernel
set_option maxRecDepth 20000 in
theorem dX6_startOf_27 : decode cX6_startOf 27 = .ok (.iload_n 3, 1) := by decide +kernel
set_option maxRecDepth 20000 in
theorem dX6_startOf_28 : decode cX6_startOf 28 = .ok (.invokevirtual 50, 3) := by decide +kernel
set_option maxRecDepth 20000 in
theorem dX6_startOf_31 : decode cX6_startOf 31 = .ok (.invokestatic 54, 3) := by decide +kernel
set_option maxRecDepth 20000 in
theorem dX6_startOf_34 : decode cX6_startOf 34 = .ok (.ireturn, 1) := by decide +kernel
set_option maxRecDepth 20000 in
theorem dX6_isOn_0 : decode cX6_isOn 0 = .ok (.aload_n 0, 1) := by decide +kernel
set_option maxRecDepth 20000 in
theorem dX6_isOn_1 : decode cX6_isOn 1 = .ok (.iload_n 1, 1) := by decide +kernel
set_option maxRecDepth 20000 in
theorem dX6_isOn_2 : decode cX6_isOn 2 = .ok (.iconst 2, 1) := by decide +kernel
set_option maxRecDepth 20000 in
theorem dX6_isOn_3 : decode cX6_isOn 3 = .ok (.invokevirtual 40, 3) := by decide +kernel
set_option maxRecDepth 20000 in
theorem dX6_isOn_6 : decode cX6_isOn 6 = .ok (.iload_n 2, 1) := by decide +kernel
set_option maxRecDepth 20000 in
theorem dX6_isOn_7 : decode cX6_isOn 7 = .ok (.if_icmp .ne 32, 3) := by decide +kernel
set_option maxRecDepth 20000 in
theorem dX6_isOn_10 : decode cX6_isOn 10 = .ok (.aload_n 0, 1) := by decide +kernel
set_option maxRecDepth 20000 in
theorem dX6_isOn_11 : decode cX6_isOn 11 = .ok (.iload_n 1, 1) := by decide +kernel
set_option maxRecDepth 20000 in
theorem dX6_isOn_12 : decode cX6_isOn 12 = .ok (.iconst 1, 1) := by decide +kernel
set_option maxRecDepth 20000 in
theorem dX6_isOn_13 : decode cX6_isOn 13 = .ok (.invokevirtual 40, 3) := by decide +kernel
set_option maxRecDepth 20000 in
theorem dX6_isOn_16 : decode cX6_isOn 16 = .ok (.iload_n 3, 1) := by decide +kernel
set_option maxRecDepth 20000 in
theorem dX6_isOn_17 : decode cX6_isOn 17 = .ok (.if_icmp .eq 18, 3) := by decide +kernel
set_option maxRecDepth 20000 in
theorem dX6_isOn_20 : decode cX6_isOn 20 = .ok (.aload_n 0, 1) := by decide +kernel
set_option maxRecDepth 20000 in
theorem dX6_isOn_21 : decode cX6_isOn 21 = .ok (.iload_n 1, 1) := by decide +kernel
set_option maxRecDepth 20000 in
theorem dX6_isOn_22 : decode cX6_isOn 22 = .ok (.iconst 1, 1) := by decide +kernel
set_option maxRecDepth 20000 in
theorem dX6_isOn_23 : decode cX6_isOn 23 = .ok (.invokevirtual 40, 3) := by decide +kernel
set_option maxRecDepth 20000 in
theorem dX6_isOn_26 : decode cX6_isOn 26 = .ok (.aload_n 0, 1) := by decide +kernel
set_option maxRecDepth 20000 in
theorem dX6_isOn_27 : decode cX6_isOn 27 = .ok (.iload_n 2, 1) := by decide +kernel
set_option maxRecDepth 20000 in
theorem dX6_isOn_28 : decode cX6_isOn 28 = .ok (.iload_n 3, 1) := by decide +kernel
set_option maxRecDepth 20000 in
theorem dX6_isOn_29 : decode cX6_isOn 29 = .ok (.invokevirtual 47, 3) := by decide +kernel
set_option maxRecDepth 20000 in
theorem dX6_isOn_32 : decode cX6_isOn 32 = .ok (.if_icmp .ne 7, 3) := by decide +kernel
set_option maxRecDepth 20000 in
theorem dX6_isOn_35 : decode cX6_isOn 35 = .ok (.iconst 1, 1) := by decide +kernel
set_option maxRecDepth 20000 in
theorem dX6_isOn_36 : decode cX6_isOn 36 = .ok (.goto 4, 3) := by decide +kernel
set_option maxRecDepth 20000 in
theorem dX6_isOn_39 : decode cX6_isOn 39 = .ok (.iconst 0, 1) := by decide +kernel
set_option maxRecDepth 20000 in
theorem dX6_isOn_40 : decode cX6_isOn 40 = .ok (.ireturn, 1) := by decide +kernel
set_option maxRecDepth 20000 in
theorem dX6_takenBut_0 : decode cX6_takenBut 0 = .ok (.iconst 0, 1) := by decide +kernel
set_option maxRecDepth 20000 in
theorem dX6_takenBut_1 : decode cX6_takenBut 1 = .ok (.istore 5, 2) := by decide +kernel
set_option maxRecDepth 20000 in
theorem dX6_takenBut_3 : decode cX6_takenBut 3 = .ok (.iconst 0, 1) := by decide +kernel
set_option maxRecDepth 20000 in
theorem dX6_takenBut_4 : decode cX6_takenBut 4 = .ok (.istore 6, 2) := by decide +kernel
set_option maxRecDepth 20000 in
theorem dX6_takenBut_6 : decode cX6_takenBut 6 = .ok (.iload 6, 2) := by decide +kernel
set_option maxRecDepth 20000 in
theorem dX6_takenBut_8 : decode cX6_takenBut 8 = .ok (.aload_n 0, 1) := by decide +kernel
set_option maxRecDepth 20000 in
theorem dX6_takenBut_9 : decode cX6_takenBut 9 = .ok (.getfield 7, 3) := by decide +kernel
set_option maxRecDepth 20000 in
theorem dX6_takenBut_12 : decode cX6_takenBut 12 = .ok (.bipush 6, 2) := by decide +kernel
set_option maxRecDepth 20000 in
theorem dX6_takenBut_14 : decode cX6_takenBut 14 = .ok (.iaload, 1) := by decide +kernel
set_option maxRecDepth 20000 in
theorem dX6_takenBut_15 : decode cX6_takenBut 15 = .ok (.if_icmp .ge 59, 3) := by decide +kernel
set_option maxRecDepth 20000 in
theorem dX6_takenBut_18 : decode cX6_takenBut 18 = .ok (.iload 5, 2) := by decide +kernel
set_option maxRecDepth 20000 in
theorem dX6_takenBut_20 : decode cX6_takenBut 20 = .ok (.iload 6, 2) := by decide +kernel
set_option maxRecDepth 20000 in
theorem dX6_takenBut_22 : decode cX6_takenBut 22 = .ok (.iload 4, 2) := by decide +kernel
set_option maxRecDepth 20000 in
theorem dX6_takenBut_24 : decode cX6_takenBut 24 = .ok (.if_icmp .eq 40, 3) := by decide +kernel
set_option maxRecDepth 20000 in
theorem dX6_takenBut_27 : decode cX6_takenBut 27 = .ok (.aload_n 0, 1) := by decide +kernel
set_option maxRecDepth 20000 in
theorem dX6_takenBut_28 : decode cX6_takenBut 28 = .ok (.iload 6, 2) := by decide +kernel
set_option maxRecDepth 20000 in
theorem dX6_takenBut_30 : decode cX6_takenBut 30 = .ok (.iconst 4, 1) := by decide +kernel
set_option maxRecDepth 20000 in
theorem dX6_takenBut_31 : decode cX6_takenBut 31 = .ok (.invokevirtual 40, 3) := by decide +kernel
set_option maxRecDepth 20000 in
theorem dX6_takenBut_34 : decode cX6_takenBut 34 = .ok (.iconst 1, 1) := by decide +kernel
set_option maxRecDepth 20000 in
theorem dX6_takenBut_35 : decode cX6_takenBut 35 = .ok (.if_icmp .ne 29, 3) := by decide +kernel
set_option maxRecDepth 20000 in
theorem dX6_takenBut_38 : decode cX6_takenBut 38 = .ok (.aload_n 0, 1) := by decide +kernel
set_option maxRecDepth 20000 in
theorem dX6_takenBut_39 : decode cX6_takenBut 39 = .ok (.iload 6, 2) := by decide +kernel
set_option maxRecDepth 20000 in
theorem dX6_takenBut_41 : decode cX6_takenBut 41 = .ok (.iload_n 1, 1) := by decide +kernel
set_option maxRecDepth 20000 in
theorem dX6_takenBut_42 : decode cX6_takenBut 42 = .ok (.iload_n 2, 1) := by decide +kernel
set_option maxRecDepth 20000 in
theorem dX6_takenBut_43 : decode cX6_takenBut 43 = .ok (.invokevirtual 57, 3) := by decide +kernel
set_option maxRecDepth 20000 in
theorem dX6_takenBut_46 : decode cX6_takenBut 46 = .ok (.ifCond .eq 18, 3) := by decide +kernel
set_option maxRecDepth 20000 in
theorem dX6_takenBut_49 : decode cX6_takenBut 49 = .ok (.aload_n 0, 1) := by decide +kernel
set_option maxRecDepth 20000 in
theorem dX6_takenBut_50 : decode cX6_takenBut 50 = .ok (.iload 6, 2) := by decide +kernel
set_option maxRecDepth 20000 in
theorem dX6_takenBut_52 : decode cX6_takenBut 52 = .ok (.iconst 3, 1) := by decide +kernel
set_option maxRecDepth 20000 in
theorem dX6_takenBut_53 : decode cX6_takenBut 53 = .ok (.invokevirtual 40, 3) := by decide +kernel
set_option maxRecDepth 20000 in
theorem dX6_takenBut_56 : decode cX6_takenBut 56 = .ok (.iload_n 3, 1) := by decide +kernel
set_option maxRecDepth 20000 in
theorem dX6_takenBut_57 : decode cX6_takenBut 57 = .ok (.if_icmp .lt 7, 3) := by decide +kernel
set_option maxRecDepth 20000 in
theorem dX6_takenBut_60 : decode cX6_takenBut 60 = .ok (.iconst 1, 1) := by decide +kernel
set_option maxRecDepth 20000 in
theorem dX6_takenBut_61 : decode cX6_takenBut 61 = .ok (.goto 4, 3) := by decide +kernel
set_option maxRecDepth 20000 in
theorem dX6_takenBut_64 : decode cX6_takenBut 64 = .ok (.iconst 0, 1) := by decide +kernel
set_option maxRecDepth 20000 in
theorem dX6_takenBut_65 : decode cX6_takenBut 65 = .ok (.iadd, 1) := by decide +kernel
set_option maxRecDepth 20000 in
theorem dX6_takenBut_66 : decode cX6_takenBut 66 = .ok (.istore 5, 2) := by decide +kernel
set_option maxRecDepth 20000 in
theorem dX6_takenBut_68 : decode cX6_takenBut 68 = .ok (.iinc 6 1, 3) := by decide +kernel
set_option maxRecDepth 20000 in
theorem dX6_takenBut_71 : decode cX6_takenBut 71 = .ok (.goto (-65), 3) := by decide +kernel
set_option maxRecDepth 20000 in
theorem dX6_takenBut_74 : decode cX6_takenBut 74 = .ok (.iload 5, 2) := by decide +kernel
set_option maxRecDepth 20000 in
theorem dX6_takenBut_76 : decode cX6_takenBut 76 = .ok (.ireturn, 1) := by decide +kernel
set_option maxRecDepth 20000 in
theorem dX6_behind_0 : decode cX6_behind 0 = .ok (.iload_n 1, 1) := by decide +kernel
set_option maxRecDepth 20000 in
theorem dX6_behind_1 : decode cX6_behind 1 = .ok (.aload_n 0, 1) := by decide +kernel
set_option maxRecDepth 20000 in
theorem dX6_behind_2 : decode cX6_behind 2 = .ok (.getfield 7, 3) := by decide +kernel
set_option maxRecDepth 20000 in
theorem dX6_behind_5 : decode cX6_behind 5 = .ok (.iconst 0, 1) := by decide +kernel
set_option maxRecDepth 20000 in
theorem dX6_behind_6 : decode cX6_behind 6 = .ok (.iaload, 1) := by decide +kernel
set_option maxRecDepth 20000 in
theorem dX6_behind_7 : decode cX6_behind 7 = .ok (.iload_n 3, 1) := by decide +kernel
set_option maxRecDepth 20000 in
theorem dX6_behind_8 : decode cX6_behind 8 = .ok (.imul, 1) := by decide +kernel
set_option maxRecDepth 20000 in
theorem dX6_behind_9 : decode cX6_behind 9 = .ok (.iadd, 1) := by decide +kernel
set_option maxRecDepth 20000 in
theorem dX6_behind_10 : decode cX6_behind 10 = .ok (.aload_n 0, 1) := by decide +kernel
set_option maxRecDepth 20000 in
theorem dX6_behind_11 : decode cX6_behind 11 = .ok (.iload_n 2, 1) := by decide +kernel
set_option maxRecDepth 20000 in
theorem dX6_behind_12 : decode cX6_behind 12 = .ok (.invokevirtual 50, 3) := by decide +kernel
set_option maxRecDepth 20000 in
theorem dX6_behind_15 : decode cX6_behind 15 = .ok (.isub, 1) := by decide +kernel
set_option maxRecDepth 20000 in
theorem dX6_behind_16 : decode cX6_behind 16 = .ok (.ireturn, 1) := by decide +kernel
set_option maxRecDepth 20000 in
theorem dX6_reasonBut_0 : decode cX6_reasonBut 0 = .ok (.aload_n 0, 1) := by decide +kernel
set_option maxRecDepth 20000 in
theorem dX6_reasonBut_1 : decode cX6_reasonBut 1 = .ok (.iload_n 2, 1) := by decide +kernel
set_option maxRecDepth 20000 in
theorem dX6_reasonBut_2 : decode cX6_reasonBut 2 = .ok (.invokevirtual 60, 3) := by decide +kernel
set_option maxRecDepth 20000 in
theorem dX6_reasonBut_5 : decode cX6_reasonBut 5 = .ok (.ifCond .ne 5, 3) := by decide +kernel
set_option maxRecDepth 20000 in
theorem dX6_reasonBut_8 : decode cX6_reasonBut 8 = .ok (.iconst 1, 1) := by decide +kernel
set_option maxRecDepth 20000 in
theorem dX6_reasonBut_9 : decode cX6_reasonBut 9 = .ok (.ireturn, 1) := by decide +kernel
set_option maxRecDepth 20000 in
theorem dX6_reasonBut_10 : decode cX6_reasonBut 10 = .ok (.iconst 1, 1) := by decide +kernel
set_option maxRecDepth 20000 in
theorem dX6_reasonBut_11 : decode cX6_reasonBut 11 = .ok (.istore 5, 2) := by decide +kernel
set_option maxRecDepth 20000 in
theorem dX6_reasonBut_13 : decode cX6_reasonBut 13 = .ok (.iload 5, 2) := by decide +kernel
set_option maxRecDepth 20000 in
theorem dX6_reasonBut_15 : decode cX6_reasonBut 15 = .ok (.iload_n 3, 1) := by decide +kernel
set_option maxRecDepth 20000 in
theorem dX6_reasonBut_16 : decode cX6_reasonBut 16 = .ok (.if_icmp .gt 30, 3) := by decide +kernel
set_option maxRecDepth 20000 in
theorem dX6_reasonBut_19 : decode cX6_reasonBut 19 = .ok (.aload_n 0, 1) := by decide +kernel
set_option maxRecDepth 20000 in
theorem dX6_reasonBut_20 : decode cX6_reasonBut 20 = .ok (.iload_n 1, 1) := by decide +kernel
set_option maxRecDepth 20000 in
theorem dX6_reasonBut_21 : decode cX6_reasonBut 21 = .ok (.iload_n 2, 1) := by decide +kernel
set_option maxRecDepth 20000 in
theorem dX6_reasonBut_22 : decode cX6_reasonBut 22 = .ok (.iload 5, 2) := by decide +kernel
set_option maxRecDepth 20000 in
theorem dX6_reasonBut_24 : decode cX6_reasonBut 24 = .ok (.iload 4, 2) := by decide +kernel
set_option maxRecDepth 20000 in
theorem dX6_reasonBut_26 : decode cX6_reasonBut 26 = .ok (.invokevirtual 64, 3) := by decide +kernel
set_option maxRecDepth 20000 in
theorem dX6_reasonBut_29 : decode cX6_reasonBut 29 = .ok (.aload_n 0, 1) := by decide +kernel
set_option maxRecDepth 20000 in
theorem dX6_reasonBut_30 : decode cX6_reasonBut 30 = .ok (.getfield 7, 3) := by decide +kernel
set_option maxRecDepth 20000 in
theorem dX6_reasonBut_33 : decode cX6_reasonBut 33 = .ok (.iconst 1, 1) := by decide +kernel
set_option maxRecDepth 20000 in
theorem dX6_reasonBut_34 : decode cX6_reasonBut 34 = .ok (.iaload, 1) := by decide +kernel
set_option maxRecDepth 20000 in
theorem dX6_reasonBut_35 : decode cX6_reasonBut 35 = .ok (.if_icmp .lt 5, 3) := by decide +kernel
set_option maxRecDepth 20000 in
theorem dX6_reasonBut_38 : decode cX6_reasonBut 38 = .ok (.iconst 2, 1) := by decide +kernel
set_option maxRecDepth 20000 in
theorem dX6_reasonBut_39 : decode cX6_reasonBut 39 = .ok (.ireturn, 1) := by decide +kernel
set_option maxRecDepth 20000 in
theorem dX6_reasonBut_40 : decode cX6_reasonBut 40 = .ok (.iinc 5 1, 3) := by decide +kernel
set_option maxRecDepth 20000 in
theorem dX6_reasonBut_43 : decode cX6_reasonBut 43 = .ok (.goto (-30), 3) := by decide +kernel
set_option maxRecDepth 20000 in
theorem dX6_reasonBut_46 : decode cX6_reasonBut 46 = .ok (.aload_n 0, 1) := by decide +kernel
set_option maxRecDepth 20000 in
theorem dX6_reasonBut_47 : decode cX6_reasonBut 47 = .ok (.aload_n 0, 1) := by decide +kernel
set_option maxRecDepth 20000 in
theorem dX6_reasonBut_48 : decode cX6_reasonBut 48 = .ok (.iload_n 1, 1) := by decide +kernel
set_option maxRecDepth 20000 in
theorem dX6_reasonBut_49 : decode cX6_reasonBut 49 = .ok (.iload_n 2, 1) := by decide +kernel
set_option maxRecDepth 20000 in
theorem dX6_reasonBut_50 : decode cX6_reasonBut 50 = .ok (.invokevirtual 68, 3) := by decide +kernel
set_option maxRecDepth 20000 in
theorem dX6_reasonBut_53 : decode cX6_reasonBut 53 = .ok (.iload_n 2, 1) := by decide +kernel
set_option maxRecDepth 20000 in
theorem dX6_reasonBut_54 : decode cX6_reasonBut 54 = .ok (.iload_n 3, 1) := by decide +kernel
set_option maxRecDepth 20000 in
theorem dX6_reasonBut_55 : decode cX6_reasonBut 55 = .ok (.invokevirtual 71, 3) := by decide +kernel
set_option maxRecDepth 20000 in
theorem dX6_reasonBut_58 : decode cX6_reasonBut 58 = .ok (.aload_n 0, 1) := by decide +kernel
set_option maxRecDepth 20000 in
theorem dX6_reasonBut_59 : decode cX6_reasonBut 59 = .ok (.getfield 7, 3) := by decide +kernel
set_option maxRecDepth 20000 in
theorem dX6_reasonBut_62 : decode cX6_reasonBut 62 = .ok (.iconst 3, 1) := by decide +kernel
set_option maxRecDepth 20000 in
theorem dX6_reasonBut_63 : decode cX6_reasonBut 63 = .ok (.iaload, 1) := by decide +kernel
set_option maxRecDepth 20000 in
theorem dX6_reasonBut_64 : decode cX6_reasonBut 64 = .ok (.if_icmp .le 7, 3) := by decide +kernel
set_option maxRecDepth 20000 in
theorem dX6_reasonBut_67 : decode cX6_reasonBut 67 = .ok (.iconst 3, 1) := by decide +kernel
set_option maxRecDepth 20000 in
theorem dX6_reasonBut_68 : decode cX6_reasonBut 68 = .ok (.goto 4, 3) := by decide +kernel
set_option maxRecDepth 20000 in
theorem dX6_reasonBut_71 : decode cX6_reasonBut 71 = .ok (.iconst 0, 1) := by decide +kernel
set_option maxRecDepth 20000 in
theorem dX6_reasonBut_72 : decode cX6_reasonBut 72 = .ok (.ireturn, 1) := by decide +kernel
set_option maxRecDepth 20000 in
theorem dX6_ranks_0 : decode cX6_ranks 0 = .ok (.iconst 0, 1) := by decide +kernel
set_option maxRecDepth 20000 in
theorem dX6_ranks_1 : decode cX6_ranks 1 = .ok (.istore_n 1, 1) := by decide +kernel
set_option maxRecDepth 20000 in
theorem dX6_ranks_2 : decode cX6_ranks 2 = .ok (.iload_n 1, 1) := by decide +kernel
set_option maxRecDepth 20000 in
theorem dX6_ranks_3 : decode cX6_ranks 3 = .ok (.aload_n 0, 1) := by decide +kernel
set_option maxRecDepth 20000 in
theorem dX6_ranks_4 : decode cX6_ranks 4 = .ok (.getfield 7, 3) := by decide +kernel
set_option maxRecDepth 20000 in
theorem dX6_ranks_7 : decode cX6_ranks 7 = .ok (.iconst 4, 1) := by decide +kernel
set_option maxRecDepth 20000 in
theorem dX6_ranks_8 : decode cX6_ranks 8 = .ok (.iaload, 1) := by decide +kernel
set_option maxRecDepth 20000 in
theorem dX6_ranks_9 : decode cX6_ranks 9 = .ok (.if_icmp .ge 62, 3) := by decide +kernel
set_option maxRecDepth 20000 in
theorem dX6_ranks_12 : decode cX6_ranks 12 = .ok (.iload_n 1, 1) := by decide +kernel
set_option maxRecDepth 20000 in
theorem dX6_ranks_13 : decode cX6_ranks 13 = .ok (.istore_n 2, 1) := by decide +kernel
set_option maxRecDepth 20000 in
theorem dX6_ranks_14 : decode cX6_ranks 14 = .ok (.iload_n 2, 1) := by decide +kernel
set_option maxRecDepth 20000 in
theorem dX6_ranks_15 : decode cX6_ranks 15 = .ok (.ifCond .le 43, 3) := by decide +kernel
set_option maxRecDepth 20000 in
theorem dX6_ranks_18 : decode cX6_ranks 18 = .ok (.aload_n 0, 1) := by decide +kernel
set_option maxRecDepth 20000 in
theorem dX6_ranks_19 : decode cX6_ranks 19 = .ok (.aload_n 0, 1) := by decide +kernel
set_option maxRecDepth 20000 in
theorem dX6_ranks_20 : decode cX6_ranks 20 = .ok (.getfield 22, 3) := by decide +kernel
set_option maxRecDepth 20000 in
theorem dX6_ranks_23 : decode cX6_ranks 23 = .ok (.iload_n 2, 1) := by decide +kernel
set_option maxRecDepth 20000 in
theorem dX6_ranks_24 : decode cX6_ranks 24 = .ok (.iconst 1, 1) := by decide +kernel
set_option maxRecDepth 20000 in
theorem dX6_ranks_25 : decode cX6_ranks 25 = .ok (.isub, 1) := by decide +kernel
set_option maxRecDepth 20000 in
theorem dX6_ranks_26 : decode cX6_ranks 26 = .ok (.iaload, 1) := by decide +kernel
set_option maxRecDepth 20000 in
theorem dX6_ranks_27 : decode cX6_ranks 27 = .ok (.invokevirtual 50, 3) := by decide +kernel
set_option maxRecDepth 20000 in
theorem dX6_ranks_30 : decode cX6_ranks 30 = .ok (.aload_n 0, 1) := by decide +kernel
set_option maxRecDepth 20000 in
theorem dX6_ranks_31 : decode cX6_ranks 31 = .ok (.iload_n 1, 1) := by decide +kernel
set_option maxRecDepth 20000 in
theorem dX6_ranks_32 : decode cX6_ranks 32 = .ok (.invokevirtual 50, 3) := by decide +kernel
set_option maxRecDepth 20000 in
theorem dX6_ranks_35 : decode cX6_ranks 35 = .ok (.if_icmp .le 23, 3) := by decide +kernel
set_option maxRecDepth 20000 in
theorem dX6_ranks_38 : decode cX6_ranks 38 = .ok (.aload_n 0, 1) := by decide +kernel
set_option maxRecDepth 20000 in
theorem dX6_ranks_39 : decode cX6_ranks 39 = .ok (.getfield 22, 3) := by decide +kernel
set_option maxRecDepth 20000 in
theorem dX6_ranks_42 : decode cX6_ranks 42 = .ok (.iload_n 2, 1) := by decide +kernel
set_option maxRecDepth 20000 in
theorem dX6_ranks_43 : decode cX6_ranks 43 = .ok (.aload_n 0, 1) := by decide +kernel
set_option maxRecDepth 20000 in
theorem dX6_ranks_44 : decode cX6_ranks 44 = .ok (.getfield 22, 3) := by decide +kernel
set_option maxRecDepth 20000 in
theorem dX6_ranks_47 : decode cX6_ranks 47 = .ok (.iload_n 2, 1) := by decide +kernel
set_option maxRecDepth 20000 in
theorem dX6_ranks_48 : decode cX6_ranks 48 = .ok (.iconst 1, 1) := by decide +kernel
set_option maxRecDepth 20000 in
theorem dX6_ranks_49 : decode cX6_ranks 49 = .ok (.isub, 1) := by decide +kernel
set_option maxRecDepth 20000 in
theorem dX6_ranks_50 : decode cX6_ranks 50 = .ok (.iaload, 1) := by decide +kernel
set_option maxRecDepth 20000 in
theorem dX6_ranks_51 : decode cX6_ranks 51 = .ok (.iastore, 1) := by decide +kernel
set_option maxRecDepth 20000 in
theorem dX6_ranks_52 : decode cX6_ranks 52 = .ok (.iinc 2 (-1), 3) := by decide +kernel
set_option maxRecDepth 20000 in
theorem dX6_ranks_55 : decode cX6_ranks 55 = .ok (.goto (-41), 3) := by decide +kernel
set_option maxRecDepth 20000 in
theorem dX6_ranks_58 : decode cX6_ranks 58 = .ok (.aload_n 0, 1) := by decide +kernel
set_option maxRecDepth 20000 in
theorem dX6_ranks_59 : decode cX6_ranks 59 = .ok (.getfield 22, 3) := by decide +kernel
set_option maxRecDepth 20000 in
theorem dX6_ranks_62 : decode cX6_ranks 62 = .ok (.iload_n 2, 1) := by decide +kernel
set_option maxRecDepth 20000 in
theorem dX6_ranks_63 : decode cX6_ranks 63 = .ok (.iload_n 1, 1) := by decide +kernel
set_option maxRecDepth 20000 in
theorem dX6_ranks_64 : decode cX6_ranks 64 = .ok (.iastore, 1) := by decide +kernel
set_option maxRecDepth 20000 in
theorem dX6_ranks_65 : decode cX6_ranks 65 = .ok (.iinc 1 1, 3) := by decide +kernel
set_option maxRecDepth 20000 in
theorem dX6_ranks_68 : decode cX6_ranks 68 = .ok (.goto (-66), 3) := by decide +kernel
set_option maxRecDepth 20000 in
theorem dX6_ranks_71 : decode cX6_ranks 71 = .ok (.return_, 1) := by decide +kernel
set_option maxRecDepth 20000 in
theorem dX6_waitsAt_0 : decode cX6_waitsAt 0 = .ok (.aload_n 0, 1) := by decide +kernel
set_option maxRecDepth 20000 in
theorem dX6_waitsAt_1 : decode cX6_waitsAt 1 = .ok (.iload_n 1, 1) := by decide +kernel
set_option maxRecDepth 20000 in
theorem dX6_waitsAt_2 : decode cX6_waitsAt 2 = .ok (.iconst 4, 1) := by decide +kernel
set_option maxRecDepth 20000 in
theorem dX6_waitsAt_3 : decode cX6_waitsAt 3 = .ok (.invokevirtual 40, 3) := by decide +kernel
set_option maxRecDepth 20000 in
theorem dX6_waitsAt_6 : decode cX6_waitsAt 6 = .ok (.ifCond .ne 38, 3) := by decide +kernel
set_option maxRecDepth 20000 in
theorem dX6_waitsAt_9 : decode cX6_waitsAt 9 = .ok (.aload_n 0, 1) := by decide +kernel
set_option maxRecDepth 20000 in
theorem dX6_waitsAt_10 : decode cX6_waitsAt 10 = .ok (.iload_n 1, 1) := by decide +kernel
set_option maxRecDepth 20000 in
theorem dX6_waitsAt_11 : decode cX6_waitsAt 11 = .ok (.iconst 2, 1) := by decide +kernel
set_option maxRecDepth 20000 in
theorem dX6_waitsAt_12 : decode cX6_waitsAt 12 = .ok (.invokevirtual 40, 3) := by decide +kernel
set_option maxRecDepth 20000 in
theorem dX6_waitsAt_15 : decode cX6_waitsAt 15 = .ok (.iload_n 2, 1) := by decide +kernel
set_option maxRecDepth 20000 in
theorem dX6_waitsAt_16 : decode cX6_waitsAt 16 = .ok (.if_icmp .ne 28, 3) := by decide +kernel
set_option maxRecDepth 20000 in
theorem dX6_waitsAt_19 : decode cX6_waitsAt 19 = .ok (.aload_n 0, 1) := by decide +kernel
set_option maxRecDepth 20000 in
theorem dX6_waitsAt_20 : decode cX6_waitsAt 20 = .ok (.iload_n 1, 1) := by decide +kernel
set_option maxRecDepth 20000 in
theorem dX6_waitsAt_21 : decode cX6_waitsAt 21 = .ok (.iconst 1, 1) := by decide +kernel
set_option maxRecDepth 20000 in
theorem dX6_waitsAt_22 : decode cX6_waitsAt 22 = .ok (.invokevirtual 40, 3) := by decide +kernel
set_option maxRecDepth 20000 in
theorem dX6_waitsAt_25 : decode cX6_waitsAt 25 = .ok (.iload_n 3, 1) := by decide +kernel
set_option maxRecDepth 20000 in
theorem dX6_waitsAt_26 : decode cX6_waitsAt 26 = .ok (.if_icmp .ne 18, 3) := by decide +kernel
set_option maxRecDepth 20000 in
theorem dX6_waitsAt_29 : decode cX6_waitsAt 29 = .ok (.aload_n 0, 1) := by decide +kernel
set_option maxRecDepth 20000 in
theorem dX6_waitsAt_30 : decode cX6_waitsAt 30 = .ok (.iload_n 1, 1) := by decide +kernel
set_option maxRecDepth 20000 in
theorem dX6_waitsAt_31 : decode cX6_waitsAt 31 = .ok (.iconst 3, 1) := by decide +kernel
set_option maxRecDepth 20000 in
theorem dX6_waitsAt_32 : decode cX6_waitsAt 32 = .ok (.invokevirtual 40, 3) := by decide +kernel
set_option maxRecDepth 20000 in
theorem dX6_waitsAt_35 : decode cX6_waitsAt 35 = .ok (.iload 4, 2) := by decide +kernel
set_option maxRecDepth 20000 in
theorem dX6_waitsAt_37 : decode cX6_waitsAt 37 = .ok (.if_icmp .ne 7, 3) := by decide +kernel
set_option maxRecDepth 20000 in
theorem dX6_waitsAt_40 : decode cX6_waitsAt 40 = .ok (.iconst 1, 1) := by decide +kernel
set_option maxRecDepth 20000 in
theorem dX6_waitsAt_41 : decode cX6_waitsAt 41 = .ok (.goto 4, 3) := by decide +kernel
set_option maxRecDepth 20000 in
theorem dX6_waitsAt_44 : decode cX6_waitsAt 44 = .ok (.iconst 0, 1) := by decide +kernel
set_option maxRecDepth 20000 in
theorem dX6_waitsAt_45 : decode cX6_waitsAt 45 = .ok (.ireturn, 1) := by decide +kernel
set_option maxRecDepth 20000 in
theorem dX6_looksAt_0 : decode cX6_looksAt 0 = .ok (.iconst 0, 1) := by decide +kernel
set_option maxRecDepth 20000 in
theorem dX6_looksAt_1 : decode cX6_looksAt 1 = .ok (.istore 4, 2) := by decide +kernel
set_option maxRecDepth 20000 in
theorem dX6_looksAt_3 : decode cX6_looksAt 3 = .ok (.iload 4, 2) := by decide +kernel
set_option maxRecDepth 20000 in
theorem dX6_looksAt_5 : decode cX6_looksAt 5 = .ok (.aload_n 0, 1) := by decide +kernel
set_option maxRecDepth 20000 in
theorem dX6_looksAt_6 : decode cX6_looksAt 6 = .ok (.getfield 7, 3) := by decide +kernel
set_option maxRecDepth 20000 in
theorem dX6_looksAt_9 : decode cX6_looksAt 9 = .ok (.bipush 6, 2) := by decide +kernel
set_option maxRecDepth 20000 in
theorem dX6_looksAt_11 : decode cX6_looksAt 11 = .ok (.iaload, 1) := by decide +kernel
set_option maxRecDepth 20000 in
theorem dX6_looksAt_12 : decode cX6_looksAt 12 = .ok (.if_icmp .ge 41, 3) := by decide +kernel
set_option maxRecDepth 20000 in
theorem dX6_looksAt_15 : decode cX6_looksAt 15 = .ok (.aload_n 0, 1) := by decide +kernel
set_option maxRecDepth 20000 in
theorem dX6_looksAt_16 : decode cX6_looksAt 16 = .ok (.iload 4, 2) := by decide +kernel
set_option maxRecDepth 20000 in
theorem dX6_looksAt_18 : decode cX6_looksAt 18 = .ok (.iload_n 1, 1) := by decide +kernel
set_option maxRecDepth 20000 in
theorem dX6_looksAt_19 : decode cX6_looksAt 19 = .ok (.iload_n 2, 1) := by decide +kernel
set_option maxRecDepth 20000 in
theorem dX6_looksAt_20 : decode cX6_looksAt 20 = .ok (.iload_n 3, 1) := by decide +kernel
set_option maxRecDepth 20000 in
theorem dX6_looksAt_21 : decode cX6_looksAt 21 = .ok (.invokevirtual 75, 3) := by decide +kernel
set_option maxRecDepth 20000 in
theorem dX6_looksAt_24 : decode cX6_looksAt 24 = .ok (.ifCond .eq 23, 3) := by decide +kernel
set_option maxRecDepth 20000 in
theorem dX6_looksAt_27 : decode cX6_looksAt 27 = .ok (.aload_n 0, 1) := by decide +kernel
set_option maxRecDepth 20000 in
theorem dX6_looksAt_28 : decode cX6_looksAt 28 = .ok (.iload_n 1, 1) := by decide +kernel
set_option maxRecDepth 20000 in
theorem dX6_looksAt_29 : decode cX6_looksAt 29 = .ok (.iload_n 2, 1) := by decide +kernel
set_option maxRecDepth 20000 in
theorem dX6_looksAt_30 : decode cX6_looksAt 30 = .ok (.iload_n 3, 1) := by decide +kernel
set_option maxRecDepth 20000 in
theorem dX6_looksAt_31 : decode cX6_looksAt 31 = .ok (.bipush (-5), 2) := by decide +kernel
set_option maxRecDepth 20000 in
theorem dX6_looksAt_33 : decode cX6_looksAt 33 = .ok (.invokevirtual 79, 3) := by decide +kernel
set_option maxRecDepth 20000 in
theorem dX6_looksAt_36 : decode cX6_looksAt 36 = .ok (.ifCond .ne 11, 3) := by decide +kernel
set_option maxRecDepth 20000 in
theorem dX6_looksAt_39 : decode cX6_looksAt 39 = .ok (.aload_n 0, 1) := by decide +kernel
set_option maxRecDepth 20000 in
theorem dX6_looksAt_40 : decode cX6_looksAt 40 = .ok (.iload 4, 2) := by decide +kernel
set_option maxRecDepth 20000 in
theorem dX6_looksAt_42 : decode cX6_looksAt 42 = .ok (.iconst 4, 1) := by decide +kernel
set_option maxRecDepth 20000 in
theorem dX6_looksAt_43 : decode cX6_looksAt 43 = .ok (.iconst 1, 1) := by decide +kernel
set_option maxRecDepth 20000 in
theorem dX6_looksAt_44 : decode cX6_looksAt 44 = .ok (.invokevirtual 82, 3) := by decide +kernel
set_option maxRecDepth 20000 in
theorem dX6_looksAt_47 : decode cX6_looksAt 47 = .ok (.iinc 4 1, 3) := by decide +kernel
set_option maxRecDepth 20000 in
theorem dX6_looksAt_50 : decode cX6_looksAt 50 = .ok (.goto (-47), 3) := by decide +kernel
set_option maxRecDepth 20000 in
theorem dX6_looksAt_53 : decode cX6_looksAt 53 = .ok (.return_, 1) := by decide +kernel
set_option maxRecDepth 20000 in
theorem dX6_looksAtAll_0 : decode cX6_looksAtAll 0 = .ok (.aload_n 0, 1) := by decide +kernel
set_option maxRecDepth 20000 in
theorem dX6_looksAtAll_1 : decode cX6_looksAtAll 1 = .ok (.invokevirtual 86, 3) := by decide +kernel
set_option maxRecDepth 20000 in
theorem dX6_looksAtAll_4 : decode cX6_looksAtAll 4 = .ok (.iconst 0, 1) := by decide +kernel
set_option maxRecDepth 20000 in
theorem dX6_looksAtAll_5 : decode cX6_looksAtAll 5 = .ok (.istore_n 1, 1) := by decide +kernel
set_option maxRecDepth 20000 in
theorem dX6_looksAtAll_6 : decode cX6_looksAtAll 6 = .ok (.iload_n 1, 1) := by decide +kernel
set_option maxRecDepth 20000 in
theorem dX6_looksAtAll_7 : decode cX6_looksAtAll 7 = .ok (.aload_n 0, 1) := by decide +kernel
set_option maxRecDepth 20000 in
theorem dX6_looksAtAll_8 : decode cX6_looksAtAll 8 = .ok (.getfield 7, 3) := by decide +kernel
set_option maxRecDepth 20000 in
theorem dX6_looksAtAll_11 : decode cX6_looksAtAll 11 = .ok (.iconst 4, 1) := by decide +kernel
set_option maxRecDepth 20000 in
theorem dX6_looksAtAll_12 : decode cX6_looksAtAll 12 = .ok (.iaload, 1) := by decide +kernel
set_option maxRecDepth 20000 in
theorem dX6_looksAtAll_13 : decode cX6_looksAtAll 13 = .ok (.if_icmp .ge 43, 3) := by decide +kernel
set_option maxRecDepth 20000 in
theorem dX6_looksAtAll_16 : decode cX6_looksAtAll 16 = .ok (.iconst 0, 1) := by decide +kernel
set_option maxRecDepth 20000 in
theorem dX6_looksAtAll_17 : decode cX6_looksAtAll 17 = .ok (.istore_n 2, 1) := by decide +kernel
set_option maxRecDepth 20000 in
theorem dX6_looksAtAll_18 : decode cX6_looksAtAll 18 = .ok (.iload_n 2, 1) := by decide +kernel
set_option maxRecDepth 20000 in
theorem dX6_looksAtAll_19 : decode cX6_looksAtAll 19 = .ok (.bipush 18, 2) := by decide +kernel
set_option maxRecDepth 20000 in
theorem dX6_looksAtAll_21 : decode cX6_looksAtAll 21 = .ok (.if_icmp .ge 29, 3) := by decide +kernel
set_option maxRecDepth 20000 in
theorem dX6_looksAtAll_24 : decode cX6_looksAtAll 24 = .ok (.aload_n 0, 1) := by decide +kernel
set_option maxRecDepth 20000 in
theorem dX6_looksAtAll_25 : decode cX6_looksAtAll 25 = .ok (.iload_n 2, 1) := by decide +kernel
set_option maxRecDepth 20000 in
theorem dX6_looksAtAll_26 : decode cX6_looksAtAll 26 = .ok (.bipush 9, 2) := by decide +kernel
set_option maxRecDepth 20000 in
theorem dX6_looksAtAll_28 : decode cX6_looksAtAll 28 = .ok (.idiv, 1) := by decide +kernel
set_option maxRecDepth 20000 in
theorem dX6_looksAtAll_29 : decode cX6_looksAtAll 29 = .ok (.aload_n 0, 1) := by decide +kernel
set_option maxRecDepth 20000 in
theorem dX6_looksAtAll_30 : decode cX6_looksAtAll 30 = .ok (.getfield 22, 3) := by decide +kernel
set_option maxRecDepth 20000 in
theorem dX6_looksAtAll_33 : decode cX6_looksAtAll 33 = .ok (.iload_n 1, 1) := by decide +kernel
set_option maxRecDepth 20000 in
theorem dX6_looksAtAll_34 : decode cX6_looksAtAll 34 = .ok (.iaload, 1) := by decide +kernel
set_option maxRecDepth 20000 in
theorem dX6_looksAtAll_35 : decode cX6_looksAtAll 35 = .ok (.iconst 1, 1) := by decide +kernel
set_option maxRecDepth 20000 in
theorem dX6_looksAtAll_36 : decode cX6_looksAtAll 36 = .ok (.iload_n 2, 1) := by decide +kernel
set_option maxRecDepth 20000 in
theorem dX6_looksAtAll_37 : decode cX6_looksAtAll 37 = .ok (.bipush 9, 2) := by decide +kernel
set_option maxRecDepth 20000 in
theorem dX6_looksAtAll_39 : decode cX6_looksAtAll 39 = .ok (.irem, 1) := by decide +kernel
set_option maxRecDepth 20000 in
theorem dX6_looksAtAll_40 : decode cX6_looksAtAll 40 = .ok (.iadd, 1) := by decide +kernel
set_option maxRecDepth 20000 in
theorem dX6_looksAtAll_41 : decode cX6_looksAtAll 41 = .ok (.invokevirtual 89, 3) := by decide +kernel
set_option maxRecDepth 20000 in
theorem dX6_looksAtAll_44 : decode cX6_looksAtAll 44 = .ok (.iinc 2 1, 3) := by decide +kernel
set_option maxRecDepth 20000 in
theorem dX6_looksAtAll_47 : decode cX6_looksAtAll 47 = .ok (.goto (-29), 3) := by decide +kernel
set_option maxRecDepth 20000 in
theorem dX6_looksAtAll_50 : decode cX6_looksAtAll 50 = .ok (.iinc 1 1, 3) := by decide +kernel
set_option maxRecDepth 20000 in
theorem dX6_looksAtAll_53 : decode cX6_looksAtAll 53 = .ok (.goto (-47), 3) := by decide +kernel
set_option maxRecDepth 20000 in
theorem dX6_looksAtAll_56 : decode cX6_looksAtAll 56 = .ok (.return_, 1) := by decide +kernel
set_option maxRecDepth 20000 in
theorem dX6_waiting_0 : decode cX6_waiting 0 = .ok (.iconst 0, 1) := by decide +kernel
set_option maxRecDepth 20000 in
theorem dX6_waiting_1 : decode cX6_waiting 1 = .ok (.istore_n 1, 1) := by decide +kernel
set_option maxRecDepth 20000 in
theorem dX6_waiting_2 : decode cX6_waiting 2 = .ok (.iconst 0, 1) := by decide +kernel
set_option maxRecDepth 20000 in
theorem dX6_waiting_3 : decode cX6_waiting 3 = .ok (.istore_n 2, 1) := by decide +kernel
set_option maxRecDepth 20000 in
theorem dX6_waiting_4 : decode cX6_waiting 4 = .ok (.iload_n 2, 1) := by decide +kernel
set_option maxRecDepth 20000 in
theorem dX6_waiting_5 : decode cX6_waiting 5 = .ok (.aload_n 0, 1) := by decide +kernel
set_option maxRecDepth 20000 in
theorem dX6_waiting_6 : decode cX6_waiting 6 = .ok (.getfield 7, 3) := by decide +kernel
set_option maxRecDepth 20000 in
theorem dX6_waiting_9 : decode cX6_waiting 9 = .ok (.bipush 6, 2) := by decide +kernel
set_option maxRecDepth 20000 in
theorem dX6_waiting_11 : decode cX6_waiting 11 = .ok (.iaload, 1) := by decide +kernel
set_option maxRecDepth 20000 in
theorem dX6_waiting_12 : decode cX6_waiting 12 = .ok (.if_icmp .ge 20, 3) := by decide +kernel
set_option maxRecDepth 20000 in
theorem dX6_waiting_15 : decode cX6_waiting 15 = .ok (.iload_n 1, 1) := by decide +kernel
set_option maxRecDepth 20000 in
theorem dX6_waiting_16 : decode cX6_waiting 16 = .ok (.iconst 1, 1) := by decide +kernel
set_option maxRecDepth 20000 in
theorem dX6_waiting_17 : decode cX6_waiting 17 = .ok (.aload_n 0, 1) := by decide +kernel
set_option maxRecDepth 20000 in
theorem dX6_waiting_18 : decode cX6_waiting 18 = .ok (.iload_n 2, 1) := by decide +kernel
set_option maxRecDepth 20000 in
theorem dX6_waiting_19 : decode cX6_waiting 19 = .ok (.iconst 4, 1) := by decide +kernel
set_option maxRecDepth 20000 in
theorem dX6_waiting_20 : decode cX6_waiting 20 = .ok (.invokevirtual 40, 3) := by decide +kernel
set_option maxRecDepth 20000 in
theorem dX6_waiting_23 : decode cX6_waiting 23 = .ok (.isub, 1) := by decide +kernel
set_option maxRecDepth 20000 in
theorem dX6_waiting_24 : decode cX6_waiting 24 = .ok (.iadd, 1) := by decide +kernel
set_option maxRecDepth 20000 in
theorem dX6_waiting_25 : decode cX6_waiting 25 = .ok (.istore_n 1, 1) := by decide +kernel
set_option maxRecDepth 20000 in
theorem dX6_waiting_26 : decode cX6_waiting 26 = .ok (.iinc 2 1, 3) := by decide +kernel
set_option maxRecDepth 20000 in
theorem dX6_waiting_29 : decode cX6_waiting 29 = .ok (.goto (-25), 3) := by decide +kernel
set_option maxRecDepth 20000 in
theorem dX6_waiting_32 : decode cX6_waiting 32 = .ok (.iload_n 1, 1) := by decide +kernel
set_option maxRecDepth 20000 in
theorem dX6_waiting_33 : decode cX6_waiting 33 = .ok (.ireturn, 1) := by decide +kernel
set_option maxRecDepth 20000 in
theorem dX6_isOf_0 : decode cX6_isOf 0 = .ok (.aload_n 0, 1) := by decide +kernel
set_option maxRecDepth 20000 in
theorem dX6_isOf_1 : decode cX6_isOf 1 = .ok (.iload_n 1, 1) := by decide +kernel
set_option maxRecDepth 20000 in
theorem dX6_isOf_2 : decode cX6_isOf 2 = .ok (.iconst 4, 1) := by decide +kernel
set_option maxRecDepth 20000 in
theorem dX6_isOf_3 : decode cX6_isOf 3 = .ok (.invokevirtual 40, 3) := by decide +kernel
set_option maxRecDepth 20000 in
theorem dX6_isOf_6 : decode cX6_isOf 6 = .ok (.iconst 1, 1) := by decide +kernel
set_option maxRecDepth 20000 in
theorem dX6_isOf_7 : decode cX6_isOf 7 = .ok (.if_icmp .ne 38, 3) := by decide +kernel
set_option maxRecDepth 20000 in
theorem dX6_isOf_10 : decode cX6_isOf 10 = .ok (.aload_n 0, 1) := by decide +kernel
set_option maxRecDepth 20000 in
theorem dX6_isOf_11 : decode cX6_isOf 11 = .ok (.iload_n 1, 1) := by decide +kernel
set_option maxRecDepth 20000 in
theorem dX6_isOf_12 : decode cX6_isOf 12 = .ok (.iconst 2, 1) := by decide +kernel
set_option maxRecDepth 20000 in
theorem dX6_isOf_13 : decode cX6_isOf 13 = .ok (.invokevirtual 40, 3) := by decide +kernel
set_option maxRecDepth 20000 in
theorem dX6_isOf_16 : decode cX6_isOf 16 = .ok (.iload_n 2, 1) := by decide +kernel
set_option maxRecDepth 20000 in
theorem dX6_isOf_17 : decode cX6_isOf 17 = .ok (.if_icmp .ne 28, 3) := by decide +kernel
set_option maxRecDepth 20000 in
theorem dX6_isOf_20 : decode cX6_isOf 20 = .ok (.aload_n 0, 1) := by decide +kernel
set_option maxRecDepth 20000 in
theorem dX6_isOf_21 : decode cX6_isOf 21 = .ok (.iload_n 1, 1) := by decide +kernel
set_option maxRecDepth 20000 in
theorem dX6_isOf_22 : decode cX6_isOf 22 = .ok (.iconst 1, 1) := by decide +kernel
set_option maxRecDepth 20000 in
theorem dX6_isOf_23 : decode cX6_isOf 23 = .ok (.invokevirtual 40, 3) := by decide +kernel
set_option maxRecDepth 20000 in
theorem dX6_isOf_26 : decode cX6_isOf 26 = .ok (.iload_n 3, 1) := by decide +kernel
set_option maxRecDepth 20000 in
theorem dX6_isOf_27 : decode cX6_isOf 27 = .ok (.if_icmp .eq 14, 3) := by decide +kernel
set_option maxRecDepth 20000 in
theorem dX6_isOf_30 : decode cX6_isOf 30 = .ok (.aload_n 0, 1) := by decide +kernel
set_option maxRecDepth 20000 in
theorem dX6_isOf_31 : decode cX6_isOf 31 = .ok (.iload_n 1, 1) := by decide +kernel
set_option maxRecDepth 20000 in
theorem dX6_isOf_32 : decode cX6_isOf 32 = .ok (.iconst 1, 1) := by decide +kernel
set_option maxRecDepth 20000 in
theorem dX6_isOf_33 : decode cX6_isOf 33 = .ok (.invokevirtual 40, 3) := by decide +kernel
set_option maxRecDepth 20000 in
theorem dX6_isOf_36 : decode cX6_isOf 36 = .ok (.iload 4, 2) := by decide +kernel
set_option maxRecDepth 20000 in
theorem dX6_isOf_38 : decode cX6_isOf 38 = .ok (.if_icmp .ne 7, 3) := by decide +kernel
set_option maxRecDepth 20000 in
theorem dX6_isOf_41 : decode cX6_isOf 41 = .ok (.iconst 1, 1) := by decide +kernel
set_option maxRecDepth 20000 in
theorem dX6_isOf_42 : decode cX6_isOf 42 = .ok (.goto 4, 3) := by decide +kernel
set_option maxRecDepth 20000 in
theorem dX6_isOf_45 : decode cX6_isOf 45 = .ok (.iconst 0, 1) := by decide +kernel
set_option maxRecDepth 20000 in
theorem dX6_isOf_46 : decode cX6_isOf 46 = .ok (.ireturn, 1) := by decide +kernel
set_option maxRecDepth 20000 in
theorem dX6_canMerge_0 : decode cX6_canMerge 0 = .ok (.aload_n 0, 1) := by decide +kernel
set_option maxRecDepth 20000 in
theorem dX6_canMerge_1 : decode cX6_canMerge 1 = .ok (.iload_n 2, 1) := by decide +kernel
set_option maxRecDepth 20000 in
theorem dX6_canMerge_2 : decode cX6_canMerge 2 = .ok (.invokevirtual 50, 3) := by decide +kernel
set_option maxRecDepth 20000 in
theorem dX6_canMerge_5 : decode cX6_canMerge 5 = .ok (.aload_n 0, 1) := by decide +kernel
set_option maxRecDepth 20000 in
theorem dX6_canMerge_6 : decode cX6_canMerge 6 = .ok (.iload_n 3, 1) := by decide +kernel
set_option maxRecDepth 20000 in
theorem dX6_canMerge_7 : decode cX6_canMerge 7 = .ok (.invokevirtual 50, 3) := by decide +kernel
set_option maxRecDepth 20000 in
theorem dX6_canMerge_10 : decode cX6_canMerge 10 = .ok (.isub, 1) := by decide +kernel
set_option maxRecDepth 20000 in
theorem dX6_canMerge_11 : decode cX6_canMerge 11 = .ok (.istore 4, 2) := by decide +kernel
set_option maxRecDepth 20000 in
theorem dX6_canMerge_13 : decode cX6_canMerge 13 = .ok (.aload_n 0, 1) := by decide +kernel
set_option maxRecDepth 20000 in
theorem dX6_canMerge_14 : decode cX6_canMerge 14 = .ok (.iload_n 1, 1) := by decide +kernel
set_option maxRecDepth 20000 in
theorem dX6_canMerge_15 : decode cX6_canMerge 15 = .ok (.iload_n 2, 1) := by decide +kernel
set_option maxRecDepth 20000 in
theorem dX6_canMerge_16 : decode cX6_canMerge 16 = .ok (.invokevirtual 47, 3) := by decide +kernel
set_option maxRecDepth 20000 in
theorem dX6_canMerge_19 : decode cX6_canMerge 19 = .ok (.bipush (-5), 2) := by decide +kernel
set_option maxRecDepth 20000 in
theorem dX6_canMerge_21 : decode cX6_canMerge 21 = .ok (.if_icmp .ne 37, 3) := by decide +kernel
set_option maxRecDepth 20000 in
theorem dX6_canMerge_24 : decode cX6_canMerge 24 = .ok (.aload_n 0, 1) := by decide +kernel
set_option maxRecDepth 20000 in
theorem dX6_canMerge_25 : decode cX6_canMerge 25 = .ok (.iload_n 1, 1) := by decide +kernel
set_option maxRecDepth 20000 in
theorem dX6_canMerge_26 : decode cX6_canMerge 26 = .ok (.iload_n 3, 1) := by decide +kernel
set_option maxRecDepth 20000 in
theorem dX6_canMerge_27 : decode cX6_canMerge 27 = .ok (.invokevirtual 47, 3) := by decide +kernel
set_option maxRecDepth 20000 in
theorem dX6_canMerge_30 : decode cX6_canMerge 30 = .ok (.bipush (-5), 2) := by decide +kernel
set_option maxRecDepth 20000 in
theorem dX6_canMerge_32 : decode cX6_canMerge 32 = .ok (.if_icmp .ne 26, 3) := by decide +kernel
set_option maxRecDepth 20000 in
theorem dX6_canMerge_35 : decode cX6_canMerge 35 = .ok (.iload 4, 2) := by decide +kernel
set_option maxRecDepth 20000 in
theorem dX6_canMerge_37 : decode cX6_canMerge 37 = .ok (.aload_n 0, 1) := by decide +kernel
set_option maxRecDepth 20000 in
theorem dX6_canMerge_38 : decode cX6_canMerge 38 = .ok (.getfield 7, 3) := by decide +kernel
set_option maxRecDepth 20000 in
theorem dX6_canMerge_41 : decode cX6_canMerge 41 = .ok (.iconst 2, 1) := by decide +kernel
set_option maxRecDepth 20000 in
theorem dX6_canMerge_42 : decode cX6_canMerge 42 = .ok (.iaload, 1) := by decide +kernel
set_option maxRecDepth 20000 in
theorem dX6_canMerge_43 : decode cX6_canMerge 43 = .ok (.if_icmp .gt 15, 3) := by decide +kernel
set_option maxRecDepth 20000 in
theorem dX6_canMerge_46 : decode cX6_canMerge 46 = .ok (.iload 4, 2) := by decide +kernel
set_option maxRecDepth 20000 in
theorem dX6_canMerge_48 : decode cX6_canMerge 48 = .ok (.ineg, 1) := by decide +kernel
set_option maxRecDepth 20000 in
theorem dX6_canMerge_49 : decode cX6_canMerge 49 = .ok (.aload_n 0, 1) := by decide +kernel
set_option maxRecDepth 20000 in
theorem dX6_canMerge_50 : decode cX6_canMerge 50 = .ok (.getfield 7, 3) := by decide +kernel
set_option maxRecDepth 20000 in
theorem dX6_canMerge_53 : decode cX6_canMerge 53 = .ok (.iconst 2, 1) := by decide +kernel
set_option maxRecDepth 20000 in
theorem dX6_canMerge_54 : decode cX6_canMerge 54 = .ok (.iaload, 1) := by decide +kernel
set_option maxRecDepth 20000 in
theorem dX6_canMerge_55 : decode cX6_canMerge 55 = .ok (.if_icmp .le 5, 3) := by decide +kernel
set_option maxRecDepth 20000 in
theorem dX6_canMerge_58 : decode cX6_canMerge 58 = .ok (.iconst 0, 1) := by decide +kernel
set_option maxRecDepth 20000 in
theorem dX6_canMerge_59 : decode cX6_canMerge 59 = .ok (.ireturn, 1) := by decide +kernel
set_option maxRecDepth 20000 in
theorem dX6_canMerge_60 : decode cX6_canMerge 60 = .ok (.aload_n 0, 1) := by decide +kernel
set_option maxRecDepth 20000 in
theorem dX6_canMerge_61 : decode cX6_canMerge 61 = .ok (.iload_n 2, 1) := by decide +kernel
set_option maxRecDepth 20000 in
theorem dX6_canMerge_62 : decode cX6_canMerge 62 = .ok (.invokevirtual 50, 3) := by decide +kernel
set_option maxRecDepth 20000 in
theorem dX6_canMerge_65 : decode cX6_canMerge 65 = .ok (.aload_n 0, 1) := by decide +kernel
set_option maxRecDepth 20000 in
theorem dX6_canMerge_66 : decode cX6_canMerge 66 = .ok (.iload_n 3, 1) := by decide +kernel
set_option maxRecDepth 20000 in
theorem dX6_canMerge_67 : decode cX6_canMerge 67 = .ok (.invokevirtual 50, 3) := by decide +kernel
set_option maxRecDepth 20000 in
theorem dX6_canMerge_70 : decode cX6_canMerge 70 = .ok (.invokestatic 54, 3) := by decide +kernel
set_option maxRecDepth 20000 in
theorem dX6_canMerge_73 : decode cX6_canMerge 73 = .ok (.istore 5, 2) := by decide +kernel
set_option maxRecDepth 20000 in
theorem dX6_canMerge_75 : decode cX6_canMerge 75 = .ok (.iconst 0, 1) := by decide +kernel
set_option maxRecDepth 20000 in
theorem dX6_canMerge_76 : decode cX6_canMerge 76 = .ok (.istore 6, 2) := by decide +kernel
set_option maxRecDepth 20000 in
theorem dX6_canMerge_78 : decode cX6_canMerge 78 = .ok (.iconst 1, 1) := by decide +kernel
set_option maxRecDepth 20000 in
theorem dX6_canMerge_79 : decode cX6_canMerge 79 = .ok (.istore 7, 2) := by decide +kernel
set_option maxRecDepth 20000 in
theorem dX6_canMerge_81 : decode cX6_canMerge 81 = .ok (.iconst 0, 1) := by decide +kernel
set_option maxRecDepth 20000 in
theorem dX6_canMerge_82 : decode cX6_canMerge 82 = .ok (.istore 8, 2) := by decide +kernel
set_option maxRecDepth 20000 in
theorem dX6_canMerge_84 : decode cX6_canMerge 84 = .ok (.iload 8, 2) := by decide +kernel
set_option maxRecDepth 20000 in
theorem dX6_canMerge_86 : decode cX6_canMerge 86 = .ok (.aload_n 0, 1) := by decide +kernel
set_option maxRecDepth 20000 in
theorem dX6_canMerge_87 : decode cX6_canMerge 87 = .ok (.getfield 7, 3) := by decide +kernel
set_option maxRecDepth 20000 in
theorem dX6_canMerge_90 : decode cX6_canMerge 90 = .ok (.bipush 6, 2) := by decide +kernel
set_option maxRecDepth 20000 in
theorem dX6_canMerge_92 : decode cX6_canMerge 92 = .ok (.iaload, 1) := by decide +kernel
set_option maxRecDepth 20000 in
theorem dX6_canMerge_93 : decode cX6_canMerge 93 = .ok (.if_icmp .ge 65, 3) := by decide +kernel
set_option maxRecDepth 20000 in
theorem dX6_canMerge_96 : decode cX6_canMerge 96 = .ok (.aload_n 0, 1) := by decide +kernel
set_option maxRecDepth 20000 in
theorem dX6_canMerge_97 : decode cX6_canMerge 97 = .ok (.iload 8, 2) := by decide +kernel
set_option maxRecDepth 20000 in
theorem dX6_canMerge_99 : decode cX6_canMerge 99 = .ok (.iload_n 1, 1) := by decide +kernel
set_option maxRecDepth 20000 in
theorem dX6_canMerge_100 : decode cX6_canMerge 100 = .ok (.iload_n 2, 1) := by decide +kernel
set_option maxRecDepth 20000 in
theorem dX6_canMerge_101 : decode cX6_canMerge 101 = .ok (.iload_n 3, 1) := by decide +kernel
set_option maxRecDepth 20000 in
theorem dX6_canMerge_102 : decode cX6_canMerge 102 = .ok (.invokevirtual 92, 3) := by decide +kernel
set_option maxRecDepth 20000 in
theorem dX6_canMerge_105 : decode cX6_canMerge 105 = .ok (.ifCond .eq 47, 3) := by decide +kernel
set_option maxRecDepth 20000 in
theorem dX6_canMerge_108 : decode cX6_canMerge 108 = .ok (.iinc 6 1, 3) := by decide +kernel
set_option maxRecDepth 20000 in
theorem dX6_canMerge_111 : decode cX6_canMerge 111 = .ok (.iload 7, 2) := by decide +kernel
set_option maxRecDepth 20000 in
theorem dX6_canMerge_113 : decode cX6_canMerge 113 = .ok (.ifCond .eq 36, 3) := by decide +kernel
set_option maxRecDepth 20000 in
theorem dX6_canMerge_116 : decode cX6_canMerge 116 = .ok (.aload_n 0, 1) := by decide +kernel
set_option maxRecDepth 20000 in
theorem dX6_canMerge_117 : decode cX6_canMerge 117 = .ok (.iload 5, 2) := by decide +kernel
set_option maxRecDepth 20000 in
theorem dX6_canMerge_119 : decode cX6_canMerge 119 = .ok (.aload_n 0, 1) := by decide +kernel
set_option maxRecDepth 20000 in
theorem dX6_canMerge_120 : decode cX6_canMerge 120 = .ok (.iload 8, 2) := by decide +kernel
set_option maxRecDepth 20000 in
theorem dX6_canMerge_122 : decode cX6_canMerge 122 = .ok (.iconst 1, 1) := by decide +kernel
set_option maxRecDepth 20000 in
theorem dX6_canMerge_123 : decode cX6_canMerge 123 = .ok (.invokevirtual 40, 3) := by decide +kernel
set_option maxRecDepth 20000 in
theorem dX6_canMerge_126 : decode cX6_canMerge 126 = .ok (.aload_n 0, 1) := by decide +kernel
set_option maxRecDepth 20000 in
theorem dX6_canMerge_127 : decode cX6_canMerge 127 = .ok (.iload 8, 2) := by decide +kernel
set_option maxRecDepth 20000 in
theorem dX6_canMerge_129 : decode cX6_canMerge 129 = .ok (.iconst 3, 1) := by decide +kernel
set_option maxRecDepth 20000 in
theorem dX6_canMerge_130 : decode cX6_canMerge 130 = .ok (.invokevirtual 40, 3) := by decide +kernel
set_option maxRecDepth 20000 in
theorem dX6_canMerge_133 : decode cX6_canMerge 133 = .ok (.invokevirtual 71, 3) := by decide +kernel
set_option maxRecDepth 20000 in
theorem dX6_canMerge_136 : decode cX6_canMerge 136 = .ok (.aload_n 0, 1) := by decide +kernel
set_option maxRecDepth 20000 in
theorem dX6_canMerge_137 : decode cX6_canMerge 137 = .ok (.getfield 7, 3) := by decide +kernel
set_option maxRecDepth 20000 in
theorem dX6_canMerge_140 : decode cX6_canMerge 140 = .ok (.iconst 3, 1) := by decide +kernel
set_option maxRecDepth 20000 in
theorem dX6_canMerge_141 : decode cX6_canMerge 141 = .ok (.iaload, 1) := by decide +kernel
set_option maxRecDepth 20000 in
theorem dX6_canMerge_142 : decode cX6_canMerge 142 = .ok (.if_icmp .gt 7, 3) := by decide +kernel
set_option maxRecDepth 20000 in
theorem dX6_canMerge_145 : decode cX6_canMerge 145 = .ok (.iconst 1, 1) := by decide +kernel
set_option maxRecDepth 20000 in
theorem dX6_canMerge_146 : decode cX6_canMerge 146 = .ok (.goto 4, 3) := by decide +kernel
set_option maxRecDepth 20000 in
theorem dX6_canMerge_149 : decode cX6_canMerge 149 = .ok (.iconst 0, 1) := by decide +kernel
set_option maxRecDepth 20000 in
theorem dX6_canMerge_150 : decode cX6_canMerge 150 = .ok (.istore 7, 2) := by decide +kernel
set_option maxRecDepth 20000 in
theorem dX6_canMerge_152 : decode cX6_canMerge 152 = .ok (.iinc 8 1, 3) := by decide +kernel
set_option maxRecDepth 20000 in
theorem dX6_canMerge_155 : decode cX6_canMerge 155 = .ok (.goto (-71), 3) := by decide +kernel
set_option maxRecDepth 20000 in
theorem dX6_canMerge_158 : decode cX6_canMerge 158 = .ok (.iload 7, 2) := by decide +kernel
set_option maxRecDepth 20000 in
theorem dX6_canMerge_160 : decode cX6_canMerge 160 = .ok (.ifCond .eq 18, 3) := by decide +kernel
set_option maxRecDepth 20000 in
theorem dX6_canMerge_163 : decode cX6_canMerge 163 = .ok (.iload 6, 2) := by decide +kernel
set_option maxRecDepth 20000 in
theorem dX6_canMerge_165 : decode cX6_canMerge 165 = .ok (.aload_n 0, 1) := by decide +kernel
set_option maxRecDepth 20000 in
theorem dX6_canMerge_166 : decode cX6_canMerge 166 = .ok (.getfield 7, 3) := by decide +kernel
set_option maxRecDepth 20000 in
theorem dX6_canMerge_169 : decode cX6_canMerge 169 = .ok (.iconst 1, 1) := by decide +kernel
set_option maxRecDepth 20000 in
theorem dX6_canMerge_170 : decode cX6_canMerge 170 = .ok (.iaload, 1) := by decide +kernel
set_option maxRecDepth 20000 in
theorem dX6_canMerge_171 : decode cX6_canMerge 171 = .ok (.if_icmp .gt 7, 3) := by decide +kernel
set_option maxRecDepth 20000 in
theorem dX6_canMerge_174 : decode cX6_canMerge 174 = .ok (.iconst 1, 1) := by decide +kernel
set_option maxRecDepth 20000 in
theorem dX6_canMerge_175 : decode cX6_canMerge 175 = .ok (.goto 4, 3) := by decide +kernel
set_option maxRecDepth 20000 in
theorem dX6_canMerge_178 : decode cX6_canMerge 178 = .ok (.iconst 0, 1) := by decide +kernel
set_option maxRecDepth 20000 in
theorem dX6_canMerge_179 : decode cX6_canMerge 179 = .ok (.ireturn, 1) := by decide +kernel
set_option maxRecDepth 20000 in
theorem dX6_laysRides_0 : decode cX6_laysRides 0 = .ok (.iconst 0, 1) := by decide +kernel
set_option maxRecDepth 20000 in
theorem dX6_laysRides_1 : decode cX6_laysRides 1 = .ok (.istore 5, 2) := by decide +kernel
set_option maxRecDepth 20000 in
theorem dX6_laysRides_3 : decode cX6_laysRides 3 = .ok (.aload_n 0, 1) := by decide +kernel
set_option maxRecDepth 20000 in
theorem dX6_laysRides_4 : decode cX6_laysRides 4 = .ok (.iconst 0, 1) := by decide +kernel
set_option maxRecDepth 20000 in
theorem dX6_laysRides_5 : decode cX6_laysRides 5 = .ok (.putfield 95, 3) := by decide +kernel
set_option maxRecDepth 20000 in
theorem dX6_laysRides_8 : decode cX6_laysRides 8 = .ok (.iconst 0, 1) := by decide +kernel
set_option maxRecDepth 20000 in
theorem dX6_laysRides_9 : decode cX6_laysRides 9 = .ok (.istore 6, 2) := by decide +kernel
set_option maxRecDepth 20000 in
theorem dX6_laysRides_11 : decode cX6_laysRides 11 = .ok (.iload 6, 2) := by decide +kernel
set_option maxRecDepth 20000 in
theorem dX6_laysRides_13 : decode cX6_laysRides 13 = .ok (.aload_n 0, 1) := by decide +kernel
set_option maxRecDepth 20000 in
theorem dX6_laysRides_14 : decode cX6_laysRides 14 = .ok (.getfield 7, 3) := by decide +kernel
set_option maxRecDepth 20000 in
theorem dX6_laysRides_17 : decode cX6_laysRides 17 = .ok (.bipush 6, 2) := by decide +kernel
set_option maxRecDepth 20000 in
theorem dX6_laysRides_19 : decode cX6_laysRides 19 = .ok (.iaload, 1) := by decide +kernel
set_option maxRecDepth 20000 in
theorem dX6_laysRides_20 : decode cX6_laysRides 20 = .ok (.if_icmp .ge 17, 3) := by decide +kernel
set_option maxRecDepth 20000 in
theorem dX6_laysRides_23 : decode cX6_laysRides 23 = .ok (.aload_n 0, 1) := by decide +kernel
set_option maxRecDepth 20000 in
theorem dX6_laysRides_24 : decode cX6_laysRides 24 = .ok (.getfield 25, 3) := by decide +kernel
set_option maxRecDepth 20000 in
theorem dX6_laysRides_27 : decode cX6_laysRides 27 = .ok (.iload 6, 2) := by decide +kernel
set_option maxRecDepth 20000 in
theorem dX6_laysRides_29 : decode cX6_laysRides 29 = .ok (.iconst 0, 1) := by decide +kernel
set_option maxRecDepth 20000 in
theorem dX6_laysRides_30 : decode cX6_laysRides 30 = .ok (.bastore, 1) := by decide +kernel
set_option maxRecDepth 20000 in
theorem dX6_laysRides_31 : decode cX6_laysRides 31 = .ok (.iinc 6 1, 3) := by decide +kernel
set_option maxRecDepth 20000 in
theorem dX6_laysRides_34 : decode cX6_laysRides 34 = .ok (.goto (-23), 3) := by decide +kernel
set_option maxRecDepth 20000 in
theorem dX6_laysRides_37 : decode cX6_laysRides 37 = .ok (.bipush 9, 2) := by decide +kernel
set_option maxRecDepth 20000 in
theorem dX6_laysRides_39 : decode cX6_laysRides 39 = .ok (.istore 6, 2) := by decide +kernel
set_option maxRecDepth 20000 in
theorem dX6_laysRides_41 : decode cX6_laysRides 41 = .ok (.iload 6, 2) := by decide +kernel
set_option maxRecDepth 20000 in
theorem dX6_laysRides_43 : decode cX6_laysRides 43 = .ok (.ifCond .le 132, 3) := by decide +kernel
set_option maxRecDepth 20000 in
theorem dX6_laysRides_46 : decode cX6_laysRides 46 = .ok (.iconst 0, 1) := by decide +kernel
set_option maxRecDepth 20000 in
theorem dX6_laysRides_47 : decode cX6_laysRides 47 = .ok (.istore 7, 2) := by decide +kernel
set_option maxRecDepth 20000 in
theorem dX6_laysRides_49 : decode cX6_laysRides 49 = .ok (.iload 7, 2) := by decide +kernel
set_option maxRecDepth 20000 in
theorem dX6_laysRides_51 : decode cX6_laysRides 51 = .ok (.aload_n 0, 1) := by decide +kernel
set_option maxRecDepth 20000 in
theorem dX6_laysRides_52 : decode cX6_laysRides 52 = .ok (.getfield 7, 3) := by decide +kernel
set_option maxRecDepth 20000 in
theorem dX6_laysRides_55 : decode cX6_laysRides 55 = .ok (.bipush 6, 2) := by decide +kernel
set_option maxRecDepth 20000 in
theorem dX6_laysRides_57 : decode cX6_laysRides 57 = .ok (.iaload, 1) := by decide +kernel
set_option maxRecDepth 20000 in
theorem dX6_laysRides_58 : decode cX6_laysRides 58 = .ok (.if_icmp .ge 111, 3) := by decide +kernel
set_option maxRecDepth 20000 in
theorem dX6_laysRides_61 : decode cX6_laysRides 61 = .ok (.aload_n 0, 1) := by decide +kernel
set_option maxRecDepth 20000 in
theorem dX6_laysRides_62 : decode cX6_laysRides 62 = .ok (.iload 7, 2) := by decide +kernel
set_option maxRecDepth 20000 in
theorem dX6_laysRides_64 : decode cX6_laysRides 64 = .ok (.iload_n 1, 1) := by decide +kernel
set_option maxRecDepth 20000 in
theorem dX6_laysRides_65 : decode cX6_laysRides 65 = .ok (.iload_n 2, 1) := by decide +kernel
set_option maxRecDepth 20000 in
theorem dX6_laysRides_66 : decode cX6_laysRides 66 = .ok (.iload_n 3, 1) := by decide +kernel
set_option maxRecDepth 20000 in
theorem dX6_laysRides_67 : decode cX6_laysRides 67 = .ok (.invokevirtual 92, 3) := by decide +kernel
set_option maxRecDepth 20000 in
theorem dX6_laysRides_70 : decode cX6_laysRides 70 = .ok (.ifCond .eq 19, 3) := by decide +kernel
set_option maxRecDepth 20000 in
theorem dX6_laysRides_73 : decode cX6_laysRides 73 = .ok (.aload_n 0, 1) := by decide +kernel
set_option maxRecDepth 20000 in
theorem dX6_laysRides_74 : decode cX6_laysRides 74 = .ok (.iload 7, 2) := by decide +kernel
set_option maxRecDepth 20000 in
theorem dX6_laysRides_76 : decode cX6_laysRides 76 = .ok (.iconst 3, 1) := by decide +kernel
set_option maxRecDepth 20000 in
theorem dX6_laysRides_77 : decode cX6_laysRides 77 = .ok (.invokevirtual 40, 3) := by decide +kernel
set_option maxRecDepth 20000 in
theorem dX6_laysRides_80 : decode cX6_laysRides 80 = .ok (.iload 6, 2) := by decide +kernel
set_option maxRecDepth 20000 in
theorem dX6_laysRides_82 : decode cX6_laysRides 82 = .ok (.if_icmp .ne 7, 3) := by decide +kernel
set_option maxRecDepth 20000 in
theorem dX6_laysRides_85 : decode cX6_laysRides 85 = .ok (.iconst 1, 1) := by decide +kernel
set_option maxRecDepth 20000 in
theorem dX6_laysRides_86 : decode cX6_laysRides 86 = .ok (.goto 4, 3) := by decide +kernel
set_option maxRecDepth 20000 in
theorem dX6_laysRides_89 : decode cX6_laysRides 89 = .ok (.iconst 0, 1) := by decide +kernel
set_option maxRecDepth 20000 in
theorem dX6_laysRides_90 : decode cX6_laysRides 90 = .ok (.istore 8, 2) := by decide +kernel
set_option maxRecDepth 20000 in
theorem dX6_laysRides_92 : decode cX6_laysRides 92 = .ok (.iload 8, 2) := by decide +kernel
set_option maxRecDepth 20000 in
theorem dX6_laysRides_94 : decode cX6_laysRides 94 = .ok (.ifCond .eq 69, 3) := by decide +kernel
set_option maxRecDepth 20000 in
theorem dX6_laysRides_97 : decode cX6_laysRides 97 = .ok (.iload 5, 2) := by decide +kernel
set_option maxRecDepth 20000 in
theorem dX6_laysRides_99 : decode cX6_laysRides 99 = .ok (.aload_n 0, 1) := by decide +kernel
set_option maxRecDepth 20000 in
theorem dX6_laysRides_100 : decode cX6_laysRides 100 = .ok (.getfield 7, 3) := by decide +kernel
set_option maxRecDepth 20000 in
theorem dX6_laysRides_103 : decode cX6_laysRides 103 = .ok (.iconst 1, 1) := by decide +kernel
set_option maxRecDepth 20000 in
theorem dX6_laysRides_104 : decode cX6_laysRides 104 = .ok (.iaload, 1) := by decide +kernel
set_option maxRecDepth 20000 in
theorem dX6_laysRides_105 : decode cX6_laysRides 105 = .ok (.if_icmp .ge 58, 3) := by decide +kernel
set_option maxRecDepth 20000 in
theorem dX6_laysRides_108 : decode cX6_laysRides 108 = .ok (.aload_n 0, 1) := by decide +kernel
set_option maxRecDepth 20000 in
theorem dX6_laysRides_109 : decode cX6_laysRides 109 = .ok (.iload 4, 2) := by decide +kernel
set_option maxRecDepth 20000 in
theorem dX6_laysRides_111 : decode cX6_laysRides 111 = .ok (.aload_n 0, 1) := by decide +kernel
set_option maxRecDepth 20000 in
theorem dX6_laysRides_112 : decode cX6_laysRides 112 = .ok (.iload 7, 2) := by decide +kernel
set_option maxRecDepth 20000 in
theorem dX6_laysRides_114 : decode cX6_laysRides 114 = .ok (.iconst 1, 1) := by decide +kernel
set_option maxRecDepth 20000 in
theorem dX6_laysRides_115 : decode cX6_laysRides 115 = .ok (.invokevirtual 40, 3) := by decide +kernel
set_option maxRecDepth 20000 in
theorem dX6_laysRides_118 : decode cX6_laysRides 118 = .ok (.iload 6, 2) := by decide +kernel
set_option maxRecDepth 20000 in
theorem dX6_laysRides_120 : decode cX6_laysRides 120 = .ok (.invokevirtual 71, 3) := by decide +kernel
set_option maxRecDepth 20000 in
theorem dX6_laysRides_123 : decode cX6_laysRides 123 = .ok (.aload_n 0, 1) := by decide +kernel
set_option maxRecDepth 20000 in
theorem dX6_laysRides_124 : decode cX6_laysRides 124 = .ok (.getfield 7, 3) := by decide +kernel
set_option maxRecDepth 20000 in
theorem dX6_laysRides_127 : decode cX6_laysRides 127 = .ok (.iconst 3, 1) := by decide +kernel
set_option maxRecDepth 20000 in
theorem dX6_laysRides_128 : decode cX6_laysRides 128 = .ok (.iaload, 1) := by decide +kernel
set_option maxRecDepth 20000 in
theorem dX6_laysRides_129 : decode cX6_laysRides 129 = .ok (.if_icmp .gt 34, 3) := by decide +kernel
set_option maxRecDepth 20000 in
theorem dX6_laysRides_132 : decode cX6_laysRides 132 = .ok (.aload_n 0, 1) := by decide +kernel
set_option maxRecDepth 20000 in
theorem dX6_laysRides_133 : decode cX6_laysRides 133 = .ok (.getfield 25, 3) := by decide +kernel
set_option maxRecDepth 20000 in
theorem dX6_laysRides_136 : decode cX6_laysRides 136 = .ok (.iload 7, 2) := by decide +kernel
set_option maxRecDepth 20000 in
theorem dX6_laysRides_138 : decode cX6_laysRides 138 = .ok (.iconst 1, 1) := by decide +kernel
set_option maxRecDepth 20000 in
theorem dX6_laysRides_139 : decode cX6_laysRides 139 = .ok (.bastore, 1) := by decide +kernel
set_option maxRecDepth 20000 in
theorem dX6_laysRides_140 : decode cX6_laysRides 140 = .ok (.iinc 5 1, 3) := by decide +kernel
set_option maxRecDepth 20000 in
theorem dX6_laysRides_143 : decode cX6_laysRides 143 = .ok (.aload_n 0, 1) := by decide +kernel
set_option maxRecDepth 20000 in
theorem dX6_laysRides_144 : decode cX6_laysRides 144 = .ok (.aload_n 0, 1) := by decide +kernel
set_option maxRecDepth 20000 in
theorem dX6_laysRides_145 : decode cX6_laysRides 145 = .ok (.getfield 95, 3) := by decide +kernel
set_option maxRecDepth 20000 in
theorem dX6_laysRides_148 : decode cX6_laysRides 148 = .ok (.ifCond .ne 8, 3) := by decide +kernel
set_option maxRecDepth 20000 in
theorem dX6_laysRides_151 : decode cX6_laysRides 151 = .ok (.iload 6, 2) := by decide +kernel
set_option maxRecDepth 20000 in
theorem dX6_laysRides_153 : decode cX6_laysRides 153 = .ok (.goto 7, 3) := by decide +kernel
set_option maxRecDepth 20000 in
theorem dX6_laysRides_156 : decode cX6_laysRides 156 = .ok (.aload_n 0, 1) := by decide +kernel
set_option maxRecDepth 20000 in
theorem dX6_laysRides_157 : decode cX6_laysRides 157 = .ok (.getfield 95, 3) := by decide +kernel
set_option maxRecDepth 20000 in
theorem dX6_laysRides_160 : decode cX6_laysRides 160 = .ok (.putfield 95, 3) := by decide +kernel
set_option maxRecDepth 20000 in
theorem dX6_laysRides_163 : decode cX6_laysRides 163 = .ok (.iinc 7 1, 3) := by decide +kernel
set_option maxRecDepth 20000 in
theorem dX6_laysRides_166 : decode cX6_laysRides 166 = .ok (.goto (-117), 3) := by decide +kernel
set_option maxRecDepth 20000 in
theorem dX6_laysRides_169 : decode cX6_laysRides 169 = .ok (.iinc 6 (-1), 3) := by decide +kernel
set_option maxRecDepth 20000 in
theorem dX6_laysRides_172 : decode cX6_laysRides 172 = .ok (.goto (-131), 3) := by decide +kernel
set_option maxRecDepth 20000 in
theorem dX6_laysRides_175 : decode cX6_laysRides 175 = .ok (.return_, 1) := by decide +kernel
set_option maxRecDepth 20000 in
theorem dX6_cost_0 : decode cX6_cost 0 = .ok (.aload_n 0, 1) := by decide +kernel
set_option maxRecDepth 20000 in
theorem dX6_cost_1 : decode cX6_cost 1 = .ok (.getfield 95, 3) := by decide +kernel
set_option maxRecDepth 20000 in
theorem dX6_cost_4 : decode cX6_cost 4 = .ok (.ifCond .ne 7, 3) := by decide +kernel
set_option maxRecDepth 20000 in
theorem dX6_cost_7 : decode cX6_cost 7 = .ok (.iconst 0, 1) := by decide +kernel
set_option maxRecDepth 20000 in
theorem dX6_cost_8 : decode cX6_cost 8 = .ok (.goto 12, 3) := by decide +kernel
set_option maxRecDepth 20000 in
theorem dX6_cost_11 : decode cX6_cost 11 = .ok (.bipush 20, 2) := by decide +kernel
set_option maxRecDepth 20000 in
theorem dX6_cost_13 : decode cX6_cost 13 = .ok (.iconst 2, 1) := by decide +kernel
set_option maxRecDepth 20000 in
theorem dX6_cost_14 : decode cX6_cost 14 = .ok (.aload_n 0, 1) := by decide +kernel
set_option maxRecDepth 20000 in
theorem dX6_cost_15 : decode cX6_cost 15 = .ok (.getfield 95, 3) := by decide +kernel
set_option maxRecDepth 20000 in
theorem dX6_cost_18 : decode cX6_cost 18 = .ok (.imul, 1) := by decide +kernel
set_option maxRecDepth 20000 in
theorem dX6_cost_19 : decode cX6_cost 19 = .ok (.iadd, 1) := by decide +kernel
set_option maxRecDepth 20000 in
theorem dX6_cost_20 : decode cX6_cost 20 = .ok (.ireturn, 1) := by decide +kernel
set_option maxRecDepth 20000 in
theorem dX6_costOf_0 : decode cX6_costOf 0 = .ok (.aload_n 0, 1) := by decide +kernel
set_option maxRecDepth 20000 in
theorem dX6_costOf_1 : decode cX6_costOf 1 = .ok (.iload_n 1, 1) := by decide +kernel
set_option maxRecDepth 20000 in
theorem dX6_costOf_2 : decode cX6_costOf 2 = .ok (.iload_n 2, 1) := by decide +kernel
set_option maxRecDepth 20000 in
theorem dX6_costOf_3 : decode cX6_costOf 3 = .ok (.invokevirtual 47, 3) := by decide +kernel
set_option maxRecDepth 20000 in
theorem dX6_costOf_6 : decode cX6_costOf 6 = .ok (.istore_n 3, 1) := by decide +kernel
set_option maxRecDepth 20000 in
theorem dX6_costOf_7 : decode cX6_costOf 7 = .ok (.aload_n 0, 1) := by decide +kernel
set_option maxRecDepth 20000 in
theorem dX6_costOf_8 : decode cX6_costOf 8 = .ok (.iload_n 1, 1) := by decide +kernel
set_option maxRecDepth 20000 in
theorem dX6_costOf_9 : decode cX6_costOf 9 = .ok (.iload_n 2, 1) := by decide +kernel
set_option maxRecDepth 20000 in
theorem dX6_costOf_10 : decode cX6_costOf 10 = .ok (.iload_n 3, 1) := by decide +kernel
set_option maxRecDepth 20000 in
theorem dX6_costOf_11 : decode cX6_costOf 11 = .ok (.bipush (-5), 2) := by decide +kernel
set_option maxRecDepth 20000 in
theorem dX6_costOf_13 : decode cX6_costOf 13 = .ok (.if_icmp .ne 7, 3) := by decide +kernel
set_option maxRecDepth 20000 in
theorem dX6_costOf_16 : decode cX6_costOf 16 = .ok (.iload_n 2, 1) := by decide +kernel
set_option maxRecDepth 20000 in
theorem dX6_costOf_17 : decode cX6_costOf 17 = .ok (.goto 4, 3) := by decide +kernel
set_option maxRecDepth 20000 in
theorem dX6_costOf_20 : decode cX6_costOf 20 = .ok (.iload_n 3, 1) := by decide +kernel
set_option maxRecDepth 20000 in
theorem dX6_costOf_21 : decode cX6_costOf 21 = .ok (.aload_n 0, 1) := by decide +kernel
set_option maxRecDepth 20000 in
theorem dX6_costOf_22 : decode cX6_costOf 22 = .ok (.iload_n 1, 1) := by decide +kernel
set_option maxRecDepth 20000 in
theorem dX6_costOf_23 : decode cX6_costOf 23 = .ok (.iload_n 2, 1) := by decide +kernel
set_option maxRecDepth 20000 in
theorem dX6_costOf_24 : decode cX6_costOf 24 = .ok (.invokevirtual 68, 3) := by decide +kernel
set_option maxRecDepth 20000 in
theorem dX6_costOf_27 : decode cX6_costOf 27 = .ok (.invokevirtual 98, 3) := by decide +kernel
set_option maxRecDepth 20000 in
theorem dX6_costOf_30 : decode cX6_costOf 30 = .ok (.aload_n 0, 1) := by decide +kernel
set_option maxRecDepth 20000 in
theorem dX6_costOf_31 : decode cX6_costOf 31 = .ok (.invokevirtual 102, 3) := by decide +kernel
set_option maxRecDepth 20000 in
theorem dX6_costOf_34 : decode cX6_costOf 34 = .ok (.ireturn, 1) := by decide +kernel
set_option maxRecDepth 20000 in
theorem dX6_isAway_0 : decode cX6_isAway 0 = .ok (.aload_n 0, 1) := by decide +kernel
set_option maxRecDepth 20000 in
theorem dX6_isAway_1 : decode cX6_isAway 1 = .ok (.iload_n 1, 1) := by decide +kernel
set_option maxRecDepth 20000 in
theorem dX6_isAway_2 : decode cX6_isAway 2 = .ok (.iload_n 2, 1) := by decide +kernel
set_option maxRecDepth 20000 in
theorem dX6_isAway_3 : decode cX6_isAway 3 = .ok (.invokevirtual 47, 3) := by decide +kernel
set_option maxRecDepth 20000 in
theorem dX6_isAway_6 : decode cX6_isAway 6 = .ok (.istore_n 3, 1) := by decide +kernel
set_option maxRecDepth 20000 in
theorem dX6_isAway_7 : decode cX6_isAway 7 = .ok (.iload_n 3, 1) := by decide +kernel
set_option maxRecDepth 20000 in
theorem dX6_isAway_8 : decode cX6_isAway 8 = .ok (.bipush (-5), 2) := by decide +kernel
set_option maxRecDepth 20000 in
theorem dX6_isAway_10 : decode cX6_isAway 10 = .ok (.if_icmp .eq 38, 3) := by decide +kernel
set_option maxRecDepth 20000 in
theorem dX6_isAway_13 : decode cX6_isAway 13 = .ok (.aload_n 0, 1) := by decide +kernel
set_option maxRecDepth 20000 in
theorem dX6_isAway_14 : decode cX6_isAway 14 = .ok (.iload_n 3, 1) := by decide +kernel
set_option maxRecDepth 20000 in
theorem dX6_isAway_15 : decode cX6_isAway 15 = .ok (.invokevirtual 50, 3) := by decide +kernel
set_option maxRecDepth 20000 in
theorem dX6_isAway_18 : decode cX6_isAway 18 = .ok (.aload_n 0, 1) := by decide +kernel
set_option maxRecDepth 20000 in
theorem dX6_isAway_19 : decode cX6_isAway 19 = .ok (.iload_n 2, 1) := by decide +kernel
set_option maxRecDepth 20000 in
theorem dX6_isAway_20 : decode cX6_isAway 20 = .ok (.invokevirtual 50, 3) := by decide +kernel
set_option maxRecDepth 20000 in
theorem dX6_isAway_23 : decode cX6_isAway 23 = .ok (.if_icmp .gt 21, 3) := by decide +kernel
set_option maxRecDepth 20000 in
theorem dX6_isAway_26 : decode cX6_isAway 26 = .ok (.aload_n 0, 1) := by decide +kernel
set_option maxRecDepth 20000 in
theorem dX6_isAway_27 : decode cX6_isAway 27 = .ok (.iload_n 3, 1) := by decide +kernel
set_option maxRecDepth 20000 in
theorem dX6_isAway_28 : decode cX6_isAway 28 = .ok (.invokevirtual 50, 3) := by decide +kernel
set_option maxRecDepth 20000 in
theorem dX6_isAway_31 : decode cX6_isAway 31 = .ok (.aload_n 0, 1) := by decide +kernel
set_option maxRecDepth 20000 in
theorem dX6_isAway_32 : decode cX6_isAway 32 = .ok (.iload_n 2, 1) := by decide +kernel
set_option maxRecDepth 20000 in
theorem dX6_isAway_33 : decode cX6_isAway 33 = .ok (.invokevirtual 50, 3) := by decide +kernel
set_option maxRecDepth 20000 in
theorem dX6_isAway_36 : decode cX6_isAway 36 = .ok (.if_icmp .ne 12, 3) := by decide +kernel
set_option maxRecDepth 20000 in
theorem dX6_isAway_39 : decode cX6_isAway 39 = .ok (.iload_n 3, 1) := by decide +kernel
set_option maxRecDepth 20000 in
theorem dX6_isAway_40 : decode cX6_isAway 40 = .ok (.iload_n 2, 1) := by decide +kernel
set_option maxRecDepth 20000 in
theorem dX6_isAway_41 : decode cX6_isAway 41 = .ok (.if_icmp .le 7, 3) := by decide +kernel
set_option maxRecDepth 20000 in
theorem dX6_isAway_44 : decode cX6_isAway 44 = .ok (.iconst 1, 1) := by decide +kernel
set_option maxRecDepth 20000 in
theorem dX6_isAway_45 : decode cX6_isAway 45 = .ok (.goto 4, 3) := by decide +kernel
set_option maxRecDepth 20000 in
theorem dX6_isAway_48 : decode cX6_isAway 48 = .ok (.iconst 0, 1) := by decide +kernel
set_option maxRecDepth 20000 in
theorem dX6_isAway_49 : decode cX6_isAway 49 = .ok (.ireturn, 1) := by decide +kernel
set_option maxRecDepth 20000 in
theorem dX6_bringsHome_0 : decode cX6_bringsHome 0 = .ok (.iconst 0, 1) := by decide +kernel
set_option maxRecDepth 20000 in
theorem dX6_bringsHome_1 : decode cX6_bringsHome 1 = .ok (.istore_n 3, 1) := by decide +kernel
set_option maxRecDepth 20000 in
theorem dX6_bringsHome_2 : decode cX6_bringsHome 2 = .ok (.aload_n 0, 1) := by decide +kernel
set_option maxRecDepth 20000 in
theorem dX6_bringsHome_3 : decode cX6_bringsHome 3 = .ok (.getfield 7, 3) := by decide +kernel
set_option maxRecDepth 20000 in
theorem dX6_bringsHome_6 : decode cX6_bringsHome 6 = .ok (.bipush 11, 2) := by decide +kernel
set_option maxRecDepth 20000 in
theorem dX6_bringsHome_8 : decode cX6_bringsHome 8 = .ok (.dup2, 1) := by decide +kernel
set_option maxRecDepth 20000 in
theorem dX6_bringsHome_9 : decode cX6_bringsHome 9 = .ok (.iaload, 1) := by decide +kernel
set_option maxRecDepth 20000 in
theorem dX6_bringsHome_10 : decode cX6_bringsHome 10 = .ok (.aload_n 0, 1) := by decide +kernel
set_option maxRecDepth 20000 in
theorem dX6_bringsHome_11 : decode cX6_bringsHome 11 = .ok (.iload_n 1, 1) := by decide +kernel
set_option maxRecDepth 20000 in
theorem dX6_bringsHome_12 : decode cX6_bringsHome 12 = .ok (.iload_n 2, 1) := by decide +kernel
set_option maxRecDepth 20000 in
theorem dX6_bringsHome_13 : decode cX6_bringsHome 13 = .ok (.invokevirtual 106, 3) := by decide +kernel
set_option maxRecDepth 20000 in
theorem dX6_bringsHome_16 : decode cX6_bringsHome 16 = .ok (.iadd, 1) := by decide +kernel
set_option maxRecDepth 20000 in
theorem dX6_bringsHome_17 : decode cX6_bringsHome 17 = .ok (.iastore, 1) := by decide +kernel
set_option maxRecDepth 20000 in
theorem dX6_bringsHome_18 : decode cX6_bringsHome 18 = .ok (.iconst 0, 1) := by decide +kernel
set_option maxRecDepth 20000 in
theorem dX6_bringsHome_19 : decode cX6_bringsHome 19 = .ok (.istore 4, 2) := by decide +kernel
set_option maxRecDepth 20000 in
theorem dX6_bringsHome_21 : decode cX6_bringsHome 21 = .ok (.iload 4, 2) := by decide +kernel
set_option maxRecDepth 20000 in
theorem dX6_bringsHome_23 : decode cX6_bringsHome 23 = .ok (.aload_n 0, 1) := by decide +kernel
set_option maxRecDepth 20000 in
theorem dX6_bringsHome_24 : decode cX6_bringsHome 24 = .ok (.getfield 7, 3) := by decide +kernel
set_option maxRecDepth 20000 in
theorem dX6_bringsHome_27 : decode cX6_bringsHome 27 = .ok (.bipush 6, 2) := by decide +kernel
set_option maxRecDepth 20000 in
theorem dX6_bringsHome_29 : decode cX6_bringsHome 29 = .ok (.iaload, 1) := by decide +kernel
set_option maxRecDepth 20000 in
theorem dX6_bringsHome_30 : decode cX6_bringsHome 30 = .ok (.if_icmp .ge 141, 3) := by decide +kernel
set_option maxRecDepth 20000 in
theorem dX6_bringsHome_33 : decode cX6_bringsHome 33 = .ok (.aload_n 0, 1) := by decide +kernel
set_option maxRecDepth 20000 in
theorem dX6_bringsHome_34 : decode cX6_bringsHome 34 = .ok (.iload 4, 2) := by decide +kernel
set_option maxRecDepth 20000 in
theorem dX6_bringsHome_36 : decode cX6_bringsHome 36 = .ok (.iconst 4, 1) := by decide +kernel
set_option maxRecDepth 20000 in
theorem dX6_bringsHome_37 : decode cX6_bringsHome 37 = .ok (.invokevirtual 40, 3) := by decide +kernel
set_option maxRecDepth 20000 in
theorem dX6_bringsHome_40 : decode cX6_bringsHome 40 = .ok (.iconst 1, 1) := by decide +kernel
set_option maxRecDepth 20000 in
theorem dX6_bringsHome_41 : decode cX6_bringsHome 41 = .ok (.if_icmp .ne 124, 3) := by decide +kernel
set_option maxRecDepth 20000 in
theorem dX6_bringsHome_44 : decode cX6_bringsHome 44 = .ok (.aload_n 0, 1) := by decide +kernel
set_option maxRecDepth 20000 in
theorem dX6_bringsHome_45 : decode cX6_bringsHome 45 = .ok (.iload 4, 2) := by decide +kernel
set_option maxRecDepth 20000 in
theorem dX6_bringsHome_47 : decode cX6_bringsHome 47 = .ok (.iload_n 1, 1) := by decide +kernel
set_option maxRecDepth 20000 in
theorem dX6_bringsHome_48 : decode cX6_bringsHome 48 = .ok (.iload_n 2, 1) := by decide +kernel
set_option maxRecDepth 20000 in
theorem dX6_bringsHome_49 : decode cX6_bringsHome 49 = .ok (.invokevirtual 57, 3) := by decide +kernel
set_option maxRecDepth 20000 in
theorem dX6_bringsHome_52 : decode cX6_bringsHome 52 = .ok (.ifCond .eq 113, 3) := by decide +kernel
set_option maxRecDepth 20000 in
theorem dX6_bringsHome_55 : decode cX6_bringsHome 55 = .ok (.aload_n 0, 1) := by decide +kernel
set_option maxRecDepth 20000 in
theorem dX6_bringsHome_56 : decode cX6_bringsHome 56 = .ok (.getfield 25, 3) := by decide +kernel
set_option maxRecDepth 20000 in
theorem dX6_bringsHome_59 : decode cX6_bringsHome 59 = .ok (.iload 4, 2) := by decide +kernel
set_option maxRecDepth 20000 in
theorem dX6_bringsHome_61 : decode cX6_bringsHome 61 = .ok (.baload, 1) := by decide +kernel
set_option maxRecDepth 20000 in
theorem dX6_bringsHome_62 : decode cX6_bringsHome 62 = .ok (.istore 5, 2) := by decide +kernel
set_option maxRecDepth 20000 in
theorem dX6_bringsHome_64 : decode cX6_bringsHome 64 = .ok (.aload_n 0, 1) := by decide +kernel
set_option maxRecDepth 20000 in
theorem dX6_bringsHome_65 : decode cX6_bringsHome 65 = .ok (.iload 4, 2) := by decide +kernel
set_option maxRecDepth 20000 in
theorem dX6_bringsHome_67 : decode cX6_bringsHome 67 = .ok (.iload 5, 2) := by decide +kernel
set_option maxRecDepth 20000 in
theorem dX6_bringsHome_69 : decode cX6_bringsHome 69 = .ok (.ifCond .eq 7, 3) := by decide +kernel
set_option maxRecDepth 20000 in
theorem dX6_bringsHome_72 : decode cX6_bringsHome 72 = .ok (.iconst 5, 1) := by decide +kernel
set_option maxRecDepth 20000 in
theorem dX6_bringsHome_73 : decode cX6_bringsHome 73 = .ok (.goto 5, 3) := by decide +kernel
set_option maxRecDepth 20000 in
theorem dX6_bringsHome_76 : decode cX6_bringsHome 76 = .ok (.bipush 6, 2) := by decide +kernel
set_option maxRecDepth 20000 in
theorem dX6_bringsHome_78 : decode cX6_bringsHome 78 = .ok (.aload_n 0, 1) := by decide +kernel
set_option maxRecDepth 20000 in
theorem dX6_bringsHome_79 : decode cX6_bringsHome 79 = .ok (.iload 4, 2) := by decide +kernel
set_option maxRecDepth 20000 in
theorem dX6_bringsHome_81 : decode cX6_bringsHome 81 = .ok (.iload 5, 2) := by decide +kernel
set_option maxRecDepth 20000 in
theorem dX6_bringsHome_83 : decode cX6_bringsHome 83 = .ok (.ifCond .eq 7, 3) := by decide +kernel
set_option maxRecDepth 20000 in
theorem dX6_bringsHome_86 : decode cX6_bringsHome 86 = .ok (.iconst 5, 1) := by decide +kernel
set_option maxRecDepth 20000 in
theorem dX6_bringsHome_87 : decode cX6_bringsHome 87 = .ok (.goto 5, 3) := by decide +kernel
set_option maxRecDepth 20000 in
theorem dX6_bringsHome_90 : decode cX6_bringsHome 90 = .ok (.bipush 6, 2) := by decide +kernel
set_option maxRecDepth 20000 in
theorem dX6_bringsHome_92 : decode cX6_bringsHome 92 = .ok (.invokevirtual 40, 3) := by decide +kernel
set_option maxRecDepth 20000 in
theorem dX6_bringsHome_95 : decode cX6_bringsHome 95 = .ok (.iconst 1, 1) := by decide +kernel
set_option maxRecDepth 20000 in
theorem dX6_bringsHome_96 : decode cX6_bringsHome 96 = .ok (.iadd, 1) := by decide +kernel
set_option maxRecDepth 20000 in
theorem dX6_bringsHome_97 : decode cX6_bringsHome 97 = .ok (.invokevirtual 82, 3) := by decide +kernel
set_option maxRecDepth 20000 in
theorem dX6_bringsHome_100 : decode cX6_bringsHome 100 = .ok (.aload_n 0, 1) := by decide +kernel
set_option maxRecDepth 20000 in
theorem dX6_bringsHome_101 : decode cX6_bringsHome 101 = .ok (.getfield 7, 3) := by decide +kernel
set_option maxRecDepth 20000 in
theorem dX6_bringsHome_104 : decode cX6_bringsHome 104 = .ok (.iload 5, 2) := by decide +kernel
set_option maxRecDepth 20000 in
theorem dX6_bringsHome_106 : decode cX6_bringsHome 106 = .ok (.ifCond .eq 8, 3) := by decide +kernel
set_option maxRecDepth 20000 in
theorem dX6_bringsHome_109 : decode cX6_bringsHome 109 = .ok (.bipush 8, 2) := by decide +kernel
set_option maxRecDepth 20000 in
theorem dX6_bringsHome_111 : decode cX6_bringsHome 111 = .ok (.goto 5, 3) := by decide +kernel
set_option maxRecDepth 20000 in
theorem dX6_bringsHome_114 : decode cX6_bringsHome 114 = .ok (.bipush 9, 2) := by decide +kernel
set_option maxRecDepth 20000 in
theorem dX6_bringsHome_116 : decode cX6_bringsHome 116 = .ok (.dup2, 1) := by decide +kernel
set_option maxRecDepth 20000 in
theorem dX6_bringsHome_117 : decode cX6_bringsHome 117 = .ok (.iaload, 1) := by decide +kernel
set_option maxRecDepth 20000 in
theorem dX6_bringsHome_118 : decode cX6_bringsHome 118 = .ok (.iconst 1, 1) := by decide +kernel
set_option maxRecDepth 20000 in
theorem dX6_bringsHome_119 : decode cX6_bringsHome 119 = .ok (.iadd, 1) := by decide +kernel
set_option maxRecDepth 20000 in
theorem dX6_bringsHome_120 : decode cX6_bringsHome 120 = .ok (.iastore, 1) := by decide +kernel
set_option maxRecDepth 20000 in
theorem dX6_bringsHome_121 : decode cX6_bringsHome 121 = .ok (.aload_n 0, 1) := by decide +kernel
set_option maxRecDepth 20000 in
theorem dX6_bringsHome_122 : decode cX6_bringsHome 122 = .ok (.getfield 7, 3) := by decide +kernel
set_option maxRecDepth 20000 in
theorem dX6_bringsHome_125 : decode cX6_bringsHome 125 = .ok (.bipush 12, 2) := by decide +kernel
set_option maxRecDepth 20000 in
theorem dX6_bringsHome_127 : decode cX6_bringsHome 127 = .ok (.dup2, 1) := by decide +kernel
set_option maxRecDepth 20000 in
theorem dX6_bringsHome_128 : decode cX6_bringsHome 128 = .ok (.iaload, 1) := by decide +kernel
set_option maxRecDepth 20000 in
theorem dX6_bringsHome_129 : decode cX6_bringsHome 129 = .ok (.iload 5, 2) := by decide +kernel
set_option maxRecDepth 20000 in
theorem dX6_bringsHome_131 : decode cX6_bringsHome 131 = .ok (.ifCond .eq 7, 3) := by decide +kernel
set_option maxRecDepth 20000 in
theorem dX6_bringsHome_134 : decode cX6_bringsHome 134 = .ok (.iconst 0, 1) := by decide +kernel
set_option maxRecDepth 20000 in
theorem dX6_bringsHome_135 : decode cX6_bringsHome 135 = .ok (.goto 15, 3) := by decide +kernel
set_option maxRecDepth 20000 in
theorem dX6_bringsHome_138 : decode cX6_bringsHome 138 = .ok (.bipush 8, 2) := by decide +kernel
set_option maxRecDepth 20000 in
theorem dX6_bringsHome_140 : decode cX6_bringsHome 140 = .ok (.iconst 3, 1) := by decide +kernel
set_option maxRecDepth 20000 in
theorem dX6_bringsHome_141 : decode cX6_bringsHome 141 = .ok (.aload_n 0, 1) := by decide +kernel
set_option maxRecDepth 20000 in
theorem dX6_bringsHome_142 : decode cX6_bringsHome 142 = .ok (.iload 4, 2) := by decide +kernel
set_option maxRecDepth 20000 in
theorem dX6_bringsHome_144 : decode cX6_bringsHome 144 = .ok (.iconst 3, 1) := by decide +kernel
set_option maxRecDepth 20000 in
theorem dX6_bringsHome_145 : decode cX6_bringsHome 145 = .ok (.invokevirtual 40, 3) := by decide +kernel
set_option maxRecDepth 20000 in
theorem dX6_bringsHome_148 : decode cX6_bringsHome 148 = .ok (.imul, 1) := by decide +kernel
set_option maxRecDepth 20000 in
theorem dX6_bringsHome_149 : decode cX6_bringsHome 149 = .ok (.iadd, 1) := by decide +kernel
set_option maxRecDepth 20000 in
theorem dX6_bringsHome_150 : decode cX6_bringsHome 150 = .ok (.iadd, 1) := by decide +kernel
set_option maxRecDepth 20000 in
theorem dX6_bringsHome_151 : decode cX6_bringsHome 151 = .ok (.iastore, 1) := by decide +kernel
set_option maxRecDepth 20000 in
theorem dX6_bringsHome_152 : decode cX6_bringsHome 152 = .ok (.iload_n 3, 1) := by decide +kernel
set_option maxRecDepth 20000 in
theorem dX6_bringsHome_153 : decode cX6_bringsHome 153 = .ok (.iload 5, 2) := by decide +kernel
set_option maxRecDepth 20000 in
theorem dX6_bringsHome_155 : decode cX6_bringsHome 155 = .ok (.ifCond .eq 7, 3) := by decide +kernel
set_option maxRecDepth 20000 in
theorem dX6_bringsHome_158 : decode cX6_bringsHome 158 = .ok (.iconst 0, 1) := by decide +kernel
set_option maxRecDepth 20000 in
theorem dX6_bringsHome_159 : decode cX6_bringsHome 159 = .ok (.goto 4, 3) := by decide +kernel
set_option maxRecDepth 20000 in
theorem dX6_bringsHome_162 : decode cX6_bringsHome 162 = .ok (.iconst 1, 1) := by decide +kernel
set_option maxRecDepth 20000 in
theorem dX6_bringsHome_163 : decode cX6_bringsHome 163 = .ok (.iadd, 1) := by decide +kernel
set_option maxRecDepth 20000 in
theorem dX6_bringsHome_164 : decode cX6_bringsHome 164 = .ok (.istore_n 3, 1) := by decide +kernel
set_option maxRecDepth 20000 in
theorem dX6_bringsHome_165 : decode cX6_bringsHome 165 = .ok (.iinc 4 1, 3) := by decide +kernel
set_option maxRecDepth 20000 in
theorem dX6_bringsHome_168 : decode cX6_bringsHome 168 = .ok (.goto (-147), 3) := by decide +kernel
set_option maxRecDepth 20000 in
theorem dX6_bringsHome_171 : decode cX6_bringsHome 171 = .ok (.iload_n 3, 1) := by decide +kernel
set_option maxRecDepth 20000 in
theorem dX6_bringsHome_172 : decode cX6_bringsHome 172 = .ok (.ireturn, 1) := by decide +kernel
set_option maxRecDepth 20000 in
theorem dX6_addEnd_0 : decode cX6_addEnd 0 = .ok (.aload_n 0, 1) := by decide +kernel
set_option maxRecDepth 20000 in
theorem dX6_addEnd_1 : decode cX6_addEnd 1 = .ok (.iconst 0, 1) := by decide +kernel
set_option maxRecDepth 20000 in
theorem dX6_addEnd_2 : decode cX6_addEnd 2 = .ok (.putfield 32, 3) := by decide +kernel
set_option maxRecDepth 20000 in
theorem dX6_addEnd_5 : decode cX6_addEnd 5 = .ok (.iload_n 1, 1) := by decide +kernel
set_option maxRecDepth 20000 in
theorem dX6_addEnd_6 : decode cX6_addEnd 6 = .ok (.iconst 0, 1) := by decide +kernel
set_option maxRecDepth 20000 in
theorem dX6_addEnd_7 : decode cX6_addEnd 7 = .ok (.sipush 1439, 3) := by decide +kernel
set_option maxRecDepth 20000 in
theorem dX6_addEnd_10 : decode cX6_addEnd 10 = .ok (.invokestatic 36, 3) := by decide +kernel
set_option maxRecDepth 20000 in
theorem dX6_addEnd_13 : decode cX6_addEnd 13 = .ok (.ifCond .ne 6, 3) := by decide +kernel
set_option maxRecDepth 20000 in
theorem dX6_addEnd_16 : decode cX6_addEnd 16 = .ok (.bipush (-2), 2) := by decide +kernel
set_option maxRecDepth 20000 in
theorem dX6_addEnd_18 : decode cX6_addEnd 18 = .ok (.ireturn, 1) := by decide +kernel
set_option maxRecDepth 20000 in
theorem dX6_addEnd_19 : decode cX6_addEnd 19 = .ok (.aload_n 0, 1) := by decide +kernel
set_option maxRecDepth 20000 in
theorem dX6_addEnd_20 : decode cX6_addEnd 20 = .ok (.getfield 7, 3) := by decide +kernel
set_option maxRecDepth 20000 in
theorem dX6_addEnd_23 : decode cX6_addEnd 23 = .ok (.iconst 4, 1) := by decide +kernel
set_option maxRecDepth 20000 in
theorem dX6_addEnd_24 : decode cX6_addEnd 24 = .ok (.iaload, 1) := by decide +kernel
set_option maxRecDepth 20000 in
theorem dX6_addEnd_25 : decode cX6_addEnd 25 = .ok (.bipush 10, 2) := by decide +kernel
set_option maxRecDepth 20000 in
theorem dX6_addEnd_27 : decode cX6_addEnd 27 = .ok (.if_icmp .ne 6, 3) := by decide +kernel
set_option maxRecDepth 20000 in
theorem dX6_addEnd_30 : decode cX6_addEnd 30 = .ok (.bipush (-3), 2) := by decide +kernel
set_option maxRecDepth 20000 in
theorem dX6_addEnd_32 : decode cX6_addEnd 32 = .ok (.ireturn, 1) := by decide +kernel
set_option maxRecDepth 20000 in
theorem dX6_addEnd_33 : decode cX6_addEnd 33 = .ok (.aload_n 0, 1) := by decide +kernel
set_option maxRecDepth 20000 in
theorem dX6_addEnd_34 : decode cX6_addEnd 34 = .ok (.invokevirtual 109, 3) := by decide +kernel
set_option maxRecDepth 20000 in
theorem dX6_addEnd_37 : decode cX6_addEnd 37 = .ok (.aload_n 0, 1) := by decide +kernel
set_option maxRecDepth 20000 in
theorem dX6_addEnd_38 : decode cX6_addEnd 38 = .ok (.getfield 7, 3) := by decide +kernel
set_option maxRecDepth 20000 in
theorem dX6_addEnd_41 : decode cX6_addEnd 41 = .ok (.bipush 13, 2) := by decide +kernel
set_option maxRecDepth 20000 in
theorem dX6_addEnd_43 : decode cX6_addEnd 43 = .ok (.aload_n 0, 1) := by decide +kernel
set_option maxRecDepth 20000 in
theorem dX6_addEnd_44 : decode cX6_addEnd 44 = .ok (.getfield 7, 3) := by decide +kernel
set_option maxRecDepth 20000 in
theorem dX6_addEnd_47 : decode cX6_addEnd 47 = .ok (.iconst 4, 1) := by decide +kernel
set_option maxRecDepth 20000 in
theorem dX6_addEnd_48 : decode cX6_addEnd 48 = .ok (.iaload, 1) := by decide +kernel
set_option maxRecDepth 20000 in
theorem dX6_addEnd_49 : decode cX6_addEnd 49 = .ok (.iadd, 1) := by decide +kernel
set_option maxRecDepth 20000 in
theorem dX6_addEnd_50 : decode cX6_addEnd 50 = .ok (.iload_n 1, 1) := by decide +kernel
set_option maxRecDepth 20000 in
theorem dX6_addEnd_51 : decode cX6_addEnd 51 = .ok (.iastore, 1) := by decide +kernel
set_option maxRecDepth 20000 in
theorem dX6_addEnd_52 : decode cX6_addEnd 52 = .ok (.aload_n 0, 1) := by decide +kernel
set_option maxRecDepth 20000 in
theorem dX6_addEnd_53 : decode cX6_addEnd 53 = .ok (.getfield 7, 3) := by decide +kernel
set_option maxRecDepth 20000 in
theorem dX6_addEnd_56 : decode cX6_addEnd 56 = .ok (.iconst 4, 1) := by decide +kernel
set_option maxRecDepth 20000 in
theorem dX6_addEnd_57 : decode cX6_addEnd 57 = .ok (.dup2, 1) := by decide +kernel
set_option maxRecDepth 20000 in
theorem dX6_addEnd_58 : decode cX6_addEnd 58 = .ok (.iaload, 1) := by decide +kernel
set_option maxRecDepth 20000 in
theorem dX6_addEnd_59 : decode cX6_addEnd 59 = .ok (.iconst 1, 1) := by decide +kernel
set_option maxRecDepth 20000 in
theorem dX6_addEnd_60 : decode cX6_addEnd 60 = .ok (.iadd, 1) := by decide +kernel
set_option maxRecDepth 20000 in
theorem dX6_addEnd_61 : decode cX6_addEnd 61 = .ok (.iastore, 1) := by decide +kernel
set_option maxRecDepth 20000 in
theorem dX6_addEnd_62 : decode cX6_addEnd 62 = .ok (.aload_n 0, 1) := by decide +kernel
set_option maxRecDepth 20000 in
theorem dX6_addEnd_63 : decode cX6_addEnd 63 = .ok (.getfield 7, 3) := by decide +kernel
set_option maxRecDepth 20000 in
theorem dX6_addEnd_66 : decode cX6_addEnd 66 = .ok (.iconst 4, 1) := by decide +kernel
set_option maxRecDepth 20000 in
theorem dX6_addEnd_67 : decode cX6_addEnd 67 = .ok (.iaload, 1) := by decide +kernel
set_option maxRecDepth 20000 in
theorem dX6_addEnd_68 : decode cX6_addEnd 68 = .ok (.iconst 1, 1) := by decide +kernel
set_option maxRecDepth 20000 in
theorem dX6_addEnd_69 : decode cX6_addEnd 69 = .ok (.isub, 1) := by decide +kernel
set_option maxRecDepth 20000 in
theorem dX6_addEnd_70 : decode cX6_addEnd 70 = .ok (.ireturn, 1) := by decide +kernel
set_option maxRecDepth 20000 in
theorem dX6_books_0 : decode cX6_books 0 = .ok (.aload_n 0, 1) := by decide +kernel
set_option maxRecDepth 20000 in
theorem dX6_books_1 : decode cX6_books 1 = .ok (.iload_n 2, 1) := by decide +kernel
set_option maxRecDepth 20000 in
theorem dX6_books_2 : decode cX6_books 2 = .ok (.iload_n 1, 1) := by decide +kernel
set_option maxRecDepth 20000 in
theorem dX6_books_3 : decode cX6_books 3 = .ok (.iload_n 3, 1) := by decide +kernel
set_option maxRecDepth 20000 in
theorem dX6_books_4 : decode cX6_books 4 = .ok (.bipush (-5), 2) := by decide +kernel
set_option maxRecDepth 20000 in
theorem dX6_books_6 : decode cX6_books 6 = .ok (.invokevirtual 79, 3) := by decide +kernel
set_option maxRecDepth 20000 in
theorem dX6_books_9 : decode cX6_books 9 = .ok (.istore 4, 2) := by decide +kernel
set_option maxRecDepth 20000 in
theorem dX6_books_11 : decode cX6_books 11 = .ok (.aload_n 0, 1) := by decide +kernel
set_option maxRecDepth 20000 in
theorem dX6_books_12 : decode cX6_books 12 = .ok (.getfield 7, 3) := by decide +kernel
set_option maxRecDepth 20000 in
theorem dX6_books_15 : decode cX6_books 15 = .ok (.bipush 6, 2) := by decide +kernel
set_option maxRecDepth 20000 in
theorem dX6_books_17 : decode cX6_books 17 = .ok (.iaload, 1) := by decide +kernel
set_option maxRecDepth 20000 in
theorem dX6_books_18 : decode cX6_books 18 = .ok (.istore 5, 2) := by decide +kernel
set_option maxRecDepth 20000 in
theorem dX6_books_20 : decode cX6_books 20 = .ok (.iconst 0, 1) := by decide +kernel
set_option maxRecDepth 20000 in
theorem dX6_books_21 : decode cX6_books 21 = .ok (.istore 6, 2) := by decide +kernel
set_option maxRecDepth 20000 in
theorem dX6_books_23 : decode cX6_books 23 = .ok (.iload 6, 2) := by decide +kernel
set_option maxRecDepth 20000 in
theorem dX6_books_25 : decode cX6_books 25 = .ok (.bipush 8, 2) := by decide +kernel
set_option maxRecDepth 20000 in
theorem dX6_books_27 : decode cX6_books 27 = .ok (.if_icmp .ge 18, 3) := by decide +kernel
set_option maxRecDepth 20000 in
theorem dX6_books_30 : decode cX6_books 30 = .ok (.aload_n 0, 1) := by decide +kernel
set_option maxRecDepth 20000 in
theorem dX6_books_31 : decode cX6_books 31 = .ok (.iload 5, 2) := by decide +kernel
set_option maxRecDepth 20000 in
theorem dX6_books_33 : decode cX6_books 33 = .ok (.iload 6, 2) := by decide +kernel
set_option maxRecDepth 20000 in
theorem dX6_books_35 : decode cX6_books 35 = .ok (.iconst 0, 1) := by decide +kernel
set_option maxRecDepth 20000 in
theorem dX6_books_36 : decode cX6_books 36 = .ok (.invokevirtual 82, 3) := by decide +kernel
set_option maxRecDepth 20000 in
theorem dX6_books_39 : decode cX6_books 39 = .ok (.iinc 6 1, 3) := by decide +kernel
set_option maxRecDepth 20000 in
theorem dX6_books_42 : decode cX6_books 42 = .ok (.goto (-19), 3) := by decide +kernel
set_option maxRecDepth 20000 in
theorem dX6_books_45 : decode cX6_books 45 = .ok (.aload_n 0, 1) := by decide +kernel
set_option maxRecDepth 20000 in
theorem dX6_books_46 : decode cX6_books 46 = .ok (.iload 5, 2) := by decide +kernel
set_option maxRecDepth 20000 in
theorem dX6_books_48 : decode cX6_books 48 = .ok (.iconst 0, 1) := by decide +kernel
set_option maxRecDepth 20000 in
theorem dX6_books_49 : decode cX6_books 49 = .ok (.aload_n 0, 1) := by decide +kernel
set_option maxRecDepth 20000 in
theorem dX6_books_50 : decode cX6_books 50 = .ok (.getfield 7, 3) := by decide +kernel
set_option maxRecDepth 20000 in
theorem dX6_books_53 : decode cX6_books 53 = .ok (.iconst 5, 1) := by decide +kernel
set_option maxRecDepth 20000 in
theorem dX6_books_54 : decode cX6_books 54 = .ok (.iaload, 1) := by decide +kernel
set_option maxRecDepth 20000 in
theorem dX6_books_55 : decode cX6_books 55 = .ok (.invokevirtual 82, 3) := by decide +kernel
set_option maxRecDepth 20000 in
theorem dX6_books_58 : decode cX6_books 58 = .ok (.aload_n 0, 1) := by decide +kernel
set_option maxRecDepth 20000 in
theorem dX6_books_59 : decode cX6_books 59 = .ok (.iload 5, 2) := by decide +kernel
set_option maxRecDepth 20000 in
theorem dX6_books_61 : decode cX6_books 61 = .ok (.iconst 1, 1) := by decide +kernel
set_option maxRecDepth 20000 in
theorem dX6_books_62 : decode cX6_books 62 = .ok (.iload_n 1, 1) := by decide +kernel
set_option maxRecDepth 20000 in
theorem dX6_books_63 : decode cX6_books 63 = .ok (.invokevirtual 82, 3) := by decide +kernel
set_option maxRecDepth 20000 in
theorem dX6_books_66 : decode cX6_books 66 = .ok (.aload_n 0, 1) := by decide +kernel
set_option maxRecDepth 20000 in
theorem dX6_books_67 : decode cX6_books 67 = .ok (.iload 5, 2) := by decide +kernel
set_option maxRecDepth 20000 in
theorem dX6_books_69 : decode cX6_books 69 = .ok (.iconst 2, 1) := by decide +kernel
set_option maxRecDepth 20000 in
theorem dX6_books_70 : decode cX6_books 70 = .ok (.iload_n 2, 1) := by decide +kernel
set_option maxRecDepth 20000 in
theorem dX6_books_71 : decode cX6_books 71 = .ok (.invokevirtual 82, 3) := by decide +kernel
set_option maxRecDepth 20000 in
theorem dX6_books_74 : decode cX6_books 74 = .ok (.aload_n 0, 1) := by decide +kernel
set_option maxRecDepth 20000 in
theorem dX6_books_75 : decode cX6_books 75 = .ok (.iload 5, 2) := by decide +kernel
set_option maxRecDepth 20000 in
theorem dX6_books_77 : decode cX6_books 77 = .ok (.iconst 3, 1) := by decide +kernel
set_option maxRecDepth 20000 in
theorem dX6_books_78 : decode cX6_books 78 = .ok (.iload_n 3, 1) := by decide +kernel
set_option maxRecDepth 20000 in
theorem dX6_books_79 : decode cX6_books 79 = .ok (.invokevirtual 82, 3) := by decide +kernel
set_option maxRecDepth 20000 in
theorem dX6_books_82 : decode cX6_books 82 = .ok (.aload_n 0, 1) := by decide +kernel
set_option maxRecDepth 20000 in
theorem dX6_books_83 : decode cX6_books 83 = .ok (.iload 5, 2) := by decide +kernel
set_option maxRecDepth 20000 in
theorem dX6_books_85 : decode cX6_books 85 = .ok (.iconst 4, 1) := by decide +kernel
set_option maxRecDepth 20000 in
theorem dX6_books_86 : decode cX6_books 86 = .ok (.iload 4, 2) := by decide +kernel
set_option maxRecDepth 20000 in
theorem dX6_books_88 : decode cX6_books 88 = .ok (.ifCond .ne 7, 3) := by decide +kernel
set_option maxRecDepth 20000 in
theorem dX6_books_91 : decode cX6_books 91 = .ok (.iconst 1, 1) := by decide +kernel
set_option maxRecDepth 20000 in
theorem dX6_books_92 : decode cX6_books 92 = .ok (.goto 4, 3) := by decide +kernel
set_option maxRecDepth 20000 in
theorem dX6_books_95 : decode cX6_books 95 = .ok (.iconst 0, 1) := by decide +kernel
set_option maxRecDepth 20000 in
theorem dX6_books_96 : decode cX6_books 96 = .ok (.invokevirtual 82, 3) := by decide +kernel
set_option maxRecDepth 20000 in
theorem dX6_books_99 : decode cX6_books 99 = .ok (.aload_n 0, 1) := by decide +kernel
set_option maxRecDepth 20000 in
theorem dX6_books_100 : decode cX6_books 100 = .ok (.getfield 7, 3) := by decide +kernel
set_option maxRecDepth 20000 in
theorem dX6_books_103 : decode cX6_books 103 = .ok (.bipush 6, 2) := by decide +kernel
set_option maxRecDepth 20000 in
theorem dX6_books_105 : decode cX6_books 105 = .ok (.dup2, 1) := by decide +kernel
set_option maxRecDepth 20000 in
theorem dX6_books_106 : decode cX6_books 106 = .ok (.iaload, 1) := by decide +kernel
set_option maxRecDepth 20000 in
theorem dX6_books_107 : decode cX6_books 107 = .ok (.iconst 1, 1) := by decide +kernel
set_option maxRecDepth 20000 in
theorem dX6_books_108 : decode cX6_books 108 = .ok (.iadd, 1) := by decide +kernel
set_option maxRecDepth 20000 in
theorem dX6_books_109 : decode cX6_books 109 = .ok (.iastore, 1) := by decide +kernel
set_option maxRecDepth 20000 in
theorem dX6_books_110 : decode cX6_books 110 = .ok (.aload_n 0, 1) := by decide +kernel
set_option maxRecDepth 20000 in
theorem dX6_books_111 : decode cX6_books 111 = .ok (.getfield 7, 3) := by decide +kernel
set_option maxRecDepth 20000 in
theorem dX6_books_114 : decode cX6_books 114 = .ok (.iconst 5, 1) := by decide +kernel
set_option maxRecDepth 20000 in
theorem dX6_books_115 : decode cX6_books 115 = .ok (.dup2, 1) := by decide +kernel
set_option maxRecDepth 20000 in
theorem dX6_books_116 : decode cX6_books 116 = .ok (.iaload, 1) := by decide +kernel
set_option maxRecDepth 20000 in
theorem dX6_books_117 : decode cX6_books 117 = .ok (.iconst 1, 1) := by decide +kernel
set_option maxRecDepth 20000 in
theorem dX6_books_118 : decode cX6_books 118 = .ok (.iadd, 1) := by decide +kernel
set_option maxRecDepth 20000 in
theorem dX6_books_119 : decode cX6_books 119 = .ok (.iastore, 1) := by decide +kernel
set_option maxRecDepth 20000 in
theorem dX6_books_120 : decode cX6_books 120 = .ok (.aload_n 0, 1) := by decide +kernel
set_option maxRecDepth 20000 in
theorem dX6_books_121 : decode cX6_books 121 = .ok (.getfield 7, 3) := by decide +kernel
set_option maxRecDepth 20000 in
theorem dX6_books_124 : decode cX6_books 124 = .ok (.iconst 5, 1) := by decide +kernel
set_option maxRecDepth 20000 in
theorem dX6_books_125 : decode cX6_books 125 = .ok (.iaload, 1) := by decide +kernel
set_option maxRecDepth 20000 in
theorem dX6_books_126 : decode cX6_books 126 = .ok (.iconst 1, 1) := by decide +kernel
set_option maxRecDepth 20000 in
theorem dX6_books_127 : decode cX6_books 127 = .ok (.isub, 1) := by decide +kernel
set_option maxRecDepth 20000 in
theorem dX6_books_128 : decode cX6_books 128 = .ok (.ireturn, 1) := by decide +kernel
set_option maxRecDepth 20000 in
theorem dX6_book_0 : decode cX6_book 0 = .ok (.aload_n 0, 1) := by decide +kernel
set_option maxRecDepth 20000 in
theorem dX6_book_1 : decode cX6_book 1 = .ok (.iconst 0, 1) := by decide +kernel
set_option maxRecDepth 20000 in
theorem dX6_book_2 : decode cX6_book 2 = .ok (.putfield 32, 3) := by decide +kernel
set_option maxRecDepth 20000 in
theorem dX6_book_5 : decode cX6_book 5 = .ok (.aload_n 0, 1) := by decide +kernel
set_option maxRecDepth 20000 in
theorem dX6_book_6 : decode cX6_book 6 = .ok (.iload_n 1, 1) := by decide +kernel
set_option maxRecDepth 20000 in
theorem dX6_book_7 : decode cX6_book 7 = .ok (.invokevirtual 60, 3) := by decide +kernel
set_option maxRecDepth 20000 in
theorem dX6_book_10 : decode cX6_book 10 = .ok (.ifCond .eq 17, 3) := by decide +kernel
set_option maxRecDepth 20000 in
theorem dX6_book_13 : decode cX6_book 13 = .ok (.iload_n 2, 1) := by decide +kernel
set_option maxRecDepth 20000 in
theorem dX6_book_14 : decode cX6_book 14 = .ok (.invokestatic 112, 3) := by decide +kernel
set_option maxRecDepth 20000 in
theorem dX6_book_17 : decode cX6_book 17 = .ok (.ifCond .eq 10, 3) := by decide +kernel
set_option maxRecDepth 20000 in
theorem dX6_book_20 : decode cX6_book 20 = .ok (.iload_n 3, 1) := by decide +kernel
set_option maxRecDepth 20000 in
theorem dX6_book_21 : decode cX6_book 21 = .ok (.invokestatic 115, 3) := by decide +kernel
set_option maxRecDepth 20000 in
theorem dX6_book_24 : decode cX6_book 24 = .ok (.ifCond .ne 5, 3) := by decide +kernel
set_option maxRecDepth 20000 in
theorem dX6_book_27 : decode cX6_book 27 = .ok (.iconst (-1), 1) := by decide +kernel
set_option maxRecDepth 20000 in
theorem dX6_book_28 : decode cX6_book 28 = .ok (.ireturn, 1) := by decide +kernel
set_option maxRecDepth 20000 in
theorem dX6_book_29 : decode cX6_book 29 = .ok (.aload_n 0, 1) := by decide +kernel
set_option maxRecDepth 20000 in
theorem dX6_book_30 : decode cX6_book 30 = .ok (.getfield 7, 3) := by decide +kernel
set_option maxRecDepth 20000 in
theorem dX6_book_33 : decode cX6_book 33 = .ok (.bipush 6, 2) := by decide +kernel
set_option maxRecDepth 20000 in
theorem dX6_book_35 : decode cX6_book 35 = .ok (.iaload, 1) := by decide +kernel
set_option maxRecDepth 20000 in
theorem dX6_book_36 : decode cX6_book 36 = .ok (.bipush 30, 2) := by decide +kernel
set_option maxRecDepth 20000 in
theorem dX6_book_38 : decode cX6_book 38 = .ok (.if_icmp .ne 6, 3) := by decide +kernel
set_option maxRecDepth 20000 in
theorem dX6_book_41 : decode cX6_book 41 = .ok (.bipush (-3), 2) := by decide +kernel
set_option maxRecDepth 20000 in
theorem dX6_book_43 : decode cX6_book 43 = .ok (.ireturn, 1) := by decide +kernel
set_option maxRecDepth 20000 in
theorem dX6_book_44 : decode cX6_book 44 = .ok (.aload_n 0, 1) := by decide +kernel
set_option maxRecDepth 20000 in
theorem dX6_book_45 : decode cX6_book 45 = .ok (.invokevirtual 109, 3) := by decide +kernel
set_option maxRecDepth 20000 in
theorem dX6_book_48 : decode cX6_book 48 = .ok (.aload_n 0, 1) := by decide +kernel
set_option maxRecDepth 20000 in
theorem dX6_book_49 : decode cX6_book 49 = .ok (.iload_n 1, 1) := by decide +kernel
set_option maxRecDepth 20000 in
theorem dX6_book_50 : decode cX6_book 50 = .ok (.iload_n 2, 1) := by decide +kernel
set_option maxRecDepth 20000 in
theorem dX6_book_51 : decode cX6_book 51 = .ok (.iload_n 3, 1) := by decide +kernel
set_option maxRecDepth 20000 in
theorem dX6_book_52 : decode cX6_book 52 = .ok (.invokevirtual 118, 3) := by decide +kernel
set_option maxRecDepth 20000 in
theorem dX6_book_55 : decode cX6_book 55 = .ok (.ireturn, 1) := by decide +kernel
set_option maxRecDepth 20000 in
theorem dX6_bookAll_0 : decode cX6_bookAll 0 = .ok (.aload_n 0, 1) := by decide +kernel
set_option maxRecDepth 20000 in
theorem dX6_bookAll_1 : decode cX6_bookAll 1 = .ok (.iconst 0, 1) := by decide +kernel
set_option maxRecDepth 20000 in
theorem dX6_bookAll_2 : decode cX6_bookAll 2 = .ok (.putfield 32, 3) := by decide +kernel
set_option maxRecDepth 20000 in
theorem dX6_bookAll_5 : decode cX6_bookAll 5 = .ok (.aload_n 0, 1) := by decide +kernel
set_option maxRecDepth 20000 in
theorem dX6_bookAll_6 : decode cX6_bookAll 6 = .ok (.invokevirtual 121, 3) := by decide +kernel
set_option maxRecDepth 20000 in
theorem dX6_bookAll_9 : decode cX6_bookAll 9 = .ok (.istore_n 1, 1) := by decide +kernel
set_option maxRecDepth 20000 in
theorem dX6_bookAll_10 : decode cX6_bookAll 10 = .ok (.iload_n 1, 1) := by decide +kernel
set_option maxRecDepth 20000 in
theorem dX6_bookAll_11 : decode cX6_bookAll 11 = .ok (.bipush (-5), 2) := by decide +kernel
set_option maxRecDepth 20000 in
theorem dX6_bookAll_13 : decode cX6_bookAll 13 = .ok (.if_icmp .eq 8, 3) := by decide +kernel
set_option maxRecDepth 20000 in
theorem dX6_bookAll_16 : decode cX6_bookAll 16 = .ok (.bipush (-100), 2) := by decide +kernel
set_option maxRecDepth 20000 in
theorem dX6_bookAll_18 : decode cX6_bookAll 18 = .ok (.iload_n 1, 1) := by decide +kernel
set_option maxRecDepth 20000 in
theorem dX6_bookAll_19 : decode cX6_bookAll 19 = .ok (.isub, 1) := by decide +kernel
set_option maxRecDepth 20000 in
theorem dX6_bookAll_20 : decode cX6_bookAll 20 = .ok (.ireturn, 1) := by decide +kernel
set_option maxRecDepth 20000 in
theorem dX6_bookAll_21 : decode cX6_bookAll 21 = .ok (.iconst 0, 1) := by decide +kernel
set_option maxRecDepth 20000 in
theorem dX6_bookAll_22 : decode cX6_bookAll 22 = .ok (.istore_n 2, 1) := by decide +kernel
set_option maxRecDepth 20000 in
theorem dX6_bookAll_23 : decode cX6_bookAll 23 = .ok (.iload_n 2, 1) := by decide +kernel
set_option maxRecDepth 20000 in
theorem dX6_bookAll_24 : decode cX6_bookAll 24 = .ok (.aload_n 0, 1) := by decide +kernel
set_option maxRecDepth 20000 in
theorem dX6_bookAll_25 : decode cX6_bookAll 25 = .ok (.getfield 124, 3) := by decide +kernel
set_option maxRecDepth 20000 in
theorem dX6_bookAll_28 : decode cX6_bookAll 28 = .ok (.if_icmp .ge 26, 3) := by decide +kernel
set_option maxRecDepth 20000 in
theorem dX6_bookAll_31 : decode cX6_bookAll 31 = .ok (.aload_n 0, 1) := by decide +kernel
set_option maxRecDepth 20000 in
theorem dX6_bookAll_32 : decode cX6_bookAll 32 = .ok (.aload_n 0, 1) := by decide +kernel
set_option maxRecDepth 20000 in
theorem dX6_bookAll_33 : decode cX6_bookAll 33 = .ok (.getfield 29, 3) := by decide +kernel
set_option maxRecDepth 20000 in
theorem dX6_bookAll_36 : decode cX6_bookAll 36 = .ok (.iconst 3, 1) := by decide +kernel
set_option maxRecDepth 20000 in
theorem dX6_bookAll_37 : decode cX6_bookAll 37 = .ok (.iload_n 2, 1) := by decide +kernel
set_option maxRecDepth 20000 in
theorem dX6_bookAll_38 : decode cX6_bookAll 38 = .ok (.imul, 1) := by decide +kernel
set_option maxRecDepth 20000 in
theorem dX6_bookAll_39 : decode cX6_bookAll 39 = .ok (.iaload, 1) := by decide +kernel
set_option maxRecDepth 20000 in
theorem dX6_bookAll_40 : decode cX6_bookAll 40 = .ok (.invokevirtual 60, 3) := by decide +kernel
set_option maxRecDepth 20000 in
theorem dX6_bookAll_43 : decode cX6_bookAll 43 = .ok (.ifCond .ne 5, 3) := by decide +kernel
set_option maxRecDepth 20000 in
theorem dX6_bookAll_46 : decode cX6_bookAll 46 = .ok (.iconst (-1), 1) := by decide +kernel
set_option maxRecDepth 20000 in
theorem dX6_bookAll_47 : decode cX6_bookAll 47 = .ok (.ireturn, 1) := by decide +kernel
set_option maxRecDepth 20000 in
theorem dX6_bookAll_48 : decode cX6_bookAll 48 = .ok (.iinc 2 1, 3) := by decide +kernel
set_option maxRecDepth 20000 in
theorem dX6_bookAll_51 : decode cX6_bookAll 51 = .ok (.goto (-28), 3) := by decide +kernel
set_option maxRecDepth 20000 in
theorem dX6_bookAll_54 : decode cX6_bookAll 54 = .ok (.aload_n 0, 1) := by decide +kernel
set_option maxRecDepth 20000 in
theorem dX6_bookAll_55 : decode cX6_bookAll 55 = .ok (.getfield 7, 3) := by decide +kernel
set_option maxRecDepth 20000 in
theorem dX6_bookAll_58 : decode cX6_bookAll 58 = .ok (.bipush 6, 2) := by decide +kernel
set_option maxRecDepth 20000 in
theorem dX6_bookAll_60 : decode cX6_bookAll 60 = .ok (.iaload, 1) := by decide +kernel
set_option maxRecDepth 20000 in
theorem dX6_bookAll_61 : decode cX6_bookAll 61 = .ok (.aload_n 0, 1) := by decide +kernel
set_option maxRecDepth 20000 in
theorem dX6_bookAll_62 : decode cX6_bookAll 62 = .ok (.getfield 124, 3) := by decide +kernel
set_option maxRecDepth 20000 in
theorem dX6_bookAll_65 : decode cX6_bookAll 65 = .ok (.iadd, 1) := by decide +kernel
set_option maxRecDepth 20000 in
theorem dX6_bookAll_66 : decode cX6_bookAll 66 = .ok (.bipush 30, 2) := by decide +kernel
set_option maxRecDepth 20000 in
theorem dX6_bookAll_68 : decode cX6_bookAll 68 = .ok (.if_icmp .le 6, 3) := by decide +kernel
set_option maxRecDepth 20000 in
theorem dX6_bookAll_71 : decode cX6_bookAll 71 = .ok (.bipush (-3), 2) := by decide +kernel
set_option maxRecDepth 20000 in
theorem dX6_bookAll_73 : decode cX6_bookAll 73 = .ok (.ireturn, 1) := by decide +kernel
set_option maxRecDepth 20000 in
theorem dX6_bookAll_74 : decode cX6_bookAll 74 = .ok (.aload_n 0, 1) := by decide +kernel
set_option maxRecDepth 20000 in
theorem dX6_bookAll_75 : decode cX6_bookAll 75 = .ok (.invokevirtual 109, 3) := by decide +kernel
set_option maxRecDepth 20000 in
theorem dX6_bookAll_78 : decode cX6_bookAll 78 = .ok (.iconst 0, 1) := by decide +kernel
set_option maxRecDepth 20000 in
theorem dX6_bookAll_79 : decode cX6_bookAll 79 = .ok (.istore_n 2, 1) := by decide +kernel
set_option maxRecDepth 20000 in
theorem dX6_bookAll_80 : decode cX6_bookAll 80 = .ok (.iload_n 2, 1) := by decide +kernel
set_option maxRecDepth 20000 in
theorem dX6_bookAll_81 : decode cX6_bookAll 81 = .ok (.aload_n 0, 1) := by decide +kernel
set_option maxRecDepth 20000 in
theorem dX6_bookAll_82 : decode cX6_bookAll 82 = .ok (.getfield 124, 3) := by decide +kernel
set_option maxRecDepth 20000 in
theorem dX6_bookAll_85 : decode cX6_bookAll 85 = .ok (.if_icmp .ge 42, 3) := by decide +kernel
set_option maxRecDepth 20000 in
theorem dX6_bookAll_88 : decode cX6_bookAll 88 = .ok (.aload_n 0, 1) := by decide +kernel
set_option maxRecDepth 20000 in
theorem dX6_bookAll_89 : decode cX6_bookAll 89 = .ok (.aload_n 0, 1) := by decide +kernel
set_option maxRecDepth 20000 in
theorem dX6_bookAll_90 : decode cX6_bookAll 90 = .ok (.getfield 29, 3) := by decide +kernel
set_option maxRecDepth 20000 in
theorem dX6_bookAll_93 : decode cX6_bookAll 93 = .ok (.iconst 3, 1) := by decide +kernel
set_option maxRecDepth 20000 in
theorem dX6_bookAll_94 : decode cX6_bookAll 94 = .ok (.iload_n 2, 1) := by decide +kernel
set_option maxRecDepth 20000 in
theorem dX6_bookAll_95 : decode cX6_bookAll 95 = .ok (.imul, 1) := by decide +kernel
set_option maxRecDepth 20000 in
theorem dX6_bookAll_96 : decode cX6_bookAll 96 = .ok (.iaload, 1) := by decide +kernel
set_option maxRecDepth 20000 in
theorem dX6_bookAll_97 : decode cX6_bookAll 97 = .ok (.aload_n 0, 1) := by decide +kernel
set_option maxRecDepth 20000 in
theorem dX6_bookAll_98 : decode cX6_bookAll 98 = .ok (.getfield 29, 3) := by decide +kernel
set_option maxRecDepth 20000 in
theorem dX6_bookAll_101 : decode cX6_bookAll 101 = .ok (.iconst 3, 1) := by decide +kernel
set_option maxRecDepth 20000 in
theorem dX6_bookAll_102 : decode cX6_bookAll 102 = .ok (.iload_n 2, 1) := by decide +kernel
set_option maxRecDepth 20000 in
theorem dX6_bookAll_103 : decode cX6_bookAll 103 = .ok (.imul, 1) := by decide +kernel
set_option maxRecDepth 20000 in
theorem dX6_bookAll_104 : decode cX6_bookAll 104 = .ok (.iconst 1, 1) := by decide +kernel
set_option maxRecDepth 20000 in
theorem dX6_bookAll_105 : decode cX6_bookAll 105 = .ok (.iadd, 1) := by decide +kernel
set_option maxRecDepth 20000 in
theorem dX6_bookAll_106 : decode cX6_bookAll 106 = .ok (.iaload, 1) := by decide +kernel
set_option maxRecDepth 20000 in
theorem dX6_bookAll_107 : decode cX6_bookAll 107 = .ok (.aload_n 0, 1) := by decide +kernel
set_option maxRecDepth 20000 in
theorem dX6_bookAll_108 : decode cX6_bookAll 108 = .ok (.getfield 29, 3) := by decide +kernel
set_option maxRecDepth 20000 in
theorem dX6_bookAll_111 : decode cX6_bookAll 111 = .ok (.iconst 3, 1) := by decide +kernel
set_option maxRecDepth 20000 in
theorem dX6_bookAll_112 : decode cX6_bookAll 112 = .ok (.iload_n 2, 1) := by decide +kernel
set_option maxRecDepth 20000 in
theorem dX6_bookAll_113 : decode cX6_bookAll 113 = .ok (.imul, 1) := by decide +kernel
set_option maxRecDepth 20000 in
theorem dX6_bookAll_114 : decode cX6_bookAll 114 = .ok (.iconst 2, 1) := by decide +kernel
set_option maxRecDepth 20000 in
theorem dX6_bookAll_115 : decode cX6_bookAll 115 = .ok (.iadd, 1) := by decide +kernel
set_option maxRecDepth 20000 in
theorem dX6_bookAll_116 : decode cX6_bookAll 116 = .ok (.iaload, 1) := by decide +kernel
set_option maxRecDepth 20000 in
theorem dX6_bookAll_117 : decode cX6_bookAll 117 = .ok (.invokevirtual 118, 3) := by decide +kernel
set_option maxRecDepth 20000 in
theorem dX6_bookAll_120 : decode cX6_bookAll 120 = .ok (.pop, 1) := by decide +kernel
set_option maxRecDepth 20000 in
theorem dX6_bookAll_121 : decode cX6_bookAll 121 = .ok (.iinc 2 1, 3) := by decide +kernel
set_option maxRecDepth 20000 in
theorem dX6_bookAll_124 : decode cX6_bookAll 124 = .ok (.goto (-44), 3) := by decide +kernel
set_option maxRecDepth 20000 in
theorem dX6_bookAll_127 : decode cX6_bookAll 127 = .ok (.aload_n 0, 1) := by decide +kernel
set_option maxRecDepth 20000 in
theorem dX6_bookAll_128 : decode cX6_bookAll 128 = .ok (.getfield 124, 3) := by decide +kernel
set_option maxRecDepth 20000 in
theorem dX6_bookAll_131 : decode cX6_bookAll 131 = .ok (.ireturn, 1) := by decide +kernel
set_option maxRecDepth 20000 in
theorem dX6_takeBack_0 : decode cX6_takeBack 0 = .ok (.aload_n 0, 1) := by decide +kernel
set_option maxRecDepth 20000 in
theorem dX6_takeBack_1 : decode cX6_takeBack 1 = .ok (.iconst 0, 1) := by decide +kernel
set_option maxRecDepth 20000 in
theorem dX6_takeBack_2 : decode cX6_takeBack 2 = .ok (.putfield 32, 3) := by decide +kernel
set_option maxRecDepth 20000 in
theorem dX6_takeBack_5 : decode cX6_takeBack 5 = .ok (.aload_n 0, 1) := by decide +kernel
set_option maxRecDepth 20000 in
theorem dX6_takeBack_6 : decode cX6_takeBack 6 = .ok (.iload_n 1, 1) := by decide +kernel
set_option maxRecDepth 20000 in
theorem dX6_takeBack_7 : decode cX6_takeBack 7 = .ok (.invokevirtual 127, 3) := by decide +kernel
set_option maxRecDepth 20000 in
theorem dX6_takeBack_10 : decode cX6_takeBack 10 = .ok (.istore_n 2, 1) := by decide +kernel
set_option maxRecDepth 20000 in
theorem dX6_takeBack_11 : decode cX6_takeBack 11 = .ok (.iload_n 2, 1) := by decide +kernel
set_option maxRecDepth 20000 in
theorem dX6_takeBack_12 : decode cX6_takeBack 12 = .ok (.bipush (-5), 2) := by decide +kernel
set_option maxRecDepth 20000 in
theorem dX6_takeBack_14 : decode cX6_takeBack 14 = .ok (.if_icmp .ne 5, 3) := by decide +kernel
set_option maxRecDepth 20000 in
theorem dX6_takeBack_17 : decode cX6_takeBack 17 = .ok (.iconst (-1), 1) := by decide +kernel
set_option maxRecDepth 20000 in
theorem dX6_takeBack_18 : decode cX6_takeBack 18 = .ok (.ireturn, 1) := by decide +kernel
set_option maxRecDepth 20000 in
theorem dX6_takeBack_19 : decode cX6_takeBack 19 = .ok (.aload_n 0, 1) := by decide +kernel
set_option maxRecDepth 20000 in
theorem dX6_takeBack_20 : decode cX6_takeBack 20 = .ok (.invokevirtual 109, 3) := by decide +kernel
set_option maxRecDepth 20000 in
theorem dX6_takeBack_23 : decode cX6_takeBack 23 = .ok (.aload_n 0, 1) := by decide +kernel
set_option maxRecDepth 20000 in
theorem dX6_takeBack_24 : decode cX6_takeBack 24 = .ok (.getfield 7, 3) := by decide +kernel
set_option maxRecDepth 20000 in
theorem dX6_takeBack_27 : decode cX6_takeBack 27 = .ok (.bipush 6, 2) := by decide +kernel
set_option maxRecDepth 20000 in
theorem dX6_takeBack_29 : decode cX6_takeBack 29 = .ok (.dup2, 1) := by decide +kernel
set_option maxRecDepth 20000 in
theorem dX6_takeBack_30 : decode cX6_takeBack 30 = .ok (.iaload, 1) := by decide +kernel
set_option maxRecDepth 20000 in
theorem dX6_takeBack_31 : decode cX6_takeBack 31 = .ok (.iconst 1, 1) := by decide +kernel
set_option maxRecDepth 20000 in
theorem dX6_takeBack_32 : decode cX6_takeBack 32 = .ok (.isub, 1) := by decide +kernel
set_option maxRecDepth 20000 in
theorem dX6_takeBack_33 : decode cX6_takeBack 33 = .ok (.iastore, 1) := by decide +kernel
set_option maxRecDepth 20000 in
theorem dX6_takeBack_34 : decode cX6_takeBack 34 = .ok (.bipush 8, 2) := by decide +kernel
set_option maxRecDepth 20000 in
theorem dX6_takeBack_36 : decode cX6_takeBack 36 = .ok (.iload_n 2, 1) := by decide +kernel
set_option maxRecDepth 20000 in
theorem dX6_takeBack_37 : decode cX6_takeBack 37 = .ok (.imul, 1) := by decide +kernel
set_option maxRecDepth 20000 in
theorem dX6_takeBack_38 : decode cX6_takeBack 38 = .ok (.istore_n 3, 1) := by decide +kernel
set_option maxRecDepth 20000 in
theorem dX6_takeBack_39 : decode cX6_takeBack 39 = .ok (.iload_n 3, 1) := by decide +kernel
set_option maxRecDepth 20000 in
theorem dX6_takeBack_40 : decode cX6_takeBack 40 = .ok (.bipush 8, 2) := by decide +kernel
set_option maxRecDepth 20000 in
theorem dX6_takeBack_42 : decode cX6_takeBack 42 = .ok (.aload_n 0, 1) := by decide +kernel
set_option maxRecDepth 20000 in
theorem dX6_takeBack_43 : decode cX6_takeBack 43 = .ok (.getfield 7, 3) := by decide +kernel
set_option maxRecDepth 20000 in
theorem dX6_takeBack_46 : decode cX6_takeBack 46 = .ok (.bipush 6, 2) := by decide +kernel
set_option maxRecDepth 20000 in
theorem dX6_takeBack_48 : decode cX6_takeBack 48 = .ok (.iaload, 1) := by decide +kernel
set_option maxRecDepth 20000 in
theorem dX6_takeBack_49 : decode cX6_takeBack 49 = .ok (.imul, 1) := by decide +kernel
set_option maxRecDepth 20000 in
theorem dX6_takeBack_50 : decode cX6_takeBack 50 = .ok (.if_icmp .ge 30, 3) := by decide +kernel
set_option maxRecDepth 20000 in
theorem dX6_takeBack_53 : decode cX6_takeBack 53 = .ok (.aload_n 0, 1) := by decide +kernel
set_option maxRecDepth 20000 in
theorem dX6_takeBack_54 : decode cX6_takeBack 54 = .ok (.getfield 7, 3) := by decide +kernel
set_option maxRecDepth 20000 in
theorem dX6_takeBack_57 : decode cX6_takeBack 57 = .ok (.bipush 43, 2) := by decide +kernel
set_option maxRecDepth 20000 in
theorem dX6_takeBack_59 : decode cX6_takeBack 59 = .ok (.iload_n 3, 1) := by decide +kernel
set_option maxRecDepth 20000 in
theorem dX6_takeBack_60 : decode cX6_takeBack 60 = .ok (.iadd, 1) := by decide +kernel
set_option maxRecDepth 20000 in
theorem dX6_takeBack_61 : decode cX6_takeBack 61 = .ok (.aload_n 0, 1) := by decide +kernel
set_option maxRecDepth 20000 in
theorem dX6_takeBack_62 : decode cX6_takeBack 62 = .ok (.getfield 7, 3) := by decide +kernel
set_option maxRecDepth 20000 in
theorem dX6_takeBack_65 : decode cX6_takeBack 65 = .ok (.bipush 43, 2) := by decide +kernel
set_option maxRecDepth 20000 in
theorem dX6_takeBack_67 : decode cX6_takeBack 67 = .ok (.iload_n 3, 1) := by decide +kernel
set_option maxRecDepth 20000 in
theorem dX6_takeBack_68 : decode cX6_takeBack 68 = .ok (.iadd, 1) := by decide +kernel
set_option maxRecDepth 20000 in
theorem dX6_takeBack_69 : decode cX6_takeBack 69 = .ok (.bipush 8, 2) := by decide +kernel
set_option maxRecDepth 20000 in
theorem dX6_takeBack_71 : decode cX6_takeBack 71 = .ok (.iadd, 1) := by decide +kernel
set_option maxRecDepth 20000 in
theorem dX6_takeBack_72 : decode cX6_takeBack 72 = .ok (.iaload, 1) := by decide +kernel
set_option maxRecDepth 20000 in
theorem dX6_takeBack_73 : decode cX6_takeBack 73 = .ok (.iastore, 1) := by decide +kernel
set_option maxRecDepth 20000 in
theorem dX6_takeBack_74 : decode cX6_takeBack 74 = .ok (.iinc 3 1, 3) := by decide +kernel
set_option maxRecDepth 20000 in
theorem dX6_takeBack_77 : decode cX6_takeBack 77 = .ok (.goto (-38), 3) := by decide +kernel
set_option maxRecDepth 20000 in
theorem dX6_takeBack_80 : decode cX6_takeBack 80 = .ok (.aload_n 0, 1) := by decide +kernel
set_option maxRecDepth 20000 in
theorem dX6_takeBack_81 : decode cX6_takeBack 81 = .ok (.invokevirtual 130, 3) := by decide +kernel
set_option maxRecDepth 20000 in
theorem dX6_takeBack_84 : decode cX6_takeBack 84 = .ok (.aload_n 0, 1) := by decide +kernel
set_option maxRecDepth 20000 in
theorem dX6_takeBack_85 : decode cX6_takeBack 85 = .ok (.invokevirtual 133, 3) := by decide +kernel
set_option maxRecDepth 20000 in
theorem dX6_takeBack_88 : decode cX6_takeBack 88 = .ok (.ireturn, 1) := by decide +kernel
set_option maxRecDepth 20000 in
theorem dX6_stay_0 : decode cX6_stay 0 = .ok (.aload_n 0, 1) := by decide +kernel
set_option maxRecDepth 20000 in
theorem dX6_stay_1 : decode cX6_stay 1 = .ok (.iconst 0, 1) := by decide +kernel
set_option maxRecDepth 20000 in
theorem dX6_stay_2 : decode cX6_stay 2 = .ok (.putfield 32, 3) := by decide +kernel
set_option maxRecDepth 20000 in
theorem dX6_stay_5 : decode cX6_stay 5 = .ok (.aload_n 0, 1) := by decide +kernel
set_option maxRecDepth 20000 in
theorem dX6_stay_6 : decode cX6_stay 6 = .ok (.iload_n 1, 1) := by decide +kernel
set_option maxRecDepth 20000 in
theorem dX6_stay_7 : decode cX6_stay 7 = .ok (.invokevirtual 127, 3) := by decide +kernel
set_option maxRecDepth 20000 in
theorem dX6_stay_10 : decode cX6_stay 10 = .ok (.istore_n 3, 1) := by decide +kernel
set_option maxRecDepth 20000 in
theorem dX6_stay_11 : decode cX6_stay 11 = .ok (.iload_n 3, 1) := by decide +kernel
set_option maxRecDepth 20000 in
theorem dX6_stay_12 : decode cX6_stay 12 = .ok (.bipush (-5), 2) := by decide +kernel
set_option maxRecDepth 20000 in
theorem dX6_stay_14 : decode cX6_stay 14 = .ok (.if_icmp .eq 11, 3) := by decide +kernel
set_option maxRecDepth 20000 in
theorem dX6_stay_17 : decode cX6_stay 17 = .ok (.aload_n 0, 1) := by decide +kernel
set_option maxRecDepth 20000 in
theorem dX6_stay_18 : decode cX6_stay 18 = .ok (.iload_n 2, 1) := by decide +kernel
set_option maxRecDepth 20000 in
theorem dX6_stay_19 : decode cX6_stay 19 = .ok (.invokevirtual 60, 3) := by decide +kernel
set_option maxRecDepth 20000 in
theorem dX6_stay_22 : decode cX6_stay 22 = .ok (.ifCond .ne 5, 3) := by decide +kernel
set_option maxRecDepth 20000 in
theorem dX6_stay_25 : decode cX6_stay 25 = .ok (.iconst (-1), 1) := by decide +kernel
set_option maxRecDepth 20000 in
theorem dX6_stay_26 : decode cX6_stay 26 = .ok (.ireturn, 1) := by decide +kernel
set_option maxRecDepth 20000 in
theorem dX6_stay_27 : decode cX6_stay 27 = .ok (.aload_n 0, 1) := by decide +kernel
set_option maxRecDepth 20000 in
theorem dX6_stay_28 : decode cX6_stay 28 = .ok (.iload_n 3, 1) := by decide +kernel
set_option maxRecDepth 20000 in
theorem dX6_stay_29 : decode cX6_stay 29 = .ok (.iconst 1, 1) := by decide +kernel
set_option maxRecDepth 20000 in
theorem dX6_stay_30 : decode cX6_stay 30 = .ok (.invokevirtual 40, 3) := by decide +kernel
set_option maxRecDepth 20000 in
theorem dX6_stay_33 : decode cX6_stay 33 = .ok (.iload_n 2, 1) := by decide +kernel
set_option maxRecDepth 20000 in
theorem dX6_stay_34 : decode cX6_stay 34 = .ok (.if_icmp .ne 6, 3) := by decide +kernel
set_option maxRecDepth 20000 in
theorem dX6_stay_37 : decode cX6_stay 37 = .ok (.bipush (-5), 2) := by decide +kernel
set_option maxRecDepth 20000 in
theorem dX6_stay_39 : decode cX6_stay 39 = .ok (.ireturn, 1) := by decide +kernel
set_option maxRecDepth 20000 in
theorem dX6_stay_40 : decode cX6_stay 40 = .ok (.aload_n 0, 1) := by decide +kernel
set_option maxRecDepth 20000 in
theorem dX6_stay_41 : decode cX6_stay 41 = .ok (.invokevirtual 109, 3) := by decide +kernel
set_option maxRecDepth 20000 in
theorem dX6_stay_44 : decode cX6_stay 44 = .ok (.aload_n 0, 1) := by decide +kernel
set_option maxRecDepth 20000 in
theorem dX6_stay_45 : decode cX6_stay 45 = .ok (.iload_n 3, 1) := by decide +kernel
set_option maxRecDepth 20000 in
theorem dX6_stay_46 : decode cX6_stay 46 = .ok (.iconst 1, 1) := by decide +kernel
set_option maxRecDepth 20000 in
theorem dX6_stay_47 : decode cX6_stay 47 = .ok (.iload_n 2, 1) := by decide +kernel
set_option maxRecDepth 20000 in
theorem dX6_stay_48 : decode cX6_stay 48 = .ok (.invokevirtual 82, 3) := by decide +kernel
set_option maxRecDepth 20000 in
theorem dX6_stay_51 : decode cX6_stay 51 = .ok (.aload_n 0, 1) := by decide +kernel
set_option maxRecDepth 20000 in
theorem dX6_stay_52 : decode cX6_stay 52 = .ok (.iload_n 3, 1) := by decide +kernel
set_option maxRecDepth 20000 in
theorem dX6_stay_53 : decode cX6_stay 53 = .ok (.iconst 4, 1) := by decide +kernel
set_option maxRecDepth 20000 in
theorem dX6_stay_54 : decode cX6_stay 54 = .ok (.iconst 0, 1) := by decide +kernel
set_option maxRecDepth 20000 in
theorem dX6_stay_55 : decode cX6_stay 55 = .ok (.invokevirtual 82, 3) := by decide +kernel
set_option maxRecDepth 20000 in
theorem dX6_stay_58 : decode cX6_stay 58 = .ok (.aload_n 0, 1) := by decide +kernel
set_option maxRecDepth 20000 in
theorem dX6_stay_59 : decode cX6_stay 59 = .ok (.invokevirtual 130, 3) := by decide +kernel
set_option maxRecDepth 20000 in
theorem dX6_stay_62 : decode cX6_stay 62 = .ok (.aload_n 0, 1) := by decide +kernel
set_option maxRecDepth 20000 in
theorem dX6_stay_63 : decode cX6_stay 63 = .ok (.iload_n 3, 1) := by decide +kernel
set_option maxRecDepth 20000 in
theorem dX6_stay_64 : decode cX6_stay 64 = .ok (.iconst 4, 1) := by decide +kernel
set_option maxRecDepth 20000 in
theorem dX6_stay_65 : decode cX6_stay 65 = .ok (.invokevirtual 40, 3) := by decide +kernel
set_option maxRecDepth 20000 in
theorem dX6_stay_68 : decode cX6_stay 68 = .ok (.ireturn, 1) := by decide +kernel
set_option maxRecDepth 20000 in
theorem dX6_layMerged_0 : decode cX6_layMerged 0 = .ok (.aload_n 0, 1) := by decide +kernel
set_option maxRecDepth 20000 in
theorem dX6_layMerged_1 : decode cX6_layMerged 1 = .ok (.getfield 7, 3) := by decide +kernel
set_option maxRecDepth 20000 in
theorem dX6_layMerged_4 : decode cX6_layMerged 4 = .ok (.bipush 23, 2) := by decide +kernel
set_option maxRecDepth 20000 in
theorem dX6_layMerged_6 : decode cX6_layMerged 6 = .ok (.bipush 10, 2) := by decide +kernel
set_option maxRecDepth 20000 in
theorem dX6_layMerged_8 : decode cX6_layMerged 8 = .ok (.iload_n 1, 1) := by decide +kernel
set_option maxRecDepth 20000 in
theorem dX6_layMerged_9 : decode cX6_layMerged 9 = .ok (.imul, 1) := by decide +kernel
set_option maxRecDepth 20000 in
theorem dX6_layMerged_10 : decode cX6_layMerged 10 = .ok (.iadd, 1) := by decide +kernel
set_option maxRecDepth 20000 in
theorem dX6_layMerged_11 : decode cX6_layMerged 11 = .ok (.iload_n 2, 1) := by decide +kernel
set_option maxRecDepth 20000 in
theorem dX6_layMerged_12 : decode cX6_layMerged 12 = .ok (.iadd, 1) := by decide +kernel
set_option maxRecDepth 20000 in
theorem dX6_layMerged_13 : decode cX6_layMerged 13 = .ok (.iload_n 3, 1) := by decide +kernel
set_option maxRecDepth 20000 in
theorem dX6_layMerged_14 : decode cX6_layMerged 14 = .ok (.bipush (-5), 2) := by decide +kernel
set_option maxRecDepth 20000 in
theorem dX6_layMerged_16 : decode cX6_layMerged 16 = .ok (.if_icmp .ne 7, 3) := by decide +kernel
set_option maxRecDepth 20000 in
theorem dX6_layMerged_19 : decode cX6_layMerged 19 = .ok (.iconst 0, 1) := by decide +kernel
set_option maxRecDepth 20000 in
theorem dX6_layMerged_20 : decode cX6_layMerged 20 = .ok (.goto 6, 3) := by decide +kernel
set_option maxRecDepth 20000 in
theorem dX6_layMerged_23 : decode cX6_layMerged 23 = .ok (.iload_n 3, 1) := by decide +kernel
set_option maxRecDepth 20000 in
theorem dX6_layMerged_24 : decode cX6_layMerged 24 = .ok (.iconst 1, 1) := by decide +kernel
set_option maxRecDepth 20000 in
theorem dX6_layMerged_25 : decode cX6_layMerged 25 = .ok (.iadd, 1) := by decide +kernel
set_option maxRecDepth 20000 in
theorem dX6_layMerged_26 : decode cX6_layMerged 26 = .ok (.iastore, 1) := by decide +kernel
set_option maxRecDepth 20000 in
theorem dX6_layMerged_27 : decode cX6_layMerged 27 = .ok (.return_, 1) := by decide +kernel
set_option maxRecDepth 20000 in
theorem dX6_merge_0 : decode cX6_merge 0 = .ok (.aload_n 0, 1) := by decide +kernel
set_option maxRecDepth 20000 in
theorem dX6_merge_1 : decode cX6_merge 1 = .ok (.iconst 0, 1) := by decide +kernel
set_option maxRecDepth 20000 in
theorem dX6_merge_2 : decode cX6_merge 2 = .ok (.putfield 32, 3) := by decide +kernel
set_option maxRecDepth 20000 in
theorem dX6_merge_5 : decode cX6_merge 5 = .ok (.iload_n 1, 1) := by decide +kernel
set_option maxRecDepth 20000 in
theorem dX6_merge_6 : decode cX6_merge 6 = .ok (.invokestatic 112, 3) := by decide +kernel
set_option maxRecDepth 20000 in
theorem dX6_merge_9 : decode cX6_merge 9 = .ok (.ifCond .eq 19, 3) := by decide +kernel
set_option maxRecDepth 20000 in
theorem dX6_merge_12 : decode cX6_merge 12 = .ok (.aload_n 0, 1) := by decide +kernel
set_option maxRecDepth 20000 in
theorem dX6_merge_13 : decode cX6_merge 13 = .ok (.iload_n 2, 1) := by decide +kernel
set_option maxRecDepth 20000 in
theorem dX6_merge_14 : decode cX6_merge 14 = .ok (.invokevirtual 60, 3) := by decide +kernel
set_option maxRecDepth 20000 in
theorem dX6_merge_17 : decode cX6_merge 17 = .ok (.ifCond .eq 11, 3) := by decide +kernel
set_option maxRecDepth 20000 in
theorem dX6_merge_20 : decode cX6_merge 20 = .ok (.aload_n 0, 1) := by decide +kernel
set_option maxRecDepth 20000 in
theorem dX6_merge_21 : decode cX6_merge 21 = .ok (.iload_n 3, 1) := by decide +kernel
set_option maxRecDepth 20000 in
theorem dX6_merge_22 : decode cX6_merge 22 = .ok (.invokevirtual 60, 3) := by decide +kernel
set_option maxRecDepth 20000 in
theorem dX6_merge_25 : decode cX6_merge 25 = .ok (.ifCond .ne 5, 3) := by decide +kernel
set_option maxRecDepth 20000 in
theorem dX6_merge_28 : decode cX6_merge 28 = .ok (.iconst (-1), 1) := by decide +kernel
set_option maxRecDepth 20000 in
theorem dX6_merge_29 : decode cX6_merge 29 = .ok (.ireturn, 1) := by decide +kernel
set_option maxRecDepth 20000 in
theorem dX6_merge_30 : decode cX6_merge 30 = .ok (.iload_n 2, 1) := by decide +kernel
set_option maxRecDepth 20000 in
theorem dX6_merge_31 : decode cX6_merge 31 = .ok (.iload_n 3, 1) := by decide +kernel
set_option maxRecDepth 20000 in
theorem dX6_merge_32 : decode cX6_merge 32 = .ok (.if_icmp .ne 6, 3) := by decide +kernel
set_option maxRecDepth 20000 in
theorem dX6_merge_35 : decode cX6_merge 35 = .ok (.bipush (-2), 2) := by decide +kernel
set_option maxRecDepth 20000 in
theorem dX6_merge_37 : decode cX6_merge 37 = .ok (.ireturn, 1) := by decide +kernel
set_option maxRecDepth 20000 in
theorem dX6_merge_38 : decode cX6_merge 38 = .ok (.aload_n 0, 1) := by decide +kernel
set_option maxRecDepth 20000 in
theorem dX6_merge_39 : decode cX6_merge 39 = .ok (.iload_n 1, 1) := by decide +kernel
set_option maxRecDepth 20000 in
theorem dX6_merge_40 : decode cX6_merge 40 = .ok (.iload_n 2, 1) := by decide +kernel
set_option maxRecDepth 20000 in
theorem dX6_merge_41 : decode cX6_merge 41 = .ok (.iload_n 3, 1) := by decide +kernel
set_option maxRecDepth 20000 in
theorem dX6_merge_42 : decode cX6_merge 42 = .ok (.invokevirtual 136, 3) := by decide +kernel
set_option maxRecDepth 20000 in
theorem dX6_merge_45 : decode cX6_merge 45 = .ok (.ifCond .ne 6, 3) := by decide +kernel
set_option maxRecDepth 20000 in
theorem dX6_merge_48 : decode cX6_merge 48 = .ok (.bipush (-4), 2) := by decide +kernel
set_option maxRecDepth 20000 in
theorem dX6_merge_50 : decode cX6_merge 50 = .ok (.ireturn, 1) := by decide +kernel
set_option maxRecDepth 20000 in
theorem dX6_merge_51 : decode cX6_merge 51 = .ok (.aload_n 0, 1) := by decide +kernel
set_option maxRecDepth 20000 in
theorem dX6_merge_52 : decode cX6_merge 52 = .ok (.invokevirtual 109, 3) := by decide +kernel
set_option maxRecDepth 20000 in
theorem dX6_merge_55 : decode cX6_merge 55 = .ok (.aload_n 0, 1) := by decide +kernel
set_option maxRecDepth 20000 in
theorem dX6_merge_56 : decode cX6_merge 56 = .ok (.iload_n 1, 1) := by decide +kernel
set_option maxRecDepth 20000 in
theorem dX6_merge_57 : decode cX6_merge 57 = .ok (.iload_n 2, 1) := by decide +kernel
set_option maxRecDepth 20000 in
theorem dX6_merge_58 : decode cX6_merge 58 = .ok (.iload_n 3, 1) := by decide +kernel
set_option maxRecDepth 20000 in
theorem dX6_merge_59 : decode cX6_merge 59 = .ok (.invokevirtual 139, 3) := by decide +kernel
set_option maxRecDepth 20000 in
theorem dX6_merge_62 : decode cX6_merge 62 = .ok (.aload_n 0, 1) := by decide +kernel
set_option maxRecDepth 20000 in
theorem dX6_merge_63 : decode cX6_merge 63 = .ok (.iload_n 1, 1) := by decide +kernel
set_option maxRecDepth 20000 in
theorem dX6_merge_64 : decode cX6_merge 64 = .ok (.iload_n 3, 1) := by decide +kernel
set_option maxRecDepth 20000 in
theorem dX6_merge_65 : decode cX6_merge 65 = .ok (.iload_n 2, 1) := by decide +kernel
set_option maxRecDepth 20000 in
theorem dX6_merge_66 : decode cX6_merge 66 = .ok (.invokevirtual 139, 3) := by decide +kernel
set_option maxRecDepth 20000 in
theorem dX6_merge_69 : decode cX6_merge 69 = .ok (.aload_n 0, 1) := by decide +kernel
set_option maxRecDepth 20000 in
theorem dX6_merge_70 : decode cX6_merge 70 = .ok (.invokevirtual 130, 3) := by decide +kernel
set_option maxRecDepth 20000 in
theorem dX6_merge_73 : decode cX6_merge 73 = .ok (.aload_n 0, 1) := by decide +kernel
set_option maxRecDepth 20000 in
theorem dX6_merge_74 : decode cX6_merge 74 = .ok (.iload_n 1, 1) := by decide +kernel
set_option maxRecDepth 20000 in
theorem dX6_merge_75 : decode cX6_merge 75 = .ok (.iload_n 2, 1) := by decide +kernel
set_option maxRecDepth 20000 in
theorem dX6_merge_76 : decode cX6_merge 76 = .ok (.invokevirtual 68, 3) := by decide +kernel
set_option maxRecDepth 20000 in
theorem dX6_merge_79 : decode cX6_merge 79 = .ok (.ireturn, 1) := by decide +kernel
set_option maxRecDepth 20000 in
theorem dX6_part_0 : decode cX6_part 0 = .ok (.aload_n 0, 1) := by decide +kernel
set_option maxRecDepth 20000 in
theorem dX6_part_1 : decode cX6_part 1 = .ok (.iconst 0, 1) := by decide +kernel
set_option maxRecDepth 20000 in
theorem dX6_part_2 : decode cX6_part 2 = .ok (.putfield 32, 3) := by decide +kernel
set_option maxRecDepth 20000 in
theorem dX6_part_5 : decode cX6_part 5 = .ok (.iload_n 1, 1) := by decide +kernel
set_option maxRecDepth 20000 in
theorem dX6_part_6 : decode cX6_part 6 = .ok (.invokestatic 112, 3) := by decide +kernel
set_option maxRecDepth 20000 in
theorem dX6_part_9 : decode cX6_part 9 = .ok (.ifCond .eq 11, 3) := by decide +kernel
set_option maxRecDepth 20000 in
theorem dX6_part_12 : decode cX6_part 12 = .ok (.aload_n 0, 1) := by decide +kernel
set_option maxRecDepth 20000 in
theorem dX6_part_13 : decode cX6_part 13 = .ok (.iload_n 2, 1) := by decide +kernel
set_option maxRecDepth 20000 in
theorem dX6_part_14 : decode cX6_part 14 = .ok (.invokevirtual 60, 3) := by decide +kernel
set_option maxRecDepth 20000 in
theorem dX6_part_17 : decode cX6_part 17 = .ok (.ifCond .ne 5, 3) := by decide +kernel
set_option maxRecDepth 20000 in
theorem dX6_part_20 : decode cX6_part 20 = .ok (.iconst (-1), 1) := by decide +kernel
set_option maxRecDepth 20000 in
theorem dX6_part_21 : decode cX6_part 21 = .ok (.ireturn, 1) := by decide +kernel
set_option maxRecDepth 20000 in
theorem dX6_part_22 : decode cX6_part 22 = .ok (.aload_n 0, 1) := by decide +kernel
set_option maxRecDepth 20000 in
theorem dX6_part_23 : decode cX6_part 23 = .ok (.iload_n 1, 1) := by decide +kernel
set_option maxRecDepth 20000 in
theorem dX6_part_24 : decode cX6_part 24 = .ok (.iload_n 2, 1) := by decide +kernel
set_option maxRecDepth 20000 in
theorem dX6_part_25 : decode cX6_part 25 = .ok (.invokevirtual 47, 3) := by decide +kernel
set_option maxRecDepth 20000 in
theorem dX6_part_28 : decode cX6_part 28 = .ok (.istore_n 3, 1) := by decide +kernel
set_option maxRecDepth 20000 in
theorem dX6_part_29 : decode cX6_part 29 = .ok (.iload_n 3, 1) := by decide +kernel
set_option maxRecDepth 20000 in
theorem dX6_part_30 : decode cX6_part 30 = .ok (.bipush (-5), 2) := by decide +kernel
set_option maxRecDepth 20000 in
theorem dX6_part_32 : decode cX6_part 32 = .ok (.if_icmp .ne 6, 3) := by decide +kernel
set_option maxRecDepth 20000 in
theorem dX6_part_35 : decode cX6_part 35 = .ok (.bipush (-5), 2) := by decide +kernel
set_option maxRecDepth 20000 in
theorem dX6_part_37 : decode cX6_part 37 = .ok (.ireturn, 1) := by decide +kernel
set_option maxRecDepth 20000 in
theorem dX6_part_38 : decode cX6_part 38 = .ok (.aload_n 0, 1) := by decide +kernel
set_option maxRecDepth 20000 in
theorem dX6_part_39 : decode cX6_part 39 = .ok (.invokevirtual 109, 3) := by decide +kernel
set_option maxRecDepth 20000 in
theorem dX6_part_42 : decode cX6_part 42 = .ok (.aload_n 0, 1) := by decide +kernel
set_option maxRecDepth 20000 in
theorem dX6_part_43 : decode cX6_part 43 = .ok (.iload_n 1, 1) := by decide +kernel
set_option maxRecDepth 20000 in
theorem dX6_part_44 : decode cX6_part 44 = .ok (.iload_n 2, 1) := by decide +kernel
set_option maxRecDepth 20000 in
theorem dX6_part_45 : decode cX6_part 45 = .ok (.bipush (-5), 2) := by decide +kernel
set_option maxRecDepth 20000 in
theorem dX6_part_47 : decode cX6_part 47 = .ok (.invokevirtual 139, 3) := by decide +kernel
set_option maxRecDepth 20000 in
theorem dX6_part_50 : decode cX6_part 50 = .ok (.aload_n 0, 1) := by decide +kernel
set_option maxRecDepth 20000 in
theorem dX6_part_51 : decode cX6_part 51 = .ok (.iload_n 1, 1) := by decide +kernel
set_option maxRecDepth 20000 in
theorem dX6_part_52 : decode cX6_part 52 = .ok (.iload_n 3, 1) := by decide +kernel
set_option maxRecDepth 20000 in
theorem dX6_part_53 : decode cX6_part 53 = .ok (.bipush (-5), 2) := by decide +kernel
set_option maxRecDepth 20000 in
theorem dX6_part_55 : decode cX6_part 55 = .ok (.invokevirtual 139, 3) := by decide +kernel
set_option maxRecDepth 20000 in
theorem dX6_part_58 : decode cX6_part 58 = .ok (.aload_n 0, 1) := by decide +kernel
set_option maxRecDepth 20000 in
theorem dX6_part_59 : decode cX6_part 59 = .ok (.invokevirtual 130, 3) := by decide +kernel
set_option maxRecDepth 20000 in
theorem dX6_part_62 : decode cX6_part 62 = .ok (.iload_n 3, 1) := by decide +kernel
set_option maxRecDepth 20000 in
theorem dX6_part_63 : decode cX6_part 63 = .ok (.ireturn, 1) := by decide +kernel
set_option maxRecDepth 20000 in
theorem dX6_isSetting_0 : decode cX6_isSetting 0 = .ok (.iload_n 0, 1) := by decide +kernel
set_option maxRecDepth 20000 in
theorem dX6_isSetting_1 : decode cX6_isSetting 1 = .ok (.tableswitch 51 0 2 #[27, 35, 43], 27) := by decide +kernel
set_option maxRecDepth 20000 in
theorem dX6_isSetting_28 : decode cX6_isSetting 28 = .ok (.iload_n 1, 1) := by decide +kernel
set_option maxRecDepth 20000 in
theorem dX6_isSetting_29 : decode cX6_isSetting 29 = .ok (.iconst 1, 1) := by decide +kernel
set_option maxRecDepth 20000 in
theorem dX6_isSetting_30 : decode cX6_isSetting 30 = .ok (.bipush 20, 2) := by decide +kernel
set_option maxRecDepth 20000 in
theorem dX6_isSetting_32 : decode cX6_isSetting 32 = .ok (.invokestatic 36, 3) := by decide +kernel
set_option maxRecDepth 20000 in
theorem dX6_isSetting_35 : decode cX6_isSetting 35 = .ok (.ireturn, 1) := by decide +kernel
set_option maxRecDepth 20000 in
theorem dX6_isSetting_36 : decode cX6_isSetting 36 = .ok (.iload_n 1, 1) := by decide +kernel
set_option maxRecDepth 20000 in
theorem dX6_isSetting_37 : decode cX6_isSetting 37 = .ok (.iconst 1, 1) := by decide +kernel
set_option maxRecDepth 20000 in
theorem dX6_isSetting_38 : decode cX6_isSetting 38 = .ok (.bipush 30, 2) := by decide +kernel
set_option maxRecDepth 20000 in
theorem dX6_isSetting_40 : decode cX6_isSetting 40 = .ok (.invokestatic 36, 3) := by decide +kernel
set_option maxRecDepth 20000 in
theorem dX6_isSetting_43 : decode cX6_isSetting 43 = .ok (.ireturn, 1) := by decide +kernel
set_option maxRecDepth 20000 in
theorem dX6_isSetting_44 : decode cX6_isSetting 44 = .ok (.iload_n 1, 1) := by decide +kernel
set_option maxRecDepth 20000 in
theorem dX6_isSetting_45 : decode cX6_isSetting 45 = .ok (.iconst 0, 1) := by decide +kernel
set_option maxRecDepth 20000 in
theorem dX6_isSetting_46 : decode cX6_isSetting 46 = .ok (.bipush 120, 2) := by decide +kernel
set_option maxRecDepth 20000 in
theorem dX6_isSetting_48 : decode cX6_isSetting 48 = .ok (.invokestatic 36, 3) := by decide +kernel
set_option maxRecDepth 20000 in
theorem dX6_isSetting_51 : decode cX6_isSetting 51 = .ok (.ireturn, 1) := by decide +kernel
set_option maxRecDepth 20000 in
theorem dX6_isSetting_52 : decode cX6_isSetting 52 = .ok (.iload_n 0, 1) := by decide +kernel
set_option maxRecDepth 20000 in
theorem dX6_isSetting_53 : decode cX6_isSetting 53 = .ok (.iconst 3, 1) := by decide +kernel
set_option maxRecDepth 20000 in
theorem dX6_isSetting_54 : decode cX6_isSetting 54 = .ok (.if_icmp .ne 19, 3) := by decide +kernel
set_option maxRecDepth 20000 in
theorem dX6_isSetting_57 : decode cX6_isSetting 57 = .ok (.iload_n 1, 1) := by decide +kernel
set_option maxRecDepth 20000 in
theorem dX6_isSetting_58 : decode cX6_isSetting 58 = .ok (.bipush 10, 2) := by decide +kernel
set_option maxRecDepth 20000 in
theorem dX6_isSetting_60 : decode cX6_isSetting 60 = .ok (.sipush 300, 3) := by decide +kernel
set_option maxRecDepth 20000 in
theorem dX6_isSetting_63 : decode cX6_isSetting 63 = .ok (.invokestatic 36, 3) := by decide +kernel
set_option maxRecDepth 20000 in
theorem dX6_isSetting_66 : decode cX6_isSetting 66 = .ok (.ifCond .eq 7, 3) := by decide +kernel
set_option maxRecDepth 20000 in
theorem dX6_isSetting_69 : decode cX6_isSetting 69 = .ok (.iconst 1, 1) := by decide +kernel
set_option maxRecDepth 20000 in
theorem dX6_isSetting_70 : decode cX6_isSetting 70 = .ok (.goto 4, 3) := by decide +kernel
set_option maxRecDepth 20000 in
theorem dX6_isSetting_73 : decode cX6_isSetting 73 = .ok (.iconst 0, 1) := by decide +kernel
set_option maxRecDepth 20000 in
theorem dX6_isSetting_74 : decode cX6_isSetting 74 = .ok (.ireturn, 1) := by decide +kernel
set_option maxRecDepth 20000 in
theorem dX6_set_0 : decode cX6_set 0 = .ok (.aload_n 0, 1) := by decide +kernel
set_option maxRecDepth 20000 in
theorem dX6_set_1 : decode cX6_set 1 = .ok (.iconst 0, 1) := by decide +kernel
set_option maxRecDepth 20000 in
theorem dX6_set_2 : decode cX6_set 2 = .ok (.putfield 32, 3) := by decide +kernel
set_option maxRecDepth 20000 in
theorem dX6_set_5 : decode cX6_set 5 = .ok (.iload_n 1, 1) := by decide +kernel
set_option maxRecDepth 20000 in
theorem dX6_set_6 : decode cX6_set 6 = .ok (.iload_n 2, 1) := by decide +kernel
set_option maxRecDepth 20000 in
theorem dX6_set_7 : decode cX6_set 7 = .ok (.invokestatic 142, 3) := by decide +kernel
set_option maxRecDepth 20000 in
theorem dX6_set_10 : decode cX6_set 10 = .ok (.ifCond .ne 6, 3) := by decide +kernel
set_option maxRecDepth 20000 in
theorem dX6_set_13 : decode cX6_set 13 = .ok (.bipush (-2), 2) := by decide +kernel
set_option maxRecDepth 20000 in
theorem dX6_set_15 : decode cX6_set 15 = .ok (.ireturn, 1) := by decide +kernel
set_option maxRecDepth 20000 in
theorem dX6_set_16 : decode cX6_set 16 = .ok (.aload_n 0, 1) := by decide +kernel
set_option maxRecDepth 20000 in
theorem dX6_set_17 : decode cX6_set 17 = .ok (.getfield 7, 3) := by decide +kernel
set_option maxRecDepth 20000 in
theorem dX6_set_20 : decode cX6_set 20 = .ok (.iload_n 1, 1) := by decide +kernel
set_option maxRecDepth 20000 in
theorem dX6_set_21 : decode cX6_set 21 = .ok (.iaload, 1) := by decide +kernel
set_option maxRecDepth 20000 in
theorem dX6_set_22 : decode cX6_set 22 = .ok (.istore_n 3, 1) := by decide +kernel
set_option maxRecDepth 20000 in
theorem dX6_set_23 : decode cX6_set 23 = .ok (.iload_n 3, 1) := by decide +kernel
set_option maxRecDepth 20000 in
theorem dX6_set_24 : decode cX6_set 24 = .ok (.iload_n 2, 1) := by decide +kernel
set_option maxRecDepth 20000 in
theorem dX6_set_25 : decode cX6_set 25 = .ok (.if_icmp .ne 6, 3) := by decide +kernel
set_option maxRecDepth 20000 in
theorem dX6_set_28 : decode cX6_set 28 = .ok (.bipush (-5), 2) := by decide +kernel
set_option maxRecDepth 20000 in
theorem dX6_set_30 : decode cX6_set 30 = .ok (.ireturn, 1) := by decide +kernel
set_option maxRecDepth 20000 in
theorem dX6_set_31 : decode cX6_set 31 = .ok (.aload_n 0, 1) := by decide +kernel
set_option maxRecDepth 20000 in
theorem dX6_set_32 : decode cX6_set 32 = .ok (.invokevirtual 109, 3) := by decide +kernel
set_option maxRecDepth 20000 in
theorem dX6_set_35 : decode cX6_set 35 = .ok (.aload_n 0, 1) := by decide +kernel
set_option maxRecDepth 20000 in
theorem dX6_set_36 : decode cX6_set 36 = .ok (.getfield 7, 3) := by decide +kernel
set_option maxRecDepth 20000 in
theorem dX6_set_39 : decode cX6_set 39 = .ok (.iload_n 1, 1) := by decide +kernel
set_option maxRecDepth 20000 in
theorem dX6_set_40 : decode cX6_set 40 = .ok (.iload_n 2, 1) := by decide +kernel
set_option maxRecDepth 20000 in
theorem dX6_set_41 : decode cX6_set 41 = .ok (.iastore, 1) := by decide +kernel
set_option maxRecDepth 20000 in
theorem dX6_set_42 : decode cX6_set 42 = .ok (.iload_n 1, 1) := by decide +kernel
set_option maxRecDepth 20000 in
theorem dX6_set_43 : decode cX6_set 43 = .ok (.iconst 2, 1) := by decide +kernel
set_option maxRecDepth 20000 in
theorem dX6_set_44 : decode cX6_set 44 = .ok (.if_icmp .eq 7, 3) := by decide +kernel
set_option maxRecDepth 20000 in
theorem dX6_set_47 : decode cX6_set 47 = .ok (.aload_n 0, 1) := by decide +kernel
set_option maxRecDepth 20000 in
theorem dX6_set_48 : decode cX6_set 48 = .ok (.invokevirtual 130, 3) := by decide +kernel
set_option maxRecDepth 20000 in
theorem dX6_set_51 : decode cX6_set 51 = .ok (.iload_n 3, 1) := by decide +kernel
set_option maxRecDepth 20000 in
theorem dX6_set_52 : decode cX6_set 52 = .ok (.ireturn, 1) := by decide +kernel
set_option maxRecDepth 20000 in
theorem dX6_passDay_0 : decode cX6_passDay 0 = .ok (.aload_n 0, 1) := by decide +kernel
set_option maxRecDepth 20000 in
theorem dX6_passDay_1 : decode cX6_passDay 1 = .ok (.iconst 0, 1) := by decide +kernel
set_option maxRecDepth 20000 in
theorem dX6_passDay_2 : decode cX6_passDay 2 = .ok (.putfield 32, 3) := by decide +kernel
set_option maxRecDepth 20000 in
theorem dX6_passDay_5 : decode cX6_passDay 5 = .ok (.aload_n 0, 1) := by decide +kernel
set_option maxRecDepth 20000 in
theorem dX6_passDay_6 : decode cX6_passDay 6 = .ok (.invokevirtual 109, 3) := by decide +kernel
set_option maxRecDepth 20000 in
theorem dX6_passDay_9 : decode cX6_passDay 9 = .ok (.iconst 0, 1) := by decide +kernel
set_option maxRecDepth 20000 in
theorem dX6_passDay_10 : decode cX6_passDay 10 = .ok (.istore_n 1, 1) := by decide +kernel
set_option maxRecDepth 20000 in
theorem dX6_passDay_11 : decode cX6_passDay 11 = .ok (.iconst 0, 1) := by decide +kernel
set_option maxRecDepth 20000 in
theorem dX6_passDay_12 : decode cX6_passDay 12 = .ok (.istore_n 2, 1) := by decide +kernel
set_option maxRecDepth 20000 in
theorem dX6_passDay_13 : decode cX6_passDay 13 = .ok (.iload_n 2, 1) := by decide +kernel
set_option maxRecDepth 20000 in
theorem dX6_passDay_14 : decode cX6_passDay 14 = .ok (.iconst 2, 1) := by decide +kernel
set_option maxRecDepth 20000 in
theorem dX6_passDay_15 : decode cX6_passDay 15 = .ok (.aload_n 0, 1) := by decide +kernel
set_option maxRecDepth 20000 in
theorem dX6_passDay_16 : decode cX6_passDay 16 = .ok (.getfield 7, 3) := by decide +kernel
set_option maxRecDepth 20000 in
theorem dX6_passDay_19 : decode cX6_passDay 19 = .ok (.iconst 4, 1) := by decide +kernel
set_option maxRecDepth 20000 in
theorem dX6_passDay_20 : decode cX6_passDay 20 = .ok (.iaload, 1) := by decide +kernel
set_option maxRecDepth 20000 in
theorem dX6_passDay_21 : decode cX6_passDay 21 = .ok (.imul, 1) := by decide +kernel
set_option maxRecDepth 20000 in
theorem dX6_passDay_22 : decode cX6_passDay 22 = .ok (.if_icmp .ge 39, 3) := by decide +kernel
set_option maxRecDepth 20000 in
theorem dX6_passDay_25 : decode cX6_passDay 25 = .ok (.iload_n 1, 1) := by decide +kernel
set_option maxRecDepth 20000 in
theorem dX6_passDay_26 : decode cX6_passDay 26 = .ok (.aload_n 0, 1) := by decide +kernel
set_option maxRecDepth 20000 in
theorem dX6_passDay_27 : decode cX6_passDay 27 = .ok (.iload_n 2, 1) := by decide +kernel
set_option maxRecDepth 20000 in
theorem dX6_passDay_28 : decode cX6_passDay 28 = .ok (.iconst 2, 1) := by decide +kernel
set_option maxRecDepth 20000 in
theorem dX6_passDay_29 : decode cX6_passDay 29 = .ok (.irem, 1) := by decide +kernel
set_option maxRecDepth 20000 in
theorem dX6_passDay_30 : decode cX6_passDay 30 = .ok (.iload_n 2, 1) := by decide +kernel
set_option maxRecDepth 20000 in
theorem dX6_passDay_31 : decode cX6_passDay 31 = .ok (.iconst 2, 1) := by decide +kernel
set_option maxRecDepth 20000 in
theorem dX6_passDay_32 : decode cX6_passDay 32 = .ok (.idiv, 1) := by decide +kernel
set_option maxRecDepth 20000 in
theorem dX6_passDay_33 : decode cX6_passDay 33 = .ok (.invokevirtual 146, 3) := by decide +kernel
set_option maxRecDepth 20000 in
theorem dX6_passDay_36 : decode cX6_passDay 36 = .ok (.ifCond .eq 7, 3) := by decide +kernel
set_option maxRecDepth 20000 in
theorem dX6_passDay_39 : decode cX6_passDay 39 = .ok (.iconst 0, 1) := by decide +kernel
set_option maxRecDepth 20000 in
theorem dX6_passDay_40 : decode cX6_passDay 40 = .ok (.goto 13, 3) := by decide +kernel
set_option maxRecDepth 20000 in
theorem dX6_passDay_43 : decode cX6_passDay 43 = .ok (.aload_n 0, 1) := by decide +kernel
set_option maxRecDepth 20000 in
theorem dX6_passDay_44 : decode cX6_passDay 44 = .ok (.iload_n 2, 1) := by decide +kernel
set_option maxRecDepth 20000 in
theorem dX6_passDay_45 : decode cX6_passDay 45 = .ok (.iconst 2, 1) := by decide +kernel
set_option maxRecDepth 20000 in
theorem dX6_passDay_46 : decode cX6_passDay 46 = .ok (.irem, 1) := by decide +kernel
set_option maxRecDepth 20000 in
theorem dX6_passDay_47 : decode cX6_passDay 47 = .ok (.iload_n 2, 1) := by decide +kernel
set_option maxRecDepth 20000 in
theorem dX6_passDay_48 : decode cX6_passDay 48 = .ok (.iconst 2, 1) := by decide +kernel
set_option maxRecDepth 20000 in
theorem dX6_passDay_49 : decode cX6_passDay 49 = .ok (.idiv, 1) := by decide +kernel
set_option maxRecDepth 20000 in
theorem dX6_passDay_50 : decode cX6_passDay 50 = .ok (.invokevirtual 149, 3) := by decide +kernel
set_option maxRecDepth 20000 in
theorem dX6_passDay_53 : decode cX6_passDay 53 = .ok (.iadd, 1) := by decide +kernel
set_option maxRecDepth 20000 in
theorem dX6_passDay_54 : decode cX6_passDay 54 = .ok (.istore_n 1, 1) := by decide +kernel
set_option maxRecDepth 20000 in
theorem dX6_passDay_55 : decode cX6_passDay 55 = .ok (.iinc 2 1, 3) := by decide +kernel
set_option maxRecDepth 20000 in
theorem dX6_passDay_58 : decode cX6_passDay 58 = .ok (.goto (-45), 3) := by decide +kernel
set_option maxRecDepth 20000 in
theorem dX6_passDay_61 : decode cX6_passDay 61 = .ok (.iconst 0, 1) := by decide +kernel
set_option maxRecDepth 20000 in
theorem dX6_passDay_62 : decode cX6_passDay 62 = .ok (.istore_n 2, 1) := by decide +kernel
set_option maxRecDepth 20000 in
theorem dX6_passDay_63 : decode cX6_passDay 63 = .ok (.iload_n 2, 1) := by decide +kernel
set_option maxRecDepth 20000 in
theorem dX6_passDay_64 : decode cX6_passDay 64 = .ok (.aload_n 0, 1) := by decide +kernel
set_option maxRecDepth 20000 in
theorem dX6_passDay_65 : decode cX6_passDay 65 = .ok (.getfield 7, 3) := by decide +kernel
set_option maxRecDepth 20000 in
theorem dX6_passDay_68 : decode cX6_passDay 68 = .ok (.bipush 6, 2) := by decide +kernel
set_option maxRecDepth 20000 in
theorem dX6_passDay_70 : decode cX6_passDay 70 = .ok (.iaload, 1) := by decide +kernel
set_option maxRecDepth 20000 in
theorem dX6_passDay_71 : decode cX6_passDay 71 = .ok (.if_icmp .ge 45, 3) := by decide +kernel
set_option maxRecDepth 20000 in
theorem dX6_passDay_74 : decode cX6_passDay 74 = .ok (.aload_n 0, 1) := by decide +kernel
set_option maxRecDepth 20000 in
theorem dX6_passDay_75 : decode cX6_passDay 75 = .ok (.iload_n 2, 1) := by decide +kernel
set_option maxRecDepth 20000 in
theorem dX6_passDay_76 : decode cX6_passDay 76 = .ok (.iconst 4, 1) := by decide +kernel
set_option maxRecDepth 20000 in
theorem dX6_passDay_77 : decode cX6_passDay 77 = .ok (.invokevirtual 40, 3) := by decide +kernel
set_option maxRecDepth 20000 in
theorem dX6_passDay_80 : decode cX6_passDay 80 = .ok (.ifCond .ne 30, 3) := by decide +kernel
set_option maxRecDepth 20000 in
theorem dX6_passDay_83 : decode cX6_passDay 83 = .ok (.aload_n 0, 1) := by decide +kernel
set_option maxRecDepth 20000 in
theorem dX6_passDay_84 : decode cX6_passDay 84 = .ok (.iload_n 2, 1) := by decide +kernel
set_option maxRecDepth 20000 in
theorem dX6_passDay_85 : decode cX6_passDay 85 = .ok (.bipush 7, 2) := by decide +kernel
set_option maxRecDepth 20000 in
theorem dX6_passDay_87 : decode cX6_passDay 87 = .ok (.aload_n 0, 1) := by decide +kernel
set_option maxRecDepth 20000 in
theorem dX6_passDay_88 : decode cX6_passDay 88 = .ok (.iload_n 2, 1) := by decide +kernel
set_option maxRecDepth 20000 in
theorem dX6_passDay_89 : decode cX6_passDay 89 = .ok (.bipush 7, 2) := by decide +kernel
set_option maxRecDepth 20000 in
theorem dX6_passDay_91 : decode cX6_passDay 91 = .ok (.invokevirtual 40, 3) := by decide +kernel
set_option maxRecDepth 20000 in
theorem dX6_passDay_94 : decode cX6_passDay 94 = .ok (.iconst 1, 1) := by decide +kernel
set_option maxRecDepth 20000 in
theorem dX6_passDay_95 : decode cX6_passDay 95 = .ok (.iadd, 1) := by decide +kernel
set_option maxRecDepth 20000 in
theorem dX6_passDay_96 : decode cX6_passDay 96 = .ok (.invokevirtual 82, 3) := by decide +kernel
set_option maxRecDepth 20000 in
theorem dX6_passDay_99 : decode cX6_passDay 99 = .ok (.aload_n 0, 1) := by decide +kernel
set_option maxRecDepth 20000 in
theorem dX6_passDay_100 : decode cX6_passDay 100 = .ok (.getfield 7, 3) := by decide +kernel
set_option maxRecDepth 20000 in
theorem dX6_passDay_103 : decode cX6_passDay 103 = .ok (.bipush 10, 2) := by decide +kernel
set_option maxRecDepth 20000 in
theorem dX6_passDay_105 : decode cX6_passDay 105 = .ok (.dup2, 1) := by decide +kernel
set_option maxRecDepth 20000 in
theorem dX6_passDay_106 : decode cX6_passDay 106 = .ok (.iaload, 1) := by decide +kernel
set_option maxRecDepth 20000 in
theorem dX6_passDay_107 : decode cX6_passDay 107 = .ok (.iconst 1, 1) := by decide +kernel
set_option maxRecDepth 20000 in
theorem dX6_passDay_108 : decode cX6_passDay 108 = .ok (.iadd, 1) := by decide +kernel
set_option maxRecDepth 20000 in
theorem dX6_passDay_109 : decode cX6_passDay 109 = .ok (.iastore, 1) := by decide +kernel
set_option maxRecDepth 20000 in
theorem dX6_passDay_110 : decode cX6_passDay 110 = .ok (.iinc 2 1, 3) := by decide +kernel
set_option maxRecDepth 20000 in
theorem dX6_passDay_113 : decode cX6_passDay 113 = .ok (.goto (-50), 3) := by decide +kernel
set_option maxRecDepth 20000 in
theorem dX6_passDay_116 : decode cX6_passDay 116 = .ok (.aload_n 0, 1) := by decide +kernel
set_option maxRecDepth 20000 in
theorem dX6_passDay_117 : decode cX6_passDay 117 = .ok (.getfield 7, 3) := by decide +kernel
set_option maxRecDepth 20000 in
theorem dX6_passDay_120 : decode cX6_passDay 120 = .ok (.bipush 7, 2) := by decide +kernel
set_option maxRecDepth 20000 in
theorem dX6_passDay_122 : decode cX6_passDay 122 = .ok (.dup2, 1) := by decide +kernel
set_option maxRecDepth 20000 in
theorem dX6_passDay_123 : decode cX6_passDay 123 = .ok (.iaload, 1) := by decide +kernel
set_option maxRecDepth 20000 in
theorem dX6_passDay_124 : decode cX6_passDay 124 = .ok (.iconst 1, 1) := by decide +kernel
set_option maxRecDepth 20000 in
theorem dX6_passDay_125 : decode cX6_passDay 125 = .ok (.iadd, 1) := by decide +kernel
set_option maxRecDepth 20000 in
theorem dX6_passDay_126 : decode cX6_passDay 126 = .ok (.iastore, 1) := by decide +kernel
set_option maxRecDepth 20000 in
theorem dX6_passDay_127 : decode cX6_passDay 127 = .ok (.iload_n 1, 1) := by decide +kernel
set_option maxRecDepth 20000 in
theorem dX6_passDay_128 : decode cX6_passDay 128 = .ok (.ireturn, 1) := by decide +kernel
set_option maxRecDepth 20000 in
theorem dX6_type_0 : decode cX6_type 0 = .ok (.aload_n 0, 1) := by decide +kernel
set_option maxRecDepth 20000 in
theorem dX6_type_1 : decode cX6_type 1 = .ok (.iconst 0, 1) := by decide +kernel
set_option maxRecDepth 20000 in
theorem dX6_type_2 : decode cX6_type 2 = .ok (.putfield 32, 3) := by decide +kernel
set_option maxRecDepth 20000 in
theorem dX6_type_5 : decode cX6_type 5 = .ok (.aload_n 0, 1) := by decide +kernel
set_option maxRecDepth 20000 in
theorem dX6_type_6 : decode cX6_type 6 = .ok (.getfield 152, 3) := by decide +kernel
set_option maxRecDepth 20000 in
theorem dX6_type_9 : decode cX6_type 9 = .ok (.bipush 60, 2) := by decide +kernel
set_option maxRecDepth 20000 in
theorem dX6_type_11 : decode cX6_type 11 = .ok (.if_icmp .ne 6, 3) := by decide +kernel
set_option maxRecDepth 20000 in
theorem dX6_type_14 : decode cX6_type 14 = .ok (.bipush (-3), 2) := by decide +kernel
set_option maxRecDepth 20000 in
theorem dX6_type_16 : decode cX6_type 16 = .ok (.ireturn, 1) := by decide +kernel
set_option maxRecDepth 20000 in
theorem dX6_type_17 : decode cX6_type 17 = .ok (.aload_n 0, 1) := by decide +kernel
set_option maxRecDepth 20000 in
theorem dX6_type_18 : decode cX6_type 18 = .ok (.getfield 19, 3) := by decide +kernel
set_option maxRecDepth 20000 in
theorem dX6_type_21 : decode cX6_type 21 = .ok (.aload_n 0, 1) := by decide +kernel
set_option maxRecDepth 20000 in
theorem dX6_type_22 : decode cX6_type 22 = .ok (.getfield 152, 3) := by decide +kernel
set_option maxRecDepth 20000 in
theorem dX6_type_25 : decode cX6_type 25 = .ok (.iload_n 1, 1) := by decide +kernel
set_option maxRecDepth 20000 in
theorem dX6_type_26 : decode cX6_type 26 = .ok (.iastore, 1) := by decide +kernel
set_option maxRecDepth 20000 in
theorem dX6_type_27 : decode cX6_type 27 = .ok (.aload_n 0, 1) := by decide +kernel
set_option maxRecDepth 20000 in
theorem dX6_type_28 : decode cX6_type 28 = .ok (.dup, 1) := by decide +kernel
set_option maxRecDepth 20000 in
theorem dX6_type_29 : decode cX6_type 29 = .ok (.getfield 152, 3) := by decide +kernel
set_option maxRecDepth 20000 in
theorem dX6_type_32 : decode cX6_type 32 = .ok (.iconst 1, 1) := by decide +kernel
set_option maxRecDepth 20000 in
theorem dX6_type_33 : decode cX6_type 33 = .ok (.iadd, 1) := by decide +kernel
set_option maxRecDepth 20000 in
theorem dX6_type_34 : decode cX6_type 34 = .ok (.putfield 152, 3) := by decide +kernel
set_option maxRecDepth 20000 in
theorem dX6_type_37 : decode cX6_type 37 = .ok (.aload_n 0, 1) := by decide +kernel
set_option maxRecDepth 20000 in
theorem dX6_type_38 : decode cX6_type 38 = .ok (.getfield 152, 3) := by decide +kernel
set_option maxRecDepth 20000 in
theorem dX6_type_41 : decode cX6_type 41 = .ok (.ireturn, 1) := by decide +kernel
set_option maxRecDepth 20000 in
theorem dX6_clearText_0 : decode cX6_clearText 0 = .ok (.aload_n 0, 1) := by decide +kernel
set_option maxRecDepth 20000 in
theorem dX6_clearText_1 : decode cX6_clearText 1 = .ok (.iconst 0, 1) := by decide +kernel
set_option maxRecDepth 20000 in
theorem dX6_clearText_2 : decode cX6_clearText 2 = .ok (.putfield 32, 3) := by decide +kernel
set_option maxRecDepth 20000 in
theorem dX6_clearText_5 : decode cX6_clearText 5 = .ok (.aload_n 0, 1) := by decide +kernel
set_option maxRecDepth 20000 in
theorem dX6_clearText_6 : decode cX6_clearText 6 = .ok (.getfield 152, 3) := by decide +kernel
set_option maxRecDepth 20000 in
theorem dX6_clearText_9 : decode cX6_clearText 9 = .ok (.istore_n 1, 1) := by decide +kernel
set_option maxRecDepth 20000 in
theorem dX6_clearText_10 : decode cX6_clearText 10 = .ok (.aload_n 0, 1) := by decide +kernel
set_option maxRecDepth 20000 in
theorem dX6_clearText_11 : decode cX6_clearText 11 = .ok (.iconst 0, 1) := by decide +kernel
set_option maxRecDepth 20000 in
theorem dX6_clearText_12 : decode cX6_clearText 12 = .ok (.putfield 152, 3) := by decide +kernel
set_option maxRecDepth 20000 in
theorem dX6_clearText_15 : decode cX6_clearText 15 = .ok (.iload_n 1, 1) := by decide +kernel
set_option maxRecDepth 20000 in
theorem dX6_clearText_16 : decode cX6_clearText 16 = .ok (.ireturn, 1) := by decide +kernel
set_option maxRecDepth 20000 in
theorem dX6_sign_0 : decode cX6_sign 0 = .ok (.aload_n 0, 1) := by decide +kernel
set_option maxRecDepth 20000 in
theorem dX6_sign_1 : decode cX6_sign 1 = .ok (.getfield 155, 3) := by decide +kernel
set_option maxRecDepth 20000 in
theorem dX6_sign_4 : decode cX6_sign 4 = .ok (.aload_n 0, 1) := by decide +kernel
set_option maxRecDepth 20000 in
theorem dX6_sign_5 : decode cX6_sign 5 = .ok (.getfield 152, 3) := by decide +kernel
set_option maxRecDepth 20000 in
theorem dX6_sign_8 : decode cX6_sign 8 = .ok (.if_icmp .ge 15, 3) := by decide +kernel
set_option maxRecDepth 20000 in
theorem dX6_sign_11 : decode cX6_sign 11 = .ok (.aload_n 0, 1) := by decide +kernel
set_option maxRecDepth 20000 in
theorem dX6_sign_12 : decode cX6_sign 12 = .ok (.getfield 19, 3) := by decide +kernel
set_option maxRecDepth 20000 in
theorem dX6_sign_15 : decode cX6_sign 15 = .ok (.aload_n 0, 1) := by decide +kernel
set_option maxRecDepth 20000 in
theorem dX6_sign_16 : decode cX6_sign 16 = .ok (.getfield 155, 3) := by decide +kernel
set_option maxRecDepth 20000 in
theorem dX6_sign_19 : decode cX6_sign 19 = .ok (.iaload, 1) := by decide +kernel
set_option maxRecDepth 20000 in
theorem dX6_sign_20 : decode cX6_sign 20 = .ok (.goto 4, 3) := by decide +kernel
set_option maxRecDepth 20000 in
theorem dX6_sign_23 : decode cX6_sign 23 = .ok (.iconst 0, 1) := by decide +kernel
set_option maxRecDepth 20000 in
theorem dX6_sign_24 : decode cX6_sign 24 = .ok (.ireturn, 1) := by decide +kernel
set_option maxRecDepth 20000 in
theorem dX6_readsStop_0 : decode cX6_readsStop 0 = .ok (.aload_n 0, 1) := by decide +kernel
set_option maxRecDepth 20000 in
theorem dX6_readsStop_1 : decode cX6_readsStop 1 = .ok (.getfield 29, 3) := by decide +kernel
set_option maxRecDepth 20000 in
theorem dX6_readsStop_4 : decode cX6_readsStop 4 = .ok (.iconst 3, 1) := by decide +kernel
set_option maxRecDepth 20000 in
theorem dX6_readsStop_5 : decode cX6_readsStop 5 = .ok (.aload_n 0, 1) := by decide +kernel
set_option maxRecDepth 20000 in
theorem dX6_readsStop_6 : decode cX6_readsStop 6 = .ok (.getfield 124, 3) := by decide +kernel
set_option maxRecDepth 20000 in
theorem dX6_readsStop_9 : decode cX6_readsStop 9 = .ok (.imul, 1) := by decide +kernel
set_option maxRecDepth 20000 in
theorem dX6_readsStop_10 : decode cX6_readsStop 10 = .ok (.iload_n 1, 1) := by decide +kernel
set_option maxRecDepth 20000 in
theorem dX6_readsStop_11 : decode cX6_readsStop 11 = .ok (.iastore, 1) := by decide +kernel
set_option maxRecDepth 20000 in
theorem dX6_readsStop_12 : decode cX6_readsStop 12 = .ok (.aload_n 0, 1) := by decide +kernel
set_option maxRecDepth 20000 in
theorem dX6_readsStop_13 : decode cX6_readsStop 13 = .ok (.getfield 29, 3) := by decide +kernel
set_option maxRecDepth 20000 in
theorem dX6_readsStop_16 : decode cX6_readsStop 16 = .ok (.iconst 3, 1) := by decide +kernel
set_option maxRecDepth 20000 in
theorem dX6_readsStop_17 : decode cX6_readsStop 17 = .ok (.aload_n 0, 1) := by decide +kernel
set_option maxRecDepth 20000 in
theorem dX6_readsStop_18 : decode cX6_readsStop 18 = .ok (.getfield 124, 3) := by decide +kernel
set_option maxRecDepth 20000 in
theorem dX6_readsStop_21 : decode cX6_readsStop 21 = .ok (.imul, 1) := by decide +kernel
set_option maxRecDepth 20000 in
theorem dX6_readsStop_22 : decode cX6_readsStop 22 = .ok (.iconst 1, 1) := by decide +kernel
set_option maxRecDepth 20000 in
theorem dX6_readsStop_23 : decode cX6_readsStop 23 = .ok (.iadd, 1) := by decide +kernel
set_option maxRecDepth 20000 in
theorem dX6_readsStop_24 : decode cX6_readsStop 24 = .ok (.iload_n 2, 1) := by decide +kernel
set_option maxRecDepth 20000 in
theorem dX6_readsStop_25 : decode cX6_readsStop 25 = .ok (.iastore, 1) := by decide +kernel
set_option maxRecDepth 20000 in
theorem dX6_readsStop_26 : decode cX6_readsStop 26 = .ok (.aload_n 0, 1) := by decide +kernel
set_option maxRecDepth 20000 in
theorem dX6_readsStop_27 : decode cX6_readsStop 27 = .ok (.getfield 29, 3) := by decide +kernel
set_option maxRecDepth 20000 in
theorem dX6_readsStop_30 : decode cX6_readsStop 30 = .ok (.iconst 3, 1) := by decide +kernel
set_option maxRecDepth 20000 in
theorem dX6_readsStop_31 : decode cX6_readsStop 31 = .ok (.aload_n 0, 1) := by decide +kernel
set_option maxRecDepth 20000 in
theorem dX6_readsStop_32 : decode cX6_readsStop 32 = .ok (.getfield 124, 3) := by decide +kernel
set_option maxRecDepth 20000 in
theorem dX6_readsStop_35 : decode cX6_readsStop 35 = .ok (.imul, 1) := by decide +kernel
set_option maxRecDepth 20000 in
theorem dX6_readsStop_36 : decode cX6_readsStop 36 = .ok (.iconst 2, 1) := by decide +kernel
set_option maxRecDepth 20000 in
theorem dX6_readsStop_37 : decode cX6_readsStop 37 = .ok (.iadd, 1) := by decide +kernel
set_option maxRecDepth 20000 in
theorem dX6_readsStop_38 : decode cX6_readsStop 38 = .ok (.aload_n 0, 1) := by decide +kernel
set_option maxRecDepth 20000 in
theorem dX6_readsStop_39 : decode cX6_readsStop 39 = .ok (.invokevirtual 158, 3) := by decide +kernel
set_option maxRecDepth 20000 in
theorem dX6_readsStop_42 : decode cX6_readsStop 42 = .ok (.bipush 48, 2) := by decide +kernel
set_option maxRecDepth 20000 in
theorem dX6_readsStop_44 : decode cX6_readsStop 44 = .ok (.isub, 1) := by decide +kernel
set_option maxRecDepth 20000 in
theorem dX6_readsStop_45 : decode cX6_readsStop 45 = .ok (.iastore, 1) := by decide +kernel
set_option maxRecDepth 20000 in
theorem dX6_readsStop_46 : decode cX6_readsStop 46 = .ok (.aload_n 0, 1) := by decide +kernel
set_option maxRecDepth 20000 in
theorem dX6_readsStop_47 : decode cX6_readsStop 47 = .ok (.dup, 1) := by decide +kernel
set_option maxRecDepth 20000 in
theorem dX6_readsStop_48 : decode cX6_readsStop 48 = .ok (.getfield 124, 3) := by decide +kernel
set_option maxRecDepth 20000 in
theorem dX6_readsStop_51 : decode cX6_readsStop 51 = .ok (.iconst 1, 1) := by decide +kernel
set_option maxRecDepth 20000 in
theorem dX6_readsStop_52 : decode cX6_readsStop 52 = .ok (.iadd, 1) := by decide +kernel
set_option maxRecDepth 20000 in
theorem dX6_readsStop_53 : decode cX6_readsStop 53 = .ok (.putfield 124, 3) := by decide +kernel
set_option maxRecDepth 20000 in
theorem dX6_readsStop_56 : decode cX6_readsStop 56 = .ok (.aload_n 0, 1) := by decide +kernel
set_option maxRecDepth 20000 in
theorem dX6_readsStop_57 : decode cX6_readsStop 57 = .ok (.dup, 1) := by decide +kernel
set_option maxRecDepth 20000 in
theorem dX6_readsStop_58 : decode cX6_readsStop 58 = .ok (.getfield 155, 3) := by decide +kernel
set_option maxRecDepth 20000 in
theorem dX6_readsStop_61 : decode cX6_readsStop 61 = .ok (.iconst 1, 1) := by decide +kernel
set_option maxRecDepth 20000 in
theorem dX6_readsStop_62 : decode cX6_readsStop 62 = .ok (.iadd, 1) := by decide +kernel
set_option maxRecDepth 20000 in
theorem dX6_readsStop_63 : decode cX6_readsStop 63 = .ok (.putfield 155, 3) := by decide +kernel
set_option maxRecDepth 20000 in
theorem dX6_readsStop_66 : decode cX6_readsStop 66 = .ok (.return_, 1) := by decide +kernel
set_option maxRecDepth 20000 in
theorem dX6_readsBooking_0 : decode cX6_readsBooking 0 = .ok (.aload_n 0, 1) := by decide +kernel
set_option maxRecDepth 20000 in
theorem dX6_readsBooking_1 : decode cX6_readsBooking 1 = .ok (.aload_n 0, 1) := by decide +kernel
set_option maxRecDepth 20000 in
theorem dX6_readsBooking_2 : decode cX6_readsBooking 2 = .ok (.invokevirtual 158, 3) := by decide +kernel
set_option maxRecDepth 20000 in
theorem dX6_readsBooking_5 : decode cX6_readsBooking 5 = .ok (.bipush 48, 2) := by decide +kernel
set_option maxRecDepth 20000 in
theorem dX6_readsBooking_7 : decode cX6_readsBooking 7 = .ok (.bipush 57, 2) := by decide +kernel
set_option maxRecDepth 20000 in
theorem dX6_readsBooking_9 : decode cX6_readsBooking 9 = .ok (.invokestatic 36, 3) := by decide +kernel
set_option maxRecDepth 20000 in
theorem dX6_readsBooking_12 : decode cX6_readsBooking 12 = .ok (.putfield 161, 3) := by decide +kernel
set_option maxRecDepth 20000 in
theorem dX6_readsBooking_15 : decode cX6_readsBooking 15 = .ok (.aload_n 0, 1) := by decide +kernel
set_option maxRecDepth 20000 in
theorem dX6_readsBooking_16 : decode cX6_readsBooking 16 = .ok (.invokevirtual 158, 3) := by decide +kernel
set_option maxRecDepth 20000 in
theorem dX6_readsBooking_19 : decode cX6_readsBooking 19 = .ok (.bipush 48, 2) := by decide +kernel
set_option maxRecDepth 20000 in
theorem dX6_readsBooking_21 : decode cX6_readsBooking 21 = .ok (.isub, 1) := by decide +kernel
set_option maxRecDepth 20000 in
theorem dX6_readsBooking_22 : decode cX6_readsBooking 22 = .ok (.istore_n 1, 1) := by decide +kernel
set_option maxRecDepth 20000 in
theorem dX6_readsBooking_23 : decode cX6_readsBooking 23 = .ok (.aload_n 0, 1) := by decide +kernel
set_option maxRecDepth 20000 in
theorem dX6_readsBooking_24 : decode cX6_readsBooking 24 = .ok (.dup, 1) := by decide +kernel
set_option maxRecDepth 20000 in
theorem dX6_readsBooking_25 : decode cX6_readsBooking 25 = .ok (.getfield 155, 3) := by decide +kernel
set_option maxRecDepth 20000 in
theorem dX6_readsBooking_28 : decode cX6_readsBooking 28 = .ok (.aload_n 0, 1) := by decide +kernel
set_option maxRecDepth 20000 in
theorem dX6_readsBooking_29 : decode cX6_readsBooking 29 = .ok (.getfield 161, 3) := by decide +kernel
set_option maxRecDepth 20000 in
theorem dX6_readsBooking_32 : decode cX6_readsBooking 32 = .ok (.ifCond .eq 7, 3) := by decide +kernel
set_option maxRecDepth 20000 in
theorem dX6_readsBooking_35 : decode cX6_readsBooking 35 = .ok (.iconst 1, 1) := by decide +kernel
set_option maxRecDepth 20000 in
theorem dX6_readsBooking_36 : decode cX6_readsBooking 36 = .ok (.goto 4, 3) := by decide +kernel
set_option maxRecDepth 20000 in
theorem dX6_readsBooking_39 : decode cX6_readsBooking 39 = .ok (.iconst 0, 1) := by decide +kernel
set_option maxRecDepth 20000 in
theorem dX6_readsBooking_40 : decode cX6_readsBooking 40 = .ok (.iadd, 1) := by decide +kernel
set_option maxRecDepth 20000 in
theorem dX6_readsBooking_41 : decode cX6_readsBooking 41 = .ok (.putfield 155, 3) := by decide +kernel
set_option maxRecDepth 20000 in
theorem dX6_readsBooking_44 : decode cX6_readsBooking 44 = .ok (.aload_n 0, 1) := by decide +kernel
set_option maxRecDepth 20000 in
theorem dX6_readsBooking_45 : decode cX6_readsBooking 45 = .ok (.invokevirtual 158, 3) := by decide +kernel
set_option maxRecDepth 20000 in
theorem dX6_readsBooking_48 : decode cX6_readsBooking 48 = .ok (.istore_n 2, 1) := by decide +kernel
set_option maxRecDepth 20000 in
theorem dX6_readsBooking_49 : decode cX6_readsBooking 49 = .ok (.aload_n 0, 1) := by decide +kernel
set_option maxRecDepth 20000 in
theorem dX6_readsBooking_50 : decode cX6_readsBooking 50 = .ok (.aload_n 0, 1) := by decide +kernel
set_option maxRecDepth 20000 in
theorem dX6_readsBooking_51 : decode cX6_readsBooking 51 = .ok (.getfield 161, 3) := by decide +kernel
set_option maxRecDepth 20000 in
theorem dX6_readsBooking_54 : decode cX6_readsBooking 54 = .ok (.ifCond .eq 19, 3) := by decide +kernel
set_option maxRecDepth 20000 in
theorem dX6_readsBooking_57 : decode cX6_readsBooking 57 = .ok (.iload_n 2, 1) := by decide +kernel
set_option maxRecDepth 20000 in
theorem dX6_readsBooking_58 : decode cX6_readsBooking 58 = .ok (.bipush 97, 2) := by decide +kernel
set_option maxRecDepth 20000 in
theorem dX6_readsBooking_60 : decode cX6_readsBooking 60 = .ok (.if_icmp .eq 9, 3) := by decide +kernel
set_option maxRecDepth 20000 in
theorem dX6_readsBooking_63 : decode cX6_readsBooking 63 = .ok (.iload_n 2, 1) := by decide +kernel
set_option maxRecDepth 20000 in
theorem dX6_readsBooking_64 : decode cX6_readsBooking 64 = .ok (.bipush 98, 2) := by decide +kernel
set_option maxRecDepth 20000 in
theorem dX6_readsBooking_66 : decode cX6_readsBooking 66 = .ok (.if_icmp .ne 7, 3) := by decide +kernel
set_option maxRecDepth 20000 in
theorem dX6_readsBooking_69 : decode cX6_readsBooking 69 = .ok (.iconst 1, 1) := by decide +kernel
set_option maxRecDepth 20000 in
theorem dX6_readsBooking_70 : decode cX6_readsBooking 70 = .ok (.goto 4, 3) := by decide +kernel
set_option maxRecDepth 20000 in
theorem dX6_readsBooking_73 : decode cX6_readsBooking 73 = .ok (.iconst 0, 1) := by decide +kernel
set_option maxRecDepth 20000 in
theorem dX6_readsBooking_74 : decode cX6_readsBooking 74 = .ok (.putfield 161, 3) := by decide +kernel
set_option maxRecDepth 20000 in
theorem dX6_readsBooking_77 : decode cX6_readsBooking 77 = .ok (.aload_n 0, 1) := by decide +kernel
set_option maxRecDepth 20000 in
theorem dX6_readsBooking_78 : decode cX6_readsBooking 78 = .ok (.dup, 1) := by decide +kernel
set_option maxRecDepth 20000 in
theorem dX6_readsBooking_79 : decode cX6_readsBooking 79 = .ok (.getfield 155, 3) := by decide +kernel
set_option maxRecDepth 20000 in
theorem dX6_readsBooking_82 : decode cX6_readsBooking 82 = .ok (.aload_n 0, 1) := by decide +kernel
set_option maxRecDepth 20000 in
theorem dX6_readsBooking_83 : decode cX6_readsBooking 83 = .ok (.getfield 161, 3) := by decide +kernel
set_option maxRecDepth 20000 in
theorem dX6_readsBooking_86 : decode cX6_readsBooking 86 = .ok (.ifCond .eq 7, 3) := by decide +kernel
set_option maxRecDepth 20000 in
theorem dX6_readsBooking_89 : decode cX6_readsBooking 89 = .ok (.iconst 1, 1) := by decide +kernel
set_option maxRecDepth 20000 in
theorem dX6_readsBooking_90 : decode cX6_readsBooking 90 = .ok (.goto 4, 3) := by decide +kernel
set_option maxRecDepth 20000 in
theorem dX6_readsBooking_93 : decode cX6_readsBooking 93 = .ok (.iconst 0, 1) := by decide +kernel
set_option maxRecDepth 20000 in
theorem dX6_readsBooking_94 : decode cX6_readsBooking 94 = .ok (.iadd, 1) := by decide +kernel
set_option maxRecDepth 20000 in
theorem dX6_readsBooking_95 : decode cX6_readsBooking 95 = .ok (.putfield 155, 3) := by decide +kernel
set_option maxRecDepth 20000 in
theorem dX6_readsBooking_98 : decode cX6_readsBooking 98 = .ok (.aload_n 0, 1) := by decide +kernel
set_option maxRecDepth 20000 in
theorem dX6_readsBooking_99 : decode cX6_readsBooking 99 = .ok (.aload_n 0, 1) := by decide +kernel
set_option maxRecDepth 20000 in
theorem dX6_readsBooking_100 : decode cX6_readsBooking 100 = .ok (.getfield 161, 3) := by decide +kernel
set_option maxRecDepth 20000 in
theorem dX6_readsBooking_103 : decode cX6_readsBooking 103 = .ok (.ifCond .eq 21, 3) := by decide +kernel
set_option maxRecDepth 20000 in
theorem dX6_readsBooking_106 : decode cX6_readsBooking 106 = .ok (.aload_n 0, 1) := by decide +kernel
set_option maxRecDepth 20000 in
theorem dX6_readsBooking_107 : decode cX6_readsBooking 107 = .ok (.invokevirtual 158, 3) := by decide +kernel
set_option maxRecDepth 20000 in
theorem dX6_readsBooking_110 : decode cX6_readsBooking 110 = .ok (.bipush 49, 2) := by decide +kernel
set_option maxRecDepth 20000 in
theorem dX6_readsBooking_112 : decode cX6_readsBooking 112 = .ok (.bipush 57, 2) := by decide +kernel
set_option maxRecDepth 20000 in
theorem dX6_readsBooking_114 : decode cX6_readsBooking 114 = .ok (.invokestatic 36, 3) := by decide +kernel
set_option maxRecDepth 20000 in
theorem dX6_readsBooking_117 : decode cX6_readsBooking 117 = .ok (.ifCond .eq 7, 3) := by decide +kernel
set_option maxRecDepth 20000 in
theorem dX6_readsBooking_120 : decode cX6_readsBooking 120 = .ok (.iconst 1, 1) := by decide +kernel
set_option maxRecDepth 20000 in
theorem dX6_readsBooking_121 : decode cX6_readsBooking 121 = .ok (.goto 4, 3) := by decide +kernel
set_option maxRecDepth 20000 in
theorem dX6_readsBooking_124 : decode cX6_readsBooking 124 = .ok (.iconst 0, 1) := by decide +kernel
set_option maxRecDepth 20000 in
theorem dX6_readsBooking_125 : decode cX6_readsBooking 125 = .ok (.putfield 161, 3) := by decide +kernel
set_option maxRecDepth 20000 in
theorem dX6_readsBooking_128 : decode cX6_readsBooking 128 = .ok (.aload_n 0, 1) := by decide +kernel
set_option maxRecDepth 20000 in
theorem dX6_readsBooking_129 : decode cX6_readsBooking 129 = .ok (.getfield 161, 3) := by decide +kernel
set_option maxRecDepth 20000 in
theorem dX6_readsBooking_132 : decode cX6_readsBooking 132 = .ok (.ifCond .eq 29, 3) := by decide +kernel
set_option maxRecDepth 20000 in
theorem dX6_readsBooking_135 : decode cX6_readsBooking 135 = .ok (.aload_n 0, 1) := by decide +kernel
set_option maxRecDepth 20000 in
theorem dX6_readsBooking_136 : decode cX6_readsBooking 136 = .ok (.invokevirtual 158, 3) := by decide +kernel
set_option maxRecDepth 20000 in
theorem dX6_readsBooking_139 : decode cX6_readsBooking 139 = .ok (.bipush 49, 2) := by decide +kernel
set_option maxRecDepth 20000 in
theorem dX6_readsBooking_141 : decode cX6_readsBooking 141 = .ok (.bipush 57, 2) := by decide +kernel
set_option maxRecDepth 20000 in
theorem dX6_readsBooking_143 : decode cX6_readsBooking 143 = .ok (.invokestatic 36, 3) := by decide +kernel
set_option maxRecDepth 20000 in
theorem dX6_readsBooking_146 : decode cX6_readsBooking 146 = .ok (.ifCond .eq 15, 3) := by decide +kernel
set_option maxRecDepth 20000 in
theorem dX6_readsBooking_149 : decode cX6_readsBooking 149 = .ok (.aload_n 0, 1) := by decide +kernel
set_option maxRecDepth 20000 in
theorem dX6_readsBooking_150 : decode cX6_readsBooking 150 = .ok (.iload_n 1, 1) := by decide +kernel
set_option maxRecDepth 20000 in
theorem dX6_readsBooking_151 : decode cX6_readsBooking 151 = .ok (.iload_n 2, 1) := by decide +kernel
set_option maxRecDepth 20000 in
theorem dX6_readsBooking_152 : decode cX6_readsBooking 152 = .ok (.bipush 97, 2) := by decide +kernel
set_option maxRecDepth 20000 in
theorem dX6_readsBooking_154 : decode cX6_readsBooking 154 = .ok (.isub, 1) := by decide +kernel
set_option maxRecDepth 20000 in
theorem dX6_readsBooking_155 : decode cX6_readsBooking 155 = .ok (.invokevirtual 165, 3) := by decide +kernel
set_option maxRecDepth 20000 in
theorem dX6_readsBooking_158 : decode cX6_readsBooking 158 = .ok (.goto (-30), 3) := by decide +kernel
set_option maxRecDepth 20000 in
theorem dX6_readsBooking_161 : decode cX6_readsBooking 161 = .ok (.return_, 1) := by decide +kernel
set_option maxRecDepth 20000 in
theorem dX6_reads_0 : decode cX6_reads 0 = .ok (.aload_n 0, 1) := by decide +kernel
set_option maxRecDepth 20000 in
theorem dX6_reads_1 : decode cX6_reads 1 = .ok (.iconst 0, 1) := by decide +kernel
set_option maxRecDepth 20000 in
theorem dX6_reads_2 : decode cX6_reads 2 = .ok (.putfield 155, 3) := by decide +kernel
set_option maxRecDepth 20000 in
theorem dX6_reads_5 : decode cX6_reads 5 = .ok (.aload_n 0, 1) := by decide +kernel
set_option maxRecDepth 20000 in
theorem dX6_reads_6 : decode cX6_reads 6 = .ok (.iconst 0, 1) := by decide +kernel
set_option maxRecDepth 20000 in
theorem dX6_reads_7 : decode cX6_reads 7 = .ok (.putfield 124, 3) := by decide +kernel
set_option maxRecDepth 20000 in
theorem dX6_reads_10 : decode cX6_reads 10 = .ok (.aload_n 0, 1) := by decide +kernel
set_option maxRecDepth 20000 in
theorem dX6_reads_11 : decode cX6_reads 11 = .ok (.invokevirtual 169, 3) := by decide +kernel
set_option maxRecDepth 20000 in
theorem dX6_reads_14 : decode cX6_reads 14 = .ok (.aload_n 0, 1) := by decide +kernel
set_option maxRecDepth 20000 in
theorem dX6_reads_15 : decode cX6_reads 15 = .ok (.getfield 161, 3) := by decide +kernel
set_option maxRecDepth 20000 in
theorem dX6_reads_18 : decode cX6_reads 18 = .ok (.ifCond .eq 67, 3) := by decide +kernel
set_option maxRecDepth 20000 in
theorem dX6_reads_21 : decode cX6_reads 21 = .ok (.aload_n 0, 1) := by decide +kernel
set_option maxRecDepth 20000 in
theorem dX6_reads_22 : decode cX6_reads 22 = .ok (.getfield 155, 3) := by decide +kernel
set_option maxRecDepth 20000 in
theorem dX6_reads_25 : decode cX6_reads 25 = .ok (.aload_n 0, 1) := by decide +kernel
set_option maxRecDepth 20000 in
theorem dX6_reads_26 : decode cX6_reads 26 = .ok (.getfield 152, 3) := by decide +kernel
set_option maxRecDepth 20000 in
theorem dX6_reads_29 : decode cX6_reads 29 = .ok (.if_icmp .ge 56, 3) := by decide +kernel
set_option maxRecDepth 20000 in
theorem dX6_reads_32 : decode cX6_reads 32 = .ok (.aload_n 0, 1) := by decide +kernel
set_option maxRecDepth 20000 in
theorem dX6_reads_33 : decode cX6_reads 33 = .ok (.aload_n 0, 1) := by decide +kernel
set_option maxRecDepth 20000 in
theorem dX6_reads_34 : decode cX6_reads 34 = .ok (.invokevirtual 158, 3) := by decide +kernel
set_option maxRecDepth 20000 in
theorem dX6_reads_37 : decode cX6_reads 37 = .ok (.bipush 44, 2) := by decide +kernel
set_option maxRecDepth 20000 in
theorem dX6_reads_39 : decode cX6_reads 39 = .ok (.if_icmp .ne 7, 3) := by decide +kernel
set_option maxRecDepth 20000 in
theorem dX6_reads_42 : decode cX6_reads 42 = .ok (.iconst 1, 1) := by decide +kernel
set_option maxRecDepth 20000 in
theorem dX6_reads_43 : decode cX6_reads 43 = .ok (.goto 4, 3) := by decide +kernel
set_option maxRecDepth 20000 in
theorem dX6_reads_46 : decode cX6_reads 46 = .ok (.iconst 0, 1) := by decide +kernel
set_option maxRecDepth 20000 in
theorem dX6_reads_47 : decode cX6_reads 47 = .ok (.putfield 161, 3) := by decide +kernel
set_option maxRecDepth 20000 in
theorem dX6_reads_50 : decode cX6_reads 50 = .ok (.aload_n 0, 1) := by decide +kernel
set_option maxRecDepth 20000 in
theorem dX6_reads_51 : decode cX6_reads 51 = .ok (.dup, 1) := by decide +kernel
set_option maxRecDepth 20000 in
theorem dX6_reads_52 : decode cX6_reads 52 = .ok (.getfield 155, 3) := by decide +kernel
set_option maxRecDepth 20000 in
theorem dX6_reads_55 : decode cX6_reads 55 = .ok (.aload_n 0, 1) := by decide +kernel
set_option maxRecDepth 20000 in
theorem dX6_reads_56 : decode cX6_reads 56 = .ok (.getfield 161, 3) := by decide +kernel
set_option maxRecDepth 20000 in
theorem dX6_reads_59 : decode cX6_reads 59 = .ok (.ifCond .eq 7, 3) := by decide +kernel
set_option maxRecDepth 20000 in
theorem dX6_reads_62 : decode cX6_reads 62 = .ok (.iconst 1, 1) := by decide +kernel
set_option maxRecDepth 20000 in
theorem dX6_reads_63 : decode cX6_reads 63 = .ok (.goto 4, 3) := by decide +kernel
set_option maxRecDepth 20000 in
theorem dX6_reads_66 : decode cX6_reads 66 = .ok (.iconst 0, 1) := by decide +kernel
set_option maxRecDepth 20000 in
theorem dX6_reads_67 : decode cX6_reads 67 = .ok (.iadd, 1) := by decide +kernel
set_option maxRecDepth 20000 in
theorem dX6_reads_68 : decode cX6_reads 68 = .ok (.putfield 155, 3) := by decide +kernel
set_option maxRecDepth 20000 in
theorem dX6_reads_71 : decode cX6_reads 71 = .ok (.aload_n 0, 1) := by decide +kernel
set_option maxRecDepth 20000 in
theorem dX6_reads_72 : decode cX6_reads 72 = .ok (.getfield 161, 3) := by decide +kernel
set_option maxRecDepth 20000 in
theorem dX6_reads_75 : decode cX6_reads 75 = .ok (.ifCond .eq (-61), 3) := by decide +kernel
set_option maxRecDepth 20000 in
theorem dX6_reads_78 : decode cX6_reads 78 = .ok (.aload_n 0, 1) := by decide +kernel
set_option maxRecDepth 20000 in
theorem dX6_reads_79 : decode cX6_reads 79 = .ok (.invokevirtual 169, 3) := by decide +kernel
set_option maxRecDepth 20000 in
theorem dX6_reads_82 : decode cX6_reads 82 = .ok (.goto (-68), 3) := by decide +kernel
set_option maxRecDepth 20000 in
theorem dX6_reads_85 : decode cX6_reads 85 = .ok (.aload_n 0, 1) := by decide +kernel
set_option maxRecDepth 20000 in
theorem dX6_reads_86 : decode cX6_reads 86 = .ok (.getfield 161, 3) := by decide +kernel
set_option maxRecDepth 20000 in
theorem dX6_reads_89 : decode cX6_reads 89 = .ok (.ifCond .eq 8, 3) := by decide +kernel
set_option maxRecDepth 20000 in
theorem dX6_reads_92 : decode cX6_reads 92 = .ok (.bipush (-5), 2) := by decide +kernel
set_option maxRecDepth 20000 in
theorem dX6_reads_94 : decode cX6_reads 94 = .ok (.goto 7, 3) := by decide +kernel
set_option maxRecDepth 20000 in
theorem dX6_reads_97 : decode cX6_reads 97 = .ok (.aload_n 0, 1) := by decide +kernel
set_option maxRecDepth 20000 in
theorem dX6_reads_98 : decode cX6_reads 98 = .ok (.getfield 155, 3) := by decide +kernel
set_option maxRecDepth 20000 in
theorem dX6_reads_101 : decode cX6_reads 101 = .ok (.ireturn, 1) := by decide +kernel
set_option maxRecDepth 20000 in
theorem dX6_undo_0 : decode cX6_undo 0 = .ok (.aload_n 0, 1) := by decide +kernel
set_option maxRecDepth 20000 in
theorem dX6_undo_1 : decode cX6_undo 1 = .ok (.iconst 0, 1) := by decide +kernel
set_option maxRecDepth 20000 in
theorem dX6_undo_2 : decode cX6_undo 2 = .ok (.putfield 32, 3) := by decide +kernel
set_option maxRecDepth 20000 in
theorem dX6_undo_5 : decode cX6_undo 5 = .ok (.aload_n 0, 1) := by decide +kernel
set_option maxRecDepth 20000 in
theorem dX6_undo_6 : decode cX6_undo 6 = .ok (.getfield 44, 3) := by decide +kernel
set_option maxRecDepth 20000 in
theorem dX6_undo_9 : decode cX6_undo 9 = .ok (.ifCond .ne 6, 3) := by decide +kernel
set_option maxRecDepth 20000 in
theorem dX6_undo_12 : decode cX6_undo 12 = .ok (.bipush (-5), 2) := by decide +kernel
set_option maxRecDepth 20000 in
theorem dX6_undo_14 : decode cX6_undo 14 = .ok (.ireturn, 1) := by decide +kernel
set_option maxRecDepth 20000 in
theorem dX6_undo_15 : decode cX6_undo 15 = .ok (.aload_n 0, 1) := by decide +kernel
set_option maxRecDepth 20000 in
theorem dX6_undo_16 : decode cX6_undo 16 = .ok (.dup, 1) := by decide +kernel
set_option maxRecDepth 20000 in
theorem dX6_undo_17 : decode cX6_undo 17 = .ok (.getfield 44, 3) := by decide +kernel
set_option maxRecDepth 20000 in
theorem dX6_undo_20 : decode cX6_undo 20 = .ok (.iconst 1, 1) := by decide +kernel
set_option maxRecDepth 20000 in
theorem dX6_undo_21 : decode cX6_undo 21 = .ok (.isub, 1) := by decide +kernel
set_option maxRecDepth 20000 in
theorem dX6_undo_22 : decode cX6_undo 22 = .ok (.putfield 44, 3) := by decide +kernel
set_option maxRecDepth 20000 in
theorem dX6_undo_25 : decode cX6_undo 25 = .ok (.iconst 0, 1) := by decide +kernel
set_option maxRecDepth 20000 in
theorem dX6_undo_26 : decode cX6_undo 26 = .ok (.istore_n 1, 1) := by decide +kernel
set_option maxRecDepth 20000 in
theorem dX6_undo_27 : decode cX6_undo 27 = .ok (.iload_n 1, 1) := by decide +kernel
set_option maxRecDepth 20000 in
theorem dX6_undo_28 : decode cX6_undo 28 = .ok (.sipush 283, 3) := by decide +kernel
set_option maxRecDepth 20000 in
theorem dX6_undo_31 : decode cX6_undo 31 = .ok (.if_icmp .ge 30, 3) := by decide +kernel
set_option maxRecDepth 20000 in
theorem dX6_undo_34 : decode cX6_undo 34 = .ok (.aload_n 0, 1) := by decide +kernel
set_option maxRecDepth 20000 in
theorem dX6_undo_35 : decode cX6_undo 35 = .ok (.getfield 7, 3) := by decide +kernel
set_option maxRecDepth 20000 in
theorem dX6_undo_38 : decode cX6_undo 38 = .ok (.iload_n 1, 1) := by decide +kernel
set_option maxRecDepth 20000 in
theorem dX6_undo_39 : decode cX6_undo 39 = .ok (.aload_n 0, 1) := by decide +kernel
set_option maxRecDepth 20000 in
theorem dX6_undo_40 : decode cX6_undo 40 = .ok (.getfield 13, 3) := by decide +kernel
set_option maxRecDepth 20000 in
theorem dX6_undo_43 : decode cX6_undo 43 = .ok (.sipush 283, 3) := by decide +kernel
set_option maxRecDepth 20000 in
theorem dX6_undo_46 : decode cX6_undo 46 = .ok (.aload_n 0, 1) := by decide +kernel
set_option maxRecDepth 20000 in
theorem dX6_undo_47 : decode cX6_undo 47 = .ok (.getfield 44, 3) := by decide +kernel
set_option maxRecDepth 20000 in
theorem dX6_undo_50 : decode cX6_undo 50 = .ok (.imul, 1) := by decide +kernel
set_option maxRecDepth 20000 in
theorem dX6_undo_51 : decode cX6_undo 51 = .ok (.iload_n 1, 1) := by decide +kernel
set_option maxRecDepth 20000 in
theorem dX6_undo_52 : decode cX6_undo 52 = .ok (.iadd, 1) := by decide +kernel
set_option maxRecDepth 20000 in
theorem dX6_undo_53 : decode cX6_undo 53 = .ok (.iaload, 1) := by decide +kernel
set_option maxRecDepth 20000 in
theorem dX6_undo_54 : decode cX6_undo 54 = .ok (.iastore, 1) := by decide +kernel
set_option maxRecDepth 20000 in
theorem dX6_undo_55 : decode cX6_undo 55 = .ok (.iinc 1 1, 3) := by decide +kernel
set_option maxRecDepth 20000 in
theorem dX6_undo_58 : decode cX6_undo 58 = .ok (.goto (-31), 3) := by decide +kernel
set_option maxRecDepth 20000 in
theorem dX6_undo_61 : decode cX6_undo 61 = .ok (.aload_n 0, 1) := by decide +kernel
set_option maxRecDepth 20000 in
theorem dX6_undo_62 : decode cX6_undo 62 = .ok (.getfield 44, 3) := by decide +kernel
set_option maxRecDepth 20000 in
theorem dX6_undo_65 : decode cX6_undo 65 = .ok (.ireturn, 1) := by decide +kernel
set_option maxRecDepth 20000 in
theorem dX6_keep_0 : decode cX6_keep 0 = .ok (.aload_n 0, 1) := by decide +kernel
set_option maxRecDepth 20000 in
theorem dX6_keep_1 : decode cX6_keep 1 = .ok (.iconst 0, 1) := by decide +kernel
set_option maxRecDepth 20000 in
theorem dX6_keep_2 : decode cX6_keep 2 = .ok (.putfield 32, 3) := by decide +kernel
set_option maxRecDepth 20000 in
theorem dX6_keep_5 : decode cX6_keep 5 = .ok (.iconst 0, 1) := by decide +kernel
set_option maxRecDepth 20000 in
theorem dX6_keep_6 : decode cX6_keep 6 = .ok (.istore_n 1, 1) := by decide +kernel
set_option maxRecDepth 20000 in
theorem dX6_keep_7 : decode cX6_keep 7 = .ok (.iload_n 1, 1) := by decide +kernel
set_option maxRecDepth 20000 in
theorem dX6_keep_8 : decode cX6_keep 8 = .ok (.sipush 283, 3) := by decide +kernel
set_option maxRecDepth 20000 in
theorem dX6_keep_11 : decode cX6_keep 11 = .ok (.if_icmp .ge 21, 3) := by decide +kernel
set_option maxRecDepth 20000 in
theorem dX6_keep_14 : decode cX6_keep 14 = .ok (.aload_n 0, 1) := by decide +kernel
set_option maxRecDepth 20000 in
theorem dX6_keep_15 : decode cX6_keep 15 = .ok (.getfield 16, 3) := by decide +kernel
set_option maxRecDepth 20000 in
theorem dX6_keep_18 : decode cX6_keep 18 = .ok (.iload_n 1, 1) := by decide +kernel
set_option maxRecDepth 20000 in
theorem dX6_keep_19 : decode cX6_keep 19 = .ok (.aload_n 0, 1) := by decide +kernel
set_option maxRecDepth 20000 in
theorem dX6_keep_20 : decode cX6_keep 20 = .ok (.getfield 7, 3) := by decide +kernel
set_option maxRecDepth 20000 in
theorem dX6_keep_23 : decode cX6_keep 23 = .ok (.iload_n 1, 1) := by decide +kernel
set_option maxRecDepth 20000 in
theorem dX6_keep_24 : decode cX6_keep 24 = .ok (.iaload, 1) := by decide +kernel
set_option maxRecDepth 20000 in
theorem dX6_keep_25 : decode cX6_keep 25 = .ok (.iastore, 1) := by decide +kernel
set_option maxRecDepth 20000 in
theorem dX6_keep_26 : decode cX6_keep 26 = .ok (.iinc 1 1, 3) := by decide +kernel
set_option maxRecDepth 20000 in
theorem dX6_keep_29 : decode cX6_keep 29 = .ok (.goto (-22), 3) := by decide +kernel
set_option maxRecDepth 20000 in
theorem dX6_keep_32 : decode cX6_keep 32 = .ok (.aload_n 0, 1) := by decide +kernel
set_option maxRecDepth 20000 in
theorem dX6_keep_33 : decode cX6_keep 33 = .ok (.iconst 1, 1) := by decide +kernel
set_option maxRecDepth 20000 in
theorem dX6_keep_34 : decode cX6_keep 34 = .ok (.putfield 172, 3) := by decide +kernel
set_option maxRecDepth 20000 in
theorem dX6_keep_37 : decode cX6_keep 37 = .ok (.aload_n 0, 1) := by decide +kernel
set_option maxRecDepth 20000 in
theorem dX6_keep_38 : decode cX6_keep 38 = .ok (.getfield 7, 3) := by decide +kernel
set_option maxRecDepth 20000 in
theorem dX6_keep_41 : decode cX6_keep 41 = .ok (.bipush 6, 2) := by decide +kernel
set_option maxRecDepth 20000 in
theorem dX6_keep_43 : decode cX6_keep 43 = .ok (.iaload, 1) := by decide +kernel
set_option maxRecDepth 20000 in
theorem dX6_keep_44 : decode cX6_keep 44 = .ok (.ireturn, 1) := by decide +kernel
set_option maxRecDepth 20000 in
theorem dX6_restore_0 : decode cX6_restore 0 = .ok (.aload_n 0, 1) := by decide +kernel
set_option maxRecDepth 20000 in
theorem dX6_restore_1 : decode cX6_restore 1 = .ok (.iconst 0, 1) := by decide +kernel
set_option maxRecDepth 20000 in
theorem dX6_restore_2 : decode cX6_restore 2 = .ok (.putfield 32, 3) := by decide +kernel
set_option maxRecDepth 20000 in
theorem dX6_restore_5 : decode cX6_restore 5 = .ok (.aload_n 0, 1) := by decide +kernel
set_option maxRecDepth 20000 in
theorem dX6_restore_6 : decode cX6_restore 6 = .ok (.getfield 172, 3) := by decide +kernel
set_option maxRecDepth 20000 in
theorem dX6_restore_9 : decode cX6_restore 9 = .ok (.ifCond .ne 6, 3) := by decide +kernel
set_option maxRecDepth 20000 in
theorem dX6_restore_12 : decode cX6_restore 12 = .ok (.bipush (-5), 2) := by decide +kernel
set_option maxRecDepth 20000 in
theorem dX6_restore_14 : decode cX6_restore 14 = .ok (.ireturn, 1) := by decide +kernel
set_option maxRecDepth 20000 in
theorem dX6_restore_15 : decode cX6_restore 15 = .ok (.aload_n 0, 1) := by decide +kernel
set_option maxRecDepth 20000 in
theorem dX6_restore_16 : decode cX6_restore 16 = .ok (.invokevirtual 109, 3) := by decide +kernel
set_option maxRecDepth 20000 in
theorem dX6_restore_19 : decode cX6_restore 19 = .ok (.iconst 0, 1) := by decide +kernel
set_option maxRecDepth 20000 in
theorem dX6_restore_20 : decode cX6_restore 20 = .ok (.istore_n 1, 1) := by decide +kernel
set_option maxRecDepth 20000 in
theorem dX6_restore_21 : decode cX6_restore 21 = .ok (.iload_n 1, 1) := by decide +kernel
set_option maxRecDepth 20000 in
theorem dX6_restore_22 : decode cX6_restore 22 = .ok (.sipush 283, 3) := by decide +kernel
set_option maxRecDepth 20000 in
theorem dX6_restore_25 : decode cX6_restore 25 = .ok (.if_icmp .ge 21, 3) := by decide +kernel
set_option maxRecDepth 20000 in
theorem dX6_restore_28 : decode cX6_restore 28 = .ok (.aload_n 0, 1) := by decide +kernel
set_option maxRecDepth 20000 in
theorem dX6_restore_29 : decode cX6_restore 29 = .ok (.getfield 7, 3) := by decide +kernel
set_option maxRecDepth 20000 in
theorem dX6_restore_32 : decode cX6_restore 32 = .ok (.iload_n 1, 1) := by decide +kernel
set_option maxRecDepth 20000 in
theorem dX6_restore_33 : decode cX6_restore 33 = .ok (.aload_n 0, 1) := by decide +kernel
set_option maxRecDepth 20000 in
theorem dX6_restore_34 : decode cX6_restore 34 = .ok (.getfield 16, 3) := by decide +kernel
set_option maxRecDepth 20000 in
theorem dX6_restore_37 : decode cX6_restore 37 = .ok (.iload_n 1, 1) := by decide +kernel
set_option maxRecDepth 20000 in
theorem dX6_restore_38 : decode cX6_restore 38 = .ok (.iaload, 1) := by decide +kernel
set_option maxRecDepth 20000 in
theorem dX6_restore_39 : decode cX6_restore 39 = .ok (.iastore, 1) := by decide +kernel
set_option maxRecDepth 20000 in
theorem dX6_restore_40 : decode cX6_restore 40 = .ok (.iinc 1 1, 3) := by decide +kernel
set_option maxRecDepth 20000 in
theorem dX6_restore_43 : decode cX6_restore 43 = .ok (.goto (-22), 3) := by decide +kernel
set_option maxRecDepth 20000 in
theorem dX6_restore_46 : decode cX6_restore 46 = .ok (.aload_n 0, 1) := by decide +kernel
set_option maxRecDepth 20000 in
theorem dX6_restore_47 : decode cX6_restore 47 = .ok (.getfield 7, 3) := by decide +kernel
set_option maxRecDepth 20000 in
theorem dX6_restore_50 : decode cX6_restore 50 = .ok (.bipush 6, 2) := by decide +kernel
set_option maxRecDepth 20000 in
theorem dX6_restore_52 : decode cX6_restore 52 = .ok (.iaload, 1) := by decide +kernel
set_option maxRecDepth 20000 in
theorem dX6_restore_53 : decode cX6_restore 53 = .ok (.ireturn, 1) := by decide +kernel
set_option maxRecDepth 20000 in
theorem dX6_worker_0 : decode cX6_worker 0 = .ok (.aload_n 0, 1) := by decide +kernel
set_option maxRecDepth 20000 in
theorem dX6_worker_1 : decode cX6_worker 1 = .ok (.iconst 0, 1) := by decide +kernel
set_option maxRecDepth 20000 in
theorem dX6_worker_2 : decode cX6_worker 2 = .ok (.putfield 32, 3) := by decide +kernel
set_option maxRecDepth 20000 in
theorem dX6_worker_5 : decode cX6_worker 5 = .ok (.aload_n 0, 1) := by decide +kernel
set_option maxRecDepth 20000 in
theorem dX6_worker_6 : decode cX6_worker 6 = .ok (.iload_n 1, 1) := by decide +kernel
set_option maxRecDepth 20000 in
theorem dX6_worker_7 : decode cX6_worker 7 = .ok (.invokevirtual 127, 3) := by decide +kernel
set_option maxRecDepth 20000 in
theorem dX6_worker_10 : decode cX6_worker 10 = .ok (.istore_n 3, 1) := by decide +kernel
set_option maxRecDepth 20000 in
theorem dX6_worker_11 : decode cX6_worker 11 = .ok (.iload_n 3, 1) := by decide +kernel
set_option maxRecDepth 20000 in
theorem dX6_worker_12 : decode cX6_worker 12 = .ok (.bipush (-5), 2) := by decide +kernel
set_option maxRecDepth 20000 in
theorem dX6_worker_14 : decode cX6_worker 14 = .ok (.if_icmp .ne 5, 3) := by decide +kernel
set_option maxRecDepth 20000 in
theorem dX6_worker_17 : decode cX6_worker 17 = .ok (.iconst (-1), 1) := by decide +kernel
set_option maxRecDepth 20000 in
theorem dX6_worker_18 : decode cX6_worker 18 = .ok (.ireturn, 1) := by decide +kernel
set_option maxRecDepth 20000 in
theorem dX6_worker_19 : decode cX6_worker 19 = .ok (.aload_n 0, 1) := by decide +kernel
set_option maxRecDepth 20000 in
theorem dX6_worker_20 : decode cX6_worker 20 = .ok (.iload_n 3, 1) := by decide +kernel
set_option maxRecDepth 20000 in
theorem dX6_worker_21 : decode cX6_worker 21 = .ok (.iconst 1, 1) := by decide +kernel
set_option maxRecDepth 20000 in
theorem dX6_worker_22 : decode cX6_worker 22 = .ok (.invokevirtual 40, 3) := by decide +kernel
set_option maxRecDepth 20000 in
theorem dX6_worker_25 : decode cX6_worker 25 = .ok (.istore 4, 2) := by decide +kernel
set_option maxRecDepth 20000 in
theorem dX6_worker_27 : decode cX6_worker 27 = .ok (.aload_n 0, 1) := by decide +kernel
set_option maxRecDepth 20000 in
theorem dX6_worker_28 : decode cX6_worker 28 = .ok (.iload_n 3, 1) := by decide +kernel
set_option maxRecDepth 20000 in
theorem dX6_worker_29 : decode cX6_worker 29 = .ok (.iconst 2, 1) := by decide +kernel
set_option maxRecDepth 20000 in
theorem dX6_worker_30 : decode cX6_worker 30 = .ok (.invokevirtual 40, 3) := by decide +kernel
set_option maxRecDepth 20000 in
theorem dX6_worker_33 : decode cX6_worker 33 = .ok (.istore 5, 2) := by decide +kernel
set_option maxRecDepth 20000 in
theorem dX6_worker_35 : decode cX6_worker 35 = .ok (.iload_n 2, 1) := by decide +kernel
set_option maxRecDepth 20000 in
theorem dX6_worker_36 : decode cX6_worker 36 = .ok (.tableswitch 86 0 5 #[40, 40, 40, 40, 49, 70], 40) := by decide +kernel
set_option maxRecDepth 20000 in
theorem dX6_worker_76 : decode cX6_worker 76 = .ok (.aload_n 0, 1) := by decide +kernel
set_option maxRecDepth 20000 in
theorem dX6_worker_77 : decode cX6_worker 77 = .ok (.iload_n 3, 1) := by decide +kernel
set_option maxRecDepth 20000 in
theorem dX6_worker_78 : decode cX6_worker 78 = .ok (.iconst 1, 1) := by decide +kernel
set_option maxRecDepth 20000 in
theorem dX6_worker_79 : decode cX6_worker 79 = .ok (.iload_n 2, 1) := by decide +kernel
set_option maxRecDepth 20000 in
theorem dX6_worker_80 : decode cX6_worker 80 = .ok (.iadd, 1) := by decide +kernel
set_option maxRecDepth 20000 in
theorem dX6_worker_81 : decode cX6_worker 81 = .ok (.invokevirtual 40, 3) := by decide +kernel
set_option maxRecDepth 20000 in
theorem dX6_worker_84 : decode cX6_worker 84 = .ok (.ireturn, 1) := by decide +kernel
set_option maxRecDepth 20000 in
theorem dX6_worker_85 : decode cX6_worker 85 = .ok (.aload_n 0, 1) := by decide +kernel
set_option maxRecDepth 20000 in
theorem dX6_worker_86 : decode cX6_worker 86 = .ok (.aload_n 0, 1) := by decide +kernel
set_option maxRecDepth 20000 in
theorem dX6_worker_87 : decode cX6_worker 87 = .ok (.iload 5, 2) := by decide +kernel
set_option maxRecDepth 20000 in
theorem dX6_worker_89 : decode cX6_worker 89 = .ok (.iload 4, 2) := by decide +kernel
set_option maxRecDepth 20000 in
theorem dX6_worker_91 : decode cX6_worker 91 = .ok (.invokevirtual 68, 3) := by decide +kernel
set_option maxRecDepth 20000 in
theorem dX6_worker_94 : decode cX6_worker 94 = .ok (.iload 4, 2) := by decide +kernel
set_option maxRecDepth 20000 in
theorem dX6_worker_96 : decode cX6_worker 96 = .ok (.aload_n 0, 1) := by decide +kernel
set_option maxRecDepth 20000 in
theorem dX6_worker_97 : decode cX6_worker 97 = .ok (.iload_n 3, 1) := by decide +kernel
set_option maxRecDepth 20000 in
theorem dX6_worker_98 : decode cX6_worker 98 = .ok (.iconst 3, 1) := by decide +kernel
set_option maxRecDepth 20000 in
theorem dX6_worker_99 : decode cX6_worker 99 = .ok (.invokevirtual 40, 3) := by decide +kernel
set_option maxRecDepth 20000 in
theorem dX6_worker_102 : decode cX6_worker 102 = .ok (.invokevirtual 71, 3) := by decide +kernel
set_option maxRecDepth 20000 in
theorem dX6_worker_105 : decode cX6_worker 105 = .ok (.ireturn, 1) := by decide +kernel
set_option maxRecDepth 20000 in
theorem dX6_worker_106 : decode cX6_worker 106 = .ok (.aload_n 0, 1) := by decide +kernel
set_option maxRecDepth 20000 in
theorem dX6_worker_107 : decode cX6_worker 107 = .ok (.iload 5, 2) := by decide +kernel
set_option maxRecDepth 20000 in
theorem dX6_worker_109 : decode cX6_worker 109 = .ok (.iload 4, 2) := by decide +kernel
set_option maxRecDepth 20000 in
theorem dX6_worker_111 : decode cX6_worker 111 = .ok (.aload_n 0, 1) := by decide +kernel
set_option maxRecDepth 20000 in
theorem dX6_worker_112 : decode cX6_worker 112 = .ok (.iload_n 3, 1) := by decide +kernel
set_option maxRecDepth 20000 in
theorem dX6_worker_113 : decode cX6_worker 113 = .ok (.iconst 3, 1) := by decide +kernel
set_option maxRecDepth 20000 in
theorem dX6_worker_114 : decode cX6_worker 114 = .ok (.invokevirtual 40, 3) := by decide +kernel
set_option maxRecDepth 20000 in
theorem dX6_worker_117 : decode cX6_worker 117 = .ok (.iload_n 3, 1) := by decide +kernel
set_option maxRecDepth 20000 in
theorem dX6_worker_118 : decode cX6_worker 118 = .ok (.invokevirtual 79, 3) := by decide +kernel
set_option maxRecDepth 20000 in
theorem dX6_worker_121 : decode cX6_worker 121 = .ok (.ireturn, 1) := by decide +kernel
set_option maxRecDepth 20000 in
theorem dX6_worker_122 : decode cX6_worker 122 = .ok (.iload_n 2, 1) := by decide +kernel
set_option maxRecDepth 20000 in
theorem dX6_worker_123 : decode cX6_worker 123 = .ok (.bipush 6, 2) := by decide +kernel
set_option maxRecDepth 20000 in
theorem dX6_worker_125 : decode cX6_worker 125 = .ok (.bipush 8, 2) := by decide +kernel
set_option maxRecDepth 20000 in
theorem dX6_worker_127 : decode cX6_worker 127 = .ok (.invokestatic 36, 3) := by decide +kernel
set_option maxRecDepth 20000 in
theorem dX6_worker_130 : decode cX6_worker 130 = .ok (.ifCond .eq 17, 3) := by decide +kernel
set_option maxRecDepth 20000 in
theorem dX6_worker_133 : decode cX6_worker 133 = .ok (.aload_n 0, 1) := by decide +kernel
set_option maxRecDepth 20000 in
theorem dX6_worker_134 : decode cX6_worker 134 = .ok (.iload_n 3, 1) := by decide +kernel
set_option maxRecDepth 20000 in
theorem dX6_worker_135 : decode cX6_worker 135 = .ok (.iconst 5, 1) := by decide +kernel
set_option maxRecDepth 20000 in
theorem dX6_worker_136 : decode cX6_worker 136 = .ok (.iload_n 2, 1) := by decide +kernel
set_option maxRecDepth 20000 in
theorem dX6_worker_137 : decode cX6_worker 137 = .ok (.iadd, 1) := by decide +kernel
set_option maxRecDepth 20000 in
theorem dX6_worker_138 : decode cX6_worker 138 = .ok (.bipush 6, 2) := by decide +kernel
set_option maxRecDepth 20000 in
theorem dX6_worker_140 : decode cX6_worker 140 = .ok (.isub, 1) := by decide +kernel
set_option maxRecDepth 20000 in
theorem dX6_worker_141 : decode cX6_worker 141 = .ok (.invokevirtual 40, 3) := by decide +kernel
set_option maxRecDepth 20000 in
theorem dX6_worker_144 : decode cX6_worker 144 = .ok (.goto 5, 3) := by decide +kernel
set_option maxRecDepth 20000 in
theorem dX6_worker_147 : decode cX6_worker 147 = .ok (.bipush (-2), 2) := by decide +kernel
set_option maxRecDepth 20000 in
theorem dX6_worker_149 : decode cX6_worker 149 = .ok (.ireturn, 1) := by decide +kernel
set_option maxRecDepth 20000 in
theorem dX6_overRiders_0 : decode cX6_overRiders 0 = .ok (.iconst 0, 1) := by decide +kernel
set_option maxRecDepth 20000 in
theorem dX6_overRiders_1 : decode cX6_overRiders 1 = .ok (.istore 4, 2) := by decide +kernel
set_option maxRecDepth 20000 in
theorem dX6_overRiders_3 : decode cX6_overRiders 3 = .ok (.iconst 0, 1) := by decide +kernel
set_option maxRecDepth 20000 in
theorem dX6_overRiders_4 : decode cX6_overRiders 4 = .ok (.istore 5, 2) := by decide +kernel
set_option maxRecDepth 20000 in
theorem dX6_overRiders_6 : decode cX6_overRiders 6 = .ok (.iconst 0, 1) := by decide +kernel
set_option maxRecDepth 20000 in
theorem dX6_overRiders_7 : decode cX6_overRiders 7 = .ok (.istore 6, 2) := by decide +kernel
set_option maxRecDepth 20000 in
theorem dX6_overRiders_9 : decode cX6_overRiders 9 = .ok (.iload 6, 2) := by decide +kernel
set_option maxRecDepth 20000 in
theorem dX6_overRiders_11 : decode cX6_overRiders 11 = .ok (.aload_n 0, 1) := by decide +kernel
set_option maxRecDepth 20000 in
theorem dX6_overRiders_12 : decode cX6_overRiders 12 = .ok (.getfield 7, 3) := by decide +kernel
set_option maxRecDepth 20000 in
theorem dX6_overRiders_15 : decode cX6_overRiders 15 = .ok (.bipush 6, 2) := by decide +kernel
set_option maxRecDepth 20000 in
theorem dX6_overRiders_17 : decode cX6_overRiders 17 = .ok (.iaload, 1) := by decide +kernel
set_option maxRecDepth 20000 in
theorem dX6_overRiders_18 : decode cX6_overRiders 18 = .ok (.if_icmp .ge 94, 3) := by decide +kernel
set_option maxRecDepth 20000 in
theorem dX6_overRiders_21 : decode cX6_overRiders 21 = .ok (.aload_n 0, 1) := by decide +kernel
set_option maxRecDepth 20000 in
theorem dX6_overRiders_22 : decode cX6_overRiders 22 = .ok (.iload 6, 2) := by decide +kernel
set_option maxRecDepth 20000 in
theorem dX6_overRiders_24 : decode cX6_overRiders 24 = .ok (.iload_n 1, 1) := by decide +kernel
set_option maxRecDepth 20000 in
theorem dX6_overRiders_25 : decode cX6_overRiders 25 = .ok (.iload_n 2, 1) := by decide +kernel
set_option maxRecDepth 20000 in
theorem dX6_overRiders_26 : decode cX6_overRiders 26 = .ok (.invokevirtual 57, 3) := by decide +kernel
set_option maxRecDepth 20000 in
theorem dX6_overRiders_29 : decode cX6_overRiders 29 = .ok (.ifCond .eq 77, 3) := by decide +kernel
set_option maxRecDepth 20000 in
theorem dX6_overRiders_32 : decode cX6_overRiders 32 = .ok (.aload_n 0, 1) := by decide +kernel
set_option maxRecDepth 20000 in
theorem dX6_overRiders_33 : decode cX6_overRiders 33 = .ok (.iload 6, 2) := by decide +kernel
set_option maxRecDepth 20000 in
theorem dX6_overRiders_35 : decode cX6_overRiders 35 = .ok (.iconst 4, 1) := by decide +kernel
set_option maxRecDepth 20000 in
theorem dX6_overRiders_36 : decode cX6_overRiders 36 = .ok (.invokevirtual 40, 3) := by decide +kernel
set_option maxRecDepth 20000 in
theorem dX6_overRiders_39 : decode cX6_overRiders 39 = .ok (.iconst 1, 1) := by decide +kernel
set_option maxRecDepth 20000 in
theorem dX6_overRiders_40 : decode cX6_overRiders 40 = .ok (.if_icmp .ne 7, 3) := by decide +kernel
set_option maxRecDepth 20000 in
theorem dX6_overRiders_43 : decode cX6_overRiders 43 = .ok (.iconst 1, 1) := by decide +kernel
set_option maxRecDepth 20000 in
theorem dX6_overRiders_44 : decode cX6_overRiders 44 = .ok (.goto 4, 3) := by decide +kernel
set_option maxRecDepth 20000 in
theorem dX6_overRiders_47 : decode cX6_overRiders 47 = .ok (.iconst 0, 1) := by decide +kernel
set_option maxRecDepth 20000 in
theorem dX6_overRiders_48 : decode cX6_overRiders 48 = .ok (.istore 7, 2) := by decide +kernel
set_option maxRecDepth 20000 in
theorem dX6_overRiders_50 : decode cX6_overRiders 50 = .ok (.iload 4, 2) := by decide +kernel
set_option maxRecDepth 20000 in
theorem dX6_overRiders_52 : decode cX6_overRiders 52 = .ok (.iload 7, 2) := by decide +kernel
set_option maxRecDepth 20000 in
theorem dX6_overRiders_54 : decode cX6_overRiders 54 = .ok (.iload_n 3, 1) := by decide +kernel
set_option maxRecDepth 20000 in
theorem dX6_overRiders_55 : decode cX6_overRiders 55 = .ok (.iconst 2, 1) := by decide +kernel
set_option maxRecDepth 20000 in
theorem dX6_overRiders_56 : decode cX6_overRiders 56 = .ok (.if_icmp .ne 7, 3) := by decide +kernel
set_option maxRecDepth 20000 in
theorem dX6_overRiders_59 : decode cX6_overRiders 59 = .ok (.iconst 1, 1) := by decide +kernel
set_option maxRecDepth 20000 in
theorem dX6_overRiders_60 : decode cX6_overRiders 60 = .ok (.goto 4, 3) := by decide +kernel
set_option maxRecDepth 20000 in
theorem dX6_overRiders_63 : decode cX6_overRiders 63 = .ok (.iconst 0, 1) := by decide +kernel
set_option maxRecDepth 20000 in
theorem dX6_overRiders_64 : decode cX6_overRiders 64 = .ok (.if_icmp .ne 7, 3) := by decide +kernel
set_option maxRecDepth 20000 in
theorem dX6_overRiders_67 : decode cX6_overRiders 67 = .ok (.iconst 1, 1) := by decide +kernel
set_option maxRecDepth 20000 in
theorem dX6_overRiders_68 : decode cX6_overRiders 68 = .ok (.goto 4, 3) := by decide +kernel
set_option maxRecDepth 20000 in
theorem dX6_overRiders_71 : decode cX6_overRiders 71 = .ok (.iconst 0, 1) := by decide +kernel
set_option maxRecDepth 20000 in
theorem dX6_overRiders_72 : decode cX6_overRiders 72 = .ok (.iadd, 1) := by decide +kernel
set_option maxRecDepth 20000 in
theorem dX6_overRiders_73 : decode cX6_overRiders 73 = .ok (.istore 4, 2) := by decide +kernel
set_option maxRecDepth 20000 in
theorem dX6_overRiders_75 : decode cX6_overRiders 75 = .ok (.iload 7, 2) := by decide +kernel
set_option maxRecDepth 20000 in
theorem dX6_overRiders_77 : decode cX6_overRiders 77 = .ok (.ifCond .eq 25, 3) := by decide +kernel
set_option maxRecDepth 20000 in
theorem dX6_overRiders_80 : decode cX6_overRiders 80 = .ok (.aload_n 0, 1) := by decide +kernel
set_option maxRecDepth 20000 in
theorem dX6_overRiders_81 : decode cX6_overRiders 81 = .ok (.iload 6, 2) := by decide +kernel
set_option maxRecDepth 20000 in
theorem dX6_overRiders_83 : decode cX6_overRiders 83 = .ok (.iconst 3, 1) := by decide +kernel
set_option maxRecDepth 20000 in
theorem dX6_overRiders_84 : decode cX6_overRiders 84 = .ok (.invokevirtual 40, 3) := by decide +kernel
set_option maxRecDepth 20000 in
theorem dX6_overRiders_87 : decode cX6_overRiders 87 = .ok (.iload 5, 2) := by decide +kernel
set_option maxRecDepth 20000 in
theorem dX6_overRiders_89 : decode cX6_overRiders 89 = .ok (.if_icmp .le 13, 3) := by decide +kernel
set_option maxRecDepth 20000 in
theorem dX6_overRiders_92 : decode cX6_overRiders 92 = .ok (.aload_n 0, 1) := by decide +kernel
set_option maxRecDepth 20000 in
theorem dX6_overRiders_93 : decode cX6_overRiders 93 = .ok (.iload 6, 2) := by decide +kernel
set_option maxRecDepth 20000 in
theorem dX6_overRiders_95 : decode cX6_overRiders 95 = .ok (.iconst 3, 1) := by decide +kernel
set_option maxRecDepth 20000 in
theorem dX6_overRiders_96 : decode cX6_overRiders 96 = .ok (.invokevirtual 40, 3) := by decide +kernel
set_option maxRecDepth 20000 in
theorem dX6_overRiders_99 : decode cX6_overRiders 99 = .ok (.goto 5, 3) := by decide +kernel
set_option maxRecDepth 20000 in
theorem dX6_overRiders_102 : decode cX6_overRiders 102 = .ok (.iload 5, 2) := by decide +kernel
set_option maxRecDepth 20000 in
theorem dX6_overRiders_104 : decode cX6_overRiders 104 = .ok (.istore 5, 2) := by decide +kernel
set_option maxRecDepth 20000 in
theorem dX6_overRiders_106 : decode cX6_overRiders 106 = .ok (.iinc 6 1, 3) := by decide +kernel
set_option maxRecDepth 20000 in
theorem dX6_overRiders_109 : decode cX6_overRiders 109 = .ok (.goto (-100), 3) := by decide +kernel
set_option maxRecDepth 20000 in
theorem dX6_overRiders_112 : decode cX6_overRiders 112 = .ok (.iload_n 3, 1) := by decide +kernel
set_option maxRecDepth 20000 in
theorem dX6_overRiders_113 : decode cX6_overRiders 113 = .ok (.iconst 4, 1) := by decide +kernel
set_option maxRecDepth 20000 in
theorem dX6_overRiders_114 : decode cX6_overRiders 114 = .ok (.if_icmp .ne 8, 3) := by decide +kernel
set_option maxRecDepth 20000 in
theorem dX6_overRiders_117 : decode cX6_overRiders 117 = .ok (.iload 5, 2) := by decide +kernel
set_option maxRecDepth 20000 in
theorem dX6_overRiders_119 : decode cX6_overRiders 119 = .ok (.goto 5, 3) := by decide +kernel
set_option maxRecDepth 20000 in
theorem dX6_overRiders_122 : decode cX6_overRiders 122 = .ok (.iload 4, 2) := by decide +kernel
set_option maxRecDepth 20000 in
theorem dX6_overRiders_124 : decode cX6_overRiders 124 = .ok (.ireturn, 1) := by decide +kernel
set_option maxRecDepth 20000 in
theorem dX6_bus_0 : decode cX6_bus 0 = .ok (.aload_n 0, 1) := by decide +kernel
set_option maxRecDepth 20000 in
theorem dX6_bus_1 : decode cX6_bus 1 = .ok (.iconst 0, 1) := by decide +kernel
set_option maxRecDepth 20000 in
theorem dX6_bus_2 : decode cX6_bus 2 = .ok (.putfield 32, 3) := by decide +kernel
set_option maxRecDepth 20000 in
theorem dX6_bus_5 : decode cX6_bus 5 = .ok (.iload_n 1, 1) := by decide +kernel
set_option maxRecDepth 20000 in
theorem dX6_bus_6 : decode cX6_bus 6 = .ok (.invokestatic 112, 3) := by decide +kernel
set_option maxRecDepth 20000 in
theorem dX6_bus_9 : decode cX6_bus 9 = .ok (.ifCond .eq 11, 3) := by decide +kernel
set_option maxRecDepth 20000 in
theorem dX6_bus_12 : decode cX6_bus 12 = .ok (.aload_n 0, 1) := by decide +kernel
set_option maxRecDepth 20000 in
theorem dX6_bus_13 : decode cX6_bus 13 = .ok (.iload_n 2, 1) := by decide +kernel
set_option maxRecDepth 20000 in
theorem dX6_bus_14 : decode cX6_bus 14 = .ok (.invokevirtual 60, 3) := by decide +kernel
set_option maxRecDepth 20000 in
theorem dX6_bus_17 : decode cX6_bus 17 = .ok (.ifCond .ne 5, 3) := by decide +kernel
set_option maxRecDepth 20000 in
theorem dX6_bus_20 : decode cX6_bus 20 = .ok (.iconst (-1), 1) := by decide +kernel
set_option maxRecDepth 20000 in
theorem dX6_bus_21 : decode cX6_bus 21 = .ok (.ireturn, 1) := by decide +kernel
set_option maxRecDepth 20000 in
theorem dX6_bus_22 : decode cX6_bus 22 = .ok (.iload_n 3, 1) := by decide +kernel
set_option maxRecDepth 20000 in
theorem dX6_bus_23 : decode cX6_bus 23 = .ok (.tableswitch 66 0 5 #[37, 44, 51, 51, 51, 59], 37) := by decide +kernel
set_option maxRecDepth 20000 in
theorem dX6_bus_60 : decode cX6_bus 60 = .ok (.aload_n 0, 1) := by decide +kernel
set_option maxRecDepth 20000 in
theorem dX6_bus_61 : decode cX6_bus 61 = .ok (.iload_n 1, 1) := by decide +kernel
set_option maxRecDepth 20000 in
theorem dX6_bus_62 : decode cX6_bus 62 = .ok (.iload_n 2, 1) := by decide +kernel
set_option maxRecDepth 20000 in
theorem dX6_bus_63 : decode cX6_bus 63 = .ok (.invokevirtual 68, 3) := by decide +kernel
set_option maxRecDepth 20000 in
theorem dX6_bus_66 : decode cX6_bus 66 = .ok (.ireturn, 1) := by decide +kernel
set_option maxRecDepth 20000 in
theorem dX6_bus_67 : decode cX6_bus 67 = .ok (.aload_n 0, 1) := by decide +kernel
set_option maxRecDepth 20000 in
theorem dX6_bus_68 : decode cX6_bus 68 = .ok (.iload_n 1, 1) := by decide +kernel
set_option maxRecDepth 20000 in
theorem dX6_bus_69 : decode cX6_bus 69 = .ok (.iload_n 2, 1) := by decide +kernel
set_option maxRecDepth 20000 in
theorem dX6_bus_70 : decode cX6_bus 70 = .ok (.invokevirtual 47, 3) := by decide +kernel
set_option maxRecDepth 20000 in
theorem dX6_bus_73 : decode cX6_bus 73 = .ok (.ireturn, 1) := by decide +kernel
set_option maxRecDepth 20000 in
theorem dX6_bus_74 : decode cX6_bus 74 = .ok (.aload_n 0, 1) := by decide +kernel
set_option maxRecDepth 20000 in
theorem dX6_bus_75 : decode cX6_bus 75 = .ok (.iload_n 1, 1) := by decide +kernel
set_option maxRecDepth 20000 in
theorem dX6_bus_76 : decode cX6_bus 76 = .ok (.iload_n 2, 1) := by decide +kernel
set_option maxRecDepth 20000 in
theorem dX6_bus_77 : decode cX6_bus 77 = .ok (.iload_n 3, 1) := by decide +kernel
set_option maxRecDepth 20000 in
theorem dX6_bus_78 : decode cX6_bus 78 = .ok (.invokevirtual 175, 3) := by decide +kernel
set_option maxRecDepth 20000 in
theorem dX6_bus_81 : decode cX6_bus 81 = .ok (.ireturn, 1) := by decide +kernel
set_option maxRecDepth 20000 in
theorem dX6_bus_82 : decode cX6_bus 82 = .ok (.aload_n 0, 1) := by decide +kernel
set_option maxRecDepth 20000 in
theorem dX6_bus_83 : decode cX6_bus 83 = .ok (.iload_n 1, 1) := by decide +kernel
set_option maxRecDepth 20000 in
theorem dX6_bus_84 : decode cX6_bus 84 = .ok (.iload_n 2, 1) := by decide +kernel
set_option maxRecDepth 20000 in
theorem dX6_bus_85 : decode cX6_bus 85 = .ok (.invokevirtual 106, 3) := by decide +kernel
set_option maxRecDepth 20000 in
theorem dX6_bus_88 : decode cX6_bus 88 = .ok (.ireturn, 1) := by decide +kernel
set_option maxRecDepth 20000 in
theorem dX6_bus_89 : decode cX6_bus 89 = .ok (.bipush (-2), 2) := by decide +kernel
set_option maxRecDepth 20000 in
theorem dX6_bus_91 : decode cX6_bus 91 = .ok (.ireturn, 1) := by decide +kernel
set_option maxRecDepth 20000 in
theorem dX6_taken_0 : decode cX6_taken 0 = .ok (.aload_n 0, 1) := by decide +kernel
set_option maxRecDepth 20000 in
theorem dX6_taken_1 : decode cX6_taken 1 = .ok (.iconst 0, 1) := by decide +kernel
set_option maxRecDepth 20000 in
theorem dX6_taken_2 : decode cX6_taken 2 = .ok (.putfield 32, 3) := by decide +kernel
set_option maxRecDepth 20000 in
theorem dX6_taken_5 : decode cX6_taken 5 = .ok (.iload_n 1, 1) := by decide +kernel
set_option maxRecDepth 20000 in
theorem dX6_taken_6 : decode cX6_taken 6 = .ok (.invokestatic 112, 3) := by decide +kernel
set_option maxRecDepth 20000 in
theorem dX6_taken_9 : decode cX6_taken 9 = .ok (.ifCond .eq 30, 3) := by decide +kernel
set_option maxRecDepth 20000 in
theorem dX6_taken_12 : decode cX6_taken 12 = .ok (.aload_n 0, 1) := by decide +kernel
set_option maxRecDepth 20000 in
theorem dX6_taken_13 : decode cX6_taken 13 = .ok (.iload_n 2, 1) := by decide +kernel
set_option maxRecDepth 20000 in
theorem dX6_taken_14 : decode cX6_taken 14 = .ok (.invokevirtual 60, 3) := by decide +kernel
set_option maxRecDepth 20000 in
theorem dX6_taken_17 : decode cX6_taken 17 = .ok (.ifCond .eq 22, 3) := by decide +kernel
set_option maxRecDepth 20000 in
theorem dX6_taken_20 : decode cX6_taken 20 = .ok (.iload_n 3, 1) := by decide +kernel
set_option maxRecDepth 20000 in
theorem dX6_taken_21 : decode cX6_taken 21 = .ok (.invokestatic 115, 3) := by decide +kernel
set_option maxRecDepth 20000 in
theorem dX6_taken_24 : decode cX6_taken 24 = .ok (.ifCond .eq 15, 3) := by decide +kernel
set_option maxRecDepth 20000 in
theorem dX6_taken_27 : decode cX6_taken 27 = .ok (.aload_n 0, 1) := by decide +kernel
set_option maxRecDepth 20000 in
theorem dX6_taken_28 : decode cX6_taken 28 = .ok (.iload_n 1, 1) := by decide +kernel
set_option maxRecDepth 20000 in
theorem dX6_taken_29 : decode cX6_taken 29 = .ok (.iload_n 2, 1) := by decide +kernel
set_option maxRecDepth 20000 in
theorem dX6_taken_30 : decode cX6_taken 30 = .ok (.iload_n 3, 1) := by decide +kernel
set_option maxRecDepth 20000 in
theorem dX6_taken_31 : decode cX6_taken 31 = .ok (.bipush (-5), 2) := by decide +kernel
set_option maxRecDepth 20000 in
theorem dX6_taken_33 : decode cX6_taken 33 = .ok (.invokevirtual 64, 3) := by decide +kernel
set_option maxRecDepth 20000 in
theorem dX6_taken_36 : decode cX6_taken 36 = .ok (.goto 4, 3) := by decide +kernel
set_option maxRecDepth 20000 in
theorem dX6_taken_39 : decode cX6_taken 39 = .ok (.iconst (-1), 1) := by decide +kernel
set_option maxRecDepth 20000 in
theorem dX6_taken_40 : decode cX6_taken 40 = .ok (.ireturn, 1) := by decide +kernel
set_option maxRecDepth 20000 in
theorem dX6_why_0 : decode cX6_why 0 = .ok (.aload_n 0, 1) := by decide +kernel
set_option maxRecDepth 20000 in
theorem dX6_why_1 : decode cX6_why 1 = .ok (.iconst 0, 1) := by decide +kernel
set_option maxRecDepth 20000 in
theorem dX6_why_2 : decode cX6_why 2 = .ok (.putfield 32, 3) := by decide +kernel
set_option maxRecDepth 20000 in
theorem dX6_why_5 : decode cX6_why 5 = .ok (.iload_n 1, 1) := by decide +kernel
set_option maxRecDepth 20000 in
theorem dX6_why_6 : decode cX6_why 6 = .ok (.invokestatic 112, 3) := by decide +kernel
set_option maxRecDepth 20000 in
theorem dX6_why_9 : decode cX6_why 9 = .ok (.ifCond .eq 22, 3) := by decide +kernel
set_option maxRecDepth 20000 in
theorem dX6_why_12 : decode cX6_why 12 = .ok (.iload_n 3, 1) := by decide +kernel
set_option maxRecDepth 20000 in
theorem dX6_why_13 : decode cX6_why 13 = .ok (.invokestatic 115, 3) := by decide +kernel
set_option maxRecDepth 20000 in
theorem dX6_why_16 : decode cX6_why 16 = .ok (.ifCond .eq 15, 3) := by decide +kernel
set_option maxRecDepth 20000 in
theorem dX6_why_19 : decode cX6_why 19 = .ok (.aload_n 0, 1) := by decide +kernel
set_option maxRecDepth 20000 in
theorem dX6_why_20 : decode cX6_why 20 = .ok (.iload_n 1, 1) := by decide +kernel
set_option maxRecDepth 20000 in
theorem dX6_why_21 : decode cX6_why 21 = .ok (.iload_n 2, 1) := by decide +kernel
set_option maxRecDepth 20000 in
theorem dX6_why_22 : decode cX6_why 22 = .ok (.iload_n 3, 1) := by decide +kernel
set_option maxRecDepth 20000 in
theorem dX6_why_23 : decode cX6_why 23 = .ok (.bipush (-5), 2) := by decide +kernel
set_option maxRecDepth 20000 in
theorem dX6_why_25 : decode cX6_why 25 = .ok (.invokevirtual 79, 3) := by decide +kernel
set_option maxRecDepth 20000 in
theorem dX6_why_28 : decode cX6_why 28 = .ok (.goto 4, 3) := by decide +kernel
set_option maxRecDepth 20000 in
theorem dX6_why_31 : decode cX6_why 31 = .ok (.iconst (-1), 1) := by decide +kernel
set_option maxRecDepth 20000 in
theorem dX6_why_32 : decode cX6_why 32 = .ok (.ireturn, 1) := by decide +kernel
set_option maxRecDepth 20000 in
theorem dX6_spares_0 : decode cX6_spares 0 = .ok (.aload_n 0, 1) := by decide +kernel
set_option maxRecDepth 20000 in
theorem dX6_spares_1 : decode cX6_spares 1 = .ok (.iconst 0, 1) := by decide +kernel
set_option maxRecDepth 20000 in
theorem dX6_spares_2 : decode cX6_spares 2 = .ok (.putfield 32, 3) := by decide +kernel
set_option maxRecDepth 20000 in
theorem dX6_spares_5 : decode cX6_spares 5 = .ok (.iload_n 1, 1) := by decide +kernel
set_option maxRecDepth 20000 in
theorem dX6_spares_6 : decode cX6_spares 6 = .ok (.invokestatic 112, 3) := by decide +kernel
set_option maxRecDepth 20000 in
theorem dX6_spares_9 : decode cX6_spares 9 = .ok (.ifCond .eq 19, 3) := by decide +kernel
set_option maxRecDepth 20000 in
theorem dX6_spares_12 : decode cX6_spares 12 = .ok (.aload_n 0, 1) := by decide +kernel
set_option maxRecDepth 20000 in
theorem dX6_spares_13 : decode cX6_spares 13 = .ok (.iload_n 2, 1) := by decide +kernel
set_option maxRecDepth 20000 in
theorem dX6_spares_14 : decode cX6_spares 14 = .ok (.invokevirtual 60, 3) := by decide +kernel
set_option maxRecDepth 20000 in
theorem dX6_spares_17 : decode cX6_spares 17 = .ok (.ifCond .eq 11, 3) := by decide +kernel
set_option maxRecDepth 20000 in
theorem dX6_spares_20 : decode cX6_spares 20 = .ok (.aload_n 0, 1) := by decide +kernel
set_option maxRecDepth 20000 in
theorem dX6_spares_21 : decode cX6_spares 21 = .ok (.iload_n 3, 1) := by decide +kernel
set_option maxRecDepth 20000 in
theorem dX6_spares_22 : decode cX6_spares 22 = .ok (.invokevirtual 60, 3) := by decide +kernel
set_option maxRecDepth 20000 in
theorem dX6_spares_25 : decode cX6_spares 25 = .ok (.ifCond .ne 5, 3) := by decide +kernel
set_option maxRecDepth 20000 in
theorem dX6_spares_28 : decode cX6_spares 28 = .ok (.iconst (-1), 1) := by decide +kernel
set_option maxRecDepth 20000 in
theorem dX6_spares_29 : decode cX6_spares 29 = .ok (.ireturn, 1) := by decide +kernel
set_option maxRecDepth 20000 in
theorem dX6_spares_30 : decode cX6_spares 30 = .ok (.iload_n 2, 1) := by decide +kernel
set_option maxRecDepth 20000 in
theorem dX6_spares_31 : decode cX6_spares 31 = .ok (.iload_n 3, 1) := by decide +kernel
set_option maxRecDepth 20000 in
theorem dX6_spares_32 : decode cX6_spares 32 = .ok (.if_icmp .ne 6, 3) := by decide +kernel
set_option maxRecDepth 20000 in
theorem dX6_spares_35 : decode cX6_spares 35 = .ok (.bipush (-2), 2) := by decide +kernel
set_option maxRecDepth 20000 in
theorem dX6_spares_37 : decode cX6_spares 37 = .ok (.ireturn, 1) := by decide +kernel
set_option maxRecDepth 20000 in
theorem dX6_spares_38 : decode cX6_spares 38 = .ok (.aload_n 0, 1) := by decide +kernel
set_option maxRecDepth 20000 in
theorem dX6_spares_39 : decode cX6_spares 39 = .ok (.iload_n 1, 1) := by decide +kernel
set_option maxRecDepth 20000 in
theorem dX6_spares_40 : decode cX6_spares 40 = .ok (.iload_n 2, 1) := by decide +kernel
set_option maxRecDepth 20000 in
theorem dX6_spares_41 : decode cX6_spares 41 = .ok (.iload_n 3, 1) := by decide +kernel
set_option maxRecDepth 20000 in
theorem dX6_spares_42 : decode cX6_spares 42 = .ok (.invokevirtual 136, 3) := by decide +kernel
set_option maxRecDepth 20000 in
theorem dX6_spares_45 : decode cX6_spares 45 = .ok (.ifCond .ne 6, 3) := by decide +kernel
set_option maxRecDepth 20000 in
theorem dX6_spares_48 : decode cX6_spares 48 = .ok (.bipush (-4), 2) := by decide +kernel
set_option maxRecDepth 20000 in
theorem dX6_spares_50 : decode cX6_spares 50 = .ok (.ireturn, 1) := by decide +kernel
set_option maxRecDepth 20000 in
theorem dX6_spares_51 : decode cX6_spares 51 = .ok (.aload_n 0, 1) := by decide +kernel
set_option maxRecDepth 20000 in
theorem dX6_spares_52 : decode cX6_spares 52 = .ok (.iload_n 1, 1) := by decide +kernel
set_option maxRecDepth 20000 in
theorem dX6_spares_53 : decode cX6_spares 53 = .ok (.iload_n 2, 1) := by decide +kernel
set_option maxRecDepth 20000 in
theorem dX6_spares_54 : decode cX6_spares 54 = .ok (.invokevirtual 106, 3) := by decide +kernel
set_option maxRecDepth 20000 in
theorem dX6_spares_57 : decode cX6_spares 57 = .ok (.aload_n 0, 1) := by decide +kernel
set_option maxRecDepth 20000 in
theorem dX6_spares_58 : decode cX6_spares 58 = .ok (.iload_n 1, 1) := by decide +kernel
set_option maxRecDepth 20000 in
theorem dX6_spares_59 : decode cX6_spares 59 = .ok (.iload_n 3, 1) := by decide +kernel
set_option maxRecDepth 20000 in
theorem dX6_spares_60 : decode cX6_spares 60 = .ok (.invokevirtual 106, 3) := by decide +kernel
set_option maxRecDepth 20000 in
theorem dX6_spares_63 : decode cX6_spares 63 = .ok (.iadd, 1) := by decide +kernel
set_option maxRecDepth 20000 in
theorem dX6_spares_64 : decode cX6_spares 64 = .ok (.istore 4, 2) := by decide +kernel
set_option maxRecDepth 20000 in
theorem dX6_spares_66 : decode cX6_spares 66 = .ok (.aload_n 0, 1) := by decide +kernel
set_option maxRecDepth 20000 in
theorem dX6_spares_67 : decode cX6_spares 67 = .ok (.iload_n 1, 1) := by decide +kernel
set_option maxRecDepth 20000 in
theorem dX6_spares_68 : decode cX6_spares 68 = .ok (.iload_n 2, 1) := by decide +kernel
set_option maxRecDepth 20000 in
theorem dX6_spares_69 : decode cX6_spares 69 = .ok (.iload_n 3, 1) := by decide +kernel
set_option maxRecDepth 20000 in
theorem dX6_spares_70 : decode cX6_spares 70 = .ok (.aload_n 0, 1) := by decide +kernel
set_option maxRecDepth 20000 in
theorem dX6_spares_71 : decode cX6_spares 71 = .ok (.iload_n 2, 1) := by decide +kernel
set_option maxRecDepth 20000 in
theorem dX6_spares_72 : decode cX6_spares 72 = .ok (.invokevirtual 50, 3) := by decide +kernel
set_option maxRecDepth 20000 in
theorem dX6_spares_75 : decode cX6_spares 75 = .ok (.aload_n 0, 1) := by decide +kernel
set_option maxRecDepth 20000 in
theorem dX6_spares_76 : decode cX6_spares 76 = .ok (.iload_n 3, 1) := by decide +kernel
set_option maxRecDepth 20000 in
theorem dX6_spares_77 : decode cX6_spares 77 = .ok (.invokevirtual 50, 3) := by decide +kernel
set_option maxRecDepth 20000 in
theorem dX6_spares_80 : decode cX6_spares 80 = .ok (.invokestatic 54, 3) := by decide +kernel
set_option maxRecDepth 20000 in
theorem dX6_spares_83 : decode cX6_spares 83 = .ok (.invokevirtual 98, 3) := by decide +kernel
set_option maxRecDepth 20000 in
theorem dX6_spares_86 : decode cX6_spares 86 = .ok (.iload 4, 2) := by decide +kernel
set_option maxRecDepth 20000 in
theorem dX6_spares_88 : decode cX6_spares 88 = .ok (.aload_n 0, 1) := by decide +kernel
set_option maxRecDepth 20000 in
theorem dX6_spares_89 : decode cX6_spares 89 = .ok (.invokevirtual 102, 3) := by decide +kernel
set_option maxRecDepth 20000 in
theorem dX6_spares_92 : decode cX6_spares 92 = .ok (.isub, 1) := by decide +kernel
set_option maxRecDepth 20000 in
theorem dX6_spares_93 : decode cX6_spares 93 = .ok (.ireturn, 1) := by decide +kernel
set_option maxRecDepth 20000 in
theorem dX6_byMinute_0 : decode cX6_byMinute 0 = .ok (.aload_n 0, 1) := by decide +kernel
set_option maxRecDepth 20000 in
theorem dX6_byMinute_1 : decode cX6_byMinute 1 = .ok (.iconst 0, 1) := by decide +kernel
set_option maxRecDepth 20000 in
theorem dX6_byMinute_2 : decode cX6_byMinute 2 = .ok (.putfield 32, 3) := by decide +kernel
set_option maxRecDepth 20000 in
theorem dX6_byMinute_5 : decode cX6_byMinute 5 = .ok (.iload_n 1, 1) := by decide +kernel
set_option maxRecDepth 20000 in
theorem dX6_byMinute_6 : decode cX6_byMinute 6 = .ok (.ifCond .ge 6, 3) := by decide +kernel
set_option maxRecDepth 20000 in
theorem dX6_byMinute_9 : decode cX6_byMinute 9 = .ok (.bipush (-2), 2) := by decide +kernel
set_option maxRecDepth 20000 in
theorem dX6_byMinute_11 : decode cX6_byMinute 11 = .ok (.ireturn, 1) := by decide +kernel
set_option maxRecDepth 20000 in
theorem dX6_byMinute_12 : decode cX6_byMinute 12 = .ok (.aload_n 0, 1) := by decide +kernel
set_option maxRecDepth 20000 in
theorem dX6_byMinute_13 : decode cX6_byMinute 13 = .ok (.invokevirtual 86, 3) := by decide +kernel
set_option maxRecDepth 20000 in
theorem dX6_byMinute_16 : decode cX6_byMinute 16 = .ok (.iload_n 1, 1) := by decide +kernel
set_option maxRecDepth 20000 in
theorem dX6_byMinute_17 : decode cX6_byMinute 17 = .ok (.aload_n 0, 1) := by decide +kernel
set_option maxRecDepth 20000 in
theorem dX6_byMinute_18 : decode cX6_byMinute 18 = .ok (.getfield 7, 3) := by decide +kernel
set_option maxRecDepth 20000 in
theorem dX6_byMinute_21 : decode cX6_byMinute 21 = .ok (.iconst 4, 1) := by decide +kernel
set_option maxRecDepth 20000 in
theorem dX6_byMinute_22 : decode cX6_byMinute 22 = .ok (.iaload, 1) := by decide +kernel
set_option maxRecDepth 20000 in
theorem dX6_byMinute_23 : decode cX6_byMinute 23 = .ok (.if_icmp .ge 12, 3) := by decide +kernel
set_option maxRecDepth 20000 in
theorem dX6_byMinute_26 : decode cX6_byMinute 26 = .ok (.aload_n 0, 1) := by decide +kernel
set_option maxRecDepth 20000 in
theorem dX6_byMinute_27 : decode cX6_byMinute 27 = .ok (.getfield 22, 3) := by decide +kernel
set_option maxRecDepth 20000 in
theorem dX6_byMinute_30 : decode cX6_byMinute 30 = .ok (.iload_n 1, 1) := by decide +kernel
set_option maxRecDepth 20000 in
theorem dX6_byMinute_31 : decode cX6_byMinute 31 = .ok (.iaload, 1) := by decide +kernel
set_option maxRecDepth 20000 in
theorem dX6_byMinute_32 : decode cX6_byMinute 32 = .ok (.goto 5, 3) := by decide +kernel
set_option maxRecDepth 20000 in
theorem dX6_byMinute_35 : decode cX6_byMinute 35 = .ok (.bipush (-5), 2) := by decide +kernel
set_option maxRecDepth 20000 in
theorem dX6_byMinute_37 : decode cX6_byMinute 37 = .ok (.ireturn, 1) := by decide +kernel
set_option maxRecDepth 20000 in
theorem dX6_pairs_0 : decode cX6_pairs 0 = .ok (.iconst 0, 1) := by decide +kernel
set_option maxRecDepth 20000 in
theorem dX6_pairs_1 : decode cX6_pairs 1 = .ok (.istore_n 1, 1) := by decide +kernel
set_option maxRecDepth 20000 in
theorem dX6_pairs_2 : decode cX6_pairs 2 = .ok (.iconst 0, 1) := by decide +kernel
set_option maxRecDepth 20000 in
theorem dX6_pairs_3 : decode cX6_pairs 3 = .ok (.istore_n 2, 1) := by decide +kernel
set_option maxRecDepth 20000 in
theorem dX6_pairs_4 : decode cX6_pairs 4 = .ok (.iload_n 2, 1) := by decide +kernel
set_option maxRecDepth 20000 in
theorem dX6_pairs_5 : decode cX6_pairs 5 = .ok (.bipush 20, 2) := by decide +kernel
set_option maxRecDepth 20000 in
theorem dX6_pairs_7 : decode cX6_pairs 7 = .ok (.if_icmp .ge 29, 3) := by decide +kernel
set_option maxRecDepth 20000 in
theorem dX6_pairs_10 : decode cX6_pairs 10 = .ok (.iload_n 1, 1) := by decide +kernel
set_option maxRecDepth 20000 in
theorem dX6_pairs_11 : decode cX6_pairs 11 = .ok (.aload_n 0, 1) := by decide +kernel
set_option maxRecDepth 20000 in
theorem dX6_pairs_12 : decode cX6_pairs 12 = .ok (.getfield 7, 3) := by decide +kernel
set_option maxRecDepth 20000 in
theorem dX6_pairs_15 : decode cX6_pairs 15 = .ok (.bipush 23, 2) := by decide +kernel
set_option maxRecDepth 20000 in
theorem dX6_pairs_17 : decode cX6_pairs 17 = .ok (.iload_n 2, 1) := by decide +kernel
set_option maxRecDepth 20000 in
theorem dX6_pairs_18 : decode cX6_pairs 18 = .ok (.iadd, 1) := by decide +kernel
set_option maxRecDepth 20000 in
theorem dX6_pairs_19 : decode cX6_pairs 19 = .ok (.iaload, 1) := by decide +kernel
set_option maxRecDepth 20000 in
theorem dX6_pairs_20 : decode cX6_pairs 20 = .ok (.ifCond .le 7, 3) := by decide +kernel
set_option maxRecDepth 20000 in
theorem dX6_pairs_23 : decode cX6_pairs 23 = .ok (.iconst 1, 1) := by decide +kernel
set_option maxRecDepth 20000 in
theorem dX6_pairs_24 : decode cX6_pairs 24 = .ok (.goto 4, 3) := by decide +kernel
set_option maxRecDepth 20000 in
theorem dX6_pairs_27 : decode cX6_pairs 27 = .ok (.iconst 0, 1) := by decide +kernel
set_option maxRecDepth 20000 in
theorem dX6_pairs_28 : decode cX6_pairs 28 = .ok (.iadd, 1) := by decide +kernel
set_option maxRecDepth 20000 in
theorem dX6_pairs_29 : decode cX6_pairs 29 = .ok (.istore_n 1, 1) := by decide +kernel
set_option maxRecDepth 20000 in
theorem dX6_pairs_30 : decode cX6_pairs 30 = .ok (.iinc 2 1, 3) := by decide +kernel
set_option maxRecDepth 20000 in
theorem dX6_pairs_33 : decode cX6_pairs 33 = .ok (.goto (-29), 3) := by decide +kernel
set_option maxRecDepth 20000 in
theorem dX6_pairs_36 : decode cX6_pairs 36 = .ok (.iload_n 1, 1) := by decide +kernel
set_option maxRecDepth 20000 in
theorem dX6_pairs_37 : decode cX6_pairs 37 = .ok (.iconst 2, 1) := by decide +kernel
set_option maxRecDepth 20000 in
theorem dX6_pairs_38 : decode cX6_pairs 38 = .ok (.idiv, 1) := by decide +kernel
set_option maxRecDepth 20000 in
theorem dX6_pairs_39 : decode cX6_pairs 39 = .ok (.ireturn, 1) := by decide +kernel
set_option maxRecDepth 20000 in
theorem dX6_count_0 : decode cX6_count 0 = .ok (.aload_n 0, 1) := by decide +kernel
set_option maxRecDepth 20000 in
theorem dX6_count_1 : decode cX6_count 1 = .ok (.iconst 0, 1) := by decide +kernel
set_option maxRecDepth 20000 in
theorem dX6_count_2 : decode cX6_count 2 = .ok (.putfield 32, 3) := by decide +kernel
set_option maxRecDepth 20000 in
theorem dX6_count_5 : decode cX6_count 5 = .ok (.iload_n 1, 1) := by decide +kernel
set_option maxRecDepth 20000 in
theorem dX6_count_6 : decode cX6_count 6 = .ok (.tableswitch 141 0 17 #[86, 93, 101, 114, 119, 141, 141, 141, 141, 141, 141, 141, 141, 141, 141, 124, 131, 136], 86) := by decide +kernel
set_option maxRecDepth 20000 in
theorem dX6_count_92 : decode cX6_count 92 = .ok (.aload_n 0, 1) := by decide +kernel
set_option maxRecDepth 20000 in
theorem dX6_count_93 : decode cX6_count 93 = .ok (.getfield 7, 3) := by decide +kernel
set_option maxRecDepth 20000 in
theorem dX6_count_96 : decode cX6_count 96 = .ok (.iconst 4, 1) := by decide +kernel
set_option maxRecDepth 20000 in
theorem dX6_count_97 : decode cX6_count 97 = .ok (.iaload, 1) := by decide +kernel
set_option maxRecDepth 20000 in
theorem dX6_count_98 : decode cX6_count 98 = .ok (.ireturn, 1) := by decide +kernel
set_option maxRecDepth 20000 in
theorem dX6_count_99 : decode cX6_count 99 = .ok (.aload_n 0, 1) := by decide +kernel
set_option maxRecDepth 20000 in
theorem dX6_count_100 : decode cX6_count 100 = .ok (.getfield 7, 3) := by decide +kernel
set_option maxRecDepth 20000 in
theorem dX6_count_103 : decode cX6_count 103 = .ok (.bipush 6, 2) := by decide +kernel
set_option maxRecDepth 20000 in
theorem dX6_count_105 : decode cX6_count 105 = .ok (.iaload, 1) := by decide +kernel
set_option maxRecDepth 20000 in
theorem dX6_count_106 : decode cX6_count 106 = .ok (.ireturn, 1) := by decide +kernel
set_option maxRecDepth 20000 in
theorem dX6_count_107 : decode cX6_count 107 = .ok (.aload_n 0, 1) := by decide +kernel
set_option maxRecDepth 20000 in
theorem dX6_count_108 : decode cX6_count 108 = .ok (.getfield 7, 3) := by decide +kernel
set_option maxRecDepth 20000 in
theorem dX6_count_111 : decode cX6_count 111 = .ok (.bipush 6, 2) := by decide +kernel
set_option maxRecDepth 20000 in
theorem dX6_count_113 : decode cX6_count 113 = .ok (.iaload, 1) := by decide +kernel
set_option maxRecDepth 20000 in
theorem dX6_count_114 : decode cX6_count 114 = .ok (.aload_n 0, 1) := by decide +kernel
set_option maxRecDepth 20000 in
theorem dX6_count_115 : decode cX6_count 115 = .ok (.invokevirtual 133, 3) := by decide +kernel
set_option maxRecDepth 20000 in
theorem dX6_count_118 : decode cX6_count 118 = .ok (.isub, 1) := by decide +kernel
set_option maxRecDepth 20000 in
theorem dX6_count_119 : decode cX6_count 119 = .ok (.ireturn, 1) := by decide +kernel
set_option maxRecDepth 20000 in
theorem dX6_count_120 : decode cX6_count 120 = .ok (.aload_n 0, 1) := by decide +kernel
set_option maxRecDepth 20000 in
theorem dX6_count_121 : decode cX6_count 121 = .ok (.invokevirtual 133, 3) := by decide +kernel
set_option maxRecDepth 20000 in
theorem dX6_count_124 : decode cX6_count 124 = .ok (.ireturn, 1) := by decide +kernel
set_option maxRecDepth 20000 in
theorem dX6_count_125 : decode cX6_count 125 = .ok (.aload_n 0, 1) := by decide +kernel
set_option maxRecDepth 20000 in
theorem dX6_count_126 : decode cX6_count 126 = .ok (.invokevirtual 178, 3) := by decide +kernel
set_option maxRecDepth 20000 in
theorem dX6_count_129 : decode cX6_count 129 = .ok (.ireturn, 1) := by decide +kernel
set_option maxRecDepth 20000 in
theorem dX6_count_130 : decode cX6_count 130 = .ok (.aload_n 0, 1) := by decide +kernel
set_option maxRecDepth 20000 in
theorem dX6_count_131 : decode cX6_count 131 = .ok (.getfield 7, 3) := by decide +kernel
set_option maxRecDepth 20000 in
theorem dX6_count_134 : decode cX6_count 134 = .ok (.iconst 5, 1) := by decide +kernel
set_option maxRecDepth 20000 in
theorem dX6_count_135 : decode cX6_count 135 = .ok (.iaload, 1) := by decide +kernel
set_option maxRecDepth 20000 in
theorem dX6_count_136 : decode cX6_count 136 = .ok (.ireturn, 1) := by decide +kernel
set_option maxRecDepth 20000 in
theorem dX6_count_137 : decode cX6_count 137 = .ok (.aload_n 0, 1) := by decide +kernel
set_option maxRecDepth 20000 in
theorem dX6_count_138 : decode cX6_count 138 = .ok (.getfield 44, 3) := by decide +kernel
set_option maxRecDepth 20000 in
theorem dX6_count_141 : decode cX6_count 141 = .ok (.ireturn, 1) := by decide +kernel
set_option maxRecDepth 20000 in
theorem dX6_count_142 : decode cX6_count 142 = .ok (.aload_n 0, 1) := by decide +kernel
set_option maxRecDepth 20000 in
theorem dX6_count_143 : decode cX6_count 143 = .ok (.getfield 152, 3) := by decide +kernel
set_option maxRecDepth 20000 in
theorem dX6_count_146 : decode cX6_count 146 = .ok (.ireturn, 1) := by decide +kernel
set_option maxRecDepth 20000 in
theorem dX6_count_147 : decode cX6_count 147 = .ok (.iload_n 1, 1) := by decide +kernel
set_option maxRecDepth 20000 in
theorem dX6_count_148 : decode cX6_count 148 = .ok (.iconst 5, 1) := by decide +kernel
set_option maxRecDepth 20000 in
theorem dX6_count_149 : decode cX6_count 149 = .ok (.bipush 10, 2) := by decide +kernel
set_option maxRecDepth 20000 in
theorem dX6_count_151 : decode cX6_count 151 = .ok (.invokestatic 36, 3) := by decide +kernel
set_option maxRecDepth 20000 in
theorem dX6_count_154 : decode cX6_count 154 = .ok (.ifCond .eq 17, 3) := by decide +kernel
set_option maxRecDepth 20000 in
theorem dX6_count_157 : decode cX6_count 157 = .ok (.aload_n 0, 1) := by decide +kernel
set_option maxRecDepth 20000 in
theorem dX6_count_158 : decode cX6_count 158 = .ok (.getfield 7, 3) := by decide +kernel
set_option maxRecDepth 20000 in
theorem dX6_count_161 : decode cX6_count 161 = .ok (.bipush 7, 2) := by decide +kernel
set_option maxRecDepth 20000 in
theorem dX6_count_163 : decode cX6_count 163 = .ok (.iload_n 1, 1) := by decide +kernel
set_option maxRecDepth 20000 in
theorem dX6_count_164 : decode cX6_count 164 = .ok (.iadd, 1) := by decide +kernel
set_option maxRecDepth 20000 in
theorem dX6_count_165 : decode cX6_count 165 = .ok (.iconst 5, 1) := by decide +kernel
set_option maxRecDepth 20000 in
theorem dX6_count_166 : decode cX6_count 166 = .ok (.isub, 1) := by decide +kernel
set_option maxRecDepth 20000 in
theorem dX6_count_167 : decode cX6_count 167 = .ok (.iaload, 1) := by decide +kernel
set_option maxRecDepth 20000 in
theorem dX6_count_168 : decode cX6_count 168 = .ok (.goto 28, 3) := by decide +kernel
set_option maxRecDepth 20000 in
theorem dX6_count_171 : decode cX6_count 171 = .ok (.iload_n 1, 1) := by decide +kernel
set_option maxRecDepth 20000 in
theorem dX6_count_172 : decode cX6_count 172 = .ok (.bipush 11, 2) := by decide +kernel
set_option maxRecDepth 20000 in
theorem dX6_count_174 : decode cX6_count 174 = .ok (.bipush 14, 2) := by decide +kernel
set_option maxRecDepth 20000 in
theorem dX6_count_176 : decode cX6_count 176 = .ok (.invokestatic 36, 3) := by decide +kernel
set_option maxRecDepth 20000 in
theorem dX6_count_179 : decode cX6_count 179 = .ok (.ifCond .eq 15, 3) := by decide +kernel
set_option maxRecDepth 20000 in
theorem dX6_count_182 : decode cX6_count 182 = .ok (.aload_n 0, 1) := by decide +kernel
set_option maxRecDepth 20000 in
theorem dX6_count_183 : decode cX6_count 183 = .ok (.getfield 7, 3) := by decide +kernel
set_option maxRecDepth 20000 in
theorem dX6_count_186 : decode cX6_count 186 = .ok (.iload_n 1, 1) := by decide +kernel
set_option maxRecDepth 20000 in
theorem dX6_count_187 : decode cX6_count 187 = .ok (.bipush 11, 2) := by decide +kernel
set_option maxRecDepth 20000 in
theorem dX6_count_189 : decode cX6_count 189 = .ok (.isub, 1) := by decide +kernel
set_option maxRecDepth 20000 in
theorem dX6_count_190 : decode cX6_count 190 = .ok (.iaload, 1) := by decide +kernel
set_option maxRecDepth 20000 in
theorem dX6_count_191 : decode cX6_count 191 = .ok (.goto 5, 3) := by decide +kernel
set_option maxRecDepth 20000 in
theorem dX6_count_194 : decode cX6_count 194 = .ok (.bipush (-2), 2) := by decide +kernel
set_option maxRecDepth 20000 in
theorem dX6_count_196 : decode cX6_count 196 = .ok (.ireturn, 1) := by decide +kernel
set_option maxRecDepth 20000 in
theorem dJ9_abs_0f7a4_0 : decode cJ9_abs_0f7a4 0 = .ok (.iload_n 0, 1) := by decide +kernel
set_option maxRecDepth 20000 in
theorem dJ9_abs_0f7a4_1 : decode cJ9_abs_0f7a4 1 = .ok (.ifCond .ge 8, 3) := by decide +kernel
set_option maxRecDepth 20000 in
theorem dJ9_abs_0f7a4_4 : decode cJ9_abs_0f7a4 4 = .ok (.iload_n 0, 1) := by decide +kernel
set_option maxRecDepth 20000 in
theorem dJ9_abs_0f7a4_5 : decode cJ9_abs_0f7a4 5 = .ok (.ineg, 1) := by decide +kernel
set_option maxRecDepth 20000 in
theorem dJ9_abs_0f7a4_6 : decode cJ9_abs_0f7a4 6 = .ok (.goto 4, 3) := by decide +kernel
set_option maxRecDepth 20000 in
theorem dJ9_abs_0f7a4_9 : decode cJ9_abs_0f7a4 9 = .ok (.iload_n 0, 1) := by decide +kernel
set_option maxRecDepth 20000 in
theorem dJ9_abs_0f7a4_10 : decode cJ9_abs_0f7a4 10 = .ok (.ireturn, 1) := by decide +kernel
set_option maxRecDepth 20000 in
theorem dJ9_max_7cf53_0 : decode cJ9_max_7cf53 0 = .ok (.iload_n 0, 1) := by decide +kernel
set_option maxRecDepth 20000 in
theorem dJ9_max_7cf53_1 : decode cJ9_max_7cf53 1 = .ok (.iload_n 1, 1) := by decide +kernel
set_option maxRecDepth 20000 in
theorem dJ9_max_7cf53_2 : decode cJ9_max_7cf53 2 = .ok (.if_icmp .lt 7, 3) := by decide +kernel
set_option maxRecDepth 20000 in
theorem dJ9_max_7cf53_5 : decode cJ9_max_7cf53 5 = .ok (.iload_n 0, 1) := by decide +kernel
set_option maxRecDepth 20000 in
theorem dJ9_max_7cf53_6 : decode cJ9_max_7cf53 6 = .ok (.goto 4, 3) := by decide +kernel
set_option maxRecDepth 20000 in
theorem dJ9_max_7cf53_9 : decode cJ9_max_7cf53 9 = .ok (.iload_n 1, 1) := by decide +kernel
set_option maxRecDepth 20000 in
theorem dJ9_max_7cf53_10 : decode cJ9_max_7cf53 10 = .ok (.ireturn, 1) := by decide +kernel
set_option maxRecDepth 20000 in
theorem dL_law_0 : decode cL_law 0 = .ok (.new 7, 3) := by decide +kernel
set_option maxRecDepth 20000 in
theorem dL_law_3 : decode cL_law 3 = .ok (.dup, 1) := by decide +kernel
set_option maxRecDepth 20000 in
theorem dL_law_4 : decode cL_law 4 = .ok (.invokespecial 9, 3) := by decide +kernel
set_option maxRecDepth 20000 in
theorem dL_law_7 : decode cL_law 7 = .ok (.astore_n 1, 1) := by decide +kernel
set_option maxRecDepth 20000 in
theorem dL_law_8 : decode cL_law 8 = .ok (.new 10, 3) := by decide +kernel
set_option maxRecDepth 20000 in
theorem dL_law_11 : decode cL_law 11 = .ok (.dup, 1) := by decide +kernel
set_option maxRecDepth 20000 in
theorem dL_law_12 : decode cL_law 12 = .ok (.invokespecial 12, 3) := by decide +kernel
set_option maxRecDepth 20000 in
theorem dL_law_15 : decode cL_law 15 = .ok (.astore_n 2, 1) := by decide +kernel
set_option maxRecDepth 20000 in
theorem dL_law_16 : decode cL_law 16 = .ok (.iconst 0, 1) := by decide +kernel
set_option maxRecDepth 20000 in
theorem dL_law_17 : decode cL_law 17 = .ok (.istore_n 3, 1) := by decide +kernel
set_option maxRecDepth 20000 in
theorem dL_law_18 : decode cL_law 18 = .ok (.iload_n 3, 1) := by decide +kernel
set_option maxRecDepth 20000 in
theorem dL_law_19 : decode cL_law 19 = .ok (.aload_n 0, 1) := by decide +kernel
set_option maxRecDepth 20000 in
theorem dL_law_20 : decode cL_law 20 = .ok (.arraylength, 1) := by decide +kernel
set_option maxRecDepth 20000 in
theorem dL_law_21 : decode cL_law 21 = .ok (.iconst 4, 1) := by decide +kernel
set_option maxRecDepth 20000 in
theorem dL_law_22 : decode cL_law 22 = .ok (.isub, 1) := by decide +kernel
set_option maxRecDepth 20000 in
theorem dL_law_23 : decode cL_law 23 = .ok (.if_icmp .gt 700, 3) := by decide +kernel
set_option maxRecDepth 20000 in
theorem dL_law_26 : decode cL_law 26 = .ok (.aload_n 0, 1) := by decide +kernel
set_option maxRecDepth 20000 in
theorem dL_law_27 : decode cL_law 27 = .ok (.iload_n 3, 1) := by decide +kernel
set_option maxRecDepth 20000 in
theorem dL_law_28 : decode cL_law 28 = .ok (.iaload, 1) := by decide +kernel
set_option maxRecDepth 20000 in
theorem dL_law_29 : decode cL_law 29 = .ok (.bipush 31, 2) := by decide +kernel
set_option maxRecDepth 20000 in
theorem dL_law_31 : decode cL_law 31 = .ok (.iand, 1) := by decide +kernel
set_option maxRecDepth 20000 in
theorem dL_law_32 : decode cL_law 32 = .ok (.tableswitch 685 0 20 #[100, 123, 166, 179, 202, 235, 278, 311, 344, 357, 382, 395, 408, 421, 434, 467, 510, 553, 596, 639, 662], 100) := by decide +kernel
set_option maxRecDepth 20000 in
theorem dL_law_132 : decode cL_law 132 = .ok (.aload_n 1, 1) := by decide +kernel
set_option maxRecDepth 20000 in
theorem dL_law_133 : decode cL_law 133 = .ok (.aload_n 0, 1) := by decide +kernel
set_option maxRecDepth 20000 in
theorem dL_law_134 : decode cL_law 134 = .ok (.iload_n 3, 1) := by decide +kernel
set_option maxRecDepth 20000 in
theorem dL_law_135 : decode cL_law 135 = .ok (.iconst 1, 1) := by decide +kernel
set_option maxRecDepth 20000 in
theorem dL_law_136 : decode cL_law 136 = .ok (.iadd, 1) := by decide +kernel
set_option maxRecDepth 20000 in
theorem dL_law_137 : decode cL_law 137 = .ok (.iaload, 1) := by decide +kernel
set_option maxRecDepth 20000 in
theorem dL_law_138 : decode cL_law 138 = .ok (.invokevirtual 13, 3) := by decide +kernel
set_option maxRecDepth 20000 in
theorem dL_law_141 : decode cL_law 141 = .ok (.aload_n 2, 1) := by decide +kernel
set_option maxRecDepth 20000 in
theorem dL_law_142 : decode cL_law 142 = .ok (.aload_n 0, 1) := by decide +kernel
set_option maxRecDepth 20000 in
theorem dL_law_143 : decode cL_law 143 = .ok (.iload_n 3, 1) := by decide +kernel
set_option maxRecDepth 20000 in
theorem dL_law_144 : decode cL_law 144 = .ok (.iconst 1, 1) := by decide +kernel
set_option maxRecDepth 20000 in
theorem dL_law_145 : decode cL_law 145 = .ok (.iadd, 1) := by decide +kernel
set_option maxRecDepth 20000 in
theorem dL_law_146 : decode cL_law 146 = .ok (.iaload, 1) := by decide +kernel
set_option maxRecDepth 20000 in
theorem dL_law_147 : decode cL_law 147 = .ok (.invokevirtual 17, 3) := by decide +kernel
set_option maxRecDepth 20000 in
theorem dL_law_150 : decode cL_law 150 = .ok (.if_icmp .eq 567, 3) := by decide +kernel
set_option maxRecDepth 20000 in
theorem dL_law_153 : decode cL_law 153 = .ok (.iconst 0, 1) := by decide +kernel
set_option maxRecDepth 20000 in
theorem dL_law_154 : decode cL_law 154 = .ok (.ireturn, 1) := by decide +kernel
set_option maxRecDepth 20000 in
theorem dL_law_155 : decode cL_law 155 = .ok (.aload_n 1, 1) := by decide +kernel
set_option maxRecDepth 20000 in
theorem dL_law_156 : decode cL_law 156 = .ok (.aload_n 0, 1) := by decide +kernel
set_option maxRecDepth 20000 in
theorem dL_law_157 : decode cL_law 157 = .ok (.iload_n 3, 1) := by decide +kernel
set_option maxRecDepth 20000 in
theorem dL_law_158 : decode cL_law 158 = .ok (.iconst 1, 1) := by decide +kernel
set_option maxRecDepth 20000 in
theorem dL_law_159 : decode cL_law 159 = .ok (.iadd, 1) := by decide +kernel
set_option maxRecDepth 20000 in
theorem dL_law_160 : decode cL_law 160 = .ok (.iaload, 1) := by decide +kernel
set_option maxRecDepth 20000 in
theorem dL_law_161 : decode cL_law 161 = .ok (.aload_n 0, 1) := by decide +kernel
set_option maxRecDepth 20000 in
theorem dL_law_162 : decode cL_law 162 = .ok (.iload_n 3, 1) := by decide +kernel
set_option maxRecDepth 20000 in
theorem dL_law_163 : decode cL_law 163 = .ok (.iconst 2, 1) := by decide +kernel
set_option maxRecDepth 20000 in
theorem dL_law_164 : decode cL_law 164 = .ok (.iadd, 1) := by decide +kernel
set_option maxRecDepth 20000 in
theorem dL_law_165 : decode cL_law 165 = .ok (.iaload, 1) := by decide +kernel
set_option maxRecDepth 20000 in
theorem dL_law_166 : decode cL_law 166 = .ok (.aload_n 0, 1) := by decide +kernel
set_option maxRecDepth 20000 in
theorem dL_law_167 : decode cL_law 167 = .ok (.iload_n 3, 1) := by decide +kernel
set_option maxRecDepth 20000 in
theorem dL_law_168 : decode cL_law 168 = .ok (.iconst 3, 1) := by decide +kernel
set_option maxRecDepth 20000 in
theorem dL_law_169 : decode cL_law 169 = .ok (.iadd, 1) := by decide +kernel
set_option maxRecDepth 20000 in
theorem dL_law_170 : decode cL_law 170 = .ok (.iaload, 1) := by decide +kernel
set_option maxRecDepth 20000 in
theorem dL_law_171 : decode cL_law 171 = .ok (.invokevirtual 18, 3) := by decide +kernel
set_option maxRecDepth 20000 in
theorem dL_law_174 : decode cL_law 174 = .ok (.aload_n 2, 1) := by decide +kernel
set_option maxRecDepth 20000 in
theorem dL_law_175 : decode cL_law 175 = .ok (.aload_n 0, 1) := by decide +kernel
set_option maxRecDepth 20000 in
theorem dL_law_176 : decode cL_law 176 = .ok (.iload_n 3, 1) := by decide +kernel
set_option maxRecDepth 20000 in
theorem dL_law_177 : decode cL_law 177 = .ok (.iconst 1, 1) := by decide +kernel
set_option maxRecDepth 20000 in
theorem dL_law_178 : decode cL_law 178 = .ok (.iadd, 1) := by decide +kernel
set_option maxRecDepth 20000 in
theorem dL_law_179 : decode cL_law 179 = .ok (.iaload, 1) := by decide +kernel
set_option maxRecDepth 20000 in
theorem dL_law_180 : decode cL_law 180 = .ok (.aload_n 0, 1) := by decide +kernel
set_option maxRecDepth 20000 in
theorem dL_law_181 : decode cL_law 181 = .ok (.iload_n 3, 1) := by decide +kernel
set_option maxRecDepth 20000 in
theorem dL_law_182 : decode cL_law 182 = .ok (.iconst 2, 1) := by decide +kernel
set_option maxRecDepth 20000 in
theorem dL_law_183 : decode cL_law 183 = .ok (.iadd, 1) := by decide +kernel
set_option maxRecDepth 20000 in
theorem dL_law_184 : decode cL_law 184 = .ok (.iaload, 1) := by decide +kernel
set_option maxRecDepth 20000 in
theorem dL_law_185 : decode cL_law 185 = .ok (.aload_n 0, 1) := by decide +kernel
set_option maxRecDepth 20000 in
theorem dL_law_186 : decode cL_law 186 = .ok (.iload_n 3, 1) := by decide +kernel
set_option maxRecDepth 20000 in
theorem dL_law_187 : decode cL_law 187 = .ok (.iconst 3, 1) := by decide +kernel
set_option maxRecDepth 20000 in
theorem dL_law_188 : decode cL_law 188 = .ok (.iadd, 1) := by decide +kernel
set_option maxRecDepth 20000 in
theorem dL_law_189 : decode cL_law 189 = .ok (.iaload, 1) := by decide +kernel
set_option maxRecDepth 20000 in
theorem dL_law_190 : decode cL_law 190 = .ok (.invokevirtual 22, 3) := by decide +kernel
set_option maxRecDepth 20000 in
theorem dL_law_193 : decode cL_law 193 = .ok (.if_icmp .eq 524, 3) := by decide +kernel
set_option maxRecDepth 20000 in
theorem dL_law_196 : decode cL_law 196 = .ok (.iconst 0, 1) := by decide +kernel
set_option maxRecDepth 20000 in
theorem dL_law_197 : decode cL_law 197 = .ok (.ireturn, 1) := by decide +kernel
set_option maxRecDepth 20000 in
theorem dL_law_198 : decode cL_law 198 = .ok (.aload_n 1, 1) := by decide +kernel
set_option maxRecDepth 20000 in
theorem dL_law_199 : decode cL_law 199 = .ok (.invokevirtual 23, 3) := by decide +kernel
set_option maxRecDepth 20000 in
theorem dL_law_202 : decode cL_law 202 = .ok (.aload_n 2, 1) := by decide +kernel
set_option maxRecDepth 20000 in
theorem dL_law_203 : decode cL_law 203 = .ok (.invokevirtual 27, 3) := by decide +kernel
set_option maxRecDepth 20000 in
theorem dL_law_206 : decode cL_law 206 = .ok (.if_icmp .eq 511, 3) := by decide +kernel
set_option maxRecDepth 20000 in
theorem dL_law_209 : decode cL_law 209 = .ok (.iconst 0, 1) := by decide +kernel
set_option maxRecDepth 20000 in
theorem dL_law_210 : decode cL_law 210 = .ok (.ireturn, 1) := by decide +kernel
set_option maxRecDepth 20000 in
theorem dL_law_211 : decode cL_law 211 = .ok (.aload_n 1, 1) := by decide +kernel
set_option maxRecDepth 20000 in
theorem dL_law_212 : decode cL_law 212 = .ok (.aload_n 0, 1) := by decide +kernel
set_option maxRecDepth 20000 in
theorem dL_law_213 : decode cL_law 213 = .ok (.iload_n 3, 1) := by decide +kernel
set_option maxRecDepth 20000 in
theorem dL_law_214 : decode cL_law 214 = .ok (.iconst 1, 1) := by decide +kernel
set_option maxRecDepth 20000 in
theorem dL_law_215 : decode cL_law 215 = .ok (.iadd, 1) := by decide +kernel
set_option maxRecDepth 20000 in
theorem dL_law_216 : decode cL_law 216 = .ok (.iaload, 1) := by decide +kernel
set_option maxRecDepth 20000 in
theorem dL_law_217 : decode cL_law 217 = .ok (.invokevirtual 28, 3) := by decide +kernel
set_option maxRecDepth 20000 in
theorem dL_law_220 : decode cL_law 220 = .ok (.aload_n 2, 1) := by decide +kernel
set_option maxRecDepth 20000 in
theorem dL_law_221 : decode cL_law 221 = .ok (.aload_n 0, 1) := by decide +kernel
set_option maxRecDepth 20000 in
theorem dL_law_222 : decode cL_law 222 = .ok (.iload_n 3, 1) := by decide +kernel
set_option maxRecDepth 20000 in
theorem dL_law_223 : decode cL_law 223 = .ok (.iconst 1, 1) := by decide +kernel
set_option maxRecDepth 20000 in
theorem dL_law_224 : decode cL_law 224 = .ok (.iadd, 1) := by decide +kernel
set_option maxRecDepth 20000 in
theorem dL_law_225 : decode cL_law 225 = .ok (.iaload, 1) := by decide +kernel
set_option maxRecDepth 20000 in
theorem dL_law_226 : decode cL_law 226 = .ok (.invokevirtual 31, 3) := by decide +kernel
set_option maxRecDepth 20000 in
theorem dL_law_229 : decode cL_law 229 = .ok (.if_icmp .eq 488, 3) := by decide +kernel
set_option maxRecDepth 20000 in
theorem dL_law_232 : decode cL_law 232 = .ok (.iconst 0, 1) := by decide +kernel
set_option maxRecDepth 20000 in
theorem dL_law_233 : decode cL_law 233 = .ok (.ireturn, 1) := by decide +kernel
set_option maxRecDepth 20000 in
theorem dL_law_234 : decode cL_law 234 = .ok (.aload_n 1, 1) := by decide +kernel
set_option maxRecDepth 20000 in
theorem dL_law_235 : decode cL_law 235 = .ok (.aload_n 0, 1) := by decide +kernel
set_option maxRecDepth 20000 in
theorem dL_law_236 : decode cL_law 236 = .ok (.iload_n 3, 1) := by decide +kernel
set_option maxRecDepth 20000 in
theorem dL_law_237 : decode cL_law 237 = .ok (.iconst 1, 1) := by decide +kernel
set_option maxRecDepth 20000 in
theorem dL_law_238 : decode cL_law 238 = .ok (.iadd, 1) := by decide +kernel
set_option maxRecDepth 20000 in
theorem dL_law_239 : decode cL_law 239 = .ok (.iaload, 1) := by decide +kernel
set_option maxRecDepth 20000 in
theorem dL_law_240 : decode cL_law 240 = .ok (.aload_n 0, 1) := by decide +kernel
set_option maxRecDepth 20000 in
theorem dL_law_241 : decode cL_law 241 = .ok (.iload_n 3, 1) := by decide +kernel
set_option maxRecDepth 20000 in
theorem dL_law_242 : decode cL_law 242 = .ok (.iconst 2, 1) := by decide +kernel
set_option maxRecDepth 20000 in
theorem dL_law_243 : decode cL_law 243 = .ok (.iadd, 1) := by decide +kernel
set_option maxRecDepth 20000 in
theorem dL_law_244 : decode cL_law 244 = .ok (.iaload, 1) := by decide +kernel
set_option maxRecDepth 20000 in
theorem dL_law_245 : decode cL_law 245 = .ok (.invokevirtual 32, 3) := by decide +kernel
set_option maxRecDepth 20000 in
theorem dL_law_248 : decode cL_law 248 = .ok (.aload_n 2, 1) := by decide +kernel
set_option maxRecDepth 20000 in
theorem dL_law_249 : decode cL_law 249 = .ok (.aload_n 0, 1) := by decide +kernel
set_option maxRecDepth 20000 in
theorem dL_law_250 : decode cL_law 250 = .ok (.iload_n 3, 1) := by decide +kernel
set_option maxRecDepth 20000 in
theorem dL_law_251 : decode cL_law 251 = .ok (.iconst 1, 1) := by decide +kernel
set_option maxRecDepth 20000 in
theorem dL_law_252 : decode cL_law 252 = .ok (.iadd, 1) := by decide +kernel
set_option maxRecDepth 20000 in
theorem dL_law_253 : decode cL_law 253 = .ok (.iaload, 1) := by decide +kernel
set_option maxRecDepth 20000 in
theorem dL_law_254 : decode cL_law 254 = .ok (.aload_n 0, 1) := by decide +kernel
set_option maxRecDepth 20000 in
theorem dL_law_255 : decode cL_law 255 = .ok (.iload_n 3, 1) := by decide +kernel
set_option maxRecDepth 20000 in
theorem dL_law_256 : decode cL_law 256 = .ok (.iconst 2, 1) := by decide +kernel
set_option maxRecDepth 20000 in
theorem dL_law_257 : decode cL_law 257 = .ok (.iadd, 1) := by decide +kernel
set_option maxRecDepth 20000 in
theorem dL_law_258 : decode cL_law 258 = .ok (.iaload, 1) := by decide +kernel
set_option maxRecDepth 20000 in
theorem dL_law_259 : decode cL_law 259 = .ok (.invokevirtual 36, 3) := by decide +kernel
set_option maxRecDepth 20000 in
theorem dL_law_262 : decode cL_law 262 = .ok (.if_icmp .eq 455, 3) := by decide +kernel
set_option maxRecDepth 20000 in
theorem dL_law_265 : decode cL_law 265 = .ok (.iconst 0, 1) := by decide +kernel
set_option maxRecDepth 20000 in
theorem dL_law_266 : decode cL_law 266 = .ok (.ireturn, 1) := by decide +kernel
set_option maxRecDepth 20000 in
theorem dL_law_267 : decode cL_law 267 = .ok (.aload_n 1, 1) := by decide +kernel
set_option maxRecDepth 20000 in
theorem dL_law_268 : decode cL_law 268 = .ok (.aload_n 0, 1) := by decide +kernel
set_option maxRecDepth 20000 in
theorem dL_law_269 : decode cL_law 269 = .ok (.iload_n 3, 1) := by decide +kernel
set_option maxRecDepth 20000 in
theorem dL_law_270 : decode cL_law 270 = .ok (.iconst 1, 1) := by decide +kernel
set_option maxRecDepth 20000 in
theorem dL_law_271 : decode cL_law 271 = .ok (.iadd, 1) := by decide +kernel
set_option maxRecDepth 20000 in
theorem dL_law_272 : decode cL_law 272 = .ok (.iaload, 1) := by decide +kernel
set_option maxRecDepth 20000 in
theorem dL_law_273 : decode cL_law 273 = .ok (.aload_n 0, 1) := by decide +kernel
set_option maxRecDepth 20000 in
theorem dL_law_274 : decode cL_law 274 = .ok (.iload_n 3, 1) := by decide +kernel
set_option maxRecDepth 20000 in
theorem dL_law_275 : decode cL_law 275 = .ok (.iconst 2, 1) := by decide +kernel
set_option maxRecDepth 20000 in
theorem dL_law_276 : decode cL_law 276 = .ok (.iadd, 1) := by decide +kernel
set_option maxRecDepth 20000 in
theorem dL_law_277 : decode cL_law 277 = .ok (.iaload, 1) := by decide +kernel
set_option maxRecDepth 20000 in
theorem dL_law_278 : decode cL_law 278 = .ok (.aload_n 0, 1) := by decide +kernel
set_option maxRecDepth 20000 in
theorem dL_law_279 : decode cL_law 279 = .ok (.iload_n 3, 1) := by decide +kernel
set_option maxRecDepth 20000 in
theorem dL_law_280 : decode cL_law 280 = .ok (.iconst 3, 1) := by decide +kernel
set_option maxRecDepth 20000 in
theorem dL_law_281 : decode cL_law 281 = .ok (.iadd, 1) := by decide +kernel
set_option maxRecDepth 20000 in
theorem dL_law_282 : decode cL_law 282 = .ok (.iaload, 1) := by decide +kernel
set_option maxRecDepth 20000 in
theorem dL_law_283 : decode cL_law 283 = .ok (.invokevirtual 37, 3) := by decide +kernel
set_option maxRecDepth 20000 in
theorem dL_law_286 : decode cL_law 286 = .ok (.aload_n 2, 1) := by decide +kernel
set_option maxRecDepth 20000 in
theorem dL_law_287 : decode cL_law 287 = .ok (.aload_n 0, 1) := by decide +kernel
set_option maxRecDepth 20000 in
theorem dL_law_288 : decode cL_law 288 = .ok (.iload_n 3, 1) := by decide +kernel
set_option maxRecDepth 20000 in
theorem dL_law_289 : decode cL_law 289 = .ok (.iconst 1, 1) := by decide +kernel
set_option maxRecDepth 20000 in
theorem dL_law_290 : decode cL_law 290 = .ok (.iadd, 1) := by decide +kernel
set_option maxRecDepth 20000 in
theorem dL_law_291 : decode cL_law 291 = .ok (.iaload, 1) := by decide +kernel
set_option maxRecDepth 20000 in
theorem dL_law_292 : decode cL_law 292 = .ok (.aload_n 0, 1) := by decide +kernel
set_option maxRecDepth 20000 in
theorem dL_law_293 : decode cL_law 293 = .ok (.iload_n 3, 1) := by decide +kernel
set_option maxRecDepth 20000 in
theorem dL_law_294 : decode cL_law 294 = .ok (.iconst 2, 1) := by decide +kernel
set_option maxRecDepth 20000 in
theorem dL_law_295 : decode cL_law 295 = .ok (.iadd, 1) := by decide +kernel
set_option maxRecDepth 20000 in
theorem dL_law_296 : decode cL_law 296 = .ok (.iaload, 1) := by decide +kernel
set_option maxRecDepth 20000 in
theorem dL_law_297 : decode cL_law 297 = .ok (.aload_n 0, 1) := by decide +kernel
set_option maxRecDepth 20000 in
theorem dL_law_298 : decode cL_law 298 = .ok (.iload_n 3, 1) := by decide +kernel
set_option maxRecDepth 20000 in
theorem dL_law_299 : decode cL_law 299 = .ok (.iconst 3, 1) := by decide +kernel
set_option maxRecDepth 20000 in
theorem dL_law_300 : decode cL_law 300 = .ok (.iadd, 1) := by decide +kernel
set_option maxRecDepth 20000 in
theorem dL_law_301 : decode cL_law 301 = .ok (.iaload, 1) := by decide +kernel
set_option maxRecDepth 20000 in
theorem dL_law_302 : decode cL_law 302 = .ok (.invokevirtual 40, 3) := by decide +kernel
set_option maxRecDepth 20000 in
theorem dL_law_305 : decode cL_law 305 = .ok (.if_icmp .eq 412, 3) := by decide +kernel
set_option maxRecDepth 20000 in
theorem dL_law_308 : decode cL_law 308 = .ok (.iconst 0, 1) := by decide +kernel
set_option maxRecDepth 20000 in
theorem dL_law_309 : decode cL_law 309 = .ok (.ireturn, 1) := by decide +kernel
set_option maxRecDepth 20000 in
theorem dL_law_310 : decode cL_law 310 = .ok (.aload_n 1, 1) := by decide +kernel
set_option maxRecDepth 20000 in
theorem dL_law_311 : decode cL_law 311 = .ok (.aload_n 0, 1) := by decide +kernel
set_option maxRecDepth 20000 in
theorem dL_law_312 : decode cL_law 312 = .ok (.iload_n 3, 1) := by decide +kernel
set_option maxRecDepth 20000 in
theorem dL_law_313 : decode cL_law 313 = .ok (.iconst 1, 1) := by decide +kernel
set_option maxRecDepth 20000 in
theorem dL_law_314 : decode cL_law 314 = .ok (.iadd, 1) := by decide +kernel
set_option maxRecDepth 20000 in
theorem dL_law_315 : decode cL_law 315 = .ok (.iaload, 1) := by decide +kernel
set_option maxRecDepth 20000 in
theorem dL_law_316 : decode cL_law 316 = .ok (.aload_n 0, 1) := by decide +kernel
set_option maxRecDepth 20000 in
theorem dL_law_317 : decode cL_law 317 = .ok (.iload_n 3, 1) := by decide +kernel
set_option maxRecDepth 20000 in
theorem dL_law_318 : decode cL_law 318 = .ok (.iconst 2, 1) := by decide +kernel
set_option maxRecDepth 20000 in
theorem dL_law_319 : decode cL_law 319 = .ok (.iadd, 1) := by decide +kernel
set_option maxRecDepth 20000 in
theorem dL_law_320 : decode cL_law 320 = .ok (.iaload, 1) := by decide +kernel
set_option maxRecDepth 20000 in
theorem dL_law_321 : decode cL_law 321 = .ok (.invokevirtual 41, 3) := by decide +kernel
set_option maxRecDepth 20000 in
theorem dL_law_324 : decode cL_law 324 = .ok (.aload_n 2, 1) := by decide +kernel
set_option maxRecDepth 20000 in
theorem dL_law_325 : decode cL_law 325 = .ok (.aload_n 0, 1) := by decide +kernel
set_option maxRecDepth 20000 in
theorem dL_law_326 : decode cL_law 326 = .ok (.iload_n 3, 1) := by decide +kernel
set_option maxRecDepth 20000 in
theorem dL_law_327 : decode cL_law 327 = .ok (.iconst 1, 1) := by decide +kernel
set_option maxRecDepth 20000 in
theorem dL_law_328 : decode cL_law 328 = .ok (.iadd, 1) := by decide +kernel
set_option maxRecDepth 20000 in
theorem dL_law_329 : decode cL_law 329 = .ok (.iaload, 1) := by decide +kernel
set_option maxRecDepth 20000 in
theorem dL_law_330 : decode cL_law 330 = .ok (.aload_n 0, 1) := by decide +kernel
set_option maxRecDepth 20000 in
theorem dL_law_331 : decode cL_law 331 = .ok (.iload_n 3, 1) := by decide +kernel
set_option maxRecDepth 20000 in
theorem dL_law_332 : decode cL_law 332 = .ok (.iconst 2, 1) := by decide +kernel
set_option maxRecDepth 20000 in
theorem dL_law_333 : decode cL_law 333 = .ok (.iadd, 1) := by decide +kernel
set_option maxRecDepth 20000 in
theorem dL_law_334 : decode cL_law 334 = .ok (.iaload, 1) := by decide +kernel
set_option maxRecDepth 20000 in
theorem dL_law_335 : decode cL_law 335 = .ok (.invokevirtual 44, 3) := by decide +kernel
set_option maxRecDepth 20000 in
theorem dL_law_338 : decode cL_law 338 = .ok (.if_icmp .eq 379, 3) := by decide +kernel
set_option maxRecDepth 20000 in
theorem dL_law_341 : decode cL_law 341 = .ok (.iconst 0, 1) := by decide +kernel
set_option maxRecDepth 20000 in
theorem dL_law_342 : decode cL_law 342 = .ok (.ireturn, 1) := by decide +kernel
set_option maxRecDepth 20000 in
theorem dL_law_343 : decode cL_law 343 = .ok (.aload_n 1, 1) := by decide +kernel
set_option maxRecDepth 20000 in
theorem dL_law_344 : decode cL_law 344 = .ok (.aload_n 0, 1) := by decide +kernel
set_option maxRecDepth 20000 in
theorem dL_law_345 : decode cL_law 345 = .ok (.iload_n 3, 1) := by decide +kernel
set_option maxRecDepth 20000 in
theorem dL_law_346 : decode cL_law 346 = .ok (.iconst 1, 1) := by decide +kernel
set_option maxRecDepth 20000 in
theorem dL_law_347 : decode cL_law 347 = .ok (.iadd, 1) := by decide +kernel
set_option maxRecDepth 20000 in
theorem dL_law_348 : decode cL_law 348 = .ok (.iaload, 1) := by decide +kernel
set_option maxRecDepth 20000 in
theorem dL_law_349 : decode cL_law 349 = .ok (.aload_n 0, 1) := by decide +kernel
set_option maxRecDepth 20000 in
theorem dL_law_350 : decode cL_law 350 = .ok (.iload_n 3, 1) := by decide +kernel
set_option maxRecDepth 20000 in
theorem dL_law_351 : decode cL_law 351 = .ok (.iconst 2, 1) := by decide +kernel
set_option maxRecDepth 20000 in
theorem dL_law_352 : decode cL_law 352 = .ok (.iadd, 1) := by decide +kernel
set_option maxRecDepth 20000 in
theorem dL_law_353 : decode cL_law 353 = .ok (.iaload, 1) := by decide +kernel
set_option maxRecDepth 20000 in
theorem dL_law_354 : decode cL_law 354 = .ok (.invokevirtual 45, 3) := by decide +kernel
set_option maxRecDepth 20000 in
theorem dL_law_357 : decode cL_law 357 = .ok (.aload_n 2, 1) := by decide +kernel
set_option maxRecDepth 20000 in
theorem dL_law_358 : decode cL_law 358 = .ok (.aload_n 0, 1) := by decide +kernel
set_option maxRecDepth 20000 in
theorem dL_law_359 : decode cL_law 359 = .ok (.iload_n 3, 1) := by decide +kernel
set_option maxRecDepth 20000 in
theorem dL_law_360 : decode cL_law 360 = .ok (.iconst 1, 1) := by decide +kernel
set_option maxRecDepth 20000 in
theorem dL_law_361 : decode cL_law 361 = .ok (.iadd, 1) := by decide +kernel
set_option maxRecDepth 20000 in
theorem dL_law_362 : decode cL_law 362 = .ok (.iaload, 1) := by decide +kernel
set_option maxRecDepth 20000 in
theorem dL_law_363 : decode cL_law 363 = .ok (.aload_n 0, 1) := by decide +kernel
set_option maxRecDepth 20000 in
theorem dL_law_364 : decode cL_law 364 = .ok (.iload_n 3, 1) := by decide +kernel
set_option maxRecDepth 20000 in
theorem dL_law_365 : decode cL_law 365 = .ok (.iconst 2, 1) := by decide +kernel
set_option maxRecDepth 20000 in
theorem dL_law_366 : decode cL_law 366 = .ok (.iadd, 1) := by decide +kernel
set_option maxRecDepth 20000 in
theorem dL_law_367 : decode cL_law 367 = .ok (.iaload, 1) := by decide +kernel
set_option maxRecDepth 20000 in
theorem dL_law_368 : decode cL_law 368 = .ok (.invokevirtual 48, 3) := by decide +kernel
set_option maxRecDepth 20000 in
theorem dL_law_371 : decode cL_law 371 = .ok (.if_icmp .eq 346, 3) := by decide +kernel
set_option maxRecDepth 20000 in
theorem dL_law_374 : decode cL_law 374 = .ok (.iconst 0, 1) := by decide +kernel
set_option maxRecDepth 20000 in
theorem dL_law_375 : decode cL_law 375 = .ok (.ireturn, 1) := by decide +kernel
set_option maxRecDepth 20000 in
theorem dL_law_376 : decode cL_law 376 = .ok (.aload_n 1, 1) := by decide +kernel
set_option maxRecDepth 20000 in
theorem dL_law_377 : decode cL_law 377 = .ok (.invokevirtual 49, 3) := by decide +kernel
set_option maxRecDepth 20000 in
theorem dL_law_380 : decode cL_law 380 = .ok (.aload_n 2, 1) := by decide +kernel
set_option maxRecDepth 20000 in
theorem dL_law_381 : decode cL_law 381 = .ok (.invokevirtual 52, 3) := by decide +kernel
set_option maxRecDepth 20000 in
theorem dL_law_384 : decode cL_law 384 = .ok (.if_icmp .eq 333, 3) := by decide +kernel
set_option maxRecDepth 20000 in
theorem dL_law_387 : decode cL_law 387 = .ok (.iconst 0, 1) := by decide +kernel
set_option maxRecDepth 20000 in
theorem dL_law_388 : decode cL_law 388 = .ok (.ireturn, 1) := by decide +kernel
set_option maxRecDepth 20000 in
theorem dL_law_389 : decode cL_law 389 = .ok (.aload_n 1, 1) := by decide +kernel
set_option maxRecDepth 20000 in
theorem dL_law_390 : decode cL_law 390 = .ok (.aload_n 0, 1) := by decide +kernel
set_option maxRecDepth 20000 in
theorem dL_law_391 : decode cL_law 391 = .ok (.iload_n 3, 1) := by decide +kernel
set_option maxRecDepth 20000 in
theorem dL_law_392 : decode cL_law 392 = .ok (.iconst 1, 1) := by decide +kernel
set_option maxRecDepth 20000 in
theorem dL_law_393 : decode cL_law 393 = .ok (.iadd, 1) := by decide +kernel
set_option maxRecDepth 20000 in
theorem dL_law_394 : decode cL_law 394 = .ok (.iaload, 1) := by decide +kernel
set_option maxRecDepth 20000 in
theorem dL_law_395 : decode cL_law 395 = .ok (.i2c, 1) := by decide +kernel
set_option maxRecDepth 20000 in
theorem dL_law_396 : decode cL_law 396 = .ok (.invokevirtual 53, 3) := by decide +kernel
set_option maxRecDepth 20000 in
theorem dL_law_399 : decode cL_law 399 = .ok (.aload_n 2, 1) := by decide +kernel
set_option maxRecDepth 20000 in
theorem dL_law_400 : decode cL_law 400 = .ok (.aload_n 0, 1) := by decide +kernel
set_option maxRecDepth 20000 in
theorem dL_law_401 : decode cL_law 401 = .ok (.iload_n 3, 1) := by decide +kernel
set_option maxRecDepth 20000 in
theorem dL_law_402 : decode cL_law 402 = .ok (.iconst 1, 1) := by decide +kernel
set_option maxRecDepth 20000 in
theorem dL_law_403 : decode cL_law 403 = .ok (.iadd, 1) := by decide +kernel
set_option maxRecDepth 20000 in
theorem dL_law_404 : decode cL_law 404 = .ok (.iaload, 1) := by decide +kernel
set_option maxRecDepth 20000 in
theorem dL_law_405 : decode cL_law 405 = .ok (.i2c, 1) := by decide +kernel
set_option maxRecDepth 20000 in
theorem dL_law_406 : decode cL_law 406 = .ok (.invokevirtual 57, 3) := by decide +kernel
set_option maxRecDepth 20000 in
theorem dL_law_409 : decode cL_law 409 = .ok (.if_icmp .eq 308, 3) := by decide +kernel
set_option maxRecDepth 20000 in
theorem dL_law_412 : decode cL_law 412 = .ok (.iconst 0, 1) := by decide +kernel
set_option maxRecDepth 20000 in
theorem dL_law_413 : decode cL_law 413 = .ok (.ireturn, 1) := by decide +kernel
set_option maxRecDepth 20000 in
theorem dL_law_414 : decode cL_law 414 = .ok (.aload_n 1, 1) := by decide +kernel
set_option maxRecDepth 20000 in
theorem dL_law_415 : decode cL_law 415 = .ok (.invokevirtual 58, 3) := by decide +kernel
set_option maxRecDepth 20000 in
theorem dL_law_418 : decode cL_law 418 = .ok (.aload_n 2, 1) := by decide +kernel
set_option maxRecDepth 20000 in
theorem dL_law_419 : decode cL_law 419 = .ok (.invokevirtual 61, 3) := by decide +kernel
set_option maxRecDepth 20000 in
theorem dL_law_422 : decode cL_law 422 = .ok (.if_icmp .eq 295, 3) := by decide +kernel
set_option maxRecDepth 20000 in
theorem dL_law_425 : decode cL_law 425 = .ok (.iconst 0, 1) := by decide +kernel
set_option maxRecDepth 20000 in
theorem dL_law_426 : decode cL_law 426 = .ok (.ireturn, 1) := by decide +kernel
set_option maxRecDepth 20000 in
theorem dL_law_427 : decode cL_law 427 = .ok (.aload_n 1, 1) := by decide +kernel
set_option maxRecDepth 20000 in
theorem dL_law_428 : decode cL_law 428 = .ok (.invokevirtual 62, 3) := by decide +kernel
set_option maxRecDepth 20000 in
theorem dL_law_431 : decode cL_law 431 = .ok (.aload_n 2, 1) := by decide +kernel
set_option maxRecDepth 20000 in
theorem dL_law_432 : decode cL_law 432 = .ok (.invokevirtual 65, 3) := by decide +kernel
set_option maxRecDepth 20000 in
theorem dL_law_435 : decode cL_law 435 = .ok (.if_icmp .eq 282, 3) := by decide +kernel
set_option maxRecDepth 20000 in
theorem dL_law_438 : decode cL_law 438 = .ok (.iconst 0, 1) := by decide +kernel
set_option maxRecDepth 20000 in
theorem dL_law_439 : decode cL_law 439 = .ok (.ireturn, 1) := by decide +kernel
set_option maxRecDepth 20000 in
theorem dL_law_440 : decode cL_law 440 = .ok (.aload_n 1, 1) := by decide +kernel
set_option maxRecDepth 20000 in
theorem dL_law_441 : decode cL_law 441 = .ok (.invokevirtual 66, 3) := by decide +kernel
set_option maxRecDepth 20000 in
theorem dL_law_444 : decode cL_law 444 = .ok (.aload_n 2, 1) := by decide +kernel
set_option maxRecDepth 20000 in
theorem dL_law_445 : decode cL_law 445 = .ok (.invokevirtual 69, 3) := by decide +kernel
set_option maxRecDepth 20000 in
theorem dL_law_448 : decode cL_law 448 = .ok (.if_icmp .eq 269, 3) := by decide +kernel
set_option maxRecDepth 20000 in
theorem dL_law_451 : decode cL_law 451 = .ok (.iconst 0, 1) := by decide +kernel
set_option maxRecDepth 20000 in
theorem dL_law_452 : decode cL_law 452 = .ok (.ireturn, 1) := by decide +kernel
set_option maxRecDepth 20000 in
theorem dL_law_453 : decode cL_law 453 = .ok (.aload_n 1, 1) := by decide +kernel
set_option maxRecDepth 20000 in
theorem dL_law_454 : decode cL_law 454 = .ok (.invokevirtual 70, 3) := by decide +kernel
set_option maxRecDepth 20000 in
theorem dL_law_457 : decode cL_law 457 = .ok (.aload_n 2, 1) := by decide +kernel
set_option maxRecDepth 20000 in
theorem dL_law_458 : decode cL_law 458 = .ok (.invokevirtual 73, 3) := by decide +kernel
set_option maxRecDepth 20000 in
theorem dL_law_461 : decode cL_law 461 = .ok (.if_icmp .eq 256, 3) := by decide +kernel
set_option maxRecDepth 20000 in
theorem dL_law_464 : decode cL_law 464 = .ok (.iconst 0, 1) := by decide +kernel
set_option maxRecDepth 20000 in
theorem dL_law_465 : decode cL_law 465 = .ok (.ireturn, 1) := by decide +kernel
set_option maxRecDepth 20000 in
theorem dL_law_466 : decode cL_law 466 = .ok (.aload_n 1, 1) := by decide +kernel
set_option maxRecDepth 20000 in
theorem dL_law_467 : decode cL_law 467 = .ok (.aload_n 0, 1) := by decide +kernel
set_option maxRecDepth 20000 in
theorem dL_law_468 : decode cL_law 468 = .ok (.iload_n 3, 1) := by decide +kernel
set_option maxRecDepth 20000 in
theorem dL_law_469 : decode cL_law 469 = .ok (.iconst 1, 1) := by decide +kernel
set_option maxRecDepth 20000 in
theorem dL_law_470 : decode cL_law 470 = .ok (.iadd, 1) := by decide +kernel
set_option maxRecDepth 20000 in
theorem dL_law_471 : decode cL_law 471 = .ok (.iaload, 1) := by decide +kernel
set_option maxRecDepth 20000 in
theorem dL_law_472 : decode cL_law 472 = .ok (.aload_n 0, 1) := by decide +kernel
set_option maxRecDepth 20000 in
theorem dL_law_473 : decode cL_law 473 = .ok (.iload_n 3, 1) := by decide +kernel
set_option maxRecDepth 20000 in
theorem dL_law_474 : decode cL_law 474 = .ok (.iconst 2, 1) := by decide +kernel
set_option maxRecDepth 20000 in
theorem dL_law_475 : decode cL_law 475 = .ok (.iadd, 1) := by decide +kernel
set_option maxRecDepth 20000 in
theorem dL_law_476 : decode cL_law 476 = .ok (.iaload, 1) := by decide +kernel
set_option maxRecDepth 20000 in
theorem dL_law_477 : decode cL_law 477 = .ok (.invokevirtual 74, 3) := by decide +kernel
set_option maxRecDepth 20000 in
theorem dL_law_480 : decode cL_law 480 = .ok (.aload_n 2, 1) := by decide +kernel
set_option maxRecDepth 20000 in
theorem dL_law_481 : decode cL_law 481 = .ok (.aload_n 0, 1) := by decide +kernel
set_option maxRecDepth 20000 in
theorem dL_law_482 : decode cL_law 482 = .ok (.iload_n 3, 1) := by decide +kernel
set_option maxRecDepth 20000 in
theorem dL_law_483 : decode cL_law 483 = .ok (.iconst 1, 1) := by decide +kernel
set_option maxRecDepth 20000 in
theorem dL_law_484 : decode cL_law 484 = .ok (.iadd, 1) := by decide +kernel
set_option maxRecDepth 20000 in
theorem dL_law_485 : decode cL_law 485 = .ok (.iaload, 1) := by decide +kernel
set_option maxRecDepth 20000 in
theorem dL_law_486 : decode cL_law 486 = .ok (.aload_n 0, 1) := by decide +kernel
set_option maxRecDepth 20000 in
theorem dL_law_487 : decode cL_law 487 = .ok (.iload_n 3, 1) := by decide +kernel
set_option maxRecDepth 20000 in
theorem dL_law_488 : decode cL_law 488 = .ok (.iconst 2, 1) := by decide +kernel
set_option maxRecDepth 20000 in
theorem dL_law_489 : decode cL_law 489 = .ok (.iadd, 1) := by decide +kernel
set_option maxRecDepth 20000 in
theorem dL_law_490 : decode cL_law 490 = .ok (.iaload, 1) := by decide +kernel
set_option maxRecDepth 20000 in
theorem dL_law_491 : decode cL_law 491 = .ok (.invokevirtual 77, 3) := by decide +kernel
set_option maxRecDepth 20000 in
theorem dL_law_494 : decode cL_law 494 = .ok (.if_icmp .eq 223, 3) := by decide +kernel
set_option maxRecDepth 20000 in
theorem dL_law_497 : decode cL_law 497 = .ok (.iconst 0, 1) := by decide +kernel
set_option maxRecDepth 20000 in
theorem dL_law_498 : decode cL_law 498 = .ok (.ireturn, 1) := by decide +kernel
set_option maxRecDepth 20000 in
theorem dL_law_499 : decode cL_law 499 = .ok (.aload_n 1, 1) := by decide +kernel
set_option maxRecDepth 20000 in
theorem dL_law_500 : decode cL_law 500 = .ok (.aload_n 0, 1) := by decide +kernel
set_option maxRecDepth 20000 in
theorem dL_law_501 : decode cL_law 501 = .ok (.iload_n 3, 1) := by decide +kernel
set_option maxRecDepth 20000 in
theorem dL_law_502 : decode cL_law 502 = .ok (.iconst 1, 1) := by decide +kernel
set_option maxRecDepth 20000 in
theorem dL_law_503 : decode cL_law 503 = .ok (.iadd, 1) := by decide +kernel
set_option maxRecDepth 20000 in
theorem dL_law_504 : decode cL_law 504 = .ok (.iaload, 1) := by decide +kernel
set_option maxRecDepth 20000 in
theorem dL_law_505 : decode cL_law 505 = .ok (.aload_n 0, 1) := by decide +kernel
set_option maxRecDepth 20000 in
theorem dL_law_506 : decode cL_law 506 = .ok (.iload_n 3, 1) := by decide +kernel
set_option maxRecDepth 20000 in
theorem dL_law_507 : decode cL_law 507 = .ok (.iconst 2, 1) := by decide +kernel
set_option maxRecDepth 20000 in
theorem dL_law_508 : decode cL_law 508 = .ok (.iadd, 1) := by decide +kernel
set_option maxRecDepth 20000 in
theorem dL_law_509 : decode cL_law 509 = .ok (.iaload, 1) := by decide +kernel
set_option maxRecDepth 20000 in
theorem dL_law_510 : decode cL_law 510 = .ok (.aload_n 0, 1) := by decide +kernel
set_option maxRecDepth 20000 in
theorem dL_law_511 : decode cL_law 511 = .ok (.iload_n 3, 1) := by decide +kernel
set_option maxRecDepth 20000 in
theorem dL_law_512 : decode cL_law 512 = .ok (.iconst 3, 1) := by decide +kernel
set_option maxRecDepth 20000 in
theorem dL_law_513 : decode cL_law 513 = .ok (.iadd, 1) := by decide +kernel
set_option maxRecDepth 20000 in
theorem dL_law_514 : decode cL_law 514 = .ok (.iaload, 1) := by decide +kernel
set_option maxRecDepth 20000 in
theorem dL_law_515 : decode cL_law 515 = .ok (.invokevirtual 78, 3) := by decide +kernel
set_option maxRecDepth 20000 in
theorem dL_law_518 : decode cL_law 518 = .ok (.aload_n 2, 1) := by decide +kernel
set_option maxRecDepth 20000 in
theorem dL_law_519 : decode cL_law 519 = .ok (.aload_n 0, 1) := by decide +kernel
set_option maxRecDepth 20000 in
theorem dL_law_520 : decode cL_law 520 = .ok (.iload_n 3, 1) := by decide +kernel
set_option maxRecDepth 20000 in
theorem dL_law_521 : decode cL_law 521 = .ok (.iconst 1, 1) := by decide +kernel
set_option maxRecDepth 20000 in
theorem dL_law_522 : decode cL_law 522 = .ok (.iadd, 1) := by decide +kernel
set_option maxRecDepth 20000 in
theorem dL_law_523 : decode cL_law 523 = .ok (.iaload, 1) := by decide +kernel
set_option maxRecDepth 20000 in
theorem dL_law_524 : decode cL_law 524 = .ok (.aload_n 0, 1) := by decide +kernel
set_option maxRecDepth 20000 in
theorem dL_law_525 : decode cL_law 525 = .ok (.iload_n 3, 1) := by decide +kernel
set_option maxRecDepth 20000 in
theorem dL_law_526 : decode cL_law 526 = .ok (.iconst 2, 1) := by decide +kernel
set_option maxRecDepth 20000 in
theorem dL_law_527 : decode cL_law 527 = .ok (.iadd, 1) := by decide +kernel
set_option maxRecDepth 20000 in
theorem dL_law_528 : decode cL_law 528 = .ok (.iaload, 1) := by decide +kernel
set_option maxRecDepth 20000 in
theorem dL_law_529 : decode cL_law 529 = .ok (.aload_n 0, 1) := by decide +kernel
set_option maxRecDepth 20000 in
theorem dL_law_530 : decode cL_law 530 = .ok (.iload_n 3, 1) := by decide +kernel
set_option maxRecDepth 20000 in
theorem dL_law_531 : decode cL_law 531 = .ok (.iconst 3, 1) := by decide +kernel
set_option maxRecDepth 20000 in
theorem dL_law_532 : decode cL_law 532 = .ok (.iadd, 1) := by decide +kernel
set_option maxRecDepth 20000 in
theorem dL_law_533 : decode cL_law 533 = .ok (.iaload, 1) := by decide +kernel
set_option maxRecDepth 20000 in
theorem dL_law_534 : decode cL_law 534 = .ok (.invokevirtual 81, 3) := by decide +kernel
set_option maxRecDepth 20000 in
theorem dL_law_537 : decode cL_law 537 = .ok (.if_icmp .eq 180, 3) := by decide +kernel
set_option maxRecDepth 20000 in
theorem dL_law_540 : decode cL_law 540 = .ok (.iconst 0, 1) := by decide +kernel
set_option maxRecDepth 20000 in
theorem dL_law_541 : decode cL_law 541 = .ok (.ireturn, 1) := by decide +kernel
set_option maxRecDepth 20000 in
theorem dL_law_542 : decode cL_law 542 = .ok (.aload_n 1, 1) := by decide +kernel
set_option maxRecDepth 20000 in
theorem dL_law_543 : decode cL_law 543 = .ok (.aload_n 0, 1) := by decide +kernel
set_option maxRecDepth 20000 in
theorem dL_law_544 : decode cL_law 544 = .ok (.iload_n 3, 1) := by decide +kernel
set_option maxRecDepth 20000 in
theorem dL_law_545 : decode cL_law 545 = .ok (.iconst 1, 1) := by decide +kernel
set_option maxRecDepth 20000 in
theorem dL_law_546 : decode cL_law 546 = .ok (.iadd, 1) := by decide +kernel
set_option maxRecDepth 20000 in
theorem dL_law_547 : decode cL_law 547 = .ok (.iaload, 1) := by decide +kernel
set_option maxRecDepth 20000 in
theorem dL_law_548 : decode cL_law 548 = .ok (.aload_n 0, 1) := by decide +kernel
set_option maxRecDepth 20000 in
theorem dL_law_549 : decode cL_law 549 = .ok (.iload_n 3, 1) := by decide +kernel
set_option maxRecDepth 20000 in
theorem dL_law_550 : decode cL_law 550 = .ok (.iconst 2, 1) := by decide +kernel
set_option maxRecDepth 20000 in
theorem dL_law_551 : decode cL_law 551 = .ok (.iadd, 1) := by decide +kernel
set_option maxRecDepth 20000 in
theorem dL_law_552 : decode cL_law 552 = .ok (.iaload, 1) := by decide +kernel
set_option maxRecDepth 20000 in
theorem dL_law_553 : decode cL_law 553 = .ok (.aload_n 0, 1) := by decide +kernel
set_option maxRecDepth 20000 in
theorem dL_law_554 : decode cL_law 554 = .ok (.iload_n 3, 1) := by decide +kernel
set_option maxRecDepth 20000 in
theorem dL_law_555 : decode cL_law 555 = .ok (.iconst 3, 1) := by decide +kernel
set_option maxRecDepth 20000 in
theorem dL_law_556 : decode cL_law 556 = .ok (.iadd, 1) := by decide +kernel
set_option maxRecDepth 20000 in
theorem dL_law_557 : decode cL_law 557 = .ok (.iaload, 1) := by decide +kernel
set_option maxRecDepth 20000 in
theorem dL_law_558 : decode cL_law 558 = .ok (.invokevirtual 82, 3) := by decide +kernel
set_option maxRecDepth 20000 in
theorem dL_law_561 : decode cL_law 561 = .ok (.aload_n 2, 1) := by decide +kernel
set_option maxRecDepth 20000 in
theorem dL_law_562 : decode cL_law 562 = .ok (.aload_n 0, 1) := by decide +kernel
set_option maxRecDepth 20000 in
theorem dL_law_563 : decode cL_law 563 = .ok (.iload_n 3, 1) := by decide +kernel
set_option maxRecDepth 20000 in
theorem dL_law_564 : decode cL_law 564 = .ok (.iconst 1, 1) := by decide +kernel
set_option maxRecDepth 20000 in
theorem dL_law_565 : decode cL_law 565 = .ok (.iadd, 1) := by decide +kernel
set_option maxRecDepth 20000 in
theorem dL_law_566 : decode cL_law 566 = .ok (.iaload, 1) := by decide +kernel
set_option maxRecDepth 20000 in
theorem dL_law_567 : decode cL_law 567 = .ok (.aload_n 0, 1) := by decide +kernel
set_option maxRecDepth 20000 in
theorem dL_law_568 : decode cL_law 568 = .ok (.iload_n 3, 1) := by decide +kernel
set_option maxRecDepth 20000 in
theorem dL_law_569 : decode cL_law 569 = .ok (.iconst 2, 1) := by decide +kernel
set_option maxRecDepth 20000 in
theorem dL_law_570 : decode cL_law 570 = .ok (.iadd, 1) := by decide +kernel
set_option maxRecDepth 20000 in
theorem dL_law_571 : decode cL_law 571 = .ok (.iaload, 1) := by decide +kernel
set_option maxRecDepth 20000 in
theorem dL_law_572 : decode cL_law 572 = .ok (.aload_n 0, 1) := by decide +kernel
set_option maxRecDepth 20000 in
theorem dL_law_573 : decode cL_law 573 = .ok (.iload_n 3, 1) := by decide +kernel
set_option maxRecDepth 20000 in
theorem dL_law_574 : decode cL_law 574 = .ok (.iconst 3, 1) := by decide +kernel
set_option maxRecDepth 20000 in
theorem dL_law_575 : decode cL_law 575 = .ok (.iadd, 1) := by decide +kernel
set_option maxRecDepth 20000 in
theorem dL_law_576 : decode cL_law 576 = .ok (.iaload, 1) := by decide +kernel
set_option maxRecDepth 20000 in
theorem dL_law_577 : decode cL_law 577 = .ok (.invokevirtual 85, 3) := by decide +kernel
set_option maxRecDepth 20000 in
theorem dL_law_580 : decode cL_law 580 = .ok (.if_icmp .eq 137, 3) := by decide +kernel
set_option maxRecDepth 20000 in
theorem dL_law_583 : decode cL_law 583 = .ok (.iconst 0, 1) := by decide +kernel
set_option maxRecDepth 20000 in
theorem dL_law_584 : decode cL_law 584 = .ok (.ireturn, 1) := by decide +kernel
set_option maxRecDepth 20000 in
theorem dL_law_585 : decode cL_law 585 = .ok (.aload_n 1, 1) := by decide +kernel
set_option maxRecDepth 20000 in
theorem dL_law_586 : decode cL_law 586 = .ok (.aload_n 0, 1) := by decide +kernel
set_option maxRecDepth 20000 in
theorem dL_law_587 : decode cL_law 587 = .ok (.iload_n 3, 1) := by decide +kernel
set_option maxRecDepth 20000 in
theorem dL_law_588 : decode cL_law 588 = .ok (.iconst 1, 1) := by decide +kernel
set_option maxRecDepth 20000 in
theorem dL_law_589 : decode cL_law 589 = .ok (.iadd, 1) := by decide +kernel
set_option maxRecDepth 20000 in
theorem dL_law_590 : decode cL_law 590 = .ok (.iaload, 1) := by decide +kernel
set_option maxRecDepth 20000 in
theorem dL_law_591 : decode cL_law 591 = .ok (.aload_n 0, 1) := by decide +kernel
set_option maxRecDepth 20000 in
theorem dL_law_592 : decode cL_law 592 = .ok (.iload_n 3, 1) := by decide +kernel
set_option maxRecDepth 20000 in
theorem dL_law_593 : decode cL_law 593 = .ok (.iconst 2, 1) := by decide +kernel
set_option maxRecDepth 20000 in
theorem dL_law_594 : decode cL_law 594 = .ok (.iadd, 1) := by decide +kernel
set_option maxRecDepth 20000 in
theorem dL_law_595 : decode cL_law 595 = .ok (.iaload, 1) := by decide +kernel
set_option maxRecDepth 20000 in
theorem dL_law_596 : decode cL_law 596 = .ok (.aload_n 0, 1) := by decide +kernel
set_option maxRecDepth 20000 in
theorem dL_law_597 : decode cL_law 597 = .ok (.iload_n 3, 1) := by decide +kernel
set_option maxRecDepth 20000 in
theorem dL_law_598 : decode cL_law 598 = .ok (.iconst 3, 1) := by decide +kernel
set_option maxRecDepth 20000 in
theorem dL_law_599 : decode cL_law 599 = .ok (.iadd, 1) := by decide +kernel
set_option maxRecDepth 20000 in
theorem dL_law_600 : decode cL_law 600 = .ok (.iaload, 1) := by decide +kernel
set_option maxRecDepth 20000 in
theorem dL_law_601 : decode cL_law 601 = .ok (.invokevirtual 86, 3) := by decide +kernel
set_option maxRecDepth 20000 in
theorem dL_law_604 : decode cL_law 604 = .ok (.aload_n 2, 1) := by decide +kernel
set_option maxRecDepth 20000 in
theorem dL_law_605 : decode cL_law 605 = .ok (.aload_n 0, 1) := by decide +kernel
set_option maxRecDepth 20000 in
theorem dL_law_606 : decode cL_law 606 = .ok (.iload_n 3, 1) := by decide +kernel
set_option maxRecDepth 20000 in
theorem dL_law_607 : decode cL_law 607 = .ok (.iconst 1, 1) := by decide +kernel
set_option maxRecDepth 20000 in
theorem dL_law_608 : decode cL_law 608 = .ok (.iadd, 1) := by decide +kernel
set_option maxRecDepth 20000 in
theorem dL_law_609 : decode cL_law 609 = .ok (.iaload, 1) := by decide +kernel
set_option maxRecDepth 20000 in
theorem dL_law_610 : decode cL_law 610 = .ok (.aload_n 0, 1) := by decide +kernel
set_option maxRecDepth 20000 in
theorem dL_law_611 : decode cL_law 611 = .ok (.iload_n 3, 1) := by decide +kernel
set_option maxRecDepth 20000 in
theorem dL_law_612 : decode cL_law 612 = .ok (.iconst 2, 1) := by decide +kernel
set_option maxRecDepth 20000 in
theorem dL_law_613 : decode cL_law 613 = .ok (.iadd, 1) := by decide +kernel
set_option maxRecDepth 20000 in
theorem dL_law_614 : decode cL_law 614 = .ok (.iaload, 1) := by decide +kernel
set_option maxRecDepth 20000 in
theorem dL_law_615 : decode cL_law 615 = .ok (.aload_n 0, 1) := by decide +kernel
set_option maxRecDepth 20000 in
theorem dL_law_616 : decode cL_law 616 = .ok (.iload_n 3, 1) := by decide +kernel
set_option maxRecDepth 20000 in
theorem dL_law_617 : decode cL_law 617 = .ok (.iconst 3, 1) := by decide +kernel
set_option maxRecDepth 20000 in
theorem dL_law_618 : decode cL_law 618 = .ok (.iadd, 1) := by decide +kernel
set_option maxRecDepth 20000 in
theorem dL_law_619 : decode cL_law 619 = .ok (.iaload, 1) := by decide +kernel
set_option maxRecDepth 20000 in
theorem dL_law_620 : decode cL_law 620 = .ok (.invokevirtual 89, 3) := by decide +kernel
set_option maxRecDepth 20000 in
theorem dL_law_623 : decode cL_law 623 = .ok (.if_icmp .eq 94, 3) := by decide +kernel
set_option maxRecDepth 20000 in
theorem dL_law_626 : decode cL_law 626 = .ok (.iconst 0, 1) := by decide +kernel
set_option maxRecDepth 20000 in
theorem dL_law_627 : decode cL_law 627 = .ok (.ireturn, 1) := by decide +kernel
set_option maxRecDepth 20000 in
theorem dL_law_628 : decode cL_law 628 = .ok (.aload_n 1, 1) := by decide +kernel
set_option maxRecDepth 20000 in
theorem dL_law_629 : decode cL_law 629 = .ok (.aload_n 0, 1) := by decide +kernel
set_option maxRecDepth 20000 in
theorem dL_law_630 : decode cL_law 630 = .ok (.iload_n 3, 1) := by decide +kernel
set_option maxRecDepth 20000 in
theorem dL_law_631 : decode cL_law 631 = .ok (.iconst 1, 1) := by decide +kernel
set_option maxRecDepth 20000 in
theorem dL_law_632 : decode cL_law 632 = .ok (.iadd, 1) := by decide +kernel
set_option maxRecDepth 20000 in
theorem dL_law_633 : decode cL_law 633 = .ok (.iaload, 1) := by decide +kernel
set_option maxRecDepth 20000 in
theorem dL_law_634 : decode cL_law 634 = .ok (.aload_n 0, 1) := by decide +kernel
set_option maxRecDepth 20000 in
theorem dL_law_635 : decode cL_law 635 = .ok (.iload_n 3, 1) := by decide +kernel
set_option maxRecDepth 20000 in
theorem dL_law_636 : decode cL_law 636 = .ok (.iconst 2, 1) := by decide +kernel
set_option maxRecDepth 20000 in
theorem dL_law_637 : decode cL_law 637 = .ok (.iadd, 1) := by decide +kernel
set_option maxRecDepth 20000 in
theorem dL_law_638 : decode cL_law 638 = .ok (.iaload, 1) := by decide +kernel
set_option maxRecDepth 20000 in
theorem dL_law_639 : decode cL_law 639 = .ok (.aload_n 0, 1) := by decide +kernel
set_option maxRecDepth 20000 in
theorem dL_law_640 : decode cL_law 640 = .ok (.iload_n 3, 1) := by decide +kernel
set_option maxRecDepth 20000 in
theorem dL_law_641 : decode cL_law 641 = .ok (.iconst 3, 1) := by decide +kernel
set_option maxRecDepth 20000 in
theorem dL_law_642 : decode cL_law 642 = .ok (.iadd, 1) := by decide +kernel
set_option maxRecDepth 20000 in
theorem dL_law_643 : decode cL_law 643 = .ok (.iaload, 1) := by decide +kernel
set_option maxRecDepth 20000 in
theorem dL_law_644 : decode cL_law 644 = .ok (.invokevirtual 90, 3) := by decide +kernel
set_option maxRecDepth 20000 in
theorem dL_law_647 : decode cL_law 647 = .ok (.aload_n 2, 1) := by decide +kernel
set_option maxRecDepth 20000 in
theorem dL_law_648 : decode cL_law 648 = .ok (.aload_n 0, 1) := by decide +kernel
set_option maxRecDepth 20000 in
theorem dL_law_649 : decode cL_law 649 = .ok (.iload_n 3, 1) := by decide +kernel
set_option maxRecDepth 20000 in
theorem dL_law_650 : decode cL_law 650 = .ok (.iconst 1, 1) := by decide +kernel
set_option maxRecDepth 20000 in
theorem dL_law_651 : decode cL_law 651 = .ok (.iadd, 1) := by decide +kernel
set_option maxRecDepth 20000 in
theorem dL_law_652 : decode cL_law 652 = .ok (.iaload, 1) := by decide +kernel
set_option maxRecDepth 20000 in
theorem dL_law_653 : decode cL_law 653 = .ok (.aload_n 0, 1) := by decide +kernel
set_option maxRecDepth 20000 in
theorem dL_law_654 : decode cL_law 654 = .ok (.iload_n 3, 1) := by decide +kernel
set_option maxRecDepth 20000 in
theorem dL_law_655 : decode cL_law 655 = .ok (.iconst 2, 1) := by decide +kernel
set_option maxRecDepth 20000 in
theorem dL_law_656 : decode cL_law 656 = .ok (.iadd, 1) := by decide +kernel
set_option maxRecDepth 20000 in
theorem dL_law_657 : decode cL_law 657 = .ok (.iaload, 1) := by decide +kernel
set_option maxRecDepth 20000 in
theorem dL_law_658 : decode cL_law 658 = .ok (.aload_n 0, 1) := by decide +kernel
set_option maxRecDepth 20000 in
theorem dL_law_659 : decode cL_law 659 = .ok (.iload_n 3, 1) := by decide +kernel
set_option maxRecDepth 20000 in
theorem dL_law_660 : decode cL_law 660 = .ok (.iconst 3, 1) := by decide +kernel
set_option maxRecDepth 20000 in
theorem dL_law_661 : decode cL_law 661 = .ok (.iadd, 1) := by decide +kernel
set_option maxRecDepth 20000 in
theorem dL_law_662 : decode cL_law 662 = .ok (.iaload, 1) := by decide +kernel
set_option maxRecDepth 20000 in
theorem dL_law_663 : decode cL_law 663 = .ok (.invokevirtual 93, 3) := by decide +kernel
set_option maxRecDepth 20000 in
theorem dL_law_666 : decode cL_law 666 = .ok (.if_icmp .eq 51, 3) := by decide +kernel
set_option maxRecDepth 20000 in
theorem dL_law_669 : decode cL_law 669 = .ok (.iconst 0, 1) := by decide +kernel
set_option maxRecDepth 20000 in
theorem dL_law_670 : decode cL_law 670 = .ok (.ireturn, 1) := by decide +kernel
set_option maxRecDepth 20000 in
theorem dL_law_671 : decode cL_law 671 = .ok (.aload_n 1, 1) := by decide +kernel
set_option maxRecDepth 20000 in
theorem dL_law_672 : decode cL_law 672 = .ok (.aload_n 0, 1) := by decide +kernel
set_option maxRecDepth 20000 in
theorem dL_law_673 : decode cL_law 673 = .ok (.iload_n 3, 1) := by decide +kernel
set_option maxRecDepth 20000 in
theorem dL_law_674 : decode cL_law 674 = .ok (.iconst 1, 1) := by decide +kernel
set_option maxRecDepth 20000 in
theorem dL_law_675 : decode cL_law 675 = .ok (.iadd, 1) := by decide +kernel
set_option maxRecDepth 20000 in
theorem dL_law_676 : decode cL_law 676 = .ok (.iaload, 1) := by decide +kernel
set_option maxRecDepth 20000 in
theorem dL_law_677 : decode cL_law 677 = .ok (.invokevirtual 94, 3) := by decide +kernel
set_option maxRecDepth 20000 in
theorem dL_law_680 : decode cL_law 680 = .ok (.aload_n 2, 1) := by decide +kernel
set_option maxRecDepth 20000 in
theorem dL_law_681 : decode cL_law 681 = .ok (.aload_n 0, 1) := by decide +kernel
set_option maxRecDepth 20000 in
theorem dL_law_682 : decode cL_law 682 = .ok (.iload_n 3, 1) := by decide +kernel
set_option maxRecDepth 20000 in
theorem dL_law_683 : decode cL_law 683 = .ok (.iconst 1, 1) := by decide +kernel
set_option maxRecDepth 20000 in
theorem dL_law_684 : decode cL_law 684 = .ok (.iadd, 1) := by decide +kernel
set_option maxRecDepth 20000 in
theorem dL_law_685 : decode cL_law 685 = .ok (.iaload, 1) := by decide +kernel
set_option maxRecDepth 20000 in
theorem dL_law_686 : decode cL_law 686 = .ok (.invokevirtual 97, 3) := by decide +kernel
set_option maxRecDepth 20000 in
theorem dL_law_689 : decode cL_law 689 = .ok (.if_icmp .eq 28, 3) := by decide +kernel
set_option maxRecDepth 20000 in
theorem dL_law_692 : decode cL_law 692 = .ok (.iconst 0, 1) := by decide +kernel
set_option maxRecDepth 20000 in
theorem dL_law_693 : decode cL_law 693 = .ok (.ireturn, 1) := by decide +kernel
set_option maxRecDepth 20000 in
theorem dL_law_694 : decode cL_law 694 = .ok (.aload_n 1, 1) := by decide +kernel
set_option maxRecDepth 20000 in
theorem dL_law_695 : decode cL_law 695 = .ok (.aload_n 0, 1) := by decide +kernel
set_option maxRecDepth 20000 in
theorem dL_law_696 : decode cL_law 696 = .ok (.iload_n 3, 1) := by decide +kernel
set_option maxRecDepth 20000 in
theorem dL_law_697 : decode cL_law 697 = .ok (.iconst 1, 1) := by decide +kernel
set_option maxRecDepth 20000 in
theorem dL_law_698 : decode cL_law 698 = .ok (.iadd, 1) := by decide +kernel
set_option maxRecDepth 20000 in
theorem dL_law_699 : decode cL_law 699 = .ok (.iaload, 1) := by decide +kernel
set_option maxRecDepth 20000 in
theorem dL_law_700 : decode cL_law 700 = .ok (.invokevirtual 98, 3) := by decide +kernel
set_option maxRecDepth 20000 in
theorem dL_law_703 : decode cL_law 703 = .ok (.aload_n 2, 1) := by decide +kernel
set_option maxRecDepth 20000 in
theorem dL_law_704 : decode cL_law 704 = .ok (.aload_n 0, 1) := by decide +kernel
set_option maxRecDepth 20000 in
theorem dL_law_705 : decode cL_law 705 = .ok (.iload_n 3, 1) := by decide +kernel
set_option maxRecDepth 20000 in
theorem dL_law_706 : decode cL_law 706 = .ok (.iconst 1, 1) := by decide +kernel
set_option maxRecDepth 20000 in
theorem dL_law_707 : decode cL_law 707 = .ok (.iadd, 1) := by decide +kernel
set_option maxRecDepth 20000 in
theorem dL_law_708 : decode cL_law 708 = .ok (.iaload, 1) := by decide +kernel
set_option maxRecDepth 20000 in
theorem dL_law_709 : decode cL_law 709 = .ok (.invokevirtual 101, 3) := by decide +kernel
set_option maxRecDepth 20000 in
theorem dL_law_712 : decode cL_law 712 = .ok (.if_icmp .eq 5, 3) := by decide +kernel
set_option maxRecDepth 20000 in
theorem dL_law_715 : decode cL_law 715 = .ok (.iconst 0, 1) := by decide +kernel
set_option maxRecDepth 20000 in
theorem dL_law_716 : decode cL_law 716 = .ok (.ireturn, 1) := by decide +kernel
set_option maxRecDepth 20000 in
theorem dL_law_717 : decode cL_law 717 = .ok (.iinc 3 4, 3) := by decide +kernel
set_option maxRecDepth 20000 in
theorem dL_law_720 : decode cL_law 720 = .ok (.goto (-702), 3) := by decide +kernel
set_option maxRecDepth 20000 in
theorem dL_law_723 : decode cL_law 723 = .ok (.iconst 1, 1) := by decide +kernel
set_option maxRecDepth 20000 in
theorem dL_law_724 : decode cL_law 724 = .ok (.ireturn, 1) := by decide +kernel
end
