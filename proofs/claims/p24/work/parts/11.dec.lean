set_option maxRecDepth 20000 in
theorem dX0_init_0 : decode cX0_init 0 = .ok (.aload_n 0, 1) := by decide +kernel
set_option maxRecDepth 20000 in
theorem dX0_init_1 : decode cX0_init 1 = .ok (.invokespecial 1, 3) := by decide +kernel
set_option maxRecDepth 20000 in
theorem dX0_init_4 : decode cX0_init 4 = .ok (.aload_n 0, 1) := by decide +kernel
set_option maxRecDepth 20000 in
theorem dX0_init_5 : decode cX0_init 5 = .ok (.iconst (-1), 1) := by decide +kernel
set_option maxRecDepth 20000 in
theorem dX0_init_6 : decode cX0_init 6 = .ok (.putfield 9, 3) := by decide +kernel
set_option maxRecDepth 20000 in
theorem dX0_init_9 : decode cX0_init 9 = .ok (.aload_n 0, 1) := by decide +kernel
set_option maxRecDepth 20000 in
theorem dX0_init_10 : decode cX0_init 10 = .ok (.iconst 0, 1) := by decide +kernel
set_option maxRecDepth 20000 in
theorem dX0_init_11 : decode cX0_init 11 = .ok (.putfield 13, 3) := by decide +kernel
set_option maxRecDepth 20000 in
theorem dX0_init_14 : decode cX0_init 14 = .ok (.aload_n 0, 1) := by decide +kernel
set_option maxRecDepth 20000 in
theorem dX0_init_15 : decode cX0_init 15 = .ok (.iconst 0, 1) := by decide +kernel
set_option maxRecDepth 20000 in
theorem dX0_init_16 : decode cX0_init 16 = .ok (.putfield 16, 3) := by decide +kernel
set_option maxRecDepth 20000 in
theorem dX0_init_19 : decode cX0_init 19 = .ok (.aload_n 0, 1) := by decide +kernel
set_option maxRecDepth 20000 in
theorem dX0_init_20 : decode cX0_init 20 = .ok (.iconst 0, 1) := by decide +kernel
set_option maxRecDepth 20000 in
theorem dX0_init_21 : decode cX0_init 21 = .ok (.putfield 19, 3) := by decide +kernel
set_option maxRecDepth 20000 in
theorem dX0_init_24 : decode cX0_init 24 = .ok (.aload_n 0, 1) := by decide +kernel
set_option maxRecDepth 20000 in
theorem dX0_init_25 : decode cX0_init 25 = .ok (.iconst 0, 1) := by decide +kernel
set_option maxRecDepth 20000 in
theorem dX0_init_26 : decode cX0_init 26 = .ok (.putfield 22, 3) := by decide +kernel
set_option maxRecDepth 20000 in
theorem dX0_init_29 : decode cX0_init 29 = .ok (.aload_n 0, 1) := by decide +kernel
set_option maxRecDepth 20000 in
theorem dX0_init_30 : decode cX0_init 30 = .ok (.iconst 0, 1) := by decide +kernel
set_option maxRecDepth 20000 in
theorem dX0_init_31 : decode cX0_init 31 = .ok (.putfield 26, 3) := by decide +kernel
set_option maxRecDepth 20000 in
theorem dX0_init_34 : decode cX0_init 34 = .ok (.aload_n 0, 1) := by decide +kernel
set_option maxRecDepth 20000 in
theorem dX0_init_35 : decode cX0_init 35 = .ok (.iconst 0, 1) := by decide +kernel
set_option maxRecDepth 20000 in
theorem dX0_init_36 : decode cX0_init 36 = .ok (.putfield 29, 3) := by decide +kernel
set_option maxRecDepth 20000 in
theorem dX0_init_39 : decode cX0_init 39 = .ok (.aload_n 0, 1) := by decide +kernel
set_option maxRecDepth 20000 in
theorem dX0_init_40 : decode cX0_init 40 = .ok (.iconst 0, 1) := by decide +kernel
set_option maxRecDepth 20000 in
theorem dX0_init_41 : decode cX0_init 41 = .ok (.putfield 32, 3) := by decide +kernel
set_option maxRecDepth 20000 in
theorem dX0_init_44 : decode cX0_init 44 = .ok (.return_, 1) := by decide +kernel
set_option maxRecDepth 20000 in
theorem dX0_isLive_0 : decode cX0_isLive 0 = .ok (.aload_n 0, 1) := by decide +kernel
set_option maxRecDepth 20000 in
theorem dX0_isLive_1 : decode cX0_isLive 1 = .ok (.getfield 9, 3) := by decide +kernel
set_option maxRecDepth 20000 in
theorem dX0_isLive_4 : decode cX0_isLive 4 = .ok (.iconst (-1), 1) := by decide +kernel
set_option maxRecDepth 20000 in
theorem dX0_isLive_5 : decode cX0_isLive 5 = .ok (.if_icmp .eq 7, 3) := by decide +kernel
set_option maxRecDepth 20000 in
theorem dX0_isLive_8 : decode cX0_isLive 8 = .ok (.iconst 1, 1) := by decide +kernel
set_option maxRecDepth 20000 in
theorem dX0_isLive_9 : decode cX0_isLive 9 = .ok (.goto 4, 3) := by decide +kernel
set_option maxRecDepth 20000 in
theorem dX0_isLive_12 : decode cX0_isLive 12 = .ok (.iconst 0, 1) := by decide +kernel
set_option maxRecDepth 20000 in
theorem dX0_isLive_13 : decode cX0_isLive 13 = .ok (.ireturn, 1) := by decide +kernel
set_option maxRecDepth 20000 in
theorem dX0_isWaiting_0 : decode cX0_isWaiting 0 = .ok (.aload_n 0, 1) := by decide +kernel
set_option maxRecDepth 20000 in
theorem dX0_isWaiting_1 : decode cX0_isWaiting 1 = .ok (.invokevirtual 35, 3) := by decide +kernel
set_option maxRecDepth 20000 in
theorem dX0_isWaiting_4 : decode cX0_isWaiting 4 = .ok (.ifCond .eq 14, 3) := by decide +kernel
set_option maxRecDepth 20000 in
theorem dX0_isWaiting_7 : decode cX0_isWaiting 7 = .ok (.aload_n 0, 1) := by decide +kernel
set_option maxRecDepth 20000 in
theorem dX0_isWaiting_8 : decode cX0_isWaiting 8 = .ok (.getfield 22, 3) := by decide +kernel
set_option maxRecDepth 20000 in
theorem dX0_isWaiting_11 : decode cX0_isWaiting 11 = .ok (.ifCond .ne 7, 3) := by decide +kernel
set_option maxRecDepth 20000 in
theorem dX0_isWaiting_14 : decode cX0_isWaiting 14 = .ok (.iconst 1, 1) := by decide +kernel
set_option maxRecDepth 20000 in
theorem dX0_isWaiting_15 : decode cX0_isWaiting 15 = .ok (.goto 4, 3) := by decide +kernel
set_option maxRecDepth 20000 in
theorem dX0_isWaiting_18 : decode cX0_isWaiting 18 = .ok (.iconst 0, 1) := by decide +kernel
set_option maxRecDepth 20000 in
theorem dX0_isWaiting_19 : decode cX0_isWaiting 19 = .ok (.ireturn, 1) := by decide +kernel
set_option maxRecDepth 20000 in
theorem dX0_isRider_0 : decode cX0_isRider 0 = .ok (.aload_n 0, 1) := by decide +kernel
set_option maxRecDepth 20000 in
theorem dX0_isRider_1 : decode cX0_isRider 1 = .ok (.invokevirtual 35, 3) := by decide +kernel
set_option maxRecDepth 20000 in
theorem dX0_isRider_4 : decode cX0_isRider 4 = .ok (.ifCond .eq 14, 3) := by decide +kernel
set_option maxRecDepth 20000 in
theorem dX0_isRider_7 : decode cX0_isRider 7 = .ok (.aload_n 0, 1) := by decide +kernel
set_option maxRecDepth 20000 in
theorem dX0_isRider_8 : decode cX0_isRider 8 = .ok (.getfield 22, 3) := by decide +kernel
set_option maxRecDepth 20000 in
theorem dX0_isRider_11 : decode cX0_isRider 11 = .ok (.ifCond .eq 7, 3) := by decide +kernel
set_option maxRecDepth 20000 in
theorem dX0_isRider_14 : decode cX0_isRider 14 = .ok (.iconst 1, 1) := by decide +kernel
set_option maxRecDepth 20000 in
theorem dX0_isRider_15 : decode cX0_isRider 15 = .ok (.goto 4, 3) := by decide +kernel
set_option maxRecDepth 20000 in
theorem dX0_isRider_18 : decode cX0_isRider 18 = .ok (.iconst 0, 1) := by decide +kernel
set_option maxRecDepth 20000 in
theorem dX0_isRider_19 : decode cX0_isRider 19 = .ok (.ireturn, 1) := by decide +kernel
set_option maxRecDepth 20000 in
theorem dX0_isOfBus_0 : decode cX0_isOfBus 0 = .ok (.aload_n 0, 1) := by decide +kernel
set_option maxRecDepth 20000 in
theorem dX0_isOfBus_1 : decode cX0_isOfBus 1 = .ok (.invokevirtual 35, 3) := by decide +kernel
set_option maxRecDepth 20000 in
theorem dX0_isOfBus_4 : decode cX0_isOfBus 4 = .ok (.ifCond .eq 31, 3) := by decide +kernel
set_option maxRecDepth 20000 in
theorem dX0_isOfBus_7 : decode cX0_isOfBus 7 = .ok (.aload_n 0, 1) := by decide +kernel
set_option maxRecDepth 20000 in
theorem dX0_isOfBus_8 : decode cX0_isOfBus 8 = .ok (.getfield 16, 3) := by decide +kernel
set_option maxRecDepth 20000 in
theorem dX0_isOfBus_11 : decode cX0_isOfBus 11 = .ok (.iload_n 1, 1) := by decide +kernel
set_option maxRecDepth 20000 in
theorem dX0_isOfBus_12 : decode cX0_isOfBus 12 = .ok (.if_icmp .ne 23, 3) := by decide +kernel
set_option maxRecDepth 20000 in
theorem dX0_isOfBus_15 : decode cX0_isOfBus 15 = .ok (.aload_n 0, 1) := by decide +kernel
set_option maxRecDepth 20000 in
theorem dX0_isOfBus_16 : decode cX0_isOfBus 16 = .ok (.getfield 13, 3) := by decide +kernel
set_option maxRecDepth 20000 in
theorem dX0_isOfBus_19 : decode cX0_isOfBus 19 = .ok (.iload_n 2, 1) := by decide +kernel
set_option maxRecDepth 20000 in
theorem dX0_isOfBus_20 : decode cX0_isOfBus 20 = .ok (.if_icmp .eq 11, 3) := by decide +kernel
set_option maxRecDepth 20000 in
theorem dX0_isOfBus_23 : decode cX0_isOfBus 23 = .ok (.aload_n 0, 1) := by decide +kernel
set_option maxRecDepth 20000 in
theorem dX0_isOfBus_24 : decode cX0_isOfBus 24 = .ok (.getfield 13, 3) := by decide +kernel
set_option maxRecDepth 20000 in
theorem dX0_isOfBus_27 : decode cX0_isOfBus 27 = .ok (.iload_n 3, 1) := by decide +kernel
set_option maxRecDepth 20000 in
theorem dX0_isOfBus_28 : decode cX0_isOfBus 28 = .ok (.if_icmp .ne 7, 3) := by decide +kernel
set_option maxRecDepth 20000 in
theorem dX0_isOfBus_31 : decode cX0_isOfBus 31 = .ok (.iconst 1, 1) := by decide +kernel
set_option maxRecDepth 20000 in
theorem dX0_isOfBus_32 : decode cX0_isOfBus 32 = .ok (.goto 4, 3) := by decide +kernel
set_option maxRecDepth 20000 in
theorem dX0_isOfBus_35 : decode cX0_isOfBus 35 = .ok (.iconst 0, 1) := by decide +kernel
set_option maxRecDepth 20000 in
theorem dX0_isOfBus_36 : decode cX0_isOfBus 36 = .ok (.ireturn, 1) := by decide +kernel
set_option maxRecDepth 20000 in
theorem dX0_getsSeatAheadOf_0 : decode cX0_getsSeatAheadOf 0 = .ok (.aload_n 0, 1) := by decide +kernel
set_option maxRecDepth 20000 in
theorem dX0_getsSeatAheadOf_1 : decode cX0_getsSeatAheadOf 1 = .ok (.getfield 19, 3) := by decide +kernel
set_option maxRecDepth 20000 in
theorem dX0_getsSeatAheadOf_4 : decode cX0_getsSeatAheadOf 4 = .ok (.aload_n 1, 1) := by decide +kernel
set_option maxRecDepth 20000 in
theorem dX0_getsSeatAheadOf_5 : decode cX0_getsSeatAheadOf 5 = .ok (.getfield 19, 3) := by decide +kernel
set_option maxRecDepth 20000 in
theorem dX0_getsSeatAheadOf_8 : decode cX0_getsSeatAheadOf 8 = .ok (.if_icmp .eq 22, 3) := by decide +kernel
set_option maxRecDepth 20000 in
theorem dX0_getsSeatAheadOf_11 : decode cX0_getsSeatAheadOf 11 = .ok (.aload_n 0, 1) := by decide +kernel
set_option maxRecDepth 20000 in
theorem dX0_getsSeatAheadOf_12 : decode cX0_getsSeatAheadOf 12 = .ok (.getfield 19, 3) := by decide +kernel
set_option maxRecDepth 20000 in
theorem dX0_getsSeatAheadOf_15 : decode cX0_getsSeatAheadOf 15 = .ok (.aload_n 1, 1) := by decide +kernel
set_option maxRecDepth 20000 in
theorem dX0_getsSeatAheadOf_16 : decode cX0_getsSeatAheadOf 16 = .ok (.getfield 19, 3) := by decide +kernel
set_option maxRecDepth 20000 in
theorem dX0_getsSeatAheadOf_19 : decode cX0_getsSeatAheadOf 19 = .ok (.if_icmp .le 7, 3) := by decide +kernel
set_option maxRecDepth 20000 in
theorem dX0_getsSeatAheadOf_22 : decode cX0_getsSeatAheadOf 22 = .ok (.iconst 1, 1) := by decide +kernel
set_option maxRecDepth 20000 in
theorem dX0_getsSeatAheadOf_23 : decode cX0_getsSeatAheadOf 23 = .ok (.goto 23, 3) := by decide +kernel
set_option maxRecDepth 20000 in
theorem dX0_getsSeatAheadOf_26 : decode cX0_getsSeatAheadOf 26 = .ok (.iconst 0, 1) := by decide +kernel
set_option maxRecDepth 20000 in
theorem dX0_getsSeatAheadOf_27 : decode cX0_getsSeatAheadOf 27 = .ok (.goto 19, 3) := by decide +kernel
set_option maxRecDepth 20000 in
theorem dX0_getsSeatAheadOf_30 : decode cX0_getsSeatAheadOf 30 = .ok (.aload_n 0, 1) := by decide +kernel
set_option maxRecDepth 20000 in
theorem dX0_getsSeatAheadOf_31 : decode cX0_getsSeatAheadOf 31 = .ok (.getfield 9, 3) := by decide +kernel
set_option maxRecDepth 20000 in
theorem dX0_getsSeatAheadOf_34 : decode cX0_getsSeatAheadOf 34 = .ok (.aload_n 1, 1) := by decide +kernel
set_option maxRecDepth 20000 in
theorem dX0_getsSeatAheadOf_35 : decode cX0_getsSeatAheadOf 35 = .ok (.getfield 9, 3) := by decide +kernel
set_option maxRecDepth 20000 in
theorem dX0_getsSeatAheadOf_38 : decode cX0_getsSeatAheadOf 38 = .ok (.if_icmp .ge 7, 3) := by decide +kernel
set_option maxRecDepth 20000 in
theorem dX0_getsSeatAheadOf_41 : decode cX0_getsSeatAheadOf 41 = .ok (.iconst 1, 1) := by decide +kernel
set_option maxRecDepth 20000 in
theorem dX0_getsSeatAheadOf_42 : decode cX0_getsSeatAheadOf 42 = .ok (.goto 4, 3) := by decide +kernel
set_option maxRecDepth 20000 in
theorem dX0_getsSeatAheadOf_45 : decode cX0_getsSeatAheadOf 45 = .ok (.iconst 0, 1) := by decide +kernel
set_option maxRecDepth 20000 in
theorem dX0_getsSeatAheadOf_46 : decode cX0_getsSeatAheadOf 46 = .ok (.ireturn, 1) := by decide +kernel
set_option maxRecDepth 20000 in
theorem dX0_clear_0 : decode cX0_clear 0 = .ok (.aload_n 0, 1) := by decide +kernel
set_option maxRecDepth 20000 in
theorem dX0_clear_1 : decode cX0_clear 1 = .ok (.iconst (-1), 1) := by decide +kernel
set_option maxRecDepth 20000 in
theorem dX0_clear_2 : decode cX0_clear 2 = .ok (.putfield 9, 3) := by decide +kernel
set_option maxRecDepth 20000 in
theorem dX0_clear_5 : decode cX0_clear 5 = .ok (.aload_n 0, 1) := by decide +kernel
set_option maxRecDepth 20000 in
theorem dX0_clear_6 : decode cX0_clear 6 = .ok (.iconst 0, 1) := by decide +kernel
set_option maxRecDepth 20000 in
theorem dX0_clear_7 : decode cX0_clear 7 = .ok (.putfield 13, 3) := by decide +kernel
set_option maxRecDepth 20000 in
theorem dX0_clear_10 : decode cX0_clear 10 = .ok (.aload_n 0, 1) := by decide +kernel
set_option maxRecDepth 20000 in
theorem dX0_clear_11 : decode cX0_clear 11 = .ok (.iconst 0, 1) := by decide +kernel
set_option maxRecDepth 20000 in
theorem dX0_clear_12 : decode cX0_clear 12 = .ok (.putfield 16, 3) := by decide +kernel
set_option maxRecDepth 20000 in
theorem dX0_clear_15 : decode cX0_clear 15 = .ok (.aload_n 0, 1) := by decide +kernel
set_option maxRecDepth 20000 in
theorem dX0_clear_16 : decode cX0_clear 16 = .ok (.iconst 0, 1) := by decide +kernel
set_option maxRecDepth 20000 in
theorem dX0_clear_17 : decode cX0_clear 17 = .ok (.putfield 19, 3) := by decide +kernel
set_option maxRecDepth 20000 in
theorem dX0_clear_20 : decode cX0_clear 20 = .ok (.aload_n 0, 1) := by decide +kernel
set_option maxRecDepth 20000 in
theorem dX0_clear_21 : decode cX0_clear 21 = .ok (.iconst 0, 1) := by decide +kernel
set_option maxRecDepth 20000 in
theorem dX0_clear_22 : decode cX0_clear 22 = .ok (.putfield 22, 3) := by decide +kernel
set_option maxRecDepth 20000 in
theorem dX0_clear_25 : decode cX0_clear 25 = .ok (.aload_n 0, 1) := by decide +kernel
set_option maxRecDepth 20000 in
theorem dX0_clear_26 : decode cX0_clear 26 = .ok (.iconst 0, 1) := by decide +kernel
set_option maxRecDepth 20000 in
theorem dX0_clear_27 : decode cX0_clear 27 = .ok (.putfield 26, 3) := by decide +kernel
set_option maxRecDepth 20000 in
theorem dX0_clear_30 : decode cX0_clear 30 = .ok (.aload_n 0, 1) := by decide +kernel
set_option maxRecDepth 20000 in
theorem dX0_clear_31 : decode cX0_clear 31 = .ok (.iconst 0, 1) := by decide +kernel
set_option maxRecDepth 20000 in
theorem dX0_clear_32 : decode cX0_clear 32 = .ok (.putfield 29, 3) := by decide +kernel
set_option maxRecDepth 20000 in
theorem dX0_clear_35 : decode cX0_clear 35 = .ok (.aload_n 0, 1) := by decide +kernel
set_option maxRecDepth 20000 in
theorem dX0_clear_36 : decode cX0_clear 36 = .ok (.iconst 0, 1) := by decide +kernel
set_option maxRecDepth 20000 in
theorem dX0_clear_37 : decode cX0_clear 37 = .ok (.putfield 32, 3) := by decide +kernel
set_option maxRecDepth 20000 in
theorem dX0_clear_40 : decode cX0_clear 40 = .ok (.return_, 1) := by decide +kernel
set_option maxRecDepth 20000 in
theorem dX0_copyFrom_0 : decode cX0_copyFrom 0 = .ok (.aload_n 0, 1) := by decide +kernel
set_option maxRecDepth 20000 in
theorem dX0_copyFrom_1 : decode cX0_copyFrom 1 = .ok (.aload_n 1, 1) := by decide +kernel
set_option maxRecDepth 20000 in
theorem dX0_copyFrom_2 : decode cX0_copyFrom 2 = .ok (.getfield 9, 3) := by decide +kernel
set_option maxRecDepth 20000 in
theorem dX0_copyFrom_5 : decode cX0_copyFrom 5 = .ok (.putfield 9, 3) := by decide +kernel
set_option maxRecDepth 20000 in
theorem dX0_copyFrom_8 : decode cX0_copyFrom 8 = .ok (.aload_n 0, 1) := by decide +kernel
set_option maxRecDepth 20000 in
theorem dX0_copyFrom_9 : decode cX0_copyFrom 9 = .ok (.aload_n 1, 1) := by decide +kernel
set_option maxRecDepth 20000 in
theorem dX0_copyFrom_10 : decode cX0_copyFrom 10 = .ok (.getfield 13, 3) := by decide +kernel
set_option maxRecDepth 20000 in
theorem dX0_copyFrom_13 : decode cX0_copyFrom 13 = .ok (.putfield 13, 3) := by decide +kernel
set_option maxRecDepth 20000 in
theorem dX0_copyFrom_16 : decode cX0_copyFrom 16 = .ok (.aload_n 0, 1) := by decide +kernel
set_option maxRecDepth 20000 in
theorem dX0_copyFrom_17 : decode cX0_copyFrom 17 = .ok (.aload_n 1, 1) := by decide +kernel
set_option maxRecDepth 20000 in
theorem dX0_copyFrom_18 : decode cX0_copyFrom 18 = .ok (.getfield 16, 3) := by decide +kernel
set_option maxRecDepth 20000 in
theorem dX0_copyFrom_21 : decode cX0_copyFrom 21 = .ok (.putfield 16, 3) := by decide +kernel
set_option maxRecDepth 20000 in
theorem dX0_copyFrom_24 : decode cX0_copyFrom 24 = .ok (.aload_n 0, 1) := by decide +kernel
set_option maxRecDepth 20000 in
theorem dX0_copyFrom_25 : decode cX0_copyFrom 25 = .ok (.aload_n 1, 1) := by decide +kernel
set_option maxRecDepth 20000 in
theorem dX0_copyFrom_26 : decode cX0_copyFrom 26 = .ok (.getfield 19, 3) := by decide +kernel
set_option maxRecDepth 20000 in
theorem dX0_copyFrom_29 : decode cX0_copyFrom 29 = .ok (.putfield 19, 3) := by decide +kernel
set_option maxRecDepth 20000 in
theorem dX0_copyFrom_32 : decode cX0_copyFrom 32 = .ok (.aload_n 0, 1) := by decide +kernel
set_option maxRecDepth 20000 in
theorem dX0_copyFrom_33 : decode cX0_copyFrom 33 = .ok (.aload_n 1, 1) := by decide +kernel
set_option maxRecDepth 20000 in
theorem dX0_copyFrom_34 : decode cX0_copyFrom 34 = .ok (.getfield 22, 3) := by decide +kernel
set_option maxRecDepth 20000 in
theorem dX0_copyFrom_37 : decode cX0_copyFrom 37 = .ok (.putfield 22, 3) := by decide +kernel
set_option maxRecDepth 20000 in
theorem dX0_copyFrom_40 : decode cX0_copyFrom 40 = .ok (.aload_n 0, 1) := by decide +kernel
set_option maxRecDepth 20000 in
theorem dX0_copyFrom_41 : decode cX0_copyFrom 41 = .ok (.aload_n 1, 1) := by decide +kernel
set_option maxRecDepth 20000 in
theorem dX0_copyFrom_42 : decode cX0_copyFrom 42 = .ok (.getfield 26, 3) := by decide +kernel
set_option maxRecDepth 20000 in
theorem dX0_copyFrom_45 : decode cX0_copyFrom 45 = .ok (.putfield 26, 3) := by decide +kernel
set_option maxRecDepth 20000 in
theorem dX0_copyFrom_48 : decode cX0_copyFrom 48 = .ok (.aload_n 0, 1) := by decide +kernel
set_option maxRecDepth 20000 in
theorem dX0_copyFrom_49 : decode cX0_copyFrom 49 = .ok (.aload_n 1, 1) := by decide +kernel
set_option maxRecDepth 20000 in
theorem dX0_copyFrom_50 : decode cX0_copyFrom 50 = .ok (.getfield 29, 3) := by decide +kernel
set_option maxRecDepth 20000 in
theorem dX0_copyFrom_53 : decode cX0_copyFrom 53 = .ok (.putfield 29, 3) := by decide +kernel
set_option maxRecDepth 20000 in
theorem dX0_copyFrom_56 : decode cX0_copyFrom 56 = .ok (.aload_n 0, 1) := by decide +kernel
set_option maxRecDepth 20000 in
theorem dX0_copyFrom_57 : decode cX0_copyFrom 57 = .ok (.aload_n 1, 1) := by decide +kernel
set_option maxRecDepth 20000 in
theorem dX0_copyFrom_58 : decode cX0_copyFrom 58 = .ok (.getfield 32, 3) := by decide +kernel
set_option maxRecDepth 20000 in
theorem dX0_copyFrom_61 : decode cX0_copyFrom 61 = .ok (.putfield 32, 3) := by decide +kernel
set_option maxRecDepth 20000 in
theorem dX0_copyFrom_64 : decode cX0_copyFrom 64 = .ok (.return_, 1) := by decide +kernel
set_option maxRecDepth 20000 in
theorem dX1_init_0 : decode cX1_init 0 = .ok (.aload_n 0, 1) := by decide +kernel
set_option maxRecDepth 20000 in
theorem dX1_init_1 : decode cX1_init 1 = .ok (.invokespecial 3, 3) := by decide +kernel
set_option maxRecDepth 20000 in
theorem dX1_init_4 : decode cX1_init 4 = .ok (.aload_n 0, 1) := by decide +kernel
set_option maxRecDepth 20000 in
theorem dX1_init_5 : decode cX1_init 5 = .ok (.bipush 60, 2) := by decide +kernel
set_option maxRecDepth 20000 in
theorem dX1_init_7 : decode cX1_init 7 = .ok (.newarray .char, 2) := by decide +kernel
set_option maxRecDepth 20000 in
theorem dX1_init_9 : decode cX1_init 9 = .ok (.putfield 9, 3) := by decide +kernel
set_option maxRecDepth 20000 in
theorem dX1_init_12 : decode cX1_init 12 = .ok (.aload_n 0, 1) := by decide +kernel
set_option maxRecDepth 20000 in
theorem dX1_init_13 : decode cX1_init 13 = .ok (.iconst 0, 1) := by decide +kernel
set_option maxRecDepth 20000 in
theorem dX1_init_14 : decode cX1_init 14 = .ok (.putfield 15, 3) := by decide +kernel
set_option maxRecDepth 20000 in
theorem dX1_init_17 : decode cX1_init 17 = .ok (.aload_n 0, 1) := by decide +kernel
set_option maxRecDepth 20000 in
theorem dX1_init_18 : decode cX1_init 18 = .ok (.bipush 60, 2) := by decide +kernel
set_option maxRecDepth 20000 in
theorem dX1_init_20 : decode cX1_init 20 = .ok (.anewarray 19, 3) := by decide +kernel
set_option maxRecDepth 20000 in
theorem dX1_init_23 : decode cX1_init 23 = .ok (.putfield 21, 3) := by decide +kernel
set_option maxRecDepth 20000 in
theorem dX1_init_26 : decode cX1_init 26 = .ok (.aload_n 0, 1) := by decide +kernel
set_option maxRecDepth 20000 in
theorem dX1_init_27 : decode cX1_init 27 = .ok (.iconst 0, 1) := by decide +kernel
set_option maxRecDepth 20000 in
theorem dX1_init_28 : decode cX1_init 28 = .ok (.putfield 25, 3) := by decide +kernel
set_option maxRecDepth 20000 in
theorem dX1_init_31 : decode cX1_init 31 = .ok (.iconst 0, 1) := by decide +kernel
set_option maxRecDepth 20000 in
theorem dX1_init_32 : decode cX1_init 32 = .ok (.istore_n 1, 1) := by decide +kernel
set_option maxRecDepth 20000 in
theorem dX1_init_33 : decode cX1_init 33 = .ok (.iload_n 1, 1) := by decide +kernel
set_option maxRecDepth 20000 in
theorem dX1_init_34 : decode cX1_init 34 = .ok (.aload_n 0, 1) := by decide +kernel
set_option maxRecDepth 20000 in
theorem dX1_init_35 : decode cX1_init 35 = .ok (.getfield 21, 3) := by decide +kernel
set_option maxRecDepth 20000 in
theorem dX1_init_38 : decode cX1_init 38 = .ok (.arraylength, 1) := by decide +kernel
set_option maxRecDepth 20000 in
theorem dX1_init_39 : decode cX1_init 39 = .ok (.if_icmp .ge 22, 3) := by decide +kernel
set_option maxRecDepth 20000 in
theorem dX1_init_42 : decode cX1_init 42 = .ok (.aload_n 0, 1) := by decide +kernel
set_option maxRecDepth 20000 in
theorem dX1_init_43 : decode cX1_init 43 = .ok (.getfield 21, 3) := by decide +kernel
set_option maxRecDepth 20000 in
theorem dX1_init_46 : decode cX1_init 46 = .ok (.iload_n 1, 1) := by decide +kernel
set_option maxRecDepth 20000 in
theorem dX1_init_47 : decode cX1_init 47 = .ok (.new 19, 3) := by decide +kernel
set_option maxRecDepth 20000 in
theorem dX1_init_50 : decode cX1_init 50 = .ok (.dup, 1) := by decide +kernel
set_option maxRecDepth 20000 in
theorem dX1_init_51 : decode cX1_init 51 = .ok (.invokespecial 28, 3) := by decide +kernel
set_option maxRecDepth 20000 in
theorem dX1_init_54 : decode cX1_init 54 = .ok (.aastore, 1) := by decide +kernel
set_option maxRecDepth 20000 in
theorem dX1_init_55 : decode cX1_init 55 = .ok (.iinc 1 1, 3) := by decide +kernel
set_option maxRecDepth 20000 in
theorem dX1_init_58 : decode cX1_init 58 = .ok (.goto (-25), 3) := by decide +kernel
set_option maxRecDepth 20000 in
theorem dX1_init_61 : decode cX1_init 61 = .ok (.return_, 1) := by decide +kernel
set_option maxRecDepth 20000 in
theorem dX2_init_0 : decode cX2_init 0 = .ok (.aload_n 0, 1) := by decide +kernel
set_option maxRecDepth 20000 in
theorem dX2_init_1 : decode cX2_init 1 = .ok (.invokespecial 3, 3) := by decide +kernel
set_option maxRecDepth 20000 in
theorem dX2_init_4 : decode cX2_init 4 = .ok (.aload_n 0, 1) := by decide +kernel
set_option maxRecDepth 20000 in
theorem dX2_init_5 : decode cX2_init 5 = .ok (.iconst 4, 1) := by decide +kernel
set_option maxRecDepth 20000 in
theorem dX2_init_6 : decode cX2_init 6 = .ok (.anewarray 9, 3) := by decide +kernel
set_option maxRecDepth 20000 in
theorem dX2_init_9 : decode cX2_init 9 = .ok (.putfield 11, 3) := by decide +kernel
set_option maxRecDepth 20000 in
theorem dX2_init_12 : decode cX2_init 12 = .ok (.aload_n 0, 1) := by decide +kernel
set_option maxRecDepth 20000 in
theorem dX2_init_13 : decode cX2_init 13 = .ok (.iconst 0, 1) := by decide +kernel
set_option maxRecDepth 20000 in
theorem dX2_init_14 : decode cX2_init 14 = .ok (.putfield 17, 3) := by decide +kernel
set_option maxRecDepth 20000 in
theorem dX2_init_17 : decode cX2_init 17 = .ok (.iconst 0, 1) := by decide +kernel
set_option maxRecDepth 20000 in
theorem dX2_init_18 : decode cX2_init 18 = .ok (.istore_n 1, 1) := by decide +kernel
set_option maxRecDepth 20000 in
theorem dX2_init_19 : decode cX2_init 19 = .ok (.iload_n 1, 1) := by decide +kernel
set_option maxRecDepth 20000 in
theorem dX2_init_20 : decode cX2_init 20 = .ok (.aload_n 0, 1) := by decide +kernel
set_option maxRecDepth 20000 in
theorem dX2_init_21 : decode cX2_init 21 = .ok (.getfield 11, 3) := by decide +kernel
set_option maxRecDepth 20000 in
theorem dX2_init_24 : decode cX2_init 24 = .ok (.arraylength, 1) := by decide +kernel
set_option maxRecDepth 20000 in
theorem dX2_init_25 : decode cX2_init 25 = .ok (.if_icmp .ge 22, 3) := by decide +kernel
set_option maxRecDepth 20000 in
theorem dX2_init_28 : decode cX2_init 28 = .ok (.aload_n 0, 1) := by decide +kernel
set_option maxRecDepth 20000 in
theorem dX2_init_29 : decode cX2_init 29 = .ok (.getfield 11, 3) := by decide +kernel
set_option maxRecDepth 20000 in
theorem dX2_init_32 : decode cX2_init 32 = .ok (.iload_n 1, 1) := by decide +kernel
set_option maxRecDepth 20000 in
theorem dX2_init_33 : decode cX2_init 33 = .ok (.new 9, 3) := by decide +kernel
set_option maxRecDepth 20000 in
theorem dX2_init_36 : decode cX2_init 36 = .ok (.dup, 1) := by decide +kernel
set_option maxRecDepth 20000 in
theorem dX2_init_37 : decode cX2_init 37 = .ok (.invokespecial 21, 3) := by decide +kernel
set_option maxRecDepth 20000 in
theorem dX2_init_40 : decode cX2_init 40 = .ok (.aastore, 1) := by decide +kernel
set_option maxRecDepth 20000 in
theorem dX2_init_41 : decode cX2_init 41 = .ok (.iinc 1 1, 3) := by decide +kernel
set_option maxRecDepth 20000 in
theorem dX2_init_44 : decode cX2_init 44 = .ok (.goto (-25), 3) := by decide +kernel
set_option maxRecDepth 20000 in
theorem dX2_init_47 : decode cX2_init 47 = .ok (.return_, 1) := by decide +kernel
set_option maxRecDepth 20000 in
theorem dX2_remember_0 : decode cX2_remember 0 = .ok (.aload_n 0, 1) := by decide +kernel
set_option maxRecDepth 20000 in
theorem dX2_remember_1 : decode cX2_remember 1 = .ok (.getfield 17, 3) := by decide +kernel
set_option maxRecDepth 20000 in
theorem dX2_remember_4 : decode cX2_remember 4 = .ok (.aload_n 0, 1) := by decide +kernel
set_option maxRecDepth 20000 in
theorem dX2_remember_5 : decode cX2_remember 5 = .ok (.getfield 11, 3) := by decide +kernel
set_option maxRecDepth 20000 in
theorem dX2_remember_8 : decode cX2_remember 8 = .ok (.arraylength, 1) := by decide +kernel
set_option maxRecDepth 20000 in
theorem dX2_remember_9 : decode cX2_remember 9 = .ok (.if_icmp .lt 7, 3) := by decide +kernel
set_option maxRecDepth 20000 in
theorem dX2_remember_12 : decode cX2_remember 12 = .ok (.aload_n 0, 1) := by decide +kernel
set_option maxRecDepth 20000 in
theorem dX2_remember_13 : decode cX2_remember 13 = .ok (.invokevirtual 22, 3) := by decide +kernel
set_option maxRecDepth 20000 in
theorem dX2_remember_16 : decode cX2_remember 16 = .ok (.aload_n 0, 1) := by decide +kernel
set_option maxRecDepth 20000 in
theorem dX2_remember_17 : decode cX2_remember 17 = .ok (.getfield 17, 3) := by decide +kernel
set_option maxRecDepth 20000 in
theorem dX2_remember_20 : decode cX2_remember 20 = .ok (.ifCond .lt 38, 3) := by decide +kernel
set_option maxRecDepth 20000 in
theorem dX2_remember_23 : decode cX2_remember 23 = .ok (.aload_n 0, 1) := by decide +kernel
set_option maxRecDepth 20000 in
theorem dX2_remember_24 : decode cX2_remember 24 = .ok (.getfield 17, 3) := by decide +kernel
set_option maxRecDepth 20000 in
theorem dX2_remember_27 : decode cX2_remember 27 = .ok (.aload_n 0, 1) := by decide +kernel
set_option maxRecDepth 20000 in
theorem dX2_remember_28 : decode cX2_remember 28 = .ok (.getfield 11, 3) := by decide +kernel
set_option maxRecDepth 20000 in
theorem dX2_remember_31 : decode cX2_remember 31 = .ok (.arraylength, 1) := by decide +kernel
set_option maxRecDepth 20000 in
theorem dX2_remember_32 : decode cX2_remember 32 = .ok (.if_icmp .ge 26, 3) := by decide +kernel
set_option maxRecDepth 20000 in
theorem dX2_remember_35 : decode cX2_remember 35 = .ok (.aload_n 0, 1) := by decide +kernel
set_option maxRecDepth 20000 in
theorem dX2_remember_36 : decode cX2_remember 36 = .ok (.getfield 11, 3) := by decide +kernel
set_option maxRecDepth 20000 in
theorem dX2_remember_39 : decode cX2_remember 39 = .ok (.aload_n 0, 1) := by decide +kernel
set_option maxRecDepth 20000 in
theorem dX2_remember_40 : decode cX2_remember 40 = .ok (.getfield 17, 3) := by decide +kernel
set_option maxRecDepth 20000 in
theorem dX2_remember_43 : decode cX2_remember 43 = .ok (.aaload, 1) := by decide +kernel
set_option maxRecDepth 20000 in
theorem dX2_remember_44 : decode cX2_remember 44 = .ok (.aload_n 1, 1) := by decide +kernel
set_option maxRecDepth 20000 in
theorem dX2_remember_45 : decode cX2_remember 45 = .ok (.invokevirtual 25, 3) := by decide +kernel
set_option maxRecDepth 20000 in
theorem dX2_remember_48 : decode cX2_remember 48 = .ok (.aload_n 0, 1) := by decide +kernel
set_option maxRecDepth 20000 in
theorem dX2_remember_49 : decode cX2_remember 49 = .ok (.dup, 1) := by decide +kernel
set_option maxRecDepth 20000 in
theorem dX2_remember_50 : decode cX2_remember 50 = .ok (.getfield 17, 3) := by decide +kernel
set_option maxRecDepth 20000 in
theorem dX2_remember_53 : decode cX2_remember 53 = .ok (.iconst 1, 1) := by decide +kernel
set_option maxRecDepth 20000 in
theorem dX2_remember_54 : decode cX2_remember 54 = .ok (.iadd, 1) := by decide +kernel
set_option maxRecDepth 20000 in
theorem dX2_remember_55 : decode cX2_remember 55 = .ok (.putfield 17, 3) := by decide +kernel
set_option maxRecDepth 20000 in
theorem dX2_remember_58 : decode cX2_remember 58 = .ok (.return_, 1) := by decide +kernel
set_option maxRecDepth 20000 in
theorem dX2_dropOldest_0 : decode cX2_dropOldest 0 = .ok (.iconst 1, 1) := by decide +kernel
set_option maxRecDepth 20000 in
theorem dX2_dropOldest_1 : decode cX2_dropOldest 1 = .ok (.istore_n 1, 1) := by decide +kernel
set_option maxRecDepth 20000 in
theorem dX2_dropOldest_2 : decode cX2_dropOldest 2 = .ok (.iload_n 1, 1) := by decide +kernel
set_option maxRecDepth 20000 in
theorem dX2_dropOldest_3 : decode cX2_dropOldest 3 = .ok (.aload_n 0, 1) := by decide +kernel
set_option maxRecDepth 20000 in
theorem dX2_dropOldest_4 : decode cX2_dropOldest 4 = .ok (.getfield 11, 3) := by decide +kernel
set_option maxRecDepth 20000 in
theorem dX2_dropOldest_7 : decode cX2_dropOldest 7 = .ok (.arraylength, 1) := by decide +kernel
set_option maxRecDepth 20000 in
theorem dX2_dropOldest_8 : decode cX2_dropOldest 8 = .ok (.if_icmp .ge 39, 3) := by decide +kernel
set_option maxRecDepth 20000 in
theorem dX2_dropOldest_11 : decode cX2_dropOldest 11 = .ok (.aload_n 0, 1) := by decide +kernel
set_option maxRecDepth 20000 in
theorem dX2_dropOldest_12 : decode cX2_dropOldest 12 = .ok (.getfield 11, 3) := by decide +kernel
set_option maxRecDepth 20000 in
theorem dX2_dropOldest_15 : decode cX2_dropOldest 15 = .ok (.iload_n 1, 1) := by decide +kernel
set_option maxRecDepth 20000 in
theorem dX2_dropOldest_16 : decode cX2_dropOldest 16 = .ok (.iconst 1, 1) := by decide +kernel
set_option maxRecDepth 20000 in
theorem dX2_dropOldest_17 : decode cX2_dropOldest 17 = .ok (.isub, 1) := by decide +kernel
set_option maxRecDepth 20000 in
theorem dX2_dropOldest_18 : decode cX2_dropOldest 18 = .ok (.aaload, 1) := by decide +kernel
set_option maxRecDepth 20000 in
theorem dX2_dropOldest_19 : decode cX2_dropOldest 19 = .ok (.astore_n 2, 1) := by decide +kernel
set_option maxRecDepth 20000 in
theorem dX2_dropOldest_20 : decode cX2_dropOldest 20 = .ok (.aload_n 0, 1) := by decide +kernel
set_option maxRecDepth 20000 in
theorem dX2_dropOldest_21 : decode cX2_dropOldest 21 = .ok (.getfield 11, 3) := by decide +kernel
set_option maxRecDepth 20000 in
theorem dX2_dropOldest_24 : decode cX2_dropOldest 24 = .ok (.iload_n 1, 1) := by decide +kernel
set_option maxRecDepth 20000 in
theorem dX2_dropOldest_25 : decode cX2_dropOldest 25 = .ok (.iconst 1, 1) := by decide +kernel
set_option maxRecDepth 20000 in
theorem dX2_dropOldest_26 : decode cX2_dropOldest 26 = .ok (.isub, 1) := by decide +kernel
set_option maxRecDepth 20000 in
theorem dX2_dropOldest_27 : decode cX2_dropOldest 27 = .ok (.aload_n 0, 1) := by decide +kernel
set_option maxRecDepth 20000 in
theorem dX2_dropOldest_28 : decode cX2_dropOldest 28 = .ok (.getfield 11, 3) := by decide +kernel
set_option maxRecDepth 20000 in
theorem dX2_dropOldest_31 : decode cX2_dropOldest 31 = .ok (.iload_n 1, 1) := by decide +kernel
set_option maxRecDepth 20000 in
theorem dX2_dropOldest_32 : decode cX2_dropOldest 32 = .ok (.aaload, 1) := by decide +kernel
set_option maxRecDepth 20000 in
theorem dX2_dropOldest_33 : decode cX2_dropOldest 33 = .ok (.aastore, 1) := by decide +kernel
set_option maxRecDepth 20000 in
theorem dX2_dropOldest_34 : decode cX2_dropOldest 34 = .ok (.aload_n 0, 1) := by decide +kernel
set_option maxRecDepth 20000 in
theorem dX2_dropOldest_35 : decode cX2_dropOldest 35 = .ok (.getfield 11, 3) := by decide +kernel
set_option maxRecDepth 20000 in
theorem dX2_dropOldest_38 : decode cX2_dropOldest 38 = .ok (.iload_n 1, 1) := by decide +kernel
set_option maxRecDepth 20000 in
theorem dX2_dropOldest_39 : decode cX2_dropOldest 39 = .ok (.aload_n 2, 1) := by decide +kernel
set_option maxRecDepth 20000 in
theorem dX2_dropOldest_40 : decode cX2_dropOldest 40 = .ok (.aastore, 1) := by decide +kernel
set_option maxRecDepth 20000 in
theorem dX2_dropOldest_41 : decode cX2_dropOldest 41 = .ok (.iinc 1 1, 3) := by decide +kernel
set_option maxRecDepth 20000 in
theorem dX2_dropOldest_44 : decode cX2_dropOldest 44 = .ok (.goto (-42), 3) := by decide +kernel
set_option maxRecDepth 20000 in
theorem dX2_dropOldest_47 : decode cX2_dropOldest 47 = .ok (.aload_n 0, 1) := by decide +kernel
set_option maxRecDepth 20000 in
theorem dX2_dropOldest_48 : decode cX2_dropOldest 48 = .ok (.aload_n 0, 1) := by decide +kernel
set_option maxRecDepth 20000 in
theorem dX2_dropOldest_49 : decode cX2_dropOldest 49 = .ok (.getfield 11, 3) := by decide +kernel
set_option maxRecDepth 20000 in
theorem dX2_dropOldest_52 : decode cX2_dropOldest 52 = .ok (.arraylength, 1) := by decide +kernel
set_option maxRecDepth 20000 in
theorem dX2_dropOldest_53 : decode cX2_dropOldest 53 = .ok (.iconst 1, 1) := by decide +kernel
set_option maxRecDepth 20000 in
theorem dX2_dropOldest_54 : decode cX2_dropOldest 54 = .ok (.isub, 1) := by decide +kernel
set_option maxRecDepth 20000 in
theorem dX2_dropOldest_55 : decode cX2_dropOldest 55 = .ok (.putfield 17, 3) := by decide +kernel
set_option maxRecDepth 20000 in
theorem dX2_dropOldest_58 : decode cX2_dropOldest 58 = .ok (.return_, 1) := by decide +kernel
set_option maxRecDepth 20000 in
theorem dX2_takeLatestInto_0 : decode cX2_takeLatestInto 0 = .ok (.aload_n 0, 1) := by decide +kernel
set_option maxRecDepth 20000 in
theorem dX2_takeLatestInto_1 : decode cX2_takeLatestInto 1 = .ok (.getfield 17, 3) := by decide +kernel
set_option maxRecDepth 20000 in
theorem dX2_takeLatestInto_4 : decode cX2_takeLatestInto 4 = .ok (.iconst 1, 1) := by decide +kernel
set_option maxRecDepth 20000 in
theorem dX2_takeLatestInto_5 : decode cX2_takeLatestInto 5 = .ok (.isub, 1) := by decide +kernel
set_option maxRecDepth 20000 in
theorem dX2_takeLatestInto_6 : decode cX2_takeLatestInto 6 = .ok (.istore_n 2, 1) := by decide +kernel
set_option maxRecDepth 20000 in
theorem dX2_takeLatestInto_7 : decode cX2_takeLatestInto 7 = .ok (.iload_n 2, 1) := by decide +kernel
set_option maxRecDepth 20000 in
theorem dX2_takeLatestInto_8 : decode cX2_takeLatestInto 8 = .ok (.ifCond .lt 27, 3) := by decide +kernel
set_option maxRecDepth 20000 in
theorem dX2_takeLatestInto_11 : decode cX2_takeLatestInto 11 = .ok (.iload_n 2, 1) := by decide +kernel
set_option maxRecDepth 20000 in
theorem dX2_takeLatestInto_12 : decode cX2_takeLatestInto 12 = .ok (.aload_n 0, 1) := by decide +kernel
set_option maxRecDepth 20000 in
theorem dX2_takeLatestInto_13 : decode cX2_takeLatestInto 13 = .ok (.getfield 11, 3) := by decide +kernel
set_option maxRecDepth 20000 in
theorem dX2_takeLatestInto_16 : decode cX2_takeLatestInto 16 = .ok (.arraylength, 1) := by decide +kernel
set_option maxRecDepth 20000 in
theorem dX2_takeLatestInto_17 : decode cX2_takeLatestInto 17 = .ok (.if_icmp .ge 18, 3) := by decide +kernel
set_option maxRecDepth 20000 in
theorem dX2_takeLatestInto_20 : decode cX2_takeLatestInto 20 = .ok (.aload_n 1, 1) := by decide +kernel
set_option maxRecDepth 20000 in
theorem dX2_takeLatestInto_21 : decode cX2_takeLatestInto 21 = .ok (.aload_n 0, 1) := by decide +kernel
set_option maxRecDepth 20000 in
theorem dX2_takeLatestInto_22 : decode cX2_takeLatestInto 22 = .ok (.getfield 11, 3) := by decide +kernel
set_option maxRecDepth 20000 in
theorem dX2_takeLatestInto_25 : decode cX2_takeLatestInto 25 = .ok (.iload_n 2, 1) := by decide +kernel
set_option maxRecDepth 20000 in
theorem dX2_takeLatestInto_26 : decode cX2_takeLatestInto 26 = .ok (.aaload, 1) := by decide +kernel
set_option maxRecDepth 20000 in
theorem dX2_takeLatestInto_27 : decode cX2_takeLatestInto 27 = .ok (.invokevirtual 25, 3) := by decide +kernel
set_option maxRecDepth 20000 in
theorem dX2_takeLatestInto_30 : decode cX2_takeLatestInto 30 = .ok (.aload_n 0, 1) := by decide +kernel
set_option maxRecDepth 20000 in
theorem dX2_takeLatestInto_31 : decode cX2_takeLatestInto 31 = .ok (.iload_n 2, 1) := by decide +kernel
set_option maxRecDepth 20000 in
theorem dX2_takeLatestInto_32 : decode cX2_takeLatestInto 32 = .ok (.putfield 17, 3) := by decide +kernel
set_option maxRecDepth 20000 in
theorem dX2_takeLatestInto_35 : decode cX2_takeLatestInto 35 = .ok (.return_, 1) := by decide +kernel
set_option maxRecDepth 20000 in
theorem dX3_init_0 : decode cX3_init 0 = .ok (.aload_n 0, 1) := by decide +kernel
set_option maxRecDepth 20000 in
theorem dX3_init_1 : decode cX3_init 1 = .ok (.invokespecial 1, 3) := by decide +kernel
set_option maxRecDepth 20000 in
theorem dX3_init_4 : decode cX3_init 4 = .ok (.aload_n 0, 1) := by decide +kernel
set_option maxRecDepth 20000 in
theorem dX3_init_5 : decode cX3_init 5 = .ok (.iconst 0, 1) := by decide +kernel
set_option maxRecDepth 20000 in
theorem dX3_init_6 : decode cX3_init 6 = .ok (.putfield 7, 3) := by decide +kernel
set_option maxRecDepth 20000 in
theorem dX3_init_9 : decode cX3_init 9 = .ok (.aload_n 0, 1) := by decide +kernel
set_option maxRecDepth 20000 in
theorem dX3_init_10 : decode cX3_init 10 = .ok (.iconst 0, 1) := by decide +kernel
set_option maxRecDepth 20000 in
theorem dX3_init_11 : decode cX3_init 11 = .ok (.putfield 13, 3) := by decide +kernel
set_option maxRecDepth 20000 in
theorem dX3_init_14 : decode cX3_init 14 = .ok (.aload_n 0, 1) := by decide +kernel
set_option maxRecDepth 20000 in
theorem dX3_init_15 : decode cX3_init 15 = .ok (.iconst 0, 1) := by decide +kernel
set_option maxRecDepth 20000 in
theorem dX3_init_16 : decode cX3_init 16 = .ok (.putfield 16, 3) := by decide +kernel
set_option maxRecDepth 20000 in
theorem dX3_init_19 : decode cX3_init 19 = .ok (.return_, 1) := by decide +kernel
set_option maxRecDepth 20000 in
theorem dX4_init_0 : decode cX4_init 0 = .ok (.aload_n 0, 1) := by decide +kernel
set_option maxRecDepth 20000 in
theorem dX4_init_1 : decode cX4_init 1 = .ok (.invokespecial 3, 3) := by decide +kernel
set_option maxRecDepth 20000 in
theorem dX4_init_4 : decode cX4_init 4 = .ok (.aload_n 0, 1) := by decide +kernel
set_option maxRecDepth 20000 in
theorem dX4_init_5 : decode cX4_init 5 = .ok (.iconst 0, 1) := by decide +kernel
set_option maxRecDepth 20000 in
theorem dX4_init_6 : decode cX4_init 6 = .ok (.putfield 9, 3) := by decide +kernel
set_option maxRecDepth 20000 in
theorem dX4_init_9 : decode cX4_init 9 = .ok (.aload_n 0, 1) := by decide +kernel
set_option maxRecDepth 20000 in
theorem dX4_init_10 : decode cX4_init 10 = .ok (.bipush 10, 2) := by decide +kernel
set_option maxRecDepth 20000 in
theorem dX4_init_12 : decode cX4_init 12 = .ok (.newarray .int, 2) := by decide +kernel
set_option maxRecDepth 20000 in
theorem dX4_init_14 : decode cX4_init 14 = .ok (.putfield 15, 3) := by decide +kernel
set_option maxRecDepth 20000 in
theorem dX4_init_17 : decode cX4_init 17 = .ok (.aload_n 0, 1) := by decide +kernel
set_option maxRecDepth 20000 in
theorem dX4_init_18 : decode cX4_init 18 = .ok (.bipush 20, 2) := by decide +kernel
set_option maxRecDepth 20000 in
theorem dX4_init_20 : decode cX4_init 20 = .ok (.newarray .int, 2) := by decide +kernel
set_option maxRecDepth 20000 in
theorem dX4_init_22 : decode cX4_init 22 = .ok (.putfield 19, 3) := by decide +kernel
set_option maxRecDepth 20000 in
theorem dX4_init_25 : decode cX4_init 25 = .ok (.aload_n 0, 1) := by decide +kernel
set_option maxRecDepth 20000 in
theorem dX4_init_26 : decode cX4_init 26 = .ok (.getstatic 22, 3) := by decide +kernel
set_option maxRecDepth 20000 in
theorem dX4_init_29 : decode cX4_init 29 = .ok (.arraylength, 1) := by decide +kernel
set_option maxRecDepth 20000 in
theorem dX4_init_30 : decode cX4_init 30 = .ok (.newarray .int, 2) := by decide +kernel
set_option maxRecDepth 20000 in
theorem dX4_init_32 : decode cX4_init 32 = .ok (.putfield 25, 3) := by decide +kernel
set_option maxRecDepth 20000 in
theorem dX4_init_35 : decode cX4_init 35 = .ok (.aload_n 0, 1) := by decide +kernel
set_option maxRecDepth 20000 in
theorem dX4_init_36 : decode cX4_init 36 = .ok (.bipush 30, 2) := by decide +kernel
set_option maxRecDepth 20000 in
theorem dX4_init_38 : decode cX4_init 38 = .ok (.anewarray 28, 3) := by decide +kernel
set_option maxRecDepth 20000 in
theorem dX4_init_41 : decode cX4_init 41 = .ok (.putfield 30, 3) := by decide +kernel
set_option maxRecDepth 20000 in
theorem dX4_init_44 : decode cX4_init 44 = .ok (.aload_n 0, 1) := by decide +kernel
set_option maxRecDepth 20000 in
theorem dX4_init_45 : decode cX4_init 45 = .ok (.iconst 0, 1) := by decide +kernel
set_option maxRecDepth 20000 in
theorem dX4_init_46 : decode cX4_init 46 = .ok (.putfield 34, 3) := by decide +kernel
set_option maxRecDepth 20000 in
theorem dX4_init_49 : decode cX4_init 49 = .ok (.aload_n 0, 1) := by decide +kernel
set_option maxRecDepth 20000 in
theorem dX4_init_50 : decode cX4_init 50 = .ok (.iconst 0, 1) := by decide +kernel
set_option maxRecDepth 20000 in
theorem dX4_init_51 : decode cX4_init 51 = .ok (.putfield 37, 3) := by decide +kernel
set_option maxRecDepth 20000 in
theorem dX4_init_54 : decode cX4_init 54 = .ok (.aload_n 0, 1) := by decide +kernel
set_option maxRecDepth 20000 in
theorem dX4_init_55 : decode cX4_init 55 = .ok (.iconst 0, 1) := by decide +kernel
set_option maxRecDepth 20000 in
theorem dX4_init_56 : decode cX4_init 56 = .ok (.putfield 40, 3) := by decide +kernel
set_option maxRecDepth 20000 in
theorem dX4_init_59 : decode cX4_init 59 = .ok (.aload_n 0, 1) := by decide +kernel
set_option maxRecDepth 20000 in
theorem dX4_init_60 : decode cX4_init 60 = .ok (.iconst 0, 1) := by decide +kernel
set_option maxRecDepth 20000 in
theorem dX4_init_61 : decode cX4_init 61 = .ok (.putfield 43, 3) := by decide +kernel
set_option maxRecDepth 20000 in
theorem dX4_init_64 : decode cX4_init 64 = .ok (.aload_n 0, 1) := by decide +kernel
set_option maxRecDepth 20000 in
theorem dX4_init_65 : decode cX4_init 65 = .ok (.iconst 0, 1) := by decide +kernel
set_option maxRecDepth 20000 in
theorem dX4_init_66 : decode cX4_init 66 = .ok (.putfield 46, 3) := by decide +kernel
set_option maxRecDepth 20000 in
theorem dX4_init_69 : decode cX4_init 69 = .ok (.aload_n 0, 1) := by decide +kernel
set_option maxRecDepth 20000 in
theorem dX4_init_70 : decode cX4_init 70 = .ok (.iconst 0, 1) := by decide +kernel
set_option maxRecDepth 20000 in
theorem dX4_init_71 : decode cX4_init 71 = .ok (.putfield 49, 3) := by decide +kernel
set_option maxRecDepth 20000 in
theorem dX4_init_74 : decode cX4_init 74 = .ok (.aload_n 0, 1) := by decide +kernel
set_option maxRecDepth 20000 in
theorem dX4_init_75 : decode cX4_init 75 = .ok (.iconst 0, 1) := by decide +kernel
set_option maxRecDepth 20000 in
theorem dX4_init_76 : decode cX4_init 76 = .ok (.putfield 52, 3) := by decide +kernel
set_option maxRecDepth 20000 in
theorem dX4_init_79 : decode cX4_init 79 = .ok (.iconst 0, 1) := by decide +kernel
set_option maxRecDepth 20000 in
theorem dX4_init_80 : decode cX4_init 80 = .ok (.istore_n 1, 1) := by decide +kernel
set_option maxRecDepth 20000 in
theorem dX4_init_81 : decode cX4_init 81 = .ok (.iload_n 1, 1) := by decide +kernel
set_option maxRecDepth 20000 in
theorem dX4_init_82 : decode cX4_init 82 = .ok (.aload_n 0, 1) := by decide +kernel
set_option maxRecDepth 20000 in
theorem dX4_init_83 : decode cX4_init 83 = .ok (.getfield 19, 3) := by decide +kernel
set_option maxRecDepth 20000 in
theorem dX4_init_86 : decode cX4_init 86 = .ok (.arraylength, 1) := by decide +kernel
set_option maxRecDepth 20000 in
theorem dX4_init_87 : decode cX4_init 87 = .ok (.if_icmp .ge 17, 3) := by decide +kernel
set_option maxRecDepth 20000 in
theorem dX4_init_90 : decode cX4_init 90 = .ok (.aload_n 0, 1) := by decide +kernel
set_option maxRecDepth 20000 in
theorem dX4_init_91 : decode cX4_init 91 = .ok (.getfield 19, 3) := by decide +kernel
set_option maxRecDepth 20000 in
theorem dX4_init_94 : decode cX4_init 94 = .ok (.iload_n 1, 1) := by decide +kernel
set_option maxRecDepth 20000 in
theorem dX4_init_95 : decode cX4_init 95 = .ok (.bipush (-5), 2) := by decide +kernel
set_option maxRecDepth 20000 in
theorem dX4_init_97 : decode cX4_init 97 = .ok (.iastore, 1) := by decide +kernel
set_option maxRecDepth 20000 in
theorem dX4_init_98 : decode cX4_init 98 = .ok (.iinc 1 1, 3) := by decide +kernel
set_option maxRecDepth 20000 in
theorem dX4_init_101 : decode cX4_init 101 = .ok (.goto (-20), 3) := by decide +kernel
set_option maxRecDepth 20000 in
theorem dX4_init_104 : decode cX4_init 104 = .ok (.iconst 0, 1) := by decide +kernel
set_option maxRecDepth 20000 in
theorem dX4_init_105 : decode cX4_init 105 = .ok (.istore_n 1, 1) := by decide +kernel
set_option maxRecDepth 20000 in
theorem dX4_init_106 : decode cX4_init 106 = .ok (.iload_n 1, 1) := by decide +kernel
set_option maxRecDepth 20000 in
theorem dX4_init_107 : decode cX4_init 107 = .ok (.aload_n 0, 1) := by decide +kernel
set_option maxRecDepth 20000 in
theorem dX4_init_108 : decode cX4_init 108 = .ok (.getfield 25, 3) := by decide +kernel
set_option maxRecDepth 20000 in
theorem dX4_init_111 : decode cX4_init 111 = .ok (.arraylength, 1) := by decide +kernel
set_option maxRecDepth 20000 in
theorem dX4_init_112 : decode cX4_init 112 = .ok (.if_icmp .ge 28, 3) := by decide +kernel
set_option maxRecDepth 20000 in
theorem dX4_init_115 : decode cX4_init 115 = .ok (.iload_n 1, 1) := by decide +kernel
set_option maxRecDepth 20000 in
theorem dX4_init_116 : decode cX4_init 116 = .ok (.getstatic 22, 3) := by decide +kernel
set_option maxRecDepth 20000 in
theorem dX4_init_119 : decode cX4_init 119 = .ok (.arraylength, 1) := by decide +kernel
set_option maxRecDepth 20000 in
theorem dX4_init_120 : decode cX4_init 120 = .ok (.if_icmp .ge 20, 3) := by decide +kernel
set_option maxRecDepth 20000 in
theorem dX4_init_123 : decode cX4_init 123 = .ok (.aload_n 0, 1) := by decide +kernel
set_option maxRecDepth 20000 in
theorem dX4_init_124 : decode cX4_init 124 = .ok (.getfield 25, 3) := by decide +kernel
set_option maxRecDepth 20000 in
theorem dX4_init_127 : decode cX4_init 127 = .ok (.iload_n 1, 1) := by decide +kernel
set_option maxRecDepth 20000 in
theorem dX4_init_128 : decode cX4_init 128 = .ok (.getstatic 22, 3) := by decide +kernel
set_option maxRecDepth 20000 in
theorem dX4_init_131 : decode cX4_init 131 = .ok (.iload_n 1, 1) := by decide +kernel
set_option maxRecDepth 20000 in
theorem dX4_init_132 : decode cX4_init 132 = .ok (.iaload, 1) := by decide +kernel
set_option maxRecDepth 20000 in
theorem dX4_init_133 : decode cX4_init 133 = .ok (.iastore, 1) := by decide +kernel
set_option maxRecDepth 20000 in
theorem dX4_init_134 : decode cX4_init 134 = .ok (.iinc 1 1, 3) := by decide +kernel
set_option maxRecDepth 20000 in
theorem dX4_init_137 : decode cX4_init 137 = .ok (.goto (-31), 3) := by decide +kernel
set_option maxRecDepth 20000 in
theorem dX4_init_140 : decode cX4_init 140 = .ok (.iconst 0, 1) := by decide +kernel
set_option maxRecDepth 20000 in
theorem dX4_init_141 : decode cX4_init 141 = .ok (.istore_n 1, 1) := by decide +kernel
set_option maxRecDepth 20000 in
theorem dX4_init_142 : decode cX4_init 142 = .ok (.iload_n 1, 1) := by decide +kernel
set_option maxRecDepth 20000 in
theorem dX4_init_143 : decode cX4_init 143 = .ok (.aload_n 0, 1) := by decide +kernel
set_option maxRecDepth 20000 in
theorem dX4_init_144 : decode cX4_init 144 = .ok (.getfield 30, 3) := by decide +kernel
set_option maxRecDepth 20000 in
theorem dX4_init_147 : decode cX4_init 147 = .ok (.arraylength, 1) := by decide +kernel
set_option maxRecDepth 20000 in
theorem dX4_init_148 : decode cX4_init 148 = .ok (.if_icmp .ge 22, 3) := by decide +kernel
set_option maxRecDepth 20000 in
theorem dX4_init_151 : decode cX4_init 151 = .ok (.aload_n 0, 1) := by decide +kernel
set_option maxRecDepth 20000 in
theorem dX4_init_152 : decode cX4_init 152 = .ok (.getfield 30, 3) := by decide +kernel
set_option maxRecDepth 20000 in
theorem dX4_init_155 : decode cX4_init 155 = .ok (.iload_n 1, 1) := by decide +kernel
set_option maxRecDepth 20000 in
theorem dX4_init_156 : decode cX4_init 156 = .ok (.new 28, 3) := by decide +kernel
set_option maxRecDepth 20000 in
theorem dX4_init_159 : decode cX4_init 159 = .ok (.dup, 1) := by decide +kernel
set_option maxRecDepth 20000 in
theorem dX4_init_160 : decode cX4_init 160 = .ok (.invokespecial 55, 3) := by decide +kernel
set_option maxRecDepth 20000 in
theorem dX4_init_163 : decode cX4_init 163 = .ok (.aastore, 1) := by decide +kernel
set_option maxRecDepth 20000 in
theorem dX4_init_164 : decode cX4_init 164 = .ok (.iinc 1 1, 3) := by decide +kernel
set_option maxRecDepth 20000 in
theorem dX4_init_167 : decode cX4_init 167 = .ok (.goto (-25), 3) := by decide +kernel
set_option maxRecDepth 20000 in
theorem dX4_init_170 : decode cX4_init 170 = .ok (.return_, 1) := by decide +kernel
set_option maxRecDepth 20000 in
theorem dX4_copyFrom_0 : decode cX4_copyFrom 0 = .ok (.aload_n 0, 1) := by decide +kernel
set_option maxRecDepth 20000 in
theorem dX4_copyFrom_1 : decode cX4_copyFrom 1 = .ok (.aload_n 1, 1) := by decide +kernel
set_option maxRecDepth 20000 in
theorem dX4_copyFrom_2 : decode cX4_copyFrom 2 = .ok (.getfield 9, 3) := by decide +kernel
set_option maxRecDepth 20000 in
theorem dX4_copyFrom_5 : decode cX4_copyFrom 5 = .ok (.putfield 9, 3) := by decide +kernel
set_option maxRecDepth 20000 in
theorem dX4_copyFrom_8 : decode cX4_copyFrom 8 = .ok (.aload_n 1, 1) := by decide +kernel
set_option maxRecDepth 20000 in
theorem dX4_copyFrom_9 : decode cX4_copyFrom 9 = .ok (.getfield 15, 3) := by decide +kernel
set_option maxRecDepth 20000 in
theorem dX4_copyFrom_12 : decode cX4_copyFrom 12 = .ok (.aload_n 0, 1) := by decide +kernel
set_option maxRecDepth 20000 in
theorem dX4_copyFrom_13 : decode cX4_copyFrom 13 = .ok (.getfield 15, 3) := by decide +kernel
set_option maxRecDepth 20000 in
theorem dX4_copyFrom_16 : decode cX4_copyFrom 16 = .ok (.invokestatic 56, 3) := by decide +kernel
set_option maxRecDepth 20000 in
theorem dX4_copyFrom_19 : decode cX4_copyFrom 19 = .ok (.aload_n 1, 1) := by decide +kernel
set_option maxRecDepth 20000 in
theorem dX4_copyFrom_20 : decode cX4_copyFrom 20 = .ok (.getfield 19, 3) := by decide +kernel
set_option maxRecDepth 20000 in
theorem dX4_copyFrom_23 : decode cX4_copyFrom 23 = .ok (.aload_n 0, 1) := by decide +kernel
set_option maxRecDepth 20000 in
theorem dX4_copyFrom_24 : decode cX4_copyFrom 24 = .ok (.getfield 19, 3) := by decide +kernel
set_option maxRecDepth 20000 in
theorem dX4_copyFrom_27 : decode cX4_copyFrom 27 = .ok (.invokestatic 56, 3) := by decide +kernel
set_option maxRecDepth 20000 in
theorem dX4_copyFrom_30 : decode cX4_copyFrom 30 = .ok (.aload_n 1, 1) := by decide +kernel
set_option maxRecDepth 20000 in
theorem dX4_copyFrom_31 : decode cX4_copyFrom 31 = .ok (.getfield 25, 3) := by decide +kernel
set_option maxRecDepth 20000 in
theorem dX4_copyFrom_34 : decode cX4_copyFrom 34 = .ok (.aload_n 0, 1) := by decide +kernel
set_option maxRecDepth 20000 in
theorem dX4_copyFrom_35 : decode cX4_copyFrom 35 = .ok (.getfield 25, 3) := by decide +kernel
set_option maxRecDepth 20000 in
theorem dX4_copyFrom_38 : decode cX4_copyFrom 38 = .ok (.invokestatic 56, 3) := by decide +kernel
set_option maxRecDepth 20000 in
theorem dX4_copyFrom_41 : decode cX4_copyFrom 41 = .ok (.iconst 0, 1) := by decide +kernel
set_option maxRecDepth 20000 in
theorem dX4_copyFrom_42 : decode cX4_copyFrom 42 = .ok (.istore_n 2, 1) := by decide +kernel
set_option maxRecDepth 20000 in
theorem dX4_copyFrom_43 : decode cX4_copyFrom 43 = .ok (.iload_n 2, 1) := by decide +kernel
set_option maxRecDepth 20000 in
theorem dX4_copyFrom_44 : decode cX4_copyFrom 44 = .ok (.aload_n 0, 1) := by decide +kernel
set_option maxRecDepth 20000 in
theorem dX4_copyFrom_45 : decode cX4_copyFrom 45 = .ok (.getfield 30, 3) := by decide +kernel
set_option maxRecDepth 20000 in
theorem dX4_copyFrom_48 : decode cX4_copyFrom 48 = .ok (.arraylength, 1) := by decide +kernel
set_option maxRecDepth 20000 in
theorem dX4_copyFrom_49 : decode cX4_copyFrom 49 = .ok (.if_icmp .ge 33, 3) := by decide +kernel
set_option maxRecDepth 20000 in
theorem dX4_copyFrom_52 : decode cX4_copyFrom 52 = .ok (.iload_n 2, 1) := by decide +kernel
set_option maxRecDepth 20000 in
theorem dX4_copyFrom_53 : decode cX4_copyFrom 53 = .ok (.aload_n 1, 1) := by decide +kernel
set_option maxRecDepth 20000 in
theorem dX4_copyFrom_54 : decode cX4_copyFrom 54 = .ok (.getfield 30, 3) := by decide +kernel
set_option maxRecDepth 20000 in
theorem dX4_copyFrom_57 : decode cX4_copyFrom 57 = .ok (.arraylength, 1) := by decide +kernel
set_option maxRecDepth 20000 in
theorem dX4_copyFrom_58 : decode cX4_copyFrom 58 = .ok (.if_icmp .ge 24, 3) := by decide +kernel
set_option maxRecDepth 20000 in
theorem dX4_copyFrom_61 : decode cX4_copyFrom 61 = .ok (.aload_n 0, 1) := by decide +kernel
set_option maxRecDepth 20000 in
theorem dX4_copyFrom_62 : decode cX4_copyFrom 62 = .ok (.getfield 30, 3) := by decide +kernel
set_option maxRecDepth 20000 in
theorem dX4_copyFrom_65 : decode cX4_copyFrom 65 = .ok (.iload_n 2, 1) := by decide +kernel
set_option maxRecDepth 20000 in
theorem dX4_copyFrom_66 : decode cX4_copyFrom 66 = .ok (.aaload, 1) := by decide +kernel
set_option maxRecDepth 20000 in
theorem dX4_copyFrom_67 : decode cX4_copyFrom 67 = .ok (.aload_n 1, 1) := by decide +kernel
set_option maxRecDepth 20000 in
theorem dX4_copyFrom_68 : decode cX4_copyFrom 68 = .ok (.getfield 30, 3) := by decide +kernel
set_option maxRecDepth 20000 in
theorem dX4_copyFrom_71 : decode cX4_copyFrom 71 = .ok (.iload_n 2, 1) := by decide +kernel
set_option maxRecDepth 20000 in
theorem dX4_copyFrom_72 : decode cX4_copyFrom 72 = .ok (.aaload, 1) := by decide +kernel
set_option maxRecDepth 20000 in
theorem dX4_copyFrom_73 : decode cX4_copyFrom 73 = .ok (.invokevirtual 60, 3) := by decide +kernel
set_option maxRecDepth 20000 in
theorem dX4_copyFrom_76 : decode cX4_copyFrom 76 = .ok (.iinc 2 1, 3) := by decide +kernel
set_option maxRecDepth 20000 in
theorem dX4_copyFrom_79 : decode cX4_copyFrom 79 = .ok (.goto (-36), 3) := by decide +kernel
set_option maxRecDepth 20000 in
theorem dX4_copyFrom_82 : decode cX4_copyFrom 82 = .ok (.aload_n 0, 1) := by decide +kernel
set_option maxRecDepth 20000 in
theorem dX4_copyFrom_83 : decode cX4_copyFrom 83 = .ok (.aload_n 1, 1) := by decide +kernel
set_option maxRecDepth 20000 in
theorem dX4_copyFrom_84 : decode cX4_copyFrom 84 = .ok (.getfield 34, 3) := by decide +kernel
set_option maxRecDepth 20000 in
theorem dX4_copyFrom_87 : decode cX4_copyFrom 87 = .ok (.putfield 34, 3) := by decide +kernel
set_option maxRecDepth 20000 in
theorem dX4_copyFrom_90 : decode cX4_copyFrom 90 = .ok (.aload_n 0, 1) := by decide +kernel
set_option maxRecDepth 20000 in
theorem dX4_copyFrom_91 : decode cX4_copyFrom 91 = .ok (.aload_n 1, 1) := by decide +kernel
set_option maxRecDepth 20000 in
theorem dX4_copyFrom_92 : decode cX4_copyFrom 92 = .ok (.getfield 37, 3) := by decide +kernel
set_option maxRecDepth 20000 in
theorem dX4_copyFrom_95 : decode cX4_copyFrom 95 = .ok (.putfield 37, 3) := by decide +kernel
set_option maxRecDepth 20000 in
theorem dX4_copyFrom_98 : decode cX4_copyFrom 98 = .ok (.aload_n 0, 1) := by decide +kernel
set_option maxRecDepth 20000 in
theorem dX4_copyFrom_99 : decode cX4_copyFrom 99 = .ok (.aload_n 1, 1) := by decide +kernel
set_option maxRecDepth 20000 in
theorem dX4_copyFrom_100 : decode cX4_copyFrom 100 = .ok (.getfield 40, 3) := by decide +kernel
set_option maxRecDepth 20000 in
theorem dX4_copyFrom_103 : decode cX4_copyFrom 103 = .ok (.putfield 40, 3) := by decide +kernel
set_option maxRecDepth 20000 in
theorem dX4_copyFrom_106 : decode cX4_copyFrom 106 = .ok (.aload_n 0, 1) := by decide +kernel
set_option maxRecDepth 20000 in
theorem dX4_copyFrom_107 : decode cX4_copyFrom 107 = .ok (.aload_n 1, 1) := by decide +kernel
set_option maxRecDepth 20000 in
theorem dX4_copyFrom_108 : decode cX4_copyFrom 108 = .ok (.getfield 43, 3) := by decide +kernel
set_option maxRecDepth 20000 in
theorem dX4_copyFrom_111 : decode cX4_copyFrom 111 = .ok (.putfield 43, 3) := by decide +kernel
set_option maxRecDepth 20000 in
theorem dX4_copyFrom_114 : decode cX4_copyFrom 114 = .ok (.aload_n 0, 1) := by decide +kernel
set_option maxRecDepth 20000 in
theorem dX4_copyFrom_115 : decode cX4_copyFrom 115 = .ok (.aload_n 1, 1) := by decide +kernel
set_option maxRecDepth 20000 in
theorem dX4_copyFrom_116 : decode cX4_copyFrom 116 = .ok (.getfield 46, 3) := by decide +kernel
set_option maxRecDepth 20000 in
theorem dX4_copyFrom_119 : decode cX4_copyFrom 119 = .ok (.putfield 46, 3) := by decide +kernel
set_option maxRecDepth 20000 in
theorem dX4_copyFrom_122 : decode cX4_copyFrom 122 = .ok (.aload_n 0, 1) := by decide +kernel
set_option maxRecDepth 20000 in
theorem dX4_copyFrom_123 : decode cX4_copyFrom 123 = .ok (.aload_n 1, 1) := by decide +kernel
set_option maxRecDepth 20000 in
theorem dX4_copyFrom_124 : decode cX4_copyFrom 124 = .ok (.getfield 49, 3) := by decide +kernel
set_option maxRecDepth 20000 in
theorem dX4_copyFrom_127 : decode cX4_copyFrom 127 = .ok (.putfield 49, 3) := by decide +kernel
set_option maxRecDepth 20000 in
theorem dX4_copyFrom_130 : decode cX4_copyFrom 130 = .ok (.aload_n 0, 1) := by decide +kernel
set_option maxRecDepth 20000 in
theorem dX4_copyFrom_131 : decode cX4_copyFrom 131 = .ok (.aload_n 1, 1) := by decide +kernel
set_option maxRecDepth 20000 in
theorem dX4_copyFrom_132 : decode cX4_copyFrom 132 = .ok (.getfield 52, 3) := by decide +kernel
set_option maxRecDepth 20000 in
theorem dX4_copyFrom_135 : decode cX4_copyFrom 135 = .ok (.putfield 52, 3) := by decide +kernel
set_option maxRecDepth 20000 in
theorem dX4_copyFrom_138 : decode cX4_copyFrom 138 = .ok (.return_, 1) := by decide +kernel
set_option maxRecDepth 20000 in
theorem dX4_copyRow_0 : decode cX4_copyRow 0 = .ok (.iconst 0, 1) := by decide +kernel
set_option maxRecDepth 20000 in
theorem dX4_copyRow_1 : decode cX4_copyRow 1 = .ok (.istore_n 2, 1) := by decide +kernel
set_option maxRecDepth 20000 in
theorem dX4_copyRow_2 : decode cX4_copyRow 2 = .ok (.iload_n 2, 1) := by decide +kernel
set_option maxRecDepth 20000 in
theorem dX4_copyRow_3 : decode cX4_copyRow 3 = .ok (.aload_n 0, 1) := by decide +kernel
set_option maxRecDepth 20000 in
theorem dX4_copyRow_4 : decode cX4_copyRow 4 = .ok (.arraylength, 1) := by decide +kernel
set_option maxRecDepth 20000 in
theorem dX4_copyRow_5 : decode cX4_copyRow 5 = .ok (.if_icmp .ge 21, 3) := by decide +kernel
set_option maxRecDepth 20000 in
theorem dX4_copyRow_8 : decode cX4_copyRow 8 = .ok (.iload_n 2, 1) := by decide +kernel
set_option maxRecDepth 20000 in
theorem dX4_copyRow_9 : decode cX4_copyRow 9 = .ok (.aload_n 1, 1) := by decide +kernel
set_option maxRecDepth 20000 in
theorem dX4_copyRow_10 : decode cX4_copyRow 10 = .ok (.arraylength, 1) := by decide +kernel
set_option maxRecDepth 20000 in
theorem dX4_copyRow_11 : decode cX4_copyRow 11 = .ok (.if_icmp .ge 15, 3) := by decide +kernel
set_option maxRecDepth 20000 in
theorem dX4_copyRow_14 : decode cX4_copyRow 14 = .ok (.aload_n 1, 1) := by decide +kernel
set_option maxRecDepth 20000 in
theorem dX4_copyRow_15 : decode cX4_copyRow 15 = .ok (.iload_n 2, 1) := by decide +kernel
set_option maxRecDepth 20000 in
theorem dX4_copyRow_16 : decode cX4_copyRow 16 = .ok (.aload_n 0, 1) := by decide +kernel
set_option maxRecDepth 20000 in
theorem dX4_copyRow_17 : decode cX4_copyRow 17 = .ok (.iload_n 2, 1) := by decide +kernel
set_option maxRecDepth 20000 in
theorem dX4_copyRow_18 : decode cX4_copyRow 18 = .ok (.iaload, 1) := by decide +kernel
set_option maxRecDepth 20000 in
theorem dX4_copyRow_19 : decode cX4_copyRow 19 = .ok (.iastore, 1) := by decide +kernel
set_option maxRecDepth 20000 in
theorem dX4_copyRow_20 : decode cX4_copyRow 20 = .ok (.iinc 2 1, 3) := by decide +kernel
set_option maxRecDepth 20000 in
theorem dX4_copyRow_23 : decode cX4_copyRow 23 = .ok (.goto (-21), 3) := by decide +kernel
set_option maxRecDepth 20000 in
theorem dX4_copyRow_26 : decode cX4_copyRow 26 = .ok (.return_, 1) := by decide +kernel
set_option maxRecDepth 20000 in
theorem dX4_setting_0 : decode cX4_setting 0 = .ok (.iload_n 1, 1) := by decide +kernel
set_option maxRecDepth 20000 in
theorem dX4_setting_1 : decode cX4_setting 1 = .ok (.ifCond .lt 21, 3) := by decide +kernel
set_option maxRecDepth 20000 in
theorem dX4_setting_4 : decode cX4_setting 4 = .ok (.iload_n 1, 1) := by decide +kernel
set_option maxRecDepth 20000 in
theorem dX4_setting_5 : decode cX4_setting 5 = .ok (.aload_n 0, 1) := by decide +kernel
set_option maxRecDepth 20000 in
theorem dX4_setting_6 : decode cX4_setting 6 = .ok (.getfield 25, 3) := by decide +kernel
set_option maxRecDepth 20000 in
theorem dX4_setting_9 : decode cX4_setting 9 = .ok (.arraylength, 1) := by decide +kernel
set_option maxRecDepth 20000 in
theorem dX4_setting_10 : decode cX4_setting 10 = .ok (.if_icmp .ge 12, 3) := by decide +kernel
set_option maxRecDepth 20000 in
theorem dX4_setting_13 : decode cX4_setting 13 = .ok (.aload_n 0, 1) := by decide +kernel
set_option maxRecDepth 20000 in
theorem dX4_setting_14 : decode cX4_setting 14 = .ok (.getfield 25, 3) := by decide +kernel
set_option maxRecDepth 20000 in
theorem dX4_setting_17 : decode cX4_setting 17 = .ok (.iload_n 1, 1) := by decide +kernel
set_option maxRecDepth 20000 in
theorem dX4_setting_18 : decode cX4_setting 18 = .ok (.iaload, 1) := by decide +kernel
set_option maxRecDepth 20000 in
theorem dX4_setting_19 : decode cX4_setting 19 = .ok (.goto 4, 3) := by decide +kernel
set_option maxRecDepth 20000 in
theorem dX4_setting_22 : decode cX4_setting 22 = .ok (.iconst 0, 1) := by decide +kernel
set_option maxRecDepth 20000 in
theorem dX4_setting_23 : decode cX4_setting 23 = .ok (.ireturn, 1) := by decide +kernel
set_option maxRecDepth 20000 in
theorem dX4_changeSetting_0 : decode cX4_changeSetting 0 = .ok (.iload_n 1, 1) := by decide +kernel
set_option maxRecDepth 20000 in
theorem dX4_changeSetting_1 : decode cX4_changeSetting 1 = .ok (.ifCond .lt 19, 3) := by decide +kernel
set_option maxRecDepth 20000 in
theorem dX4_changeSetting_4 : decode cX4_changeSetting 4 = .ok (.iload_n 1, 1) := by decide +kernel
set_option maxRecDepth 20000 in
theorem dX4_changeSetting_5 : decode cX4_changeSetting 5 = .ok (.aload_n 0, 1) := by decide +kernel
set_option maxRecDepth 20000 in
theorem dX4_changeSetting_6 : decode cX4_changeSetting 6 = .ok (.getfield 25, 3) := by decide +kernel
set_option maxRecDepth 20000 in
theorem dX4_changeSetting_9 : decode cX4_changeSetting 9 = .ok (.arraylength, 1) := by decide +kernel
set_option maxRecDepth 20000 in
theorem dX4_changeSetting_10 : decode cX4_changeSetting 10 = .ok (.if_icmp .ge 10, 3) := by decide +kernel
set_option maxRecDepth 20000 in
theorem dX4_changeSetting_13 : decode cX4_changeSetting 13 = .ok (.aload_n 0, 1) := by decide +kernel
set_option maxRecDepth 20000 in
theorem dX4_changeSetting_14 : decode cX4_changeSetting 14 = .ok (.getfield 25, 3) := by decide +kernel
set_option maxRecDepth 20000 in
theorem dX4_changeSetting_17 : decode cX4_changeSetting 17 = .ok (.iload_n 1, 1) := by decide +kernel
set_option maxRecDepth 20000 in
theorem dX4_changeSetting_18 : decode cX4_changeSetting 18 = .ok (.iload_n 2, 1) := by decide +kernel
set_option maxRecDepth 20000 in
theorem dX4_changeSetting_19 : decode cX4_changeSetting 19 = .ok (.iastore, 1) := by decide +kernel
set_option maxRecDepth 20000 in
theorem dX4_changeSetting_20 : decode cX4_changeSetting 20 = .ok (.return_, 1) := by decide +kernel
set_option maxRecDepth 20000 in
theorem dX4_hasEnd_0 : decode cX4_hasEnd 0 = .ok (.iload_n 1, 1) := by decide +kernel
set_option maxRecDepth 20000 in
theorem dX4_hasEnd_1 : decode cX4_hasEnd 1 = .ok (.ifCond .lt 15, 3) := by decide +kernel
set_option maxRecDepth 20000 in
theorem dX4_hasEnd_4 : decode cX4_hasEnd 4 = .ok (.iload_n 1, 1) := by decide +kernel
set_option maxRecDepth 20000 in
theorem dX4_hasEnd_5 : decode cX4_hasEnd 5 = .ok (.aload_n 0, 1) := by decide +kernel
set_option maxRecDepth 20000 in
theorem dX4_hasEnd_6 : decode cX4_hasEnd 6 = .ok (.getfield 9, 3) := by decide +kernel
set_option maxRecDepth 20000 in
theorem dX4_hasEnd_9 : decode cX4_hasEnd 9 = .ok (.if_icmp .ge 7, 3) := by decide +kernel
set_option maxRecDepth 20000 in
theorem dX4_hasEnd_12 : decode cX4_hasEnd 12 = .ok (.iconst 1, 1) := by decide +kernel
set_option maxRecDepth 20000 in
theorem dX4_hasEnd_13 : decode cX4_hasEnd 13 = .ok (.goto 4, 3) := by decide +kernel
set_option maxRecDepth 20000 in
theorem dX4_hasEnd_16 : decode cX4_hasEnd 16 = .ok (.iconst 0, 1) := by decide +kernel
set_option maxRecDepth 20000 in
theorem dX4_hasEnd_17 : decode cX4_hasEnd 17 = .ok (.ireturn, 1) := by decide +kernel
set_option maxRecDepth 20000 in
theorem dX4_openEnd_0 : decode cX4_openEnd 0 = .ok (.aload_n 0, 1) := by decide +kernel
set_option maxRecDepth 20000 in
theorem dX4_openEnd_1 : decode cX4_openEnd 1 = .ok (.getfield 9, 3) := by decide +kernel
set_option maxRecDepth 20000 in
theorem dX4_openEnd_4 : decode cX4_openEnd 4 = .ok (.istore_n 2, 1) := by decide +kernel
set_option maxRecDepth 20000 in
theorem dX4_openEnd_5 : decode cX4_openEnd 5 = .ok (.iload_n 2, 1) := by decide +kernel
set_option maxRecDepth 20000 in
theorem dX4_openEnd_6 : decode cX4_openEnd 6 = .ok (.ifCond .lt 12, 3) := by decide +kernel
set_option maxRecDepth 20000 in
theorem dX4_openEnd_9 : decode cX4_openEnd 9 = .ok (.iload_n 2, 1) := by decide +kernel
set_option maxRecDepth 20000 in
theorem dX4_openEnd_10 : decode cX4_openEnd 10 = .ok (.aload_n 0, 1) := by decide +kernel
set_option maxRecDepth 20000 in
theorem dX4_openEnd_11 : decode cX4_openEnd 11 = .ok (.getfield 15, 3) := by decide +kernel
set_option maxRecDepth 20000 in
theorem dX4_openEnd_14 : decode cX4_openEnd 14 = .ok (.arraylength, 1) := by decide +kernel
set_option maxRecDepth 20000 in
theorem dX4_openEnd_15 : decode cX4_openEnd 15 = .ok (.if_icmp .lt 6, 3) := by decide +kernel
set_option maxRecDepth 20000 in
theorem dX4_openEnd_18 : decode cX4_openEnd 18 = .ok (.bipush (-3), 2) := by decide +kernel
set_option maxRecDepth 20000 in
theorem dX4_openEnd_20 : decode cX4_openEnd 20 = .ok (.ireturn, 1) := by decide +kernel
set_option maxRecDepth 20000 in
theorem dX4_openEnd_21 : decode cX4_openEnd 21 = .ok (.aload_n 0, 1) := by decide +kernel
set_option maxRecDepth 20000 in
theorem dX4_openEnd_22 : decode cX4_openEnd 22 = .ok (.getfield 15, 3) := by decide +kernel
set_option maxRecDepth 20000 in
theorem dX4_openEnd_25 : decode cX4_openEnd 25 = .ok (.iload_n 2, 1) := by decide +kernel
set_option maxRecDepth 20000 in
theorem dX4_openEnd_26 : decode cX4_openEnd 26 = .ok (.iload_n 1, 1) := by decide +kernel
set_option maxRecDepth 20000 in
theorem dX4_openEnd_27 : decode cX4_openEnd 27 = .ok (.iastore, 1) := by decide +kernel
set_option maxRecDepth 20000 in
theorem dX4_openEnd_28 : decode cX4_openEnd 28 = .ok (.aload_n 0, 1) := by decide +kernel
set_option maxRecDepth 20000 in
theorem dX4_openEnd_29 : decode cX4_openEnd 29 = .ok (.iload_n 2, 1) := by decide +kernel
set_option maxRecDepth 20000 in
theorem dX4_openEnd_30 : decode cX4_openEnd 30 = .ok (.iconst 1, 1) := by decide +kernel
set_option maxRecDepth 20000 in
theorem dX4_openEnd_31 : decode cX4_openEnd 31 = .ok (.iadd, 1) := by decide +kernel
set_option maxRecDepth 20000 in
theorem dX4_openEnd_32 : decode cX4_openEnd 32 = .ok (.putfield 9, 3) := by decide +kernel
set_option maxRecDepth 20000 in
theorem dX4_openEnd_35 : decode cX4_openEnd 35 = .ok (.iload_n 2, 1) := by decide +kernel
set_option maxRecDepth 20000 in
theorem dX4_openEnd_36 : decode cX4_openEnd 36 = .ok (.ireturn, 1) := by decide +kernel
set_option maxRecDepth 20000 in
theorem dX4_minuteOf_0 : decode cX4_minuteOf 0 = .ok (.iload_n 1, 1) := by decide +kernel
set_option maxRecDepth 20000 in
theorem dX4_minuteOf_1 : decode cX4_minuteOf 1 = .ok (.ifCond .lt 21, 3) := by decide +kernel
set_option maxRecDepth 20000 in
theorem dX4_minuteOf_4 : decode cX4_minuteOf 4 = .ok (.iload_n 1, 1) := by decide +kernel
set_option maxRecDepth 20000 in
theorem dX4_minuteOf_5 : decode cX4_minuteOf 5 = .ok (.aload_n 0, 1) := by decide +kernel
set_option maxRecDepth 20000 in
theorem dX4_minuteOf_6 : decode cX4_minuteOf 6 = .ok (.getfield 15, 3) := by decide +kernel
set_option maxRecDepth 20000 in
theorem dX4_minuteOf_9 : decode cX4_minuteOf 9 = .ok (.arraylength, 1) := by decide +kernel
set_option maxRecDepth 20000 in
theorem dX4_minuteOf_10 : decode cX4_minuteOf 10 = .ok (.if_icmp .ge 12, 3) := by decide +kernel
set_option maxRecDepth 20000 in
theorem dX4_minuteOf_13 : decode cX4_minuteOf 13 = .ok (.aload_n 0, 1) := by decide +kernel
set_option maxRecDepth 20000 in
theorem dX4_minuteOf_14 : decode cX4_minuteOf 14 = .ok (.getfield 15, 3) := by decide +kernel
set_option maxRecDepth 20000 in
theorem dX4_minuteOf_17 : decode cX4_minuteOf 17 = .ok (.iload_n 1, 1) := by decide +kernel
set_option maxRecDepth 20000 in
theorem dX4_minuteOf_18 : decode cX4_minuteOf 18 = .ok (.iaload, 1) := by decide +kernel
set_option maxRecDepth 20000 in
theorem dX4_minuteOf_19 : decode cX4_minuteOf 19 = .ok (.goto 4, 3) := by decide +kernel
set_option maxRecDepth 20000 in
theorem dX4_minuteOf_22 : decode cX4_minuteOf 22 = .ok (.iconst 0, 1) := by decide +kernel
set_option maxRecDepth 20000 in
theorem dX4_minuteOf_23 : decode cX4_minuteOf 23 = .ok (.ireturn, 1) := by decide +kernel
set_option maxRecDepth 20000 in
theorem dX4_isEarlier_0 : decode cX4_isEarlier 0 = .ok (.aload_n 0, 1) := by decide +kernel
set_option maxRecDepth 20000 in
theorem dX4_isEarlier_1 : decode cX4_isEarlier 1 = .ok (.iload_n 1, 1) := by decide +kernel
set_option maxRecDepth 20000 in
theorem dX4_isEarlier_2 : decode cX4_isEarlier 2 = .ok (.invokevirtual 64, 3) := by decide +kernel
set_option maxRecDepth 20000 in
theorem dX4_isEarlier_5 : decode cX4_isEarlier 5 = .ok (.aload_n 0, 1) := by decide +kernel
set_option maxRecDepth 20000 in
theorem dX4_isEarlier_6 : decode cX4_isEarlier 6 = .ok (.iload_n 2, 1) := by decide +kernel
set_option maxRecDepth 20000 in
theorem dX4_isEarlier_7 : decode cX4_isEarlier 7 = .ok (.invokevirtual 64, 3) := by decide +kernel
set_option maxRecDepth 20000 in
theorem dX4_isEarlier_10 : decode cX4_isEarlier 10 = .ok (.isub, 1) := by decide +kernel
set_option maxRecDepth 20000 in
theorem dX4_isEarlier_11 : decode cX4_isEarlier 11 = .ok (.istore_n 3, 1) := by decide +kernel
set_option maxRecDepth 20000 in
theorem dX4_isEarlier_12 : decode cX4_isEarlier 12 = .ok (.iload_n 3, 1) := by decide +kernel
set_option maxRecDepth 20000 in
theorem dX4_isEarlier_13 : decode cX4_isEarlier 13 = .ok (.ifCond .eq 15, 3) := by decide +kernel
set_option maxRecDepth 20000 in
theorem dX4_isEarlier_16 : decode cX4_isEarlier 16 = .ok (.iload_n 3, 1) := by decide +kernel
set_option maxRecDepth 20000 in
theorem dX4_isEarlier_17 : decode cX4_isEarlier 17 = .ok (.ifCond .ge 7, 3) := by decide +kernel
set_option maxRecDepth 20000 in
theorem dX4_isEarlier_20 : decode cX4_isEarlier 20 = .ok (.iconst 1, 1) := by decide +kernel
set_option maxRecDepth 20000 in
theorem dX4_isEarlier_21 : decode cX4_isEarlier 21 = .ok (.goto 17, 3) := by decide +kernel
set_option maxRecDepth 20000 in
theorem dX4_isEarlier_24 : decode cX4_isEarlier 24 = .ok (.iconst 0, 1) := by decide +kernel
set_option maxRecDepth 20000 in
theorem dX4_isEarlier_25 : decode cX4_isEarlier 25 = .ok (.goto 13, 3) := by decide +kernel
set_option maxRecDepth 20000 in
theorem dX4_isEarlier_28 : decode cX4_isEarlier 28 = .ok (.iload_n 1, 1) := by decide +kernel
set_option maxRecDepth 20000 in
theorem dX4_isEarlier_29 : decode cX4_isEarlier 29 = .ok (.iload_n 2, 1) := by decide +kernel
set_option maxRecDepth 20000 in
theorem dX4_isEarlier_30 : decode cX4_isEarlier 30 = .ok (.if_icmp .ge 7, 3) := by decide +kernel
set_option maxRecDepth 20000 in
theorem dX4_isEarlier_33 : decode cX4_isEarlier 33 = .ok (.iconst 1, 1) := by decide +kernel
set_option maxRecDepth 20000 in
theorem dX4_isEarlier_34 : decode cX4_isEarlier 34 = .ok (.goto 4, 3) := by decide +kernel
set_option maxRecDepth 20000 in
theorem dX4_isEarlier_37 : decode cX4_isEarlier 37 = .ok (.iconst 0, 1) := by decide +kernel
set_option maxRecDepth 20000 in
theorem dX4_isEarlier_38 : decode cX4_isEarlier 38 = .ok (.ireturn, 1) := by decide +kernel
set_option maxRecDepth 20000 in
theorem dX4_bookingOf_0 : decode cX4_bookingOf 0 = .ok (.aload_n 0, 1) := by decide +kernel
set_option maxRecDepth 20000 in
theorem dX4_bookingOf_1 : decode cX4_bookingOf 1 = .ok (.getfield 30, 3) := by decide +kernel
set_option maxRecDepth 20000 in
theorem dX4_bookingOf_4 : decode cX4_bookingOf 4 = .ok (.astore_n 2, 1) := by decide +kernel
set_option maxRecDepth 20000 in
theorem dX4_bookingOf_5 : decode cX4_bookingOf 5 = .ok (.aload_n 2, 1) := by decide +kernel
set_option maxRecDepth 20000 in
theorem dX4_bookingOf_6 : decode cX4_bookingOf 6 = .ok (.arraylength, 1) := by decide +kernel
set_option maxRecDepth 20000 in
theorem dX4_bookingOf_7 : decode cX4_bookingOf 7 = .ok (.istore_n 3, 1) := by decide +kernel
set_option maxRecDepth 20000 in
theorem dX4_bookingOf_8 : decode cX4_bookingOf 8 = .ok (.iconst 0, 1) := by decide +kernel
set_option maxRecDepth 20000 in
theorem dX4_bookingOf_9 : decode cX4_bookingOf 9 = .ok (.istore 4, 2) := by decide +kernel
set_option maxRecDepth 20000 in
theorem dX4_bookingOf_11 : decode cX4_bookingOf 11 = .ok (.iload 4, 2) := by decide +kernel
set_option maxRecDepth 20000 in
theorem dX4_bookingOf_13 : decode cX4_bookingOf 13 = .ok (.iload_n 3, 1) := by decide +kernel
set_option maxRecDepth 20000 in
theorem dX4_bookingOf_14 : decode cX4_bookingOf 14 = .ok (.if_icmp .ge 35, 3) := by decide +kernel
set_option maxRecDepth 20000 in
theorem dX4_bookingOf_17 : decode cX4_bookingOf 17 = .ok (.aload_n 2, 1) := by decide +kernel
set_option maxRecDepth 20000 in
theorem dX4_bookingOf_18 : decode cX4_bookingOf 18 = .ok (.iload 4, 2) := by decide +kernel
set_option maxRecDepth 20000 in
theorem dX4_bookingOf_20 : decode cX4_bookingOf 20 = .ok (.aaload, 1) := by decide +kernel
set_option maxRecDepth 20000 in
theorem dX4_bookingOf_21 : decode cX4_bookingOf 21 = .ok (.astore 5, 2) := by decide +kernel
set_option maxRecDepth 20000 in
theorem dX4_bookingOf_23 : decode cX4_bookingOf 23 = .ok (.aload 5, 2) := by decide +kernel
set_option maxRecDepth 20000 in
theorem dX4_bookingOf_25 : decode cX4_bookingOf 25 = .ok (.invokevirtual 75, 3) := by decide +kernel
set_option maxRecDepth 20000 in
theorem dX4_bookingOf_28 : decode cX4_bookingOf 28 = .ok (.ifCond .eq 15, 3) := by decide +kernel
set_option maxRecDepth 20000 in
theorem dX4_bookingOf_31 : decode cX4_bookingOf 31 = .ok (.aload 5, 2) := by decide +kernel
set_option maxRecDepth 20000 in
theorem dX4_bookingOf_33 : decode cX4_bookingOf 33 = .ok (.getfield 79, 3) := by decide +kernel
set_option maxRecDepth 20000 in
theorem dX4_bookingOf_36 : decode cX4_bookingOf 36 = .ok (.iload_n 1, 1) := by decide +kernel
set_option maxRecDepth 20000 in
theorem dX4_bookingOf_37 : decode cX4_bookingOf 37 = .ok (.if_icmp .ne 6, 3) := by decide +kernel
set_option maxRecDepth 20000 in
theorem dX4_bookingOf_40 : decode cX4_bookingOf 40 = .ok (.aload 5, 2) := by decide +kernel
set_option maxRecDepth 20000 in
theorem dX4_bookingOf_42 : decode cX4_bookingOf 42 = .ok (.areturn, 1) := by decide +kernel
set_option maxRecDepth 20000 in
theorem dX4_bookingOf_43 : decode cX4_bookingOf 43 = .ok (.iinc 4 1, 3) := by decide +kernel
set_option maxRecDepth 20000 in
theorem dX4_bookingOf_46 : decode cX4_bookingOf 46 = .ok (.goto (-35), 3) := by decide +kernel
set_option maxRecDepth 20000 in
theorem dX4_bookingOf_49 : decode cX4_bookingOf 49 = .ok (.aconst_null, 1) := by decide +kernel
set_option maxRecDepth 20000 in
theorem dX4_bookingOf_50 : decode cX4_bookingOf 50 = .ok (.areturn, 1) := by decide +kernel
set_option maxRecDepth 20000 in
theorem dX4_enter_0 : decode cX4_enter 0 = .ok (.aload_n 0, 1) := by decide +kernel
set_option maxRecDepth 20000 in
theorem dX4_enter_1 : decode cX4_enter 1 = .ok (.iload_n 2, 1) := by decide +kernel
set_option maxRecDepth 20000 in
theorem dX4_enter_2 : decode cX4_enter 2 = .ok (.iload_n 1, 1) := by decide +kernel
set_option maxRecDepth 20000 in
theorem dX4_enter_3 : decode cX4_enter 3 = .ok (.iload_n 3, 1) := by decide +kernel
set_option maxRecDepth 20000 in
theorem dX4_enter_4 : decode cX4_enter 4 = .ok (.aconst_null, 1) := by decide +kernel
set_option maxRecDepth 20000 in
theorem dX4_enter_5 : decode cX4_enter 5 = .ok (.invokevirtual 82, 3) := by decide +kernel
set_option maxRecDepth 20000 in
theorem dX4_enter_8 : decode cX4_enter 8 = .ok (.ifCond .ne 7, 3) := by decide +kernel
set_option maxRecDepth 20000 in
theorem dX4_enter_11 : decode cX4_enter 11 = .ok (.iconst 1, 1) := by decide +kernel
set_option maxRecDepth 20000 in
theorem dX4_enter_12 : decode cX4_enter 12 = .ok (.goto 4, 3) := by decide +kernel
set_option maxRecDepth 20000 in
theorem dX4_enter_15 : decode cX4_enter 15 = .ok (.iconst 0, 1) := by decide +kernel
set_option maxRecDepth 20000 in
theorem dX4_enter_16 : decode cX4_enter 16 = .ok (.istore 4, 2) := by decide +kernel
set_option maxRecDepth 20000 in
theorem dX4_enter_18 : decode cX4_enter 18 = .ok (.aload_n 0, 1) := by decide +kernel
set_option maxRecDepth 20000 in
theorem dX4_enter_19 : decode cX4_enter 19 = .ok (.getfield 30, 3) := by decide +kernel
set_option maxRecDepth 20000 in
theorem dX4_enter_22 : decode cX4_enter 22 = .ok (.astore 5, 2) := by decide +kernel
set_option maxRecDepth 20000 in
theorem dX4_enter_24 : decode cX4_enter 24 = .ok (.aload 5, 2) := by decide +kernel
set_option maxRecDepth 20000 in
theorem dX4_enter_26 : decode cX4_enter 26 = .ok (.arraylength, 1) := by decide +kernel
set_option maxRecDepth 20000 in
theorem dX4_enter_27 : decode cX4_enter 27 = .ok (.istore 6, 2) := by decide +kernel
set_option maxRecDepth 20000 in
theorem dX4_enter_29 : decode cX4_enter 29 = .ok (.iconst 0, 1) := by decide +kernel
set_option maxRecDepth 20000 in
theorem dX4_enter_30 : decode cX4_enter 30 = .ok (.istore 7, 2) := by decide +kernel
set_option maxRecDepth 20000 in
theorem dX4_enter_32 : decode cX4_enter 32 = .ok (.iload 7, 2) := by decide +kernel
set_option maxRecDepth 20000 in
theorem dX4_enter_34 : decode cX4_enter 34 = .ok (.iload 6, 2) := by decide +kernel
set_option maxRecDepth 20000 in
theorem dX4_enter_36 : decode cX4_enter 36 = .ok (.if_icmp .ge 74, 3) := by decide +kernel
set_option maxRecDepth 20000 in
theorem dX4_enter_39 : decode cX4_enter 39 = .ok (.aload 5, 2) := by decide +kernel
set_option maxRecDepth 20000 in
theorem dX4_enter_41 : decode cX4_enter 41 = .ok (.iload 7, 2) := by decide +kernel
set_option maxRecDepth 20000 in
theorem dX4_enter_43 : decode cX4_enter 43 = .ok (.aaload, 1) := by decide +kernel
set_option maxRecDepth 20000 in
theorem dX4_enter_44 : decode cX4_enter 44 = .ok (.astore 8, 2) := by decide +kernel
set_option maxRecDepth 20000 in
theorem dX4_enter_46 : decode cX4_enter 46 = .ok (.aload 8, 2) := by decide +kernel
set_option maxRecDepth 20000 in
theorem dX4_enter_48 : decode cX4_enter 48 = .ok (.invokevirtual 75, 3) := by decide +kernel
set_option maxRecDepth 20000 in
theorem dX4_enter_51 : decode cX4_enter 51 = .ok (.ifCond .ne 53, 3) := by decide +kernel
set_option maxRecDepth 20000 in
theorem dX4_enter_54 : decode cX4_enter 54 = .ok (.aload 8, 2) := by decide +kernel
set_option maxRecDepth 20000 in
theorem dX4_enter_56 : decode cX4_enter 56 = .ok (.aload_n 0, 1) := by decide +kernel
set_option maxRecDepth 20000 in
theorem dX4_enter_57 : decode cX4_enter 57 = .ok (.getfield 34, 3) := by decide +kernel
set_option maxRecDepth 20000 in
theorem dX4_enter_60 : decode cX4_enter 60 = .ok (.putfield 79, 3) := by decide +kernel
set_option maxRecDepth 20000 in
theorem dX4_enter_63 : decode cX4_enter 63 = .ok (.aload 8, 2) := by decide +kernel
set_option maxRecDepth 20000 in
theorem dX4_enter_65 : decode cX4_enter 65 = .ok (.iload_n 1, 1) := by decide +kernel
set_option maxRecDepth 20000 in
theorem dX4_enter_66 : decode cX4_enter 66 = .ok (.putfield 86, 3) := by decide +kernel
set_option maxRecDepth 20000 in
theorem dX4_enter_69 : decode cX4_enter 69 = .ok (.aload 8, 2) := by decide +kernel
set_option maxRecDepth 20000 in
theorem dX4_enter_71 : decode cX4_enter 71 = .ok (.iload_n 2, 1) := by decide +kernel
set_option maxRecDepth 20000 in
theorem dX4_enter_72 : decode cX4_enter 72 = .ok (.putfield 89, 3) := by decide +kernel
set_option maxRecDepth 20000 in
theorem dX4_enter_75 : decode cX4_enter 75 = .ok (.aload 8, 2) := by decide +kernel
set_option maxRecDepth 20000 in
theorem dX4_enter_77 : decode cX4_enter 77 = .ok (.iload_n 3, 1) := by decide +kernel
set_option maxRecDepth 20000 in
theorem dX4_enter_78 : decode cX4_enter 78 = .ok (.putfield 92, 3) := by decide +kernel
set_option maxRecDepth 20000 in
theorem dX4_enter_81 : decode cX4_enter 81 = .ok (.aload 8, 2) := by decide +kernel
set_option maxRecDepth 20000 in
theorem dX4_enter_83 : decode cX4_enter 83 = .ok (.iload 4, 2) := by decide +kernel
set_option maxRecDepth 20000 in
theorem dX4_enter_85 : decode cX4_enter 85 = .ok (.putfield 95, 3) := by decide +kernel
set_option maxRecDepth 20000 in
theorem dX4_enter_88 : decode cX4_enter 88 = .ok (.aload_n 0, 1) := by decide +kernel
set_option maxRecDepth 20000 in
theorem dX4_enter_89 : decode cX4_enter 89 = .ok (.dup, 1) := by decide +kernel
set_option maxRecDepth 20000 in
theorem dX4_enter_90 : decode cX4_enter 90 = .ok (.getfield 34, 3) := by decide +kernel
set_option maxRecDepth 20000 in
theorem dX4_enter_93 : decode cX4_enter 93 = .ok (.iconst 1, 1) := by decide +kernel
set_option maxRecDepth 20000 in
theorem dX4_enter_94 : decode cX4_enter 94 = .ok (.iadd, 1) := by decide +kernel
set_option maxRecDepth 20000 in
theorem dX4_enter_95 : decode cX4_enter 95 = .ok (.putfield 34, 3) := by decide +kernel
set_option maxRecDepth 20000 in
theorem dX4_enter_98 : decode cX4_enter 98 = .ok (.aload 8, 2) := by decide +kernel
set_option maxRecDepth 20000 in
theorem dX4_enter_100 : decode cX4_enter 100 = .ok (.getfield 79, 3) := by decide +kernel
set_option maxRecDepth 20000 in
theorem dX4_enter_103 : decode cX4_enter 103 = .ok (.ireturn, 1) := by decide +kernel
set_option maxRecDepth 20000 in
theorem dX4_enter_104 : decode cX4_enter 104 = .ok (.iinc 7 1, 3) := by decide +kernel
set_option maxRecDepth 20000 in
theorem dX4_enter_107 : decode cX4_enter 107 = .ok (.goto (-75), 3) := by decide +kernel
set_option maxRecDepth 20000 in
theorem dX4_enter_110 : decode cX4_enter 110 = .ok (.bipush (-3), 2) := by decide +kernel
set_option maxRecDepth 20000 in
theorem dX4_enter_112 : decode cX4_enter 112 = .ok (.ireturn, 1) := by decide +kernel
set_option maxRecDepth 20000 in
theorem dX4_workerCount_0 : decode cX4_workerCount 0 = .ok (.iconst 0, 1) := by decide +kernel
set_option maxRecDepth 20000 in
theorem dX4_workerCount_1 : decode cX4_workerCount 1 = .ok (.istore_n 1, 1) := by decide +kernel
set_option maxRecDepth 20000 in
theorem dX4_workerCount_2 : decode cX4_workerCount 2 = .ok (.aload_n 0, 1) := by decide +kernel
set_option maxRecDepth 20000 in
theorem dX4_workerCount_3 : decode cX4_workerCount 3 = .ok (.getfield 30, 3) := by decide +kernel
set_option maxRecDepth 20000 in
theorem dX4_workerCount_6 : decode cX4_workerCount 6 = .ok (.astore_n 2, 1) := by decide +kernel
set_option maxRecDepth 20000 in
theorem dX4_workerCount_7 : decode cX4_workerCount 7 = .ok (.aload_n 2, 1) := by decide +kernel
set_option maxRecDepth 20000 in
theorem dX4_workerCount_8 : decode cX4_workerCount 8 = .ok (.arraylength, 1) := by decide +kernel
set_option maxRecDepth 20000 in
theorem dX4_workerCount_9 : decode cX4_workerCount 9 = .ok (.istore_n 3, 1) := by decide +kernel
set_option maxRecDepth 20000 in
theorem dX4_workerCount_10 : decode cX4_workerCount 10 = .ok (.iconst 0, 1) := by decide +kernel
set_option maxRecDepth 20000 in
theorem dX4_workerCount_11 : decode cX4_workerCount 11 = .ok (.istore 4, 2) := by decide +kernel
set_option maxRecDepth 20000 in
theorem dX4_workerCount_13 : decode cX4_workerCount 13 = .ok (.iload 4, 2) := by decide +kernel
set_option maxRecDepth 20000 in
theorem dX4_workerCount_15 : decode cX4_workerCount 15 = .ok (.iload_n 3, 1) := by decide +kernel
set_option maxRecDepth 20000 in
theorem dX4_workerCount_16 : decode cX4_workerCount 16 = .ok (.if_icmp .ge 26, 3) := by decide +kernel
set_option maxRecDepth 20000 in
theorem dX4_workerCount_19 : decode cX4_workerCount 19 = .ok (.aload_n 2, 1) := by decide +kernel
set_option maxRecDepth 20000 in
theorem dX4_workerCount_20 : decode cX4_workerCount 20 = .ok (.iload 4, 2) := by decide +kernel
set_option maxRecDepth 20000 in
theorem dX4_workerCount_22 : decode cX4_workerCount 22 = .ok (.aaload, 1) := by decide +kernel
set_option maxRecDepth 20000 in
theorem dX4_workerCount_23 : decode cX4_workerCount 23 = .ok (.astore 5, 2) := by decide +kernel
set_option maxRecDepth 20000 in
theorem dX4_workerCount_25 : decode cX4_workerCount 25 = .ok (.aload 5, 2) := by decide +kernel
set_option maxRecDepth 20000 in
theorem dX4_workerCount_27 : decode cX4_workerCount 27 = .ok (.invokevirtual 75, 3) := by decide +kernel
set_option maxRecDepth 20000 in
theorem dX4_workerCount_30 : decode cX4_workerCount 30 = .ok (.ifCond .eq 6, 3) := by decide +kernel
set_option maxRecDepth 20000 in
theorem dX4_workerCount_33 : decode cX4_workerCount 33 = .ok (.iinc 1 1, 3) := by decide +kernel
set_option maxRecDepth 20000 in
theorem dX4_workerCount_36 : decode cX4_workerCount 36 = .ok (.iinc 4 1, 3) := by decide +kernel
set_option maxRecDepth 20000 in
theorem dX4_workerCount_39 : decode cX4_workerCount 39 = .ok (.goto (-26), 3) := by decide +kernel
set_option maxRecDepth 20000 in
theorem dX4_workerCount_42 : decode cX4_workerCount 42 = .ok (.iload_n 1, 1) := by decide +kernel
set_option maxRecDepth 20000 in
theorem dX4_workerCount_43 : decode cX4_workerCount 43 = .ok (.ireturn, 1) := by decide +kernel
set_option maxRecDepth 20000 in
theorem dX4_waitingCount_0 : decode cX4_waitingCount 0 = .ok (.iconst 0, 1) := by decide +kernel
set_option maxRecDepth 20000 in
theorem dX4_waitingCount_1 : decode cX4_waitingCount 1 = .ok (.istore_n 1, 1) := by decide +kernel
set_option maxRecDepth 20000 in
theorem dX4_waitingCount_2 : decode cX4_waitingCount 2 = .ok (.aload_n 0, 1) := by decide +kernel
set_option maxRecDepth 20000 in
theorem dX4_waitingCount_3 : decode cX4_waitingCount 3 = .ok (.getfield 30, 3) := by decide +kernel
set_option maxRecDepth 20000 in
theorem dX4_waitingCount_6 : decode cX4_waitingCount 6 = .ok (.astore_n 2, 1) := by decide +kernel
set_option maxRecDepth 20000 in
theorem dX4_waitingCount_7 : decode cX4_waitingCount 7 = .ok (.aload_n 2, 1) := by decide +kernel
set_option maxRecDepth 20000 in
theorem dX4_waitingCount_8 : decode cX4_waitingCount 8 = .ok (.arraylength, 1) := by decide +kernel
set_option maxRecDepth 20000 in
theorem dX4_waitingCount_9 : decode cX4_waitingCount 9 = .ok (.istore_n 3, 1) := by decide +kernel
set_option maxRecDepth 20000 in
theorem dX4_waitingCount_10 : decode cX4_waitingCount 10 = .ok (.iconst 0, 1) := by decide +kernel
set_option maxRecDepth 20000 in
theorem dX4_waitingCount_11 : decode cX4_waitingCount 11 = .ok (.istore 4, 2) := by decide +kernel
set_option maxRecDepth 20000 in
theorem dX4_waitingCount_13 : decode cX4_waitingCount 13 = .ok (.iload 4, 2) := by decide +kernel
set_option maxRecDepth 20000 in
theorem dX4_waitingCount_15 : decode cX4_waitingCount 15 = .ok (.iload_n 3, 1) := by decide +kernel
set_option maxRecDepth 20000 in
theorem dX4_waitingCount_16 : decode cX4_waitingCount 16 = .ok (.if_icmp .ge 26, 3) := by decide +kernel
set_option maxRecDepth 20000 in
theorem dX4_waitingCount_19 : decode cX4_waitingCount 19 = .ok (.aload_n 2, 1) := by decide +kernel
set_option maxRecDepth 20000 in
theorem dX4_waitingCount_20 : decode cX4_waitingCount 20 = .ok (.iload 4, 2) := by decide +kernel
set_option maxRecDepth 20000 in
theorem dX4_waitingCount_22 : decode cX4_waitingCount 22 = .ok (.aaload, 1) := by decide +kernel
set_option maxRecDepth 20000 in
theorem dX4_waitingCount_23 : decode cX4_waitingCount 23 = .ok (.astore 5, 2) := by decide +kernel
set_option maxRecDepth 20000 in
theorem dX4_waitingCount_25 : decode cX4_waitingCount 25 = .ok (.aload 5, 2) := by decide +kernel
set_option maxRecDepth 20000 in
theorem dX4_waitingCount_27 : decode cX4_waitingCount 27 = .ok (.invokevirtual 99, 3) := by decide +kernel
set_option maxRecDepth 20000 in
theorem dX4_waitingCount_30 : decode cX4_waitingCount 30 = .ok (.ifCond .eq 6, 3) := by decide +kernel
set_option maxRecDepth 20000 in
theorem dX4_waitingCount_33 : decode cX4_waitingCount 33 = .ok (.iinc 1 1, 3) := by decide +kernel
set_option maxRecDepth 20000 in
theorem dX4_waitingCount_36 : decode cX4_waitingCount 36 = .ok (.iinc 4 1, 3) := by decide +kernel
set_option maxRecDepth 20000 in
theorem dX4_waitingCount_39 : decode cX4_waitingCount 39 = .ok (.goto (-26), 3) := by decide +kernel
set_option maxRecDepth 20000 in
theorem dX4_waitingCount_42 : decode cX4_waitingCount 42 = .ok (.iload_n 1, 1) := by decide +kernel
set_option maxRecDepth 20000 in
theorem dX4_waitingCount_43 : decode cX4_waitingCount 43 = .ok (.ireturn, 1) := by decide +kernel
set_option maxRecDepth 20000 in
theorem dX4_reason_0 : decode cX4_reason 0 = .ok (.aload_n 0, 1) := by decide +kernel
set_option maxRecDepth 20000 in
theorem dX4_reason_1 : decode cX4_reason 1 = .ok (.iload_n 2, 1) := by decide +kernel
set_option maxRecDepth 20000 in
theorem dX4_reason_2 : decode cX4_reason 2 = .ok (.invokevirtual 102, 3) := by decide +kernel
set_option maxRecDepth 20000 in
theorem dX4_reason_5 : decode cX4_reason 5 = .ok (.ifCond .ne 5, 3) := by decide +kernel
set_option maxRecDepth 20000 in
theorem dX4_reason_8 : decode cX4_reason 8 = .ok (.iconst 1, 1) := by decide +kernel
set_option maxRecDepth 20000 in
theorem dX4_reason_9 : decode cX4_reason 9 = .ok (.ireturn, 1) := by decide +kernel
set_option maxRecDepth 20000 in
theorem dX4_reason_10 : decode cX4_reason 10 = .ok (.aload_n 0, 1) := by decide +kernel
set_option maxRecDepth 20000 in
theorem dX4_reason_11 : decode cX4_reason 11 = .ok (.iload_n 1, 1) := by decide +kernel
set_option maxRecDepth 20000 in
theorem dX4_reason_12 : decode cX4_reason 12 = .ok (.iload_n 2, 1) := by decide +kernel
set_option maxRecDepth 20000 in
theorem dX4_reason_13 : decode cX4_reason 13 = .ok (.invokevirtual 106, 3) := by decide +kernel
set_option maxRecDepth 20000 in
theorem dX4_reason_16 : decode cX4_reason 16 = .ok (.istore 5, 2) := by decide +kernel
set_option maxRecDepth 20000 in
theorem dX4_reason_18 : decode cX4_reason 18 = .ok (.aload_n 0, 1) := by decide +kernel
set_option maxRecDepth 20000 in
theorem dX4_reason_19 : decode cX4_reason 19 = .ok (.iload_n 1, 1) := by decide +kernel
set_option maxRecDepth 20000 in
theorem dX4_reason_20 : decode cX4_reason 20 = .ok (.iload_n 2, 1) := by decide +kernel
set_option maxRecDepth 20000 in
theorem dX4_reason_21 : decode cX4_reason 21 = .ok (.iload 5, 2) := by decide +kernel
set_option maxRecDepth 20000 in
theorem dX4_reason_23 : decode cX4_reason 23 = .ok (.iconst 1, 1) := by decide +kernel
set_option maxRecDepth 20000 in
theorem dX4_reason_24 : decode cX4_reason 24 = .ok (.aload 4, 2) := by decide +kernel
set_option maxRecDepth 20000 in
theorem dX4_reason_26 : decode cX4_reason 26 = .ok (.invokevirtual 110, 3) := by decide +kernel
set_option maxRecDepth 20000 in
theorem dX4_reason_29 : decode cX4_reason 29 = .ok (.aload_n 0, 1) := by decide +kernel
set_option maxRecDepth 20000 in
theorem dX4_reason_30 : decode cX4_reason 30 = .ok (.iconst 1, 1) := by decide +kernel
set_option maxRecDepth 20000 in
theorem dX4_reason_31 : decode cX4_reason 31 = .ok (.invokevirtual 114, 3) := by decide +kernel
set_option maxRecDepth 20000 in
theorem dX4_reason_34 : decode cX4_reason 34 = .ok (.if_icmp .lt 5, 3) := by decide +kernel
set_option maxRecDepth 20000 in
theorem dX4_reason_37 : decode cX4_reason 37 = .ok (.iconst 2, 1) := by decide +kernel
set_option maxRecDepth 20000 in
theorem dX4_reason_38 : decode cX4_reason 38 = .ok (.ireturn, 1) := by decide +kernel
set_option maxRecDepth 20000 in
theorem dX4_reason_39 : decode cX4_reason 39 = .ok (.aload_n 0, 1) := by decide +kernel
set_option maxRecDepth 20000 in
theorem dX4_reason_40 : decode cX4_reason 40 = .ok (.iload_n 2, 1) := by decide +kernel
set_option maxRecDepth 20000 in
theorem dX4_reason_41 : decode cX4_reason 41 = .ok (.iload_n 3, 1) := by decide +kernel
set_option maxRecDepth 20000 in
theorem dX4_reason_42 : decode cX4_reason 42 = .ok (.aload_n 0, 1) := by decide +kernel
set_option maxRecDepth 20000 in
theorem dX4_reason_43 : decode cX4_reason 43 = .ok (.iload_n 2, 1) := by decide +kernel
set_option maxRecDepth 20000 in
theorem dX4_reason_44 : decode cX4_reason 44 = .ok (.iload 5, 2) := by decide +kernel
set_option maxRecDepth 20000 in
theorem dX4_reason_46 : decode cX4_reason 46 = .ok (.invokevirtual 117, 3) := by decide +kernel
set_option maxRecDepth 20000 in
theorem dX4_reason_49 : decode cX4_reason 49 = .ok (.invokevirtual 120, 3) := by decide +kernel
set_option maxRecDepth 20000 in
theorem dX4_reason_52 : decode cX4_reason 52 = .ok (.ifCond .eq 7, 3) := by decide +kernel
set_option maxRecDepth 20000 in
theorem dX4_reason_55 : decode cX4_reason 55 = .ok (.iconst 0, 1) := by decide +kernel
set_option maxRecDepth 20000 in
theorem dX4_reason_56 : decode cX4_reason 56 = .ok (.goto 4, 3) := by decide +kernel
set_option maxRecDepth 20000 in
theorem dX4_reason_59 : decode cX4_reason 59 = .ok (.iconst 3, 1) := by decide +kernel
set_option maxRecDepth 20000 in
theorem dX4_reason_60 : decode cX4_reason 60 = .ok (.ireturn, 1) := by decide +kernel
set_option maxRecDepth 20000 in
theorem dX4_lookAtWaiting_0 : decode cX4_lookAtWaiting 0 = .ok (.aconst_null, 1) := by decide +kernel
set_option maxRecDepth 20000 in
theorem dX4_lookAtWaiting_1 : decode cX4_lookAtWaiting 1 = .ok (.astore_n 1, 1) := by decide +kernel
set_option maxRecDepth 20000 in
theorem dX4_lookAtWaiting_2 : decode cX4_lookAtWaiting 2 = .ok (.iconst 0, 1) := by decide +kernel
set_option maxRecDepth 20000 in
theorem dX4_lookAtWaiting_3 : decode cX4_lookAtWaiting 3 = .ok (.istore_n 2, 1) := by decide +kernel
set_option maxRecDepth 20000 in
theorem dX4_lookAtWaiting_4 : decode cX4_lookAtWaiting 4 = .ok (.iload_n 2, 1) := by decide +kernel
set_option maxRecDepth 20000 in
theorem dX4_lookAtWaiting_5 : decode cX4_lookAtWaiting 5 = .ok (.aload_n 0, 1) := by decide +kernel
set_option maxRecDepth 20000 in
theorem dX4_lookAtWaiting_6 : decode cX4_lookAtWaiting 6 = .ok (.getfield 30, 3) := by decide +kernel
set_option maxRecDepth 20000 in
theorem dX4_lookAtWaiting_9 : decode cX4_lookAtWaiting 9 = .ok (.arraylength, 1) := by decide +kernel
set_option maxRecDepth 20000 in
theorem dX4_lookAtWaiting_10 : decode cX4_lookAtWaiting 10 = .ok (.if_icmp .ge 47, 3) := by decide +kernel
set_option maxRecDepth 20000 in
theorem dX4_lookAtWaiting_13 : decode cX4_lookAtWaiting 13 = .ok (.aload_n 0, 1) := by decide +kernel
set_option maxRecDepth 20000 in
theorem dX4_lookAtWaiting_14 : decode cX4_lookAtWaiting 14 = .ok (.aload_n 1, 1) := by decide +kernel
set_option maxRecDepth 20000 in
theorem dX4_lookAtWaiting_15 : decode cX4_lookAtWaiting 15 = .ok (.invokevirtual 124, 3) := by decide +kernel
set_option maxRecDepth 20000 in
theorem dX4_lookAtWaiting_18 : decode cX4_lookAtWaiting 18 = .ok (.astore_n 3, 1) := by decide +kernel
set_option maxRecDepth 20000 in
theorem dX4_lookAtWaiting_19 : decode cX4_lookAtWaiting 19 = .ok (.aload_n 3, 1) := by decide +kernel
set_option maxRecDepth 20000 in
theorem dX4_lookAtWaiting_20 : decode cX4_lookAtWaiting 20 = .ok (.ifnonnull 4, 3) := by decide +kernel
set_option maxRecDepth 20000 in
theorem dX4_lookAtWaiting_23 : decode cX4_lookAtWaiting 23 = .ok (.return_, 1) := by decide +kernel
set_option maxRecDepth 20000 in
theorem dX4_lookAtWaiting_24 : decode cX4_lookAtWaiting 24 = .ok (.aload_n 0, 1) := by decide +kernel
set_option maxRecDepth 20000 in
theorem dX4_lookAtWaiting_25 : decode cX4_lookAtWaiting 25 = .ok (.aload_n 3, 1) := by decide +kernel
set_option maxRecDepth 20000 in
theorem dX4_lookAtWaiting_26 : decode cX4_lookAtWaiting 26 = .ok (.getfield 89, 3) := by decide +kernel
set_option maxRecDepth 20000 in
theorem dX4_lookAtWaiting_29 : decode cX4_lookAtWaiting 29 = .ok (.aload_n 3, 1) := by decide +kernel
set_option maxRecDepth 20000 in
theorem dX4_lookAtWaiting_30 : decode cX4_lookAtWaiting 30 = .ok (.getfield 86, 3) := by decide +kernel
set_option maxRecDepth 20000 in
theorem dX4_lookAtWaiting_33 : decode cX4_lookAtWaiting 33 = .ok (.aload_n 3, 1) := by decide +kernel
set_option maxRecDepth 20000 in
theorem dX4_lookAtWaiting_34 : decode cX4_lookAtWaiting 34 = .ok (.getfield 92, 3) := by decide +kernel
set_option maxRecDepth 20000 in
theorem dX4_lookAtWaiting_37 : decode cX4_lookAtWaiting 37 = .ok (.aconst_null, 1) := by decide +kernel
set_option maxRecDepth 20000 in
theorem dX4_lookAtWaiting_38 : decode cX4_lookAtWaiting 38 = .ok (.invokevirtual 82, 3) := by decide +kernel
set_option maxRecDepth 20000 in
theorem dX4_lookAtWaiting_41 : decode cX4_lookAtWaiting 41 = .ok (.ifCond .ne 8, 3) := by decide +kernel
set_option maxRecDepth 20000 in
theorem dX4_lookAtWaiting_44 : decode cX4_lookAtWaiting 44 = .ok (.aload_n 3, 1) := by decide +kernel
set_option maxRecDepth 20000 in
theorem dX4_lookAtWaiting_45 : decode cX4_lookAtWaiting 45 = .ok (.iconst 1, 1) := by decide +kernel
set_option maxRecDepth 20000 in
theorem dX4_lookAtWaiting_46 : decode cX4_lookAtWaiting 46 = .ok (.putfield 95, 3) := by decide +kernel
set_option maxRecDepth 20000 in
theorem dX4_lookAtWaiting_49 : decode cX4_lookAtWaiting 49 = .ok (.aload_n 3, 1) := by decide +kernel
set_option maxRecDepth 20000 in
theorem dX4_lookAtWaiting_50 : decode cX4_lookAtWaiting 50 = .ok (.astore_n 1, 1) := by decide +kernel
set_option maxRecDepth 20000 in
theorem dX4_lookAtWaiting_51 : decode cX4_lookAtWaiting 51 = .ok (.iinc 2 1, 3) := by decide +kernel
set_option maxRecDepth 20000 in
theorem dX4_lookAtWaiting_54 : decode cX4_lookAtWaiting 54 = .ok (.goto (-50), 3) := by decide +kernel
set_option maxRecDepth 20000 in
theorem dX4_lookAtWaiting_57 : decode cX4_lookAtWaiting 57 = .ok (.return_, 1) := by decide +kernel
set_option maxRecDepth 20000 in
theorem dX4_nextWaiting_0 : decode cX4_nextWaiting 0 = .ok (.aconst_null, 1) := by decide +kernel
set_option maxRecDepth 20000 in
theorem dX4_nextWaiting_1 : decode cX4_nextWaiting 1 = .ok (.astore_n 2, 1) := by decide +kernel
set_option maxRecDepth 20000 in
theorem dX4_nextWaiting_2 : decode cX4_nextWaiting 2 = .ok (.aload_n 0, 1) := by decide +kernel
set_option maxRecDepth 20000 in
theorem dX4_nextWaiting_3 : decode cX4_nextWaiting 3 = .ok (.getfield 30, 3) := by decide +kernel
set_option maxRecDepth 20000 in
theorem dX4_nextWaiting_6 : decode cX4_nextWaiting 6 = .ok (.astore_n 3, 1) := by decide +kernel
set_option maxRecDepth 20000 in
theorem dX4_nextWaiting_7 : decode cX4_nextWaiting 7 = .ok (.aload_n 3, 1) := by decide +kernel
set_option maxRecDepth 20000 in
theorem dX4_nextWaiting_8 : decode cX4_nextWaiting 8 = .ok (.arraylength, 1) := by decide +kernel
set_option maxRecDepth 20000 in
theorem dX4_nextWaiting_9 : decode cX4_nextWaiting 9 = .ok (.istore 4, 2) := by decide +kernel
set_option maxRecDepth 20000 in
theorem dX4_nextWaiting_11 : decode cX4_nextWaiting 11 = .ok (.iconst 0, 1) := by decide +kernel
set_option maxRecDepth 20000 in
theorem dX4_nextWaiting_12 : decode cX4_nextWaiting 12 = .ok (.istore 5, 2) := by decide +kernel
set_option maxRecDepth 20000 in
theorem dX4_nextWaiting_14 : decode cX4_nextWaiting 14 = .ok (.iload 5, 2) := by decide +kernel
set_option maxRecDepth 20000 in
theorem dX4_nextWaiting_16 : decode cX4_nextWaiting 16 = .ok (.iload 4, 2) := by decide +kernel
set_option maxRecDepth 20000 in
theorem dX4_nextWaiting_18 : decode cX4_nextWaiting 18 = .ok (.if_icmp .ge 54, 3) := by decide +kernel
set_option maxRecDepth 20000 in
theorem dX4_nextWaiting_21 : decode cX4_nextWaiting 21 = .ok (.aload_n 3, 1) := by decide +kernel
set_option maxRecDepth 20000 in
theorem dX4_nextWaiting_22 : decode cX4_nextWaiting 22 = .ok (.iload 5, 2) := by decide +kernel
set_option maxRecDepth 20000 in
theorem dX4_nextWaiting_24 : decode cX4_nextWaiting 24 = .ok (.aaload, 1) := by decide +kernel
set_option maxRecDepth 20000 in
theorem dX4_nextWaiting_25 : decode cX4_nextWaiting 25 = .ok (.astore 6, 2) := by decide +kernel
set_option maxRecDepth 20000 in
theorem dX4_nextWaiting_27 : decode cX4_nextWaiting 27 = .ok (.aload 6, 2) := by decide +kernel
set_option maxRecDepth 20000 in
theorem dX4_nextWaiting_29 : decode cX4_nextWaiting 29 = .ok (.invokevirtual 99, 3) := by decide +kernel
set_option maxRecDepth 20000 in
theorem dX4_nextWaiting_32 : decode cX4_nextWaiting 32 = .ok (.ifCond .eq 34, 3) := by decide +kernel
set_option maxRecDepth 20000 in
theorem dX4_nextWaiting_35 : decode cX4_nextWaiting 35 = .ok (.aload_n 1, 1) := by decide +kernel
set_option maxRecDepth 20000 in
theorem dX4_nextWaiting_36 : decode cX4_nextWaiting 36 = .ok (.ifnull 13, 3) := by decide +kernel
set_option maxRecDepth 20000 in
theorem dX4_nextWaiting_39 : decode cX4_nextWaiting 39 = .ok (.aload_n 0, 1) := by decide +kernel
set_option maxRecDepth 20000 in
theorem dX4_nextWaiting_40 : decode cX4_nextWaiting 40 = .ok (.aload_n 1, 1) := by decide +kernel
set_option maxRecDepth 20000 in
theorem dX4_nextWaiting_41 : decode cX4_nextWaiting 41 = .ok (.aload 6, 2) := by decide +kernel
set_option maxRecDepth 20000 in
theorem dX4_nextWaiting_43 : decode cX4_nextWaiting 43 = .ok (.invokevirtual 128, 3) := by decide +kernel
set_option maxRecDepth 20000 in
theorem dX4_nextWaiting_46 : decode cX4_nextWaiting 46 = .ok (.ifCond .eq 20, 3) := by decide +kernel
set_option maxRecDepth 20000 in
theorem dX4_nextWaiting_49 : decode cX4_nextWaiting 49 = .ok (.aload_n 2, 1) := by decide +kernel
set_option maxRecDepth 20000 in
theorem dX4_nextWaiting_50 : decode cX4_nextWaiting 50 = .ok (.ifnull 13, 3) := by decide +kernel
set_option maxRecDepth 20000 in
theorem dX4_nextWaiting_53 : decode cX4_nextWaiting 53 = .ok (.aload_n 0, 1) := by decide +kernel
set_option maxRecDepth 20000 in
theorem dX4_nextWaiting_54 : decode cX4_nextWaiting 54 = .ok (.aload 6, 2) := by decide +kernel
set_option maxRecDepth 20000 in
theorem dX4_nextWaiting_56 : decode cX4_nextWaiting 56 = .ok (.aload_n 2, 1) := by decide +kernel
set_option maxRecDepth 20000 in
theorem dX4_nextWaiting_57 : decode cX4_nextWaiting 57 = .ok (.invokevirtual 128, 3) := by decide +kernel
set_option maxRecDepth 20000 in
theorem dX4_nextWaiting_60 : decode cX4_nextWaiting 60 = .ok (.ifCond .eq 6, 3) := by decide +kernel
set_option maxRecDepth 20000 in
theorem dX4_nextWaiting_63 : decode cX4_nextWaiting 63 = .ok (.aload 6, 2) := by decide +kernel
set_option maxRecDepth 20000 in
theorem dX4_nextWaiting_65 : decode cX4_nextWaiting 65 = .ok (.astore_n 2, 1) := by decide +kernel
set_option maxRecDepth 20000 in
theorem dX4_nextWaiting_66 : decode cX4_nextWaiting 66 = .ok (.iinc 5 1, 3) := by decide +kernel
set_option maxRecDepth 20000 in
theorem dX4_nextWaiting_69 : decode cX4_nextWaiting 69 = .ok (.goto (-55), 3) := by decide +kernel
set_option maxRecDepth 20000 in
theorem dX4_nextWaiting_72 : decode cX4_nextWaiting 72 = .ok (.aload_n 2, 1) := by decide +kernel
set_option maxRecDepth 20000 in
theorem dX4_nextWaiting_73 : decode cX4_nextWaiting 73 = .ok (.areturn, 1) := by decide +kernel
set_option maxRecDepth 20000 in
theorem dX4_isLookedAtAheadOf_0 : decode cX4_isLookedAtAheadOf 0 = .ok (.aload_n 1, 1) := by decide +kernel
set_option maxRecDepth 20000 in
theorem dX4_isLookedAtAheadOf_1 : decode cX4_isLookedAtAheadOf 1 = .ok (.getfield 86, 3) := by decide +kernel
set_option maxRecDepth 20000 in
theorem dX4_isLookedAtAheadOf_4 : decode cX4_isLookedAtAheadOf 4 = .ok (.aload_n 2, 1) := by decide +kernel
set_option maxRecDepth 20000 in
theorem dX4_isLookedAtAheadOf_5 : decode cX4_isLookedAtAheadOf 5 = .ok (.getfield 86, 3) := by decide +kernel
set_option maxRecDepth 20000 in
theorem dX4_isLookedAtAheadOf_8 : decode cX4_isLookedAtAheadOf 8 = .ok (.if_icmp .eq 16, 3) := by decide +kernel
set_option maxRecDepth 20000 in
theorem dX4_isLookedAtAheadOf_11 : decode cX4_isLookedAtAheadOf 11 = .ok (.aload_n 0, 1) := by decide +kernel
set_option maxRecDepth 20000 in
theorem dX4_isLookedAtAheadOf_12 : decode cX4_isLookedAtAheadOf 12 = .ok (.aload_n 1, 1) := by decide +kernel
set_option maxRecDepth 20000 in
theorem dX4_isLookedAtAheadOf_13 : decode cX4_isLookedAtAheadOf 13 = .ok (.getfield 86, 3) := by decide +kernel
set_option maxRecDepth 20000 in
theorem dX4_isLookedAtAheadOf_16 : decode cX4_isLookedAtAheadOf 16 = .ok (.aload_n 2, 1) := by decide +kernel
set_option maxRecDepth 20000 in
theorem dX4_isLookedAtAheadOf_17 : decode cX4_isLookedAtAheadOf 17 = .ok (.getfield 86, 3) := by decide +kernel
set_option maxRecDepth 20000 in
theorem dX4_isLookedAtAheadOf_20 : decode cX4_isLookedAtAheadOf 20 = .ok (.invokevirtual 71, 3) := by decide +kernel
set_option maxRecDepth 20000 in
theorem dX4_isLookedAtAheadOf_23 : decode cX4_isLookedAtAheadOf 23 = .ok (.ireturn, 1) := by decide +kernel
set_option maxRecDepth 20000 in
theorem dX4_isLookedAtAheadOf_24 : decode cX4_isLookedAtAheadOf 24 = .ok (.aload_n 1, 1) := by decide +kernel
set_option maxRecDepth 20000 in
theorem dX4_isLookedAtAheadOf_25 : decode cX4_isLookedAtAheadOf 25 = .ok (.getfield 89, 3) := by decide +kernel
set_option maxRecDepth 20000 in
theorem dX4_isLookedAtAheadOf_28 : decode cX4_isLookedAtAheadOf 28 = .ok (.aload_n 2, 1) := by decide +kernel
set_option maxRecDepth 20000 in
theorem dX4_isLookedAtAheadOf_29 : decode cX4_isLookedAtAheadOf 29 = .ok (.getfield 89, 3) := by decide +kernel
set_option maxRecDepth 20000 in
theorem dX4_isLookedAtAheadOf_32 : decode cX4_isLookedAtAheadOf 32 = .ok (.if_icmp .eq 20, 3) := by decide +kernel
set_option maxRecDepth 20000 in
theorem dX4_isLookedAtAheadOf_35 : decode cX4_isLookedAtAheadOf 35 = .ok (.aload_n 1, 1) := by decide +kernel
set_option maxRecDepth 20000 in
theorem dX4_isLookedAtAheadOf_36 : decode cX4_isLookedAtAheadOf 36 = .ok (.getfield 89, 3) := by decide +kernel
set_option maxRecDepth 20000 in
theorem dX4_isLookedAtAheadOf_39 : decode cX4_isLookedAtAheadOf 39 = .ok (.aload_n 2, 1) := by decide +kernel
set_option maxRecDepth 20000 in
theorem dX4_isLookedAtAheadOf_40 : decode cX4_isLookedAtAheadOf 40 = .ok (.getfield 89, 3) := by decide +kernel
set_option maxRecDepth 20000 in
theorem dX4_isLookedAtAheadOf_43 : decode cX4_isLookedAtAheadOf 43 = .ok (.if_icmp .ge 7, 3) := by decide +kernel
set_option maxRecDepth 20000 in
theorem dX4_isLookedAtAheadOf_46 : decode cX4_isLookedAtAheadOf 46 = .ok (.iconst 1, 1) := by decide +kernel
set_option maxRecDepth 20000 in
theorem dX4_isLookedAtAheadOf_47 : decode cX4_isLookedAtAheadOf 47 = .ok (.goto 4, 3) := by decide +kernel
set_option maxRecDepth 20000 in
theorem dX4_isLookedAtAheadOf_50 : decode cX4_isLookedAtAheadOf 50 = .ok (.iconst 0, 1) := by decide +kernel
set_option maxRecDepth 20000 in
theorem dX4_isLookedAtAheadOf_51 : decode cX4_isLookedAtAheadOf 51 = .ok (.ireturn, 1) := by decide +kernel
set_option maxRecDepth 20000 in
theorem dX4_isLookedAtAheadOf_52 : decode cX4_isLookedAtAheadOf 52 = .ok (.aload_n 1, 1) := by decide +kernel
set_option maxRecDepth 20000 in
theorem dX4_isLookedAtAheadOf_53 : decode cX4_isLookedAtAheadOf 53 = .ok (.getfield 92, 3) := by decide +kernel
set_option maxRecDepth 20000 in
theorem dX4_isLookedAtAheadOf_56 : decode cX4_isLookedAtAheadOf 56 = .ok (.aload_n 2, 1) := by decide +kernel
set_option maxRecDepth 20000 in
theorem dX4_isLookedAtAheadOf_57 : decode cX4_isLookedAtAheadOf 57 = .ok (.getfield 92, 3) := by decide +kernel
set_option maxRecDepth 20000 in
theorem dX4_isLookedAtAheadOf_60 : decode cX4_isLookedAtAheadOf 60 = .ok (.if_icmp .eq 22, 3) := by decide +kernel
set_option maxRecDepth 20000 in
theorem dX4_isLookedAtAheadOf_63 : decode cX4_isLookedAtAheadOf 63 = .ok (.aload_n 1, 1) := by decide +kernel
set_option maxRecDepth 20000 in
theorem dX4_isLookedAtAheadOf_64 : decode cX4_isLookedAtAheadOf 64 = .ok (.getfield 92, 3) := by decide +kernel
set_option maxRecDepth 20000 in
theorem dX4_isLookedAtAheadOf_67 : decode cX4_isLookedAtAheadOf 67 = .ok (.aload_n 2, 1) := by decide +kernel
set_option maxRecDepth 20000 in
theorem dX4_isLookedAtAheadOf_68 : decode cX4_isLookedAtAheadOf 68 = .ok (.getfield 92, 3) := by decide +kernel
set_option maxRecDepth 20000 in
theorem dX4_isLookedAtAheadOf_71 : decode cX4_isLookedAtAheadOf 71 = .ok (.if_icmp .ge 7, 3) := by decide +kernel
set_option maxRecDepth 20000 in
theorem dX4_isLookedAtAheadOf_74 : decode cX4_isLookedAtAheadOf 74 = .ok (.iconst 1, 1) := by decide +kernel
set_option maxRecDepth 20000 in
theorem dX4_isLookedAtAheadOf_75 : decode cX4_isLookedAtAheadOf 75 = .ok (.goto 23, 3) := by decide +kernel
set_option maxRecDepth 20000 in
theorem dX4_isLookedAtAheadOf_78 : decode cX4_isLookedAtAheadOf 78 = .ok (.iconst 0, 1) := by decide +kernel
set_option maxRecDepth 20000 in
theorem dX4_isLookedAtAheadOf_79 : decode cX4_isLookedAtAheadOf 79 = .ok (.goto 19, 3) := by decide +kernel
set_option maxRecDepth 20000 in
theorem dX4_isLookedAtAheadOf_82 : decode cX4_isLookedAtAheadOf 82 = .ok (.aload_n 1, 1) := by decide +kernel
set_option maxRecDepth 20000 in
theorem dX4_isLookedAtAheadOf_83 : decode cX4_isLookedAtAheadOf 83 = .ok (.getfield 79, 3) := by decide +kernel
set_option maxRecDepth 20000 in
theorem dX4_isLookedAtAheadOf_86 : decode cX4_isLookedAtAheadOf 86 = .ok (.aload_n 2, 1) := by decide +kernel
set_option maxRecDepth 20000 in
theorem dX4_isLookedAtAheadOf_87 : decode cX4_isLookedAtAheadOf 87 = .ok (.getfield 79, 3) := by decide +kernel
set_option maxRecDepth 20000 in
theorem dX4_isLookedAtAheadOf_90 : decode cX4_isLookedAtAheadOf 90 = .ok (.if_icmp .ge 7, 3) := by decide +kernel
set_option maxRecDepth 20000 in
theorem dX4_isLookedAtAheadOf_93 : decode cX4_isLookedAtAheadOf 93 = .ok (.iconst 1, 1) := by decide +kernel
set_option maxRecDepth 20000 in
theorem dX4_isLookedAtAheadOf_94 : decode cX4_isLookedAtAheadOf 94 = .ok (.goto 4, 3) := by decide +kernel
set_option maxRecDepth 20000 in
theorem dX4_isLookedAtAheadOf_97 : decode cX4_isLookedAtAheadOf 97 = .ok (.iconst 0, 1) := by decide +kernel
set_option maxRecDepth 20000 in
theorem dX4_isLookedAtAheadOf_98 : decode cX4_isLookedAtAheadOf 98 = .ok (.ireturn, 1) := by decide +kernel
set_option maxRecDepth 20000 in
theorem dX4_busIndex_0 : decode cX4_busIndex 0 = .ok (.iload_n 0, 1) := by decide +kernel
set_option maxRecDepth 20000 in
theorem dX4_busIndex_1 : decode cX4_busIndex 1 = .ok (.invokestatic 132, 3) := by decide +kernel
set_option maxRecDepth 20000 in
theorem dX4_busIndex_4 : decode cX4_busIndex 4 = .ok (.ifCond .eq 22, 3) := by decide +kernel
set_option maxRecDepth 20000 in
theorem dX4_busIndex_7 : decode cX4_busIndex 7 = .ok (.iload_n 1, 1) := by decide +kernel
set_option maxRecDepth 20000 in
theorem dX4_busIndex_8 : decode cX4_busIndex 8 = .ok (.ifCond .lt 18, 3) := by decide +kernel
set_option maxRecDepth 20000 in
theorem dX4_busIndex_11 : decode cX4_busIndex 11 = .ok (.iload_n 1, 1) := by decide +kernel
set_option maxRecDepth 20000 in
theorem dX4_busIndex_12 : decode cX4_busIndex 12 = .ok (.bipush 10, 2) := by decide +kernel
set_option maxRecDepth 20000 in
theorem dX4_busIndex_14 : decode cX4_busIndex 14 = .ok (.if_icmp .ge 12, 3) := by decide +kernel
set_option maxRecDepth 20000 in
theorem dX4_busIndex_17 : decode cX4_busIndex 17 = .ok (.iload_n 0, 1) := by decide +kernel
set_option maxRecDepth 20000 in
theorem dX4_busIndex_18 : decode cX4_busIndex 18 = .ok (.bipush 10, 2) := by decide +kernel
set_option maxRecDepth 20000 in
theorem dX4_busIndex_20 : decode cX4_busIndex 20 = .ok (.imul, 1) := by decide +kernel
set_option maxRecDepth 20000 in
theorem dX4_busIndex_21 : decode cX4_busIndex 21 = .ok (.iload_n 1, 1) := by decide +kernel
set_option maxRecDepth 20000 in
theorem dX4_busIndex_22 : decode cX4_busIndex 22 = .ok (.iadd, 1) := by decide +kernel
set_option maxRecDepth 20000 in
theorem dX4_busIndex_23 : decode cX4_busIndex 23 = .ok (.goto 4, 3) := by decide +kernel
set_option maxRecDepth 20000 in
theorem dX4_busIndex_26 : decode cX4_busIndex 26 = .ok (.iconst (-1), 1) := by decide +kernel
set_option maxRecDepth 20000 in
theorem dX4_busIndex_27 : decode cX4_busIndex 27 = .ok (.ireturn, 1) := by decide +kernel
set_option maxRecDepth 20000 in
theorem dX4_partnerOf_0 : decode cX4_partnerOf 0 = .ok (.iload_n 1, 1) := by decide +kernel
set_option maxRecDepth 20000 in
theorem dX4_partnerOf_1 : decode cX4_partnerOf 1 = .ok (.iload_n 2, 1) := by decide +kernel
set_option maxRecDepth 20000 in
theorem dX4_partnerOf_2 : decode cX4_partnerOf 2 = .ok (.invokestatic 135, 3) := by decide +kernel
set_option maxRecDepth 20000 in
theorem dX4_partnerOf_5 : decode cX4_partnerOf 5 = .ok (.istore_n 3, 1) := by decide +kernel
set_option maxRecDepth 20000 in
theorem dX4_partnerOf_6 : decode cX4_partnerOf 6 = .ok (.iload_n 3, 1) := by decide +kernel
set_option maxRecDepth 20000 in
theorem dX4_partnerOf_7 : decode cX4_partnerOf 7 = .ok (.ifCond .lt 21, 3) := by decide +kernel
set_option maxRecDepth 20000 in
theorem dX4_partnerOf_10 : decode cX4_partnerOf 10 = .ok (.iload_n 3, 1) := by decide +kernel
set_option maxRecDepth 20000 in
theorem dX4_partnerOf_11 : decode cX4_partnerOf 11 = .ok (.aload_n 0, 1) := by decide +kernel
set_option maxRecDepth 20000 in
theorem dX4_partnerOf_12 : decode cX4_partnerOf 12 = .ok (.getfield 19, 3) := by decide +kernel
set_option maxRecDepth 20000 in
theorem dX4_partnerOf_15 : decode cX4_partnerOf 15 = .ok (.arraylength, 1) := by decide +kernel
set_option maxRecDepth 20000 in
theorem dX4_partnerOf_16 : decode cX4_partnerOf 16 = .ok (.if_icmp .ge 12, 3) := by decide +kernel
set_option maxRecDepth 20000 in
theorem dX4_partnerOf_19 : decode cX4_partnerOf 19 = .ok (.aload_n 0, 1) := by decide +kernel
set_option maxRecDepth 20000 in
theorem dX4_partnerOf_20 : decode cX4_partnerOf 20 = .ok (.getfield 19, 3) := by decide +kernel
set_option maxRecDepth 20000 in
theorem dX4_partnerOf_23 : decode cX4_partnerOf 23 = .ok (.iload_n 3, 1) := by decide +kernel
set_option maxRecDepth 20000 in
theorem dX4_partnerOf_24 : decode cX4_partnerOf 24 = .ok (.iaload, 1) := by decide +kernel
set_option maxRecDepth 20000 in
theorem dX4_partnerOf_25 : decode cX4_partnerOf 25 = .ok (.goto 5, 3) := by decide +kernel
set_option maxRecDepth 20000 in
theorem dX4_partnerOf_28 : decode cX4_partnerOf 28 = .ok (.bipush (-5), 2) := by decide +kernel
set_option maxRecDepth 20000 in
theorem dX4_partnerOf_30 : decode cX4_partnerOf 30 = .ok (.ireturn, 1) := by decide +kernel
set_option maxRecDepth 20000 in
theorem dX4_tie_0 : decode cX4_tie 0 = .ok (.iload_n 1, 1) := by decide +kernel
set_option maxRecDepth 20000 in
theorem dX4_tie_1 : decode cX4_tie 1 = .ok (.iload_n 2, 1) := by decide +kernel
set_option maxRecDepth 20000 in
theorem dX4_tie_2 : decode cX4_tie 2 = .ok (.invokestatic 135, 3) := by decide +kernel
set_option maxRecDepth 20000 in
theorem dX4_tie_5 : decode cX4_tie 5 = .ok (.istore 4, 2) := by decide +kernel
set_option maxRecDepth 20000 in
theorem dX4_tie_7 : decode cX4_tie 7 = .ok (.iload 4, 2) := by decide +kernel
set_option maxRecDepth 20000 in
theorem dX4_tie_9 : decode cX4_tie 9 = .ok (.ifCond .lt 21, 3) := by decide +kernel
set_option maxRecDepth 20000 in
theorem dX4_tie_12 : decode cX4_tie 12 = .ok (.iload 4, 2) := by decide +kernel
set_option maxRecDepth 20000 in
theorem dX4_tie_14 : decode cX4_tie 14 = .ok (.aload_n 0, 1) := by decide +kernel
set_option maxRecDepth 20000 in
theorem dX4_tie_15 : decode cX4_tie 15 = .ok (.getfield 19, 3) := by decide +kernel
set_option maxRecDepth 20000 in
theorem dX4_tie_18 : decode cX4_tie 18 = .ok (.arraylength, 1) := by decide +kernel
set_option maxRecDepth 20000 in
theorem dX4_tie_19 : decode cX4_tie 19 = .ok (.if_icmp .ge 11, 3) := by decide +kernel
set_option maxRecDepth 20000 in
theorem dX4_tie_22 : decode cX4_tie 22 = .ok (.aload_n 0, 1) := by decide +kernel
set_option maxRecDepth 20000 in
theorem dX4_tie_23 : decode cX4_tie 23 = .ok (.getfield 19, 3) := by decide +kernel
set_option maxRecDepth 20000 in
theorem dX4_tie_26 : decode cX4_tie 26 = .ok (.iload 4, 2) := by decide +kernel
set_option maxRecDepth 20000 in
theorem dX4_tie_28 : decode cX4_tie 28 = .ok (.iload_n 3, 1) := by decide +kernel
set_option maxRecDepth 20000 in
theorem dX4_tie_29 : decode cX4_tie 29 = .ok (.iastore, 1) := by decide +kernel
set_option maxRecDepth 20000 in
theorem dX4_tie_30 : decode cX4_tie 30 = .ok (.return_, 1) := by decide +kernel
set_option maxRecDepth 20000 in
theorem dX4_pairCount_0 : decode cX4_pairCount 0 = .ok (.iconst 0, 1) := by decide +kernel
set_option maxRecDepth 20000 in
theorem dX4_pairCount_1 : decode cX4_pairCount 1 = .ok (.istore_n 1, 1) := by decide +kernel
set_option maxRecDepth 20000 in
theorem dX4_pairCount_2 : decode cX4_pairCount 2 = .ok (.aload_n 0, 1) := by decide +kernel
set_option maxRecDepth 20000 in
theorem dX4_pairCount_3 : decode cX4_pairCount 3 = .ok (.getfield 19, 3) := by decide +kernel
set_option maxRecDepth 20000 in
theorem dX4_pairCount_6 : decode cX4_pairCount 6 = .ok (.astore_n 2, 1) := by decide +kernel
set_option maxRecDepth 20000 in
theorem dX4_pairCount_7 : decode cX4_pairCount 7 = .ok (.aload_n 2, 1) := by decide +kernel
set_option maxRecDepth 20000 in
theorem dX4_pairCount_8 : decode cX4_pairCount 8 = .ok (.arraylength, 1) := by decide +kernel
set_option maxRecDepth 20000 in
theorem dX4_pairCount_9 : decode cX4_pairCount 9 = .ok (.istore_n 3, 1) := by decide +kernel
set_option maxRecDepth 20000 in
theorem dX4_pairCount_10 : decode cX4_pairCount 10 = .ok (.iconst 0, 1) := by decide +kernel
set_option maxRecDepth 20000 in
theorem dX4_pairCount_11 : decode cX4_pairCount 11 = .ok (.istore 4, 2) := by decide +kernel
set_option maxRecDepth 20000 in
theorem dX4_pairCount_13 : decode cX4_pairCount 13 = .ok (.iload 4, 2) := by decide +kernel
set_option maxRecDepth 20000 in
theorem dX4_pairCount_15 : decode cX4_pairCount 15 = .ok (.iload_n 3, 1) := by decide +kernel
set_option maxRecDepth 20000 in
theorem dX4_pairCount_16 : decode cX4_pairCount 16 = .ok (.if_icmp .ge 25, 3) := by decide +kernel
set_option maxRecDepth 20000 in
theorem dX4_pairCount_19 : decode cX4_pairCount 19 = .ok (.aload_n 2, 1) := by decide +kernel
set_option maxRecDepth 20000 in
theorem dX4_pairCount_20 : decode cX4_pairCount 20 = .ok (.iload 4, 2) := by decide +kernel
set_option maxRecDepth 20000 in
theorem dX4_pairCount_22 : decode cX4_pairCount 22 = .ok (.iaload, 1) := by decide +kernel
set_option maxRecDepth 20000 in
theorem dX4_pairCount_23 : decode cX4_pairCount 23 = .ok (.istore 5, 2) := by decide +kernel
set_option maxRecDepth 20000 in
theorem dX4_pairCount_25 : decode cX4_pairCount 25 = .ok (.iload 5, 2) := by decide +kernel
set_option maxRecDepth 20000 in
theorem dX4_pairCount_27 : decode cX4_pairCount 27 = .ok (.bipush (-5), 2) := by decide +kernel
set_option maxRecDepth 20000 in
theorem dX4_pairCount_29 : decode cX4_pairCount 29 = .ok (.if_icmp .eq 6, 3) := by decide +kernel
set_option maxRecDepth 20000 in
theorem dX4_pairCount_32 : decode cX4_pairCount 32 = .ok (.iinc 1 1, 3) := by decide +kernel
set_option maxRecDepth 20000 in
theorem dX4_pairCount_35 : decode cX4_pairCount 35 = .ok (.iinc 4 1, 3) := by decide +kernel
set_option maxRecDepth 20000 in
theorem dX4_pairCount_38 : decode cX4_pairCount 38 = .ok (.goto (-25), 3) := by decide +kernel
set_option maxRecDepth 20000 in
theorem dX4_pairCount_41 : decode cX4_pairCount 41 = .ok (.iload_n 1, 1) := by decide +kernel
set_option maxRecDepth 20000 in
theorem dX4_pairCount_42 : decode cX4_pairCount 42 = .ok (.iconst 2, 1) := by decide +kernel
set_option maxRecDepth 20000 in
theorem dX4_pairCount_43 : decode cX4_pairCount 43 = .ok (.idiv, 1) := by decide +kernel
set_option maxRecDepth 20000 in
theorem dX4_pairCount_44 : decode cX4_pairCount 44 = .ok (.ireturn, 1) := by decide +kernel
set_option maxRecDepth 20000 in
theorem dX4_startOf_0 : decode cX4_startOf 0 = .ok (.aload_n 0, 1) := by decide +kernel
set_option maxRecDepth 20000 in
theorem dX4_startOf_1 : decode cX4_startOf 1 = .ok (.iload_n 2, 1) := by decide +kernel
set_option maxRecDepth 20000 in
theorem dX4_startOf_2 : decode cX4_startOf 2 = .ok (.invokevirtual 102, 3) := by decide +kernel
set_option maxRecDepth 20000 in
theorem dX4_startOf_5 : decode cX4_startOf 5 = .ok (.ifCond .eq 19, 3) := by decide +kernel
set_option maxRecDepth 20000 in
theorem dX4_startOf_8 : decode cX4_startOf 8 = .ok (.aload_n 0, 1) := by decide +kernel
set_option maxRecDepth 20000 in
theorem dX4_startOf_9 : decode cX4_startOf 9 = .ok (.iload_n 1, 1) := by decide +kernel
set_option maxRecDepth 20000 in
theorem dX4_startOf_10 : decode cX4_startOf 10 = .ok (.invokevirtual 64, 3) := by decide +kernel
set_option maxRecDepth 20000 in
theorem dX4_startOf_13 : decode cX4_startOf 13 = .ok (.aload_n 0, 1) := by decide +kernel
set_option maxRecDepth 20000 in
theorem dX4_startOf_14 : decode cX4_startOf 14 = .ok (.iload_n 2, 1) := by decide +kernel
set_option maxRecDepth 20000 in
theorem dX4_startOf_15 : decode cX4_startOf 15 = .ok (.invokevirtual 64, 3) := by decide +kernel
set_option maxRecDepth 20000 in
theorem dX4_startOf_18 : decode cX4_startOf 18 = .ok (.invokestatic 138, 3) := by decide +kernel
set_option maxRecDepth 20000 in
theorem dX4_startOf_21 : decode cX4_startOf 21 = .ok (.goto 8, 3) := by decide +kernel
set_option maxRecDepth 20000 in
theorem dX4_startOf_24 : decode cX4_startOf 24 = .ok (.aload_n 0, 1) := by decide +kernel
set_option maxRecDepth 20000 in
theorem dX4_startOf_25 : decode cX4_startOf 25 = .ok (.iload_n 1, 1) := by decide +kernel
set_option maxRecDepth 20000 in
theorem dX4_startOf_26 : decode cX4_startOf 26 = .ok (.invokevirtual 64, 3) := by decide +kernel
set_option maxRecDepth 20000 in
theorem dX4_startOf_29 : decode cX4_startOf 29 = .ok (.ireturn, 1) := by decide +kernel
set_option maxRecDepth 20000 in
theorem dX4_startOfBusOf_0 : decode cX4_startOfBusOf 0 = .ok (.aload_n 0, 1) := by decide +kernel
set_option maxRecDepth 20000 in
theorem dX4_startOfBusOf_1 : decode cX4_startOfBusOf 1 = .ok (.aload_n 1, 1) := by decide +kernel
set_option maxRecDepth 20000 in
theorem dX4_startOfBusOf_2 : decode cX4_startOfBusOf 2 = .ok (.getfield 86, 3) := by decide +kernel
set_option maxRecDepth 20000 in
theorem dX4_startOfBusOf_5 : decode cX4_startOfBusOf 5 = .ok (.aload_n 0, 1) := by decide +kernel
set_option maxRecDepth 20000 in
theorem dX4_startOfBusOf_6 : decode cX4_startOfBusOf 6 = .ok (.aload_n 1, 1) := by decide +kernel
set_option maxRecDepth 20000 in
theorem dX4_startOfBusOf_7 : decode cX4_startOfBusOf 7 = .ok (.getfield 89, 3) := by decide +kernel
set_option maxRecDepth 20000 in
theorem dX4_startOfBusOf_10 : decode cX4_startOfBusOf 10 = .ok (.aload_n 1, 1) := by decide +kernel
set_option maxRecDepth 20000 in
theorem dX4_startOfBusOf_11 : decode cX4_startOfBusOf 11 = .ok (.getfield 86, 3) := by decide +kernel
set_option maxRecDepth 20000 in
theorem dX4_startOfBusOf_14 : decode cX4_startOfBusOf 14 = .ok (.invokevirtual 106, 3) := by decide +kernel
set_option maxRecDepth 20000 in
theorem dX4_startOfBusOf_17 : decode cX4_startOfBusOf 17 = .ok (.invokevirtual 117, 3) := by decide +kernel
set_option maxRecDepth 20000 in
theorem dX4_startOfBusOf_20 : decode cX4_startOfBusOf 20 = .ok (.ireturn, 1) := by decide +kernel
set_option maxRecDepth 20000 in
theorem dX4_minutesBehind_0 : decode cX4_minutesBehind 0 = .ok (.iload_n 3, 1) := by decide +kernel
set_option maxRecDepth 20000 in
theorem dX4_minutesBehind_1 : decode cX4_minutesBehind 1 = .ok (.aload_n 0, 1) := by decide +kernel
set_option maxRecDepth 20000 in
theorem dX4_minutesBehind_2 : decode cX4_minutesBehind 2 = .ok (.iload_n 1, 1) := by decide +kernel
set_option maxRecDepth 20000 in
theorem dX4_minutesBehind_3 : decode cX4_minutesBehind 3 = .ok (.invokevirtual 64, 3) := by decide +kernel
set_option maxRecDepth 20000 in
theorem dX4_minutesBehind_6 : decode cX4_minutesBehind 6 = .ok (.isub, 1) := by decide +kernel
set_option maxRecDepth 20000 in
theorem dX4_minutesBehind_7 : decode cX4_minutesBehind 7 = .ok (.iload_n 2, 1) := by decide +kernel
set_option maxRecDepth 20000 in
theorem dX4_minutesBehind_8 : decode cX4_minutesBehind 8 = .ok (.aload_n 0, 1) := by decide +kernel
set_option maxRecDepth 20000 in
theorem dX4_minutesBehind_9 : decode cX4_minutesBehind 9 = .ok (.iconst 0, 1) := by decide +kernel
set_option maxRecDepth 20000 in
theorem dX4_minutesBehind_10 : decode cX4_minutesBehind 10 = .ok (.invokevirtual 114, 3) := by decide +kernel
set_option maxRecDepth 20000 in
theorem dX4_minutesBehind_13 : decode cX4_minutesBehind 13 = .ok (.imul, 1) := by decide +kernel
set_option maxRecDepth 20000 in
theorem dX4_minutesBehind_14 : decode cX4_minutesBehind 14 = .ok (.iadd, 1) := by decide +kernel
set_option maxRecDepth 20000 in
theorem dX4_minutesBehind_15 : decode cX4_minutesBehind 15 = .ok (.ireturn, 1) := by decide +kernel
set_option maxRecDepth 20000 in
theorem dX4_isInTime_0 : decode cX4_isInTime 0 = .ok (.aload_n 0, 1) := by decide +kernel
set_option maxRecDepth 20000 in
theorem dX4_isInTime_1 : decode cX4_isInTime 1 = .ok (.iload_n 1, 1) := by decide +kernel
set_option maxRecDepth 20000 in
theorem dX4_isInTime_2 : decode cX4_isInTime 2 = .ok (.iload_n 2, 1) := by decide +kernel
set_option maxRecDepth 20000 in
theorem dX4_isInTime_3 : decode cX4_isInTime 3 = .ok (.iload_n 3, 1) := by decide +kernel
set_option maxRecDepth 20000 in
theorem dX4_isInTime_4 : decode cX4_isInTime 4 = .ok (.invokevirtual 143, 3) := by decide +kernel
set_option maxRecDepth 20000 in
theorem dX4_isInTime_7 : decode cX4_isInTime 7 = .ok (.aload_n 0, 1) := by decide +kernel
set_option maxRecDepth 20000 in
theorem dX4_isInTime_8 : decode cX4_isInTime 8 = .ok (.iconst 3, 1) := by decide +kernel
set_option maxRecDepth 20000 in
theorem dX4_isInTime_9 : decode cX4_isInTime 9 = .ok (.invokevirtual 114, 3) := by decide +kernel
set_option maxRecDepth 20000 in
theorem dX4_isInTime_12 : decode cX4_isInTime 12 = .ok (.if_icmp .gt 7, 3) := by decide +kernel
set_option maxRecDepth 20000 in
theorem dX4_isInTime_15 : decode cX4_isInTime 15 = .ok (.iconst 1, 1) := by decide +kernel
set_option maxRecDepth 20000 in
theorem dX4_isInTime_16 : decode cX4_isInTime 16 = .ok (.goto 4, 3) := by decide +kernel
set_option maxRecDepth 20000 in
theorem dX4_isInTime_19 : decode cX4_isInTime 19 = .ok (.iconst 0, 1) := by decide +kernel
set_option maxRecDepth 20000 in
theorem dX4_isInTime_20 : decode cX4_isInTime 20 = .ok (.ireturn, 1) := by decide +kernel
set_option maxRecDepth 20000 in
theorem dX4_takenSeats_0 : decode cX4_takenSeats 0 = .ok (.iconst 0, 1) := by decide +kernel
set_option maxRecDepth 20000 in
theorem dX4_takenSeats_1 : decode cX4_takenSeats 1 = .ok (.istore 6, 2) := by decide +kernel
set_option maxRecDepth 20000 in
theorem dX4_takenSeats_3 : decode cX4_takenSeats 3 = .ok (.aload_n 0, 1) := by decide +kernel
set_option maxRecDepth 20000 in
theorem dX4_takenSeats_4 : decode cX4_takenSeats 4 = .ok (.getfield 30, 3) := by decide +kernel
set_option maxRecDepth 20000 in
theorem dX4_takenSeats_7 : decode cX4_takenSeats 7 = .ok (.astore 7, 2) := by decide +kernel
set_option maxRecDepth 20000 in
theorem dX4_takenSeats_9 : decode cX4_takenSeats 9 = .ok (.aload 7, 2) := by decide +kernel
set_option maxRecDepth 20000 in
theorem dX4_takenSeats_11 : decode cX4_takenSeats 11 = .ok (.arraylength, 1) := by decide +kernel
set_option maxRecDepth 20000 in
theorem dX4_takenSeats_12 : decode cX4_takenSeats 12 = .ok (.istore 8, 2) := by decide +kernel
set_option maxRecDepth 20000 in
theorem dX4_takenSeats_14 : decode cX4_takenSeats 14 = .ok (.iconst 0, 1) := by decide +kernel
set_option maxRecDepth 20000 in
theorem dX4_takenSeats_15 : decode cX4_takenSeats 15 = .ok (.istore 9, 2) := by decide +kernel
set_option maxRecDepth 20000 in
theorem dX4_takenSeats_17 : decode cX4_takenSeats 17 = .ok (.iload 9, 2) := by decide +kernel
set_option maxRecDepth 20000 in
theorem dX4_takenSeats_19 : decode cX4_takenSeats 19 = .ok (.iload 8, 2) := by decide +kernel
set_option maxRecDepth 20000 in
theorem dX4_takenSeats_21 : decode cX4_takenSeats 21 = .ok (.if_icmp .ge 55, 3) := by decide +kernel
set_option maxRecDepth 20000 in
theorem dX4_takenSeats_24 : decode cX4_takenSeats 24 = .ok (.aload 7, 2) := by decide +kernel
set_option maxRecDepth 20000 in
theorem dX4_takenSeats_26 : decode cX4_takenSeats 26 = .ok (.iload 9, 2) := by decide +kernel
set_option maxRecDepth 20000 in
theorem dX4_takenSeats_28 : decode cX4_takenSeats 28 = .ok (.aaload, 1) := by decide +kernel
set_option maxRecDepth 20000 in
theorem dX4_takenSeats_29 : decode cX4_takenSeats 29 = .ok (.astore 10, 2) := by decide +kernel
set_option maxRecDepth 20000 in
theorem dX4_takenSeats_31 : decode cX4_takenSeats 31 = .ok (.aload 10, 2) := by decide +kernel
set_option maxRecDepth 20000 in
theorem dX4_takenSeats_33 : decode cX4_takenSeats 33 = .ok (.invokevirtual 147, 3) := by decide +kernel
set_option maxRecDepth 20000 in
theorem dX4_takenSeats_36 : decode cX4_takenSeats 36 = .ok (.ifCond .eq 34, 3) := by decide +kernel
set_option maxRecDepth 20000 in
theorem dX4_takenSeats_39 : decode cX4_takenSeats 39 = .ok (.aload 10, 2) := by decide +kernel
set_option maxRecDepth 20000 in
theorem dX4_takenSeats_41 : decode cX4_takenSeats 41 = .ok (.iload_n 1, 1) := by decide +kernel
set_option maxRecDepth 20000 in
theorem dX4_takenSeats_42 : decode cX4_takenSeats 42 = .ok (.iload_n 2, 1) := by decide +kernel
set_option maxRecDepth 20000 in
theorem dX4_takenSeats_43 : decode cX4_takenSeats 43 = .ok (.iload_n 3, 1) := by decide +kernel
set_option maxRecDepth 20000 in
theorem dX4_takenSeats_44 : decode cX4_takenSeats 44 = .ok (.invokevirtual 150, 3) := by decide +kernel
set_option maxRecDepth 20000 in
theorem dX4_takenSeats_47 : decode cX4_takenSeats 47 = .ok (.ifCond .eq 23, 3) := by decide +kernel
set_option maxRecDepth 20000 in
theorem dX4_takenSeats_50 : decode cX4_takenSeats 50 = .ok (.aload 10, 2) := by decide +kernel
set_option maxRecDepth 20000 in
theorem dX4_takenSeats_52 : decode cX4_takenSeats 52 = .ok (.getfield 92, 3) := by decide +kernel
set_option maxRecDepth 20000 in
theorem dX4_takenSeats_55 : decode cX4_takenSeats 55 = .ok (.iload 4, 2) := by decide +kernel
set_option maxRecDepth 20000 in
theorem dX4_takenSeats_57 : decode cX4_takenSeats 57 = .ok (.if_icmp .lt 13, 3) := by decide +kernel
set_option maxRecDepth 20000 in
theorem dX4_takenSeats_60 : decode cX4_takenSeats 60 = .ok (.aload 10, 2) := by decide +kernel
set_option maxRecDepth 20000 in
theorem dX4_takenSeats_62 : decode cX4_takenSeats 62 = .ok (.aload 5, 2) := by decide +kernel
set_option maxRecDepth 20000 in
theorem dX4_takenSeats_64 : decode cX4_takenSeats 64 = .ok (.if_acmp .eq 6, 3) := by decide +kernel
set_option maxRecDepth 20000 in
theorem dX4_takenSeats_67 : decode cX4_takenSeats 67 = .ok (.iinc 6 1, 3) := by decide +kernel
set_option maxRecDepth 20000 in
theorem dX4_takenSeats_70 : decode cX4_takenSeats 70 = .ok (.iinc 9 1, 3) := by decide +kernel
set_option maxRecDepth 20000 in
theorem dX4_takenSeats_73 : decode cX4_takenSeats 73 = .ok (.goto (-56), 3) := by decide +kernel
set_option maxRecDepth 20000 in
theorem dX4_takenSeats_76 : decode cX4_takenSeats 76 = .ok (.iload 6, 2) := by decide +kernel
set_option maxRecDepth 20000 in
theorem dX4_takenSeats_78 : decode cX4_takenSeats 78 = .ok (.ireturn, 1) := by decide +kernel
set_option maxRecDepth 20000 in
theorem dX4_waitingFor_0 : decode cX4_waitingFor 0 = .ok (.iconst 0, 1) := by decide +kernel
set_option maxRecDepth 20000 in
theorem dX4_waitingFor_1 : decode cX4_waitingFor 1 = .ok (.istore 4, 2) := by decide +kernel
set_option maxRecDepth 20000 in
theorem dX4_waitingFor_3 : decode cX4_waitingFor 3 = .ok (.aload_n 0, 1) := by decide +kernel
set_option maxRecDepth 20000 in
theorem dX4_waitingFor_4 : decode cX4_waitingFor 4 = .ok (.getfield 30, 3) := by decide +kernel
set_option maxRecDepth 20000 in
theorem dX4_waitingFor_7 : decode cX4_waitingFor 7 = .ok (.astore 5, 2) := by decide +kernel
set_option maxRecDepth 20000 in
theorem dX4_waitingFor_9 : decode cX4_waitingFor 9 = .ok (.aload 5, 2) := by decide +kernel
set_option maxRecDepth 20000 in
theorem dX4_waitingFor_11 : decode cX4_waitingFor 11 = .ok (.arraylength, 1) := by decide +kernel
set_option maxRecDepth 20000 in
theorem dX4_waitingFor_12 : decode cX4_waitingFor 12 = .ok (.istore 6, 2) := by decide +kernel
set_option maxRecDepth 20000 in
theorem dX4_waitingFor_14 : decode cX4_waitingFor 14 = .ok (.iconst 0, 1) := by decide +kernel
set_option maxRecDepth 20000 in
theorem dX4_waitingFor_15 : decode cX4_waitingFor 15 = .ok (.istore 7, 2) := by decide +kernel
set_option maxRecDepth 20000 in
theorem dX4_waitingFor_17 : decode cX4_waitingFor 17 = .ok (.iload 7, 2) := by decide +kernel
set_option maxRecDepth 20000 in
theorem dX4_waitingFor_19 : decode cX4_waitingFor 19 = .ok (.iload 6, 2) := by decide +kernel
set_option maxRecDepth 20000 in
theorem dX4_waitingFor_21 : decode cX4_waitingFor 21 = .ok (.if_icmp .ge 38, 3) := by decide +kernel
set_option maxRecDepth 20000 in
theorem dX4_waitingFor_24 : decode cX4_waitingFor 24 = .ok (.aload 5, 2) := by decide +kernel
set_option maxRecDepth 20000 in
theorem dX4_waitingFor_26 : decode cX4_waitingFor 26 = .ok (.iload 7, 2) := by decide +kernel
set_option maxRecDepth 20000 in
theorem dX4_waitingFor_28 : decode cX4_waitingFor 28 = .ok (.aaload, 1) := by decide +kernel
set_option maxRecDepth 20000 in
theorem dX4_waitingFor_29 : decode cX4_waitingFor 29 = .ok (.astore 8, 2) := by decide +kernel
set_option maxRecDepth 20000 in
theorem dX4_waitingFor_31 : decode cX4_waitingFor 31 = .ok (.aload 8, 2) := by decide +kernel
set_option maxRecDepth 20000 in
theorem dX4_waitingFor_33 : decode cX4_waitingFor 33 = .ok (.invokevirtual 99, 3) := by decide +kernel
set_option maxRecDepth 20000 in
theorem dX4_waitingFor_36 : decode cX4_waitingFor 36 = .ok (.ifCond .eq 17, 3) := by decide +kernel
set_option maxRecDepth 20000 in
theorem dX4_waitingFor_39 : decode cX4_waitingFor 39 = .ok (.aload 8, 2) := by decide +kernel
set_option maxRecDepth 20000 in
theorem dX4_waitingFor_41 : decode cX4_waitingFor 41 = .ok (.iload_n 1, 1) := by decide +kernel
set_option maxRecDepth 20000 in
theorem dX4_waitingFor_42 : decode cX4_waitingFor 42 = .ok (.iload_n 2, 1) := by decide +kernel
set_option maxRecDepth 20000 in
theorem dX4_waitingFor_43 : decode cX4_waitingFor 43 = .ok (.iload_n 3, 1) := by decide +kernel
set_option maxRecDepth 20000 in
theorem dX4_waitingFor_44 : decode cX4_waitingFor 44 = .ok (.invokevirtual 150, 3) := by decide +kernel
set_option maxRecDepth 20000 in
theorem dX4_waitingFor_47 : decode cX4_waitingFor 47 = .ok (.ifCond .eq 6, 3) := by decide +kernel
set_option maxRecDepth 20000 in
theorem dX4_waitingFor_50 : decode cX4_waitingFor 50 = .ok (.iinc 4 1, 3) := by decide +kernel
set_option maxRecDepth 20000 in
theorem dX4_waitingFor_53 : decode cX4_waitingFor 53 = .ok (.iinc 7 1, 3) := by decide +kernel
set_option maxRecDepth 20000 in
theorem dX4_waitingFor_56 : decode cX4_waitingFor 56 = .ok (.goto (-39), 3) := by decide +kernel
set_option maxRecDepth 20000 in
theorem dX4_waitingFor_59 : decode cX4_waitingFor 59 = .ok (.iload 4, 2) := by decide +kernel
set_option maxRecDepth 20000 in
theorem dX4_waitingFor_61 : decode cX4_waitingFor 61 = .ok (.ireturn, 1) := by decide +kernel
set_option maxRecDepth 20000 in
theorem dX4_farthestPromised_0 : decode cX4_farthestPromised 0 = .ok (.iconst 0, 1) := by decide +kernel
set_option maxRecDepth 20000 in
theorem dX4_farthestPromised_1 : decode cX4_farthestPromised 1 = .ok (.istore 4, 2) := by decide +kernel
set_option maxRecDepth 20000 in
theorem dX4_farthestPromised_3 : decode cX4_farthestPromised 3 = .ok (.aload_n 0, 1) := by decide +kernel
set_option maxRecDepth 20000 in
theorem dX4_farthestPromised_4 : decode cX4_farthestPromised 4 = .ok (.getfield 30, 3) := by decide +kernel
set_option maxRecDepth 20000 in
theorem dX4_farthestPromised_7 : decode cX4_farthestPromised 7 = .ok (.astore 5, 2) := by decide +kernel
set_option maxRecDepth 20000 in
theorem dX4_farthestPromised_9 : decode cX4_farthestPromised 9 = .ok (.aload 5, 2) := by decide +kernel
set_option maxRecDepth 20000 in
theorem dX4_farthestPromised_11 : decode cX4_farthestPromised 11 = .ok (.arraylength, 1) := by decide +kernel
set_option maxRecDepth 20000 in
theorem dX4_farthestPromised_12 : decode cX4_farthestPromised 12 = .ok (.istore 6, 2) := by decide +kernel
set_option maxRecDepth 20000 in
theorem dX4_farthestPromised_14 : decode cX4_farthestPromised 14 = .ok (.iconst 0, 1) := by decide +kernel
set_option maxRecDepth 20000 in
theorem dX4_farthestPromised_15 : decode cX4_farthestPromised 15 = .ok (.istore 7, 2) := by decide +kernel
set_option maxRecDepth 20000 in
theorem dX4_farthestPromised_17 : decode cX4_farthestPromised 17 = .ok (.iload 7, 2) := by decide +kernel
set_option maxRecDepth 20000 in
theorem dX4_farthestPromised_19 : decode cX4_farthestPromised 19 = .ok (.iload 6, 2) := by decide +kernel
set_option maxRecDepth 20000 in
theorem dX4_farthestPromised_21 : decode cX4_farthestPromised 21 = .ok (.if_icmp .ge 47, 3) := by decide +kernel
set_option maxRecDepth 20000 in
theorem dX4_farthestPromised_24 : decode cX4_farthestPromised 24 = .ok (.aload 5, 2) := by decide +kernel
set_option maxRecDepth 20000 in
theorem dX4_farthestPromised_26 : decode cX4_farthestPromised 26 = .ok (.iload 7, 2) := by decide +kernel
set_option maxRecDepth 20000 in
theorem dX4_farthestPromised_28 : decode cX4_farthestPromised 28 = .ok (.aaload, 1) := by decide +kernel
set_option maxRecDepth 20000 in
theorem dX4_farthestPromised_29 : decode cX4_farthestPromised 29 = .ok (.astore 8, 2) := by decide +kernel
set_option maxRecDepth 20000 in
theorem dX4_farthestPromised_31 : decode cX4_farthestPromised 31 = .ok (.aload 8, 2) := by decide +kernel
set_option maxRecDepth 20000 in
theorem dX4_farthestPromised_33 : decode cX4_farthestPromised 33 = .ok (.invokevirtual 147, 3) := by decide +kernel
set_option maxRecDepth 20000 in
theorem dX4_farthestPromised_36 : decode cX4_farthestPromised 36 = .ok (.ifCond .eq 26, 3) := by decide +kernel
set_option maxRecDepth 20000 in
theorem dX4_farthestPromised_39 : decode cX4_farthestPromised 39 = .ok (.aload 8, 2) := by decide +kernel
set_option maxRecDepth 20000 in
theorem dX4_farthestPromised_41 : decode cX4_farthestPromised 41 = .ok (.iload_n 1, 1) := by decide +kernel
set_option maxRecDepth 20000 in
theorem dX4_farthestPromised_42 : decode cX4_farthestPromised 42 = .ok (.iload_n 2, 1) := by decide +kernel
set_option maxRecDepth 20000 in
theorem dX4_farthestPromised_43 : decode cX4_farthestPromised 43 = .ok (.iload_n 3, 1) := by decide +kernel
set_option maxRecDepth 20000 in
theorem dX4_farthestPromised_44 : decode cX4_farthestPromised 44 = .ok (.invokevirtual 150, 3) := by decide +kernel
set_option maxRecDepth 20000 in
theorem dX4_farthestPromised_47 : decode cX4_farthestPromised 47 = .ok (.ifCond .eq 15, 3) := by decide +kernel
set_option maxRecDepth 20000 in
theorem dX4_farthestPromised_50 : decode cX4_farthestPromised 50 = .ok (.iload 4, 2) := by decide +kernel
set_option maxRecDepth 20000 in
theorem dX4_farthestPromised_52 : decode cX4_farthestPromised 52 = .ok (.aload 8, 2) := by decide +kernel
set_option maxRecDepth 20000 in
theorem dX4_farthestPromised_54 : decode cX4_farthestPromised 54 = .ok (.getfield 92, 3) := by decide +kernel
set_option maxRecDepth 20000 in
theorem dX4_farthestPromised_57 : decode cX4_farthestPromised 57 = .ok (.invokestatic 138, 3) := by decide +kernel
set_option maxRecDepth 20000 in
theorem dX4_farthestPromised_60 : decode cX4_farthestPromised 60 = .ok (.istore 4, 2) := by decide +kernel
set_option maxRecDepth 20000 in
theorem dX4_farthestPromised_62 : decode cX4_farthestPromised 62 = .ok (.iinc 7 1, 3) := by decide +kernel
set_option maxRecDepth 20000 in
theorem dX4_farthestPromised_65 : decode cX4_farthestPromised 65 = .ok (.goto (-48), 3) := by decide +kernel
set_option maxRecDepth 20000 in
theorem dX4_farthestPromised_68 : decode cX4_farthestPromised 68 = .ok (.iload 4, 2) := by decide +kernel
set_option maxRecDepth 20000 in
theorem dX4_farthestPromised_70 : decode cX4_farthestPromised 70 = .ok (.ireturn, 1) := by decide +kernel
set_option maxRecDepth 20000 in
theorem dX4_canMerge_0 : decode cX4_canMerge 0 = .ok (.aload_n 0, 1) := by decide +kernel
set_option maxRecDepth 20000 in
theorem dX4_canMerge_1 : decode cX4_canMerge 1 = .ok (.iload_n 1, 1) := by decide +kernel
set_option maxRecDepth 20000 in
theorem dX4_canMerge_2 : decode cX4_canMerge 2 = .ok (.iload_n 2, 1) := by decide +kernel
set_option maxRecDepth 20000 in
theorem dX4_canMerge_3 : decode cX4_canMerge 3 = .ok (.invokevirtual 106, 3) := by decide +kernel
set_option maxRecDepth 20000 in
theorem dX4_canMerge_6 : decode cX4_canMerge 6 = .ok (.bipush (-5), 2) := by decide +kernel
set_option maxRecDepth 20000 in
theorem dX4_canMerge_8 : decode cX4_canMerge 8 = .ok (.if_icmp .ne 14, 3) := by decide +kernel
set_option maxRecDepth 20000 in
theorem dX4_canMerge_11 : decode cX4_canMerge 11 = .ok (.aload_n 0, 1) := by decide +kernel
set_option maxRecDepth 20000 in
theorem dX4_canMerge_12 : decode cX4_canMerge 12 = .ok (.iload_n 1, 1) := by decide +kernel
set_option maxRecDepth 20000 in
theorem dX4_canMerge_13 : decode cX4_canMerge 13 = .ok (.iload_n 3, 1) := by decide +kernel
set_option maxRecDepth 20000 in
theorem dX4_canMerge_14 : decode cX4_canMerge 14 = .ok (.invokevirtual 106, 3) := by decide +kernel
set_option maxRecDepth 20000 in
theorem dX4_canMerge_17 : decode cX4_canMerge 17 = .ok (.bipush (-5), 2) := by decide +kernel
set_option maxRecDepth 20000 in
theorem dX4_canMerge_19 : decode cX4_canMerge 19 = .ok (.if_icmp .eq 5, 3) := by decide +kernel
set_option maxRecDepth 20000 in
theorem dX4_canMerge_22 : decode cX4_canMerge 22 = .ok (.iconst 0, 1) := by decide +kernel
set_option maxRecDepth 20000 in
theorem dX4_canMerge_23 : decode cX4_canMerge 23 = .ok (.ireturn, 1) := by decide +kernel
set_option maxRecDepth 20000 in
theorem dX4_canMerge_24 : decode cX4_canMerge 24 = .ok (.aload_n 0, 1) := by decide +kernel
set_option maxRecDepth 20000 in
theorem dX4_canMerge_25 : decode cX4_canMerge 25 = .ok (.iload_n 2, 1) := by decide +kernel
set_option maxRecDepth 20000 in
theorem dX4_canMerge_26 : decode cX4_canMerge 26 = .ok (.invokevirtual 64, 3) := by decide +kernel
set_option maxRecDepth 20000 in
theorem dX4_canMerge_29 : decode cX4_canMerge 29 = .ok (.aload_n 0, 1) := by decide +kernel
set_option maxRecDepth 20000 in
theorem dX4_canMerge_30 : decode cX4_canMerge 30 = .ok (.iload_n 3, 1) := by decide +kernel
set_option maxRecDepth 20000 in
theorem dX4_canMerge_31 : decode cX4_canMerge 31 = .ok (.invokevirtual 64, 3) := by decide +kernel
set_option maxRecDepth 20000 in
theorem dX4_canMerge_34 : decode cX4_canMerge 34 = .ok (.isub, 1) := by decide +kernel
set_option maxRecDepth 20000 in
theorem dX4_canMerge_35 : decode cX4_canMerge 35 = .ok (.invokestatic 153, 3) := by decide +kernel
set_option maxRecDepth 20000 in
theorem dX4_canMerge_38 : decode cX4_canMerge 38 = .ok (.aload_n 0, 1) := by decide +kernel
set_option maxRecDepth 20000 in
theorem dX4_canMerge_39 : decode cX4_canMerge 39 = .ok (.iconst 2, 1) := by decide +kernel
set_option maxRecDepth 20000 in
theorem dX4_canMerge_40 : decode cX4_canMerge 40 = .ok (.invokevirtual 114, 3) := by decide +kernel
set_option maxRecDepth 20000 in
theorem dX4_canMerge_43 : decode cX4_canMerge 43 = .ok (.if_icmp .le 5, 3) := by decide +kernel
set_option maxRecDepth 20000 in
theorem dX4_canMerge_46 : decode cX4_canMerge 46 = .ok (.iconst 0, 1) := by decide +kernel
set_option maxRecDepth 20000 in
theorem dX4_canMerge_47 : decode cX4_canMerge 47 = .ok (.ireturn, 1) := by decide +kernel
set_option maxRecDepth 20000 in
theorem dX4_canMerge_48 : decode cX4_canMerge 48 = .ok (.aload_n 0, 1) := by decide +kernel
set_option maxRecDepth 20000 in
theorem dX4_canMerge_49 : decode cX4_canMerge 49 = .ok (.iload_n 1, 1) := by decide +kernel
set_option maxRecDepth 20000 in
theorem dX4_canMerge_50 : decode cX4_canMerge 50 = .ok (.iload_n 2, 1) := by decide +kernel
set_option maxRecDepth 20000 in
theorem dX4_canMerge_51 : decode cX4_canMerge 51 = .ok (.iload_n 3, 1) := by decide +kernel
set_option maxRecDepth 20000 in
theorem dX4_canMerge_52 : decode cX4_canMerge 52 = .ok (.iconst 1, 1) := by decide +kernel
set_option maxRecDepth 20000 in
theorem dX4_canMerge_53 : decode cX4_canMerge 53 = .ok (.aconst_null, 1) := by decide +kernel
set_option maxRecDepth 20000 in
theorem dX4_canMerge_54 : decode cX4_canMerge 54 = .ok (.invokevirtual 110, 3) := by decide +kernel
set_option maxRecDepth 20000 in
theorem dX4_canMerge_57 : decode cX4_canMerge 57 = .ok (.aload_n 0, 1) := by decide +kernel
set_option maxRecDepth 20000 in
theorem dX4_canMerge_58 : decode cX4_canMerge 58 = .ok (.iconst 1, 1) := by decide +kernel
set_option maxRecDepth 20000 in
theorem dX4_canMerge_59 : decode cX4_canMerge 59 = .ok (.invokevirtual 114, 3) := by decide +kernel
set_option maxRecDepth 20000 in
theorem dX4_canMerge_62 : decode cX4_canMerge 62 = .ok (.if_icmp .gt 17, 3) := by decide +kernel
set_option maxRecDepth 20000 in
theorem dX4_canMerge_65 : decode cX4_canMerge 65 = .ok (.aload_n 0, 1) := by decide +kernel
set_option maxRecDepth 20000 in
theorem dX4_canMerge_66 : decode cX4_canMerge 66 = .ok (.iload_n 1, 1) := by decide +kernel
set_option maxRecDepth 20000 in
theorem dX4_canMerge_67 : decode cX4_canMerge 67 = .ok (.iload_n 2, 1) := by decide +kernel
set_option maxRecDepth 20000 in
theorem dX4_canMerge_68 : decode cX4_canMerge 68 = .ok (.iload_n 3, 1) := by decide +kernel
set_option maxRecDepth 20000 in
theorem dX4_canMerge_69 : decode cX4_canMerge 69 = .ok (.invokevirtual 156, 3) := by decide +kernel
set_option maxRecDepth 20000 in
theorem dX4_canMerge_72 : decode cX4_canMerge 72 = .ok (.ifCond .eq 7, 3) := by decide +kernel
set_option maxRecDepth 20000 in
theorem dX4_canMerge_75 : decode cX4_canMerge 75 = .ok (.iconst 1, 1) := by decide +kernel
set_option maxRecDepth 20000 in
theorem dX4_canMerge_76 : decode cX4_canMerge 76 = .ok (.goto 4, 3) := by decide +kernel
set_option maxRecDepth 20000 in
theorem dX4_canMerge_79 : decode cX4_canMerge 79 = .ok (.iconst 0, 1) := by decide +kernel
set_option maxRecDepth 20000 in
theorem dX4_canMerge_80 : decode cX4_canMerge 80 = .ok (.ireturn, 1) := by decide +kernel
set_option maxRecDepth 20000 in
theorem dX4_isInTimeForAll_0 : decode cX4_isInTimeForAll 0 = .ok (.aload_n 0, 1) := by decide +kernel
set_option maxRecDepth 20000 in
theorem dX4_isInTimeForAll_1 : decode cX4_isInTimeForAll 1 = .ok (.iload_n 2, 1) := by decide +kernel
set_option maxRecDepth 20000 in
theorem dX4_isInTimeForAll_2 : decode cX4_isInTimeForAll 2 = .ok (.iload_n 3, 1) := by decide +kernel
set_option maxRecDepth 20000 in
theorem dX4_isInTimeForAll_3 : decode cX4_isInTimeForAll 3 = .ok (.invokevirtual 117, 3) := by decide +kernel
set_option maxRecDepth 20000 in
theorem dX4_isInTimeForAll_6 : decode cX4_isInTimeForAll 6 = .ok (.istore 4, 2) := by decide +kernel
set_option maxRecDepth 20000 in
theorem dX4_isInTimeForAll_8 : decode cX4_isInTimeForAll 8 = .ok (.aload_n 0, 1) := by decide +kernel
set_option maxRecDepth 20000 in
theorem dX4_isInTimeForAll_9 : decode cX4_isInTimeForAll 9 = .ok (.getfield 30, 3) := by decide +kernel
set_option maxRecDepth 20000 in
theorem dX4_isInTimeForAll_12 : decode cX4_isInTimeForAll 12 = .ok (.astore 5, 2) := by decide +kernel
set_option maxRecDepth 20000 in
theorem dX4_isInTimeForAll_14 : decode cX4_isInTimeForAll 14 = .ok (.aload 5, 2) := by decide +kernel
set_option maxRecDepth 20000 in
theorem dX4_isInTimeForAll_16 : decode cX4_isInTimeForAll 16 = .ok (.arraylength, 1) := by decide +kernel
set_option maxRecDepth 20000 in
theorem dX4_isInTimeForAll_17 : decode cX4_isInTimeForAll 17 = .ok (.istore 6, 2) := by decide +kernel
set_option maxRecDepth 20000 in
theorem dX4_isInTimeForAll_19 : decode cX4_isInTimeForAll 19 = .ok (.iconst 0, 1) := by decide +kernel
set_option maxRecDepth 20000 in
theorem dX4_isInTimeForAll_20 : decode cX4_isInTimeForAll 20 = .ok (.istore 7, 2) := by decide +kernel
set_option maxRecDepth 20000 in
theorem dX4_isInTimeForAll_22 : decode cX4_isInTimeForAll 22 = .ok (.iload 7, 2) := by decide +kernel
set_option maxRecDepth 20000 in
theorem dX4_isInTimeForAll_24 : decode cX4_isInTimeForAll 24 = .ok (.iload 6, 2) := by decide +kernel
set_option maxRecDepth 20000 in
theorem dX4_isInTimeForAll_26 : decode cX4_isInTimeForAll 26 = .ok (.if_icmp .ge 56, 3) := by decide +kernel
set_option maxRecDepth 20000 in
theorem dX4_isInTimeForAll_29 : decode cX4_isInTimeForAll 29 = .ok (.aload 5, 2) := by decide +kernel
set_option maxRecDepth 20000 in
theorem dX4_isInTimeForAll_31 : decode cX4_isInTimeForAll 31 = .ok (.iload 7, 2) := by decide +kernel
set_option maxRecDepth 20000 in
theorem dX4_isInTimeForAll_33 : decode cX4_isInTimeForAll 33 = .ok (.aaload, 1) := by decide +kernel
set_option maxRecDepth 20000 in
theorem dX4_isInTimeForAll_34 : decode cX4_isInTimeForAll 34 = .ok (.astore 8, 2) := by decide +kernel
set_option maxRecDepth 20000 in
theorem dX4_isInTimeForAll_36 : decode cX4_isInTimeForAll 36 = .ok (.aload 8, 2) := by decide +kernel
set_option maxRecDepth 20000 in
theorem dX4_isInTimeForAll_38 : decode cX4_isInTimeForAll 38 = .ok (.invokevirtual 147, 3) := by decide +kernel
set_option maxRecDepth 20000 in
theorem dX4_isInTimeForAll_41 : decode cX4_isInTimeForAll 41 = .ok (.ifCond .eq 35, 3) := by decide +kernel
set_option maxRecDepth 20000 in
theorem dX4_isInTimeForAll_44 : decode cX4_isInTimeForAll 44 = .ok (.aload 8, 2) := by decide +kernel
set_option maxRecDepth 20000 in
theorem dX4_isInTimeForAll_46 : decode cX4_isInTimeForAll 46 = .ok (.iload_n 1, 1) := by decide +kernel
set_option maxRecDepth 20000 in
theorem dX4_isInTimeForAll_47 : decode cX4_isInTimeForAll 47 = .ok (.iload_n 2, 1) := by decide +kernel
set_option maxRecDepth 20000 in
theorem dX4_isInTimeForAll_48 : decode cX4_isInTimeForAll 48 = .ok (.iload_n 3, 1) := by decide +kernel
set_option maxRecDepth 20000 in
theorem dX4_isInTimeForAll_49 : decode cX4_isInTimeForAll 49 = .ok (.invokevirtual 150, 3) := by decide +kernel
set_option maxRecDepth 20000 in
theorem dX4_isInTimeForAll_52 : decode cX4_isInTimeForAll 52 = .ok (.ifCond .eq 24, 3) := by decide +kernel
set_option maxRecDepth 20000 in
theorem dX4_isInTimeForAll_55 : decode cX4_isInTimeForAll 55 = .ok (.aload_n 0, 1) := by decide +kernel
set_option maxRecDepth 20000 in
theorem dX4_isInTimeForAll_56 : decode cX4_isInTimeForAll 56 = .ok (.aload 8, 2) := by decide +kernel
set_option maxRecDepth 20000 in
theorem dX4_isInTimeForAll_58 : decode cX4_isInTimeForAll 58 = .ok (.getfield 86, 3) := by decide +kernel
set_option maxRecDepth 20000 in
theorem dX4_isInTimeForAll_61 : decode cX4_isInTimeForAll 61 = .ok (.aload 8, 2) := by decide +kernel
set_option maxRecDepth 20000 in
theorem dX4_isInTimeForAll_63 : decode cX4_isInTimeForAll 63 = .ok (.getfield 92, 3) := by decide +kernel
set_option maxRecDepth 20000 in
theorem dX4_isInTimeForAll_66 : decode cX4_isInTimeForAll 66 = .ok (.iload 4, 2) := by decide +kernel
set_option maxRecDepth 20000 in
theorem dX4_isInTimeForAll_68 : decode cX4_isInTimeForAll 68 = .ok (.invokevirtual 120, 3) := by decide +kernel
set_option maxRecDepth 20000 in
theorem dX4_isInTimeForAll_71 : decode cX4_isInTimeForAll 71 = .ok (.ifCond .ne 5, 3) := by decide +kernel
set_option maxRecDepth 20000 in
theorem dX4_isInTimeForAll_74 : decode cX4_isInTimeForAll 74 = .ok (.iconst 0, 1) := by decide +kernel
set_option maxRecDepth 20000 in
theorem dX4_isInTimeForAll_75 : decode cX4_isInTimeForAll 75 = .ok (.ireturn, 1) := by decide +kernel
set_option maxRecDepth 20000 in
theorem dX4_isInTimeForAll_76 : decode cX4_isInTimeForAll 76 = .ok (.iinc 7 1, 3) := by decide +kernel
set_option maxRecDepth 20000 in
theorem dX4_isInTimeForAll_79 : decode cX4_isInTimeForAll 79 = .ok (.goto (-57), 3) := by decide +kernel
set_option maxRecDepth 20000 in
theorem dX4_isInTimeForAll_82 : decode cX4_isInTimeForAll 82 = .ok (.iconst 1, 1) := by decide +kernel
set_option maxRecDepth 20000 in
theorem dX4_isInTimeForAll_83 : decode cX4_isInTimeForAll 83 = .ok (.ireturn, 1) := by decide +kernel
set_option maxRecDepth 20000 in
theorem dX4_canRide_0 : decode cX4_canRide 0 = .ok (.aload_n 0, 1) := by decide +kernel
set_option maxRecDepth 20000 in
theorem dX4_canRide_1 : decode cX4_canRide 1 = .ok (.iload_n 2, 1) := by decide +kernel
set_option maxRecDepth 20000 in
theorem dX4_canRide_2 : decode cX4_canRide 2 = .ok (.iload_n 3, 1) := by decide +kernel
set_option maxRecDepth 20000 in
theorem dX4_canRide_3 : decode cX4_canRide 3 = .ok (.invokevirtual 117, 3) := by decide +kernel
set_option maxRecDepth 20000 in
theorem dX4_canRide_6 : decode cX4_canRide 6 = .ok (.istore 4, 2) := by decide +kernel
set_option maxRecDepth 20000 in
theorem dX4_canRide_8 : decode cX4_canRide 8 = .ok (.aload_n 0, 1) := by decide +kernel
set_option maxRecDepth 20000 in
theorem dX4_canRide_9 : decode cX4_canRide 9 = .ok (.aload_n 1, 1) := by decide +kernel
set_option maxRecDepth 20000 in
theorem dX4_canRide_10 : decode cX4_canRide 10 = .ok (.getfield 86, 3) := by decide +kernel
set_option maxRecDepth 20000 in
theorem dX4_canRide_13 : decode cX4_canRide 13 = .ok (.aload_n 1, 1) := by decide +kernel
set_option maxRecDepth 20000 in
theorem dX4_canRide_14 : decode cX4_canRide 14 = .ok (.getfield 92, 3) := by decide +kernel
set_option maxRecDepth 20000 in
theorem dX4_canRide_17 : decode cX4_canRide 17 = .ok (.iload 4, 2) := by decide +kernel
set_option maxRecDepth 20000 in
theorem dX4_canRide_19 : decode cX4_canRide 19 = .ok (.invokevirtual 120, 3) := by decide +kernel
set_option maxRecDepth 20000 in
theorem dX4_canRide_22 : decode cX4_canRide 22 = .ok (.ifCond .ne 5, 3) := by decide +kernel
set_option maxRecDepth 20000 in
theorem dX4_canRide_25 : decode cX4_canRide 25 = .ok (.iconst 0, 1) := by decide +kernel
set_option maxRecDepth 20000 in
theorem dX4_canRide_26 : decode cX4_canRide 26 = .ok (.ireturn, 1) := by decide +kernel
set_option maxRecDepth 20000 in
theorem dX4_canRide_27 : decode cX4_canRide 27 = .ok (.iconst 0, 1) := by decide +kernel
set_option maxRecDepth 20000 in
theorem dX4_canRide_28 : decode cX4_canRide 28 = .ok (.istore 5, 2) := by decide +kernel
set_option maxRecDepth 20000 in
theorem dX4_canRide_30 : decode cX4_canRide 30 = .ok (.aload_n 0, 1) := by decide +kernel
set_option maxRecDepth 20000 in
theorem dX4_canRide_31 : decode cX4_canRide 31 = .ok (.getfield 30, 3) := by decide +kernel
set_option maxRecDepth 20000 in
theorem dX4_canRide_34 : decode cX4_canRide 34 = .ok (.astore 6, 2) := by decide +kernel
set_option maxRecDepth 20000 in
theorem dX4_canRide_36 : decode cX4_canRide 36 = .ok (.aload 6, 2) := by decide +kernel
set_option maxRecDepth 20000 in
theorem dX4_canRide_38 : decode cX4_canRide 38 = .ok (.arraylength, 1) := by decide +kernel
set_option maxRecDepth 20000 in
theorem dX4_canRide_39 : decode cX4_canRide 39 = .ok (.istore 7, 2) := by decide +kernel
set_option maxRecDepth 20000 in
theorem dX4_canRide_41 : decode cX4_canRide 41 = .ok (.iconst 0, 1) := by decide +kernel
set_option maxRecDepth 20000 in
theorem dX4_canRide_42 : decode cX4_canRide 42 = .ok (.istore 8, 2) := by decide +kernel
set_option maxRecDepth 20000 in
theorem dX4_canRide_44 : decode cX4_canRide 44 = .ok (.iload 8, 2) := by decide +kernel
set_option maxRecDepth 20000 in
theorem dX4_canRide_46 : decode cX4_canRide 46 = .ok (.iload 7, 2) := by decide +kernel
set_option maxRecDepth 20000 in
theorem dX4_canRide_48 : decode cX4_canRide 48 = .ok (.if_icmp .ge 69, 3) := by decide +kernel
set_option maxRecDepth 20000 in
theorem dX4_canRide_51 : decode cX4_canRide 51 = .ok (.aload 6, 2) := by decide +kernel
set_option maxRecDepth 20000 in
theorem dX4_canRide_53 : decode cX4_canRide 53 = .ok (.iload 8, 2) := by decide +kernel
set_option maxRecDepth 20000 in
theorem dX4_canRide_55 : decode cX4_canRide 55 = .ok (.aaload, 1) := by decide +kernel
set_option maxRecDepth 20000 in
theorem dX4_canRide_56 : decode cX4_canRide 56 = .ok (.astore 9, 2) := by decide +kernel
set_option maxRecDepth 20000 in
theorem dX4_canRide_58 : decode cX4_canRide 58 = .ok (.aload 9, 2) := by decide +kernel
set_option maxRecDepth 20000 in
theorem dX4_canRide_60 : decode cX4_canRide 60 = .ok (.invokevirtual 147, 3) := by decide +kernel
set_option maxRecDepth 20000 in
theorem dX4_canRide_63 : decode cX4_canRide 63 = .ok (.ifCond .eq 48, 3) := by decide +kernel
set_option maxRecDepth 20000 in
theorem dX4_canRide_66 : decode cX4_canRide 66 = .ok (.aload 9, 2) := by decide +kernel
set_option maxRecDepth 20000 in
theorem dX4_canRide_68 : decode cX4_canRide 68 = .ok (.aload_n 1, 1) := by decide +kernel
set_option maxRecDepth 20000 in
theorem dX4_canRide_69 : decode cX4_canRide 69 = .ok (.getfield 89, 3) := by decide +kernel
set_option maxRecDepth 20000 in
theorem dX4_canRide_72 : decode cX4_canRide 72 = .ok (.iload_n 2, 1) := by decide +kernel
set_option maxRecDepth 20000 in
theorem dX4_canRide_73 : decode cX4_canRide 73 = .ok (.iload_n 3, 1) := by decide +kernel
set_option maxRecDepth 20000 in
theorem dX4_canRide_74 : decode cX4_canRide 74 = .ok (.invokevirtual 150, 3) := by decide +kernel
set_option maxRecDepth 20000 in
theorem dX4_canRide_77 : decode cX4_canRide 77 = .ok (.ifCond .eq 34, 3) := by decide +kernel
set_option maxRecDepth 20000 in
theorem dX4_canRide_80 : decode cX4_canRide 80 = .ok (.aload_n 0, 1) := by decide +kernel
set_option maxRecDepth 20000 in
theorem dX4_canRide_81 : decode cX4_canRide 81 = .ok (.aload 9, 2) := by decide +kernel
set_option maxRecDepth 20000 in
theorem dX4_canRide_83 : decode cX4_canRide 83 = .ok (.getfield 86, 3) := by decide +kernel
set_option maxRecDepth 20000 in
theorem dX4_canRide_86 : decode cX4_canRide 86 = .ok (.aload 9, 2) := by decide +kernel
set_option maxRecDepth 20000 in
theorem dX4_canRide_88 : decode cX4_canRide 88 = .ok (.getfield 92, 3) := by decide +kernel
set_option maxRecDepth 20000 in
theorem dX4_canRide_91 : decode cX4_canRide 91 = .ok (.iload 4, 2) := by decide +kernel
set_option maxRecDepth 20000 in
theorem dX4_canRide_93 : decode cX4_canRide 93 = .ok (.invokevirtual 120, 3) := by decide +kernel
set_option maxRecDepth 20000 in
theorem dX4_canRide_96 : decode cX4_canRide 96 = .ok (.ifCond .eq 15, 3) := by decide +kernel
set_option maxRecDepth 20000 in
theorem dX4_canRide_99 : decode cX4_canRide 99 = .ok (.aload 9, 2) := by decide +kernel
set_option maxRecDepth 20000 in
theorem dX4_canRide_101 : decode cX4_canRide 101 = .ok (.aload_n 1, 1) := by decide +kernel
set_option maxRecDepth 20000 in
theorem dX4_canRide_102 : decode cX4_canRide 102 = .ok (.invokevirtual 159, 3) := by decide +kernel
set_option maxRecDepth 20000 in
theorem dX4_canRide_105 : decode cX4_canRide 105 = .ok (.ifCond .eq 6, 3) := by decide +kernel
set_option maxRecDepth 20000 in
theorem dX4_canRide_108 : decode cX4_canRide 108 = .ok (.iinc 5 1, 3) := by decide +kernel
set_option maxRecDepth 20000 in
theorem dX4_canRide_111 : decode cX4_canRide 111 = .ok (.iinc 8 1, 3) := by decide +kernel
set_option maxRecDepth 20000 in
theorem dX4_canRide_114 : decode cX4_canRide 114 = .ok (.goto (-70), 3) := by decide +kernel
set_option maxRecDepth 20000 in
theorem dX4_canRide_117 : decode cX4_canRide 117 = .ok (.iload 5, 2) := by decide +kernel
set_option maxRecDepth 20000 in
theorem dX4_canRide_119 : decode cX4_canRide 119 = .ok (.aload_n 0, 1) := by decide +kernel
set_option maxRecDepth 20000 in
theorem dX4_canRide_120 : decode cX4_canRide 120 = .ok (.iconst 1, 1) := by decide +kernel
set_option maxRecDepth 20000 in
theorem dX4_canRide_121 : decode cX4_canRide 121 = .ok (.invokevirtual 114, 3) := by decide +kernel
set_option maxRecDepth 20000 in
theorem dX4_canRide_124 : decode cX4_canRide 124 = .ok (.if_icmp .ge 7, 3) := by decide +kernel
set_option maxRecDepth 20000 in
theorem dX4_canRide_127 : decode cX4_canRide 127 = .ok (.iconst 1, 1) := by decide +kernel
set_option maxRecDepth 20000 in
theorem dX4_canRide_128 : decode cX4_canRide 128 = .ok (.goto 4, 3) := by decide +kernel
set_option maxRecDepth 20000 in
theorem dX4_canRide_131 : decode cX4_canRide 131 = .ok (.iconst 0, 1) := by decide +kernel
set_option maxRecDepth 20000 in
theorem dX4_canRide_132 : decode cX4_canRide 132 = .ok (.ireturn, 1) := by decide +kernel
set_option maxRecDepth 20000 in
theorem dX4_costToday_0 : decode cX4_costToday 0 = .ok (.iconst 0, 1) := by decide +kernel
set_option maxRecDepth 20000 in
theorem dX4_costToday_1 : decode cX4_costToday 1 = .ok (.istore 4, 2) := by decide +kernel
set_option maxRecDepth 20000 in
theorem dX4_costToday_3 : decode cX4_costToday 3 = .ok (.aload_n 0, 1) := by decide +kernel
set_option maxRecDepth 20000 in
theorem dX4_costToday_4 : decode cX4_costToday 4 = .ok (.getfield 30, 3) := by decide +kernel
set_option maxRecDepth 20000 in
theorem dX4_costToday_7 : decode cX4_costToday 7 = .ok (.astore 5, 2) := by decide +kernel
set_option maxRecDepth 20000 in
theorem dX4_costToday_9 : decode cX4_costToday 9 = .ok (.aload 5, 2) := by decide +kernel
set_option maxRecDepth 20000 in
theorem dX4_costToday_11 : decode cX4_costToday 11 = .ok (.arraylength, 1) := by decide +kernel
set_option maxRecDepth 20000 in
theorem dX4_costToday_12 : decode cX4_costToday 12 = .ok (.istore 6, 2) := by decide +kernel
set_option maxRecDepth 20000 in
theorem dX4_costToday_14 : decode cX4_costToday 14 = .ok (.iconst 0, 1) := by decide +kernel
set_option maxRecDepth 20000 in
theorem dX4_costToday_15 : decode cX4_costToday 15 = .ok (.istore 7, 2) := by decide +kernel
set_option maxRecDepth 20000 in
theorem dX4_costToday_17 : decode cX4_costToday 17 = .ok (.iload 7, 2) := by decide +kernel
set_option maxRecDepth 20000 in
theorem dX4_costToday_19 : decode cX4_costToday 19 = .ok (.iload 6, 2) := by decide +kernel
set_option maxRecDepth 20000 in
theorem dX4_costToday_21 : decode cX4_costToday 21 = .ok (.if_icmp .ge 58, 3) := by decide +kernel
set_option maxRecDepth 20000 in
theorem dX4_costToday_24 : decode cX4_costToday 24 = .ok (.aload 5, 2) := by decide +kernel
set_option maxRecDepth 20000 in
theorem dX4_costToday_26 : decode cX4_costToday 26 = .ok (.iload 7, 2) := by decide +kernel
set_option maxRecDepth 20000 in
theorem dX4_costToday_28 : decode cX4_costToday 28 = .ok (.aaload, 1) := by decide +kernel
set_option maxRecDepth 20000 in
theorem dX4_costToday_29 : decode cX4_costToday 29 = .ok (.astore 8, 2) := by decide +kernel
set_option maxRecDepth 20000 in
theorem dX4_costToday_31 : decode cX4_costToday 31 = .ok (.aload 8, 2) := by decide +kernel
set_option maxRecDepth 20000 in
theorem dX4_costToday_33 : decode cX4_costToday 33 = .ok (.invokevirtual 147, 3) := by decide +kernel
set_option maxRecDepth 20000 in
theorem dX4_costToday_36 : decode cX4_costToday 36 = .ok (.ifCond .eq 37, 3) := by decide +kernel
set_option maxRecDepth 20000 in
theorem dX4_costToday_39 : decode cX4_costToday 39 = .ok (.aload 8, 2) := by decide +kernel
set_option maxRecDepth 20000 in
theorem dX4_costToday_41 : decode cX4_costToday 41 = .ok (.iload_n 1, 1) := by decide +kernel
set_option maxRecDepth 20000 in
theorem dX4_costToday_42 : decode cX4_costToday 42 = .ok (.iload_n 2, 1) := by decide +kernel
set_option maxRecDepth 20000 in
theorem dX4_costToday_43 : decode cX4_costToday 43 = .ok (.iload_n 3, 1) := by decide +kernel
set_option maxRecDepth 20000 in
theorem dX4_costToday_44 : decode cX4_costToday 44 = .ok (.invokevirtual 150, 3) := by decide +kernel
set_option maxRecDepth 20000 in
theorem dX4_costToday_47 : decode cX4_costToday 47 = .ok (.ifCond .eq 26, 3) := by decide +kernel
set_option maxRecDepth 20000 in
theorem dX4_costToday_50 : decode cX4_costToday 50 = .ok (.aload_n 0, 1) := by decide +kernel
set_option maxRecDepth 20000 in
theorem dX4_costToday_51 : decode cX4_costToday 51 = .ok (.aload 8, 2) := by decide +kernel
set_option maxRecDepth 20000 in
theorem dX4_costToday_53 : decode cX4_costToday 53 = .ok (.iload_n 2, 1) := by decide +kernel
set_option maxRecDepth 20000 in
theorem dX4_costToday_54 : decode cX4_costToday 54 = .ok (.iload_n 3, 1) := by decide +kernel
set_option maxRecDepth 20000 in
theorem dX4_costToday_55 : decode cX4_costToday 55 = .ok (.invokevirtual 163, 3) := by decide +kernel
set_option maxRecDepth 20000 in
theorem dX4_costToday_58 : decode cX4_costToday 58 = .ok (.ifCond .eq 15, 3) := by decide +kernel
set_option maxRecDepth 20000 in
theorem dX4_costToday_61 : decode cX4_costToday 61 = .ok (.iload 4, 2) := by decide +kernel
set_option maxRecDepth 20000 in
theorem dX4_costToday_63 : decode cX4_costToday 63 = .ok (.aload 8, 2) := by decide +kernel
set_option maxRecDepth 20000 in
theorem dX4_costToday_65 : decode cX4_costToday 65 = .ok (.getfield 92, 3) := by decide +kernel
set_option maxRecDepth 20000 in
theorem dX4_costToday_68 : decode cX4_costToday 68 = .ok (.invokestatic 138, 3) := by decide +kernel
set_option maxRecDepth 20000 in
theorem dX4_costToday_71 : decode cX4_costToday 71 = .ok (.istore 4, 2) := by decide +kernel
set_option maxRecDepth 20000 in
theorem dX4_costToday_73 : decode cX4_costToday 73 = .ok (.iinc 7 1, 3) := by decide +kernel
set_option maxRecDepth 20000 in
theorem dX4_costToday_76 : decode cX4_costToday 76 = .ok (.goto (-59), 3) := by decide +kernel
set_option maxRecDepth 20000 in
theorem dX4_costToday_79 : decode cX4_costToday 79 = .ok (.iload 4, 2) := by decide +kernel
set_option maxRecDepth 20000 in
theorem dX4_costToday_81 : decode cX4_costToday 81 = .ok (.ifCond .ne 7, 3) := by decide +kernel
set_option maxRecDepth 20000 in
theorem dX4_costToday_84 : decode cX4_costToday 84 = .ok (.iconst 0, 1) := by decide +kernel
set_option maxRecDepth 20000 in
theorem dX4_costToday_85 : decode cX4_costToday 85 = .ok (.goto 10, 3) := by decide +kernel
set_option maxRecDepth 20000 in
theorem dX4_costToday_88 : decode cX4_costToday 88 = .ok (.bipush 20, 2) := by decide +kernel
set_option maxRecDepth 20000 in
theorem dX4_costToday_90 : decode cX4_costToday 90 = .ok (.iconst 2, 1) := by decide +kernel
set_option maxRecDepth 20000 in
theorem dX4_costToday_91 : decode cX4_costToday 91 = .ok (.iload 4, 2) := by decide +kernel
set_option maxRecDepth 20000 in
theorem dX4_costToday_93 : decode cX4_costToday 93 = .ok (.imul, 1) := by decide +kernel
set_option maxRecDepth 20000 in
theorem dX4_costToday_94 : decode cX4_costToday 94 = .ok (.iadd, 1) := by decide +kernel
set_option maxRecDepth 20000 in
theorem dX4_costToday_95 : decode cX4_costToday 95 = .ok (.ireturn, 1) := by decide +kernel
set_option maxRecDepth 20000 in
theorem dX4_runBuses_0 : decode cX4_runBuses 0 = .ok (.iconst 0, 1) := by decide +kernel
set_option maxRecDepth 20000 in
theorem dX4_runBuses_1 : decode cX4_runBuses 1 = .ok (.istore_n 1, 1) := by decide +kernel
set_option maxRecDepth 20000 in
theorem dX4_runBuses_2 : decode cX4_runBuses 2 = .ok (.iload_n 1, 1) := by decide +kernel
set_option maxRecDepth 20000 in
theorem dX4_runBuses_3 : decode cX4_runBuses 3 = .ok (.iconst 2, 1) := by decide +kernel
set_option maxRecDepth 20000 in
theorem dX4_runBuses_4 : decode cX4_runBuses 4 = .ok (.if_icmp .ge 75, 3) := by decide +kernel
set_option maxRecDepth 20000 in
theorem dX4_runBuses_7 : decode cX4_runBuses 7 = .ok (.iconst 0, 1) := by decide +kernel
set_option maxRecDepth 20000 in
theorem dX4_runBuses_8 : decode cX4_runBuses 8 = .ok (.istore_n 2, 1) := by decide +kernel
set_option maxRecDepth 20000 in
theorem dX4_runBuses_9 : decode cX4_runBuses 9 = .ok (.iload_n 2, 1) := by decide +kernel
set_option maxRecDepth 20000 in
theorem dX4_runBuses_10 : decode cX4_runBuses 10 = .ok (.aload_n 0, 1) := by decide +kernel
set_option maxRecDepth 20000 in
theorem dX4_runBuses_11 : decode cX4_runBuses 11 = .ok (.getfield 9, 3) := by decide +kernel
set_option maxRecDepth 20000 in
theorem dX4_runBuses_14 : decode cX4_runBuses 14 = .ok (.if_icmp .ge 59, 3) := by decide +kernel
set_option maxRecDepth 20000 in
theorem dX4_runBuses_17 : decode cX4_runBuses 17 = .ok (.aload_n 0, 1) := by decide +kernel
set_option maxRecDepth 20000 in
theorem dX4_runBuses_18 : decode cX4_runBuses 18 = .ok (.iload_n 1, 1) := by decide +kernel
set_option maxRecDepth 20000 in
theorem dX4_runBuses_19 : decode cX4_runBuses 19 = .ok (.iload_n 2, 1) := by decide +kernel
set_option maxRecDepth 20000 in
theorem dX4_runBuses_20 : decode cX4_runBuses 20 = .ok (.invokevirtual 106, 3) := by decide +kernel
set_option maxRecDepth 20000 in
theorem dX4_runBuses_23 : decode cX4_runBuses 23 = .ok (.istore_n 3, 1) := by decide +kernel
set_option maxRecDepth 20000 in
theorem dX4_runBuses_24 : decode cX4_runBuses 24 = .ok (.iload_n 3, 1) := by decide +kernel
set_option maxRecDepth 20000 in
theorem dX4_runBuses_25 : decode cX4_runBuses 25 = .ok (.bipush (-5), 2) := by decide +kernel
set_option maxRecDepth 20000 in
theorem dX4_runBuses_27 : decode cX4_runBuses 27 = .ok (.if_icmp .eq 16, 3) := by decide +kernel
set_option maxRecDepth 20000 in
theorem dX4_runBuses_30 : decode cX4_runBuses 30 = .ok (.aload_n 0, 1) := by decide +kernel
set_option maxRecDepth 20000 in
theorem dX4_runBuses_31 : decode cX4_runBuses 31 = .ok (.iload_n 2, 1) := by decide +kernel
set_option maxRecDepth 20000 in
theorem dX4_runBuses_32 : decode cX4_runBuses 32 = .ok (.iload_n 3, 1) := by decide +kernel
set_option maxRecDepth 20000 in
theorem dX4_runBuses_33 : decode cX4_runBuses 33 = .ok (.invokevirtual 71, 3) := by decide +kernel
set_option maxRecDepth 20000 in
theorem dX4_runBuses_36 : decode cX4_runBuses 36 = .ok (.ifCond .eq 7, 3) := by decide +kernel
set_option maxRecDepth 20000 in
theorem dX4_runBuses_39 : decode cX4_runBuses 39 = .ok (.iconst 1, 1) := by decide +kernel
set_option maxRecDepth 20000 in
theorem dX4_runBuses_40 : decode cX4_runBuses 40 = .ok (.goto 4, 3) := by decide +kernel
set_option maxRecDepth 20000 in
theorem dX4_runBuses_43 : decode cX4_runBuses 43 = .ok (.iconst 0, 1) := by decide +kernel
set_option maxRecDepth 20000 in
theorem dX4_runBuses_44 : decode cX4_runBuses 44 = .ok (.istore 4, 2) := by decide +kernel
set_option maxRecDepth 20000 in
theorem dX4_runBuses_46 : decode cX4_runBuses 46 = .ok (.iload 4, 2) := by decide +kernel
set_option maxRecDepth 20000 in
theorem dX4_runBuses_48 : decode cX4_runBuses 48 = .ok (.ifCond .ne 19, 3) := by decide +kernel
set_option maxRecDepth 20000 in
theorem dX4_runBuses_51 : decode cX4_runBuses 51 = .ok (.aload_n 0, 1) := by decide +kernel
set_option maxRecDepth 20000 in
theorem dX4_runBuses_52 : decode cX4_runBuses 52 = .ok (.dup, 1) := by decide +kernel
set_option maxRecDepth 20000 in
theorem dX4_runBuses_53 : decode cX4_runBuses 53 = .ok (.getfield 49, 3) := by decide +kernel
set_option maxRecDepth 20000 in
theorem dX4_runBuses_56 : decode cX4_runBuses 56 = .ok (.aload_n 0, 1) := by decide +kernel
set_option maxRecDepth 20000 in
theorem dX4_runBuses_57 : decode cX4_runBuses 57 = .ok (.iload_n 1, 1) := by decide +kernel
set_option maxRecDepth 20000 in
theorem dX4_runBuses_58 : decode cX4_runBuses 58 = .ok (.iload_n 2, 1) := by decide +kernel
set_option maxRecDepth 20000 in
theorem dX4_runBuses_59 : decode cX4_runBuses 59 = .ok (.iload_n 3, 1) := by decide +kernel
set_option maxRecDepth 20000 in
theorem dX4_runBuses_60 : decode cX4_runBuses 60 = .ok (.invokevirtual 167, 3) := by decide +kernel
set_option maxRecDepth 20000 in
theorem dX4_runBuses_63 : decode cX4_runBuses 63 = .ok (.iadd, 1) := by decide +kernel
set_option maxRecDepth 20000 in
theorem dX4_runBuses_64 : decode cX4_runBuses 64 = .ok (.putfield 49, 3) := by decide +kernel
set_option maxRecDepth 20000 in
theorem dX4_runBuses_67 : decode cX4_runBuses 67 = .ok (.iinc 2 1, 3) := by decide +kernel
set_option maxRecDepth 20000 in
theorem dX4_runBuses_70 : decode cX4_runBuses 70 = .ok (.goto (-61), 3) := by decide +kernel
set_option maxRecDepth 20000 in
theorem dX4_runBuses_73 : decode cX4_runBuses 73 = .ok (.iinc 1 1, 3) := by decide +kernel
set_option maxRecDepth 20000 in
theorem dX4_runBuses_76 : decode cX4_runBuses 76 = .ok (.goto (-74), 3) := by decide +kernel
set_option maxRecDepth 20000 in
theorem dX4_runBuses_79 : decode cX4_runBuses 79 = .ok (.return_, 1) := by decide +kernel
set_option maxRecDepth 20000 in
theorem dX4_bringHome_0 : decode cX4_bringHome 0 = .ok (.aload_n 0, 1) := by decide +kernel
set_option maxRecDepth 20000 in
theorem dX4_bringHome_1 : decode cX4_bringHome 1 = .ok (.getfield 30, 3) := by decide +kernel
set_option maxRecDepth 20000 in
theorem dX4_bringHome_4 : decode cX4_bringHome 4 = .ok (.astore_n 1, 1) := by decide +kernel
set_option maxRecDepth 20000 in
theorem dX4_bringHome_5 : decode cX4_bringHome 5 = .ok (.aload_n 1, 1) := by decide +kernel
set_option maxRecDepth 20000 in
theorem dX4_bringHome_6 : decode cX4_bringHome 6 = .ok (.arraylength, 1) := by decide +kernel
set_option maxRecDepth 20000 in
theorem dX4_bringHome_7 : decode cX4_bringHome 7 = .ok (.istore_n 2, 1) := by decide +kernel
set_option maxRecDepth 20000 in
theorem dX4_bringHome_8 : decode cX4_bringHome 8 = .ok (.iconst 0, 1) := by decide +kernel
set_option maxRecDepth 20000 in
theorem dX4_bringHome_9 : decode cX4_bringHome 9 = .ok (.istore_n 3, 1) := by decide +kernel
set_option maxRecDepth 20000 in
theorem dX4_bringHome_10 : decode cX4_bringHome 10 = .ok (.iload_n 3, 1) := by decide +kernel
set_option maxRecDepth 20000 in
theorem dX4_bringHome_11 : decode cX4_bringHome 11 = .ok (.iload_n 2, 1) := by decide +kernel
set_option maxRecDepth 20000 in
theorem dX4_bringHome_12 : decode cX4_bringHome 12 = .ok (.if_icmp .ge 60, 3) := by decide +kernel
set_option maxRecDepth 20000 in
theorem dX4_bringHome_15 : decode cX4_bringHome 15 = .ok (.aload_n 1, 1) := by decide +kernel
set_option maxRecDepth 20000 in
theorem dX4_bringHome_16 : decode cX4_bringHome 16 = .ok (.iload_n 3, 1) := by decide +kernel
set_option maxRecDepth 20000 in
theorem dX4_bringHome_17 : decode cX4_bringHome 17 = .ok (.aaload, 1) := by decide +kernel
set_option maxRecDepth 20000 in
theorem dX4_bringHome_18 : decode cX4_bringHome 18 = .ok (.astore 4, 2) := by decide +kernel
set_option maxRecDepth 20000 in
theorem dX4_bringHome_20 : decode cX4_bringHome 20 = .ok (.aload 4, 2) := by decide +kernel
set_option maxRecDepth 20000 in
theorem dX4_bringHome_22 : decode cX4_bringHome 22 = .ok (.invokevirtual 147, 3) := by decide +kernel
set_option maxRecDepth 20000 in
theorem dX4_bringHome_25 : decode cX4_bringHome 25 = .ok (.ifCond .eq 12, 3) := by decide +kernel
set_option maxRecDepth 20000 in
theorem dX4_bringHome_28 : decode cX4_bringHome 28 = .ok (.aload_n 0, 1) := by decide +kernel
set_option maxRecDepth 20000 in
theorem dX4_bringHome_29 : decode cX4_bringHome 29 = .ok (.aload 4, 2) := by decide +kernel
set_option maxRecDepth 20000 in
theorem dX4_bringHome_31 : decode cX4_bringHome 31 = .ok (.invokevirtual 170, 3) := by decide +kernel
set_option maxRecDepth 20000 in
theorem dX4_bringHome_34 : decode cX4_bringHome 34 = .ok (.goto 32, 3) := by decide +kernel
set_option maxRecDepth 20000 in
theorem dX4_bringHome_37 : decode cX4_bringHome 37 = .ok (.aload 4, 2) := by decide +kernel
set_option maxRecDepth 20000 in
theorem dX4_bringHome_39 : decode cX4_bringHome 39 = .ok (.invokevirtual 99, 3) := by decide +kernel
set_option maxRecDepth 20000 in
theorem dX4_bringHome_42 : decode cX4_bringHome 42 = .ok (.ifCond .eq 24, 3) := by decide +kernel
set_option maxRecDepth 20000 in
theorem dX4_bringHome_45 : decode cX4_bringHome 45 = .ok (.aload 4, 2) := by decide +kernel
set_option maxRecDepth 20000 in
theorem dX4_bringHome_47 : decode cX4_bringHome 47 = .ok (.dup, 1) := by decide +kernel
set_option maxRecDepth 20000 in
theorem dX4_bringHome_48 : decode cX4_bringHome 48 = .ok (.getfield 173, 3) := by decide +kernel
set_option maxRecDepth 20000 in
theorem dX4_bringHome_51 : decode cX4_bringHome 51 = .ok (.iconst 1, 1) := by decide +kernel
set_option maxRecDepth 20000 in
theorem dX4_bringHome_52 : decode cX4_bringHome 52 = .ok (.iadd, 1) := by decide +kernel
set_option maxRecDepth 20000 in
theorem dX4_bringHome_53 : decode cX4_bringHome 53 = .ok (.putfield 173, 3) := by decide +kernel
set_option maxRecDepth 20000 in
theorem dX4_bringHome_56 : decode cX4_bringHome 56 = .ok (.aload_n 0, 1) := by decide +kernel
set_option maxRecDepth 20000 in
theorem dX4_bringHome_57 : decode cX4_bringHome 57 = .ok (.dup, 1) := by decide +kernel
set_option maxRecDepth 20000 in
theorem dX4_bringHome_58 : decode cX4_bringHome 58 = .ok (.getfield 46, 3) := by decide +kernel
set_option maxRecDepth 20000 in
theorem dX4_bringHome_61 : decode cX4_bringHome 61 = .ok (.iconst 1, 1) := by decide +kernel
set_option maxRecDepth 20000 in
theorem dX4_bringHome_62 : decode cX4_bringHome 62 = .ok (.iadd, 1) := by decide +kernel
set_option maxRecDepth 20000 in
theorem dX4_bringHome_63 : decode cX4_bringHome 63 = .ok (.putfield 46, 3) := by decide +kernel
set_option maxRecDepth 20000 in
theorem dX4_bringHome_66 : decode cX4_bringHome 66 = .ok (.iinc 3 1, 3) := by decide +kernel
set_option maxRecDepth 20000 in
theorem dX4_bringHome_69 : decode cX4_bringHome 69 = .ok (.goto (-59), 3) := by decide +kernel
set_option maxRecDepth 20000 in
theorem dX4_bringHome_72 : decode cX4_bringHome 72 = .ok (.return_, 1) := by decide +kernel
set_option maxRecDepth 20000 in
theorem dX4_bringRiderHome_0 : decode cX4_bringRiderHome 0 = .ok (.aload_n 0, 1) := by decide +kernel
set_option maxRecDepth 20000 in
theorem dX4_bringRiderHome_1 : decode cX4_bringRiderHome 1 = .ok (.aload_n 1, 1) := by decide +kernel
set_option maxRecDepth 20000 in
theorem dX4_bringRiderHome_2 : decode cX4_bringRiderHome 2 = .ok (.aload_n 1, 1) := by decide +kernel
set_option maxRecDepth 20000 in
theorem dX4_bringRiderHome_3 : decode cX4_bringRiderHome 3 = .ok (.getfield 86, 3) := by decide +kernel
set_option maxRecDepth 20000 in
theorem dX4_bringRiderHome_6 : decode cX4_bringRiderHome 6 = .ok (.aload_n 0, 1) := by decide +kernel
set_option maxRecDepth 20000 in
theorem dX4_bringRiderHome_7 : decode cX4_bringRiderHome 7 = .ok (.aload_n 1, 1) := by decide +kernel
set_option maxRecDepth 20000 in
theorem dX4_bringRiderHome_8 : decode cX4_bringRiderHome 8 = .ok (.getfield 89, 3) := by decide +kernel
set_option maxRecDepth 20000 in
theorem dX4_bringRiderHome_11 : decode cX4_bringRiderHome 11 = .ok (.aload_n 1, 1) := by decide +kernel
set_option maxRecDepth 20000 in
theorem dX4_bringRiderHome_12 : decode cX4_bringRiderHome 12 = .ok (.getfield 86, 3) := by decide +kernel
set_option maxRecDepth 20000 in
theorem dX4_bringRiderHome_15 : decode cX4_bringRiderHome 15 = .ok (.invokevirtual 106, 3) := by decide +kernel
set_option maxRecDepth 20000 in
theorem dX4_bringRiderHome_18 : decode cX4_bringRiderHome 18 = .ok (.invokevirtual 163, 3) := by decide +kernel
set_option maxRecDepth 20000 in
theorem dX4_bringRiderHome_21 : decode cX4_bringRiderHome 21 = .ok (.ifCond .eq 26, 3) := by decide +kernel
set_option maxRecDepth 20000 in
theorem dX4_bringRiderHome_24 : decode cX4_bringRiderHome 24 = .ok (.aload_n 1, 1) := by decide +kernel
set_option maxRecDepth 20000 in
theorem dX4_bringRiderHome_25 : decode cX4_bringRiderHome 25 = .ok (.dup, 1) := by decide +kernel
set_option maxRecDepth 20000 in
theorem dX4_bringRiderHome_26 : decode cX4_bringRiderHome 26 = .ok (.getfield 174, 3) := by decide +kernel
set_option maxRecDepth 20000 in
theorem dX4_bringRiderHome_29 : decode cX4_bringRiderHome 29 = .ok (.iconst 1, 1) := by decide +kernel
set_option maxRecDepth 20000 in
theorem dX4_bringRiderHome_30 : decode cX4_bringRiderHome 30 = .ok (.iadd, 1) := by decide +kernel
set_option maxRecDepth 20000 in
theorem dX4_bringRiderHome_31 : decode cX4_bringRiderHome 31 = .ok (.putfield 174, 3) := by decide +kernel
set_option maxRecDepth 20000 in
theorem dX4_bringRiderHome_34 : decode cX4_bringRiderHome 34 = .ok (.aload_n 0, 1) := by decide +kernel
set_option maxRecDepth 20000 in
theorem dX4_bringRiderHome_35 : decode cX4_bringRiderHome 35 = .ok (.dup, 1) := by decide +kernel
set_option maxRecDepth 20000 in
theorem dX4_bringRiderHome_36 : decode cX4_bringRiderHome 36 = .ok (.getfield 40, 3) := by decide +kernel
set_option maxRecDepth 20000 in
theorem dX4_bringRiderHome_39 : decode cX4_bringRiderHome 39 = .ok (.iconst 1, 1) := by decide +kernel
set_option maxRecDepth 20000 in
theorem dX4_bringRiderHome_40 : decode cX4_bringRiderHome 40 = .ok (.iadd, 1) := by decide +kernel
set_option maxRecDepth 20000 in
theorem dX4_bringRiderHome_41 : decode cX4_bringRiderHome 41 = .ok (.putfield 40, 3) := by decide +kernel
set_option maxRecDepth 20000 in
theorem dX4_bringRiderHome_44 : decode cX4_bringRiderHome 44 = .ok (.goto 41, 3) := by decide +kernel
set_option maxRecDepth 20000 in
theorem dX4_bringRiderHome_47 : decode cX4_bringRiderHome 47 = .ok (.aload_n 1, 1) := by decide +kernel
set_option maxRecDepth 20000 in
theorem dX4_bringRiderHome_48 : decode cX4_bringRiderHome 48 = .ok (.dup, 1) := by decide +kernel
set_option maxRecDepth 20000 in
theorem dX4_bringRiderHome_49 : decode cX4_bringRiderHome 49 = .ok (.getfield 175, 3) := by decide +kernel
set_option maxRecDepth 20000 in
theorem dX4_bringRiderHome_52 : decode cX4_bringRiderHome 52 = .ok (.iconst 1, 1) := by decide +kernel
set_option maxRecDepth 20000 in
theorem dX4_bringRiderHome_53 : decode cX4_bringRiderHome 53 = .ok (.iadd, 1) := by decide +kernel
set_option maxRecDepth 20000 in
theorem dX4_bringRiderHome_54 : decode cX4_bringRiderHome 54 = .ok (.putfield 175, 3) := by decide +kernel
set_option maxRecDepth 20000 in
theorem dX4_bringRiderHome_57 : decode cX4_bringRiderHome 57 = .ok (.aload_n 0, 1) := by decide +kernel
set_option maxRecDepth 20000 in
theorem dX4_bringRiderHome_58 : decode cX4_bringRiderHome 58 = .ok (.dup, 1) := by decide +kernel
set_option maxRecDepth 20000 in
theorem dX4_bringRiderHome_59 : decode cX4_bringRiderHome 59 = .ok (.getfield 43, 3) := by decide +kernel
set_option maxRecDepth 20000 in
theorem dX4_bringRiderHome_62 : decode cX4_bringRiderHome 62 = .ok (.iconst 1, 1) := by decide +kernel
set_option maxRecDepth 20000 in
theorem dX4_bringRiderHome_63 : decode cX4_bringRiderHome 63 = .ok (.iadd, 1) := by decide +kernel
set_option maxRecDepth 20000 in
theorem dX4_bringRiderHome_64 : decode cX4_bringRiderHome 64 = .ok (.putfield 43, 3) := by decide +kernel
set_option maxRecDepth 20000 in
theorem dX4_bringRiderHome_67 : decode cX4_bringRiderHome 67 = .ok (.aload_n 0, 1) := by decide +kernel
set_option maxRecDepth 20000 in
theorem dX4_bringRiderHome_68 : decode cX4_bringRiderHome 68 = .ok (.dup, 1) := by decide +kernel
set_option maxRecDepth 20000 in
theorem dX4_bringRiderHome_69 : decode cX4_bringRiderHome 69 = .ok (.getfield 52, 3) := by decide +kernel
set_option maxRecDepth 20000 in
theorem dX4_bringRiderHome_72 : decode cX4_bringRiderHome 72 = .ok (.bipush 8, 2) := by decide +kernel
set_option maxRecDepth 20000 in
theorem dX4_bringRiderHome_74 : decode cX4_bringRiderHome 74 = .ok (.iconst 3, 1) := by decide +kernel
set_option maxRecDepth 20000 in
theorem dX4_bringRiderHome_75 : decode cX4_bringRiderHome 75 = .ok (.aload_n 1, 1) := by decide +kernel
set_option maxRecDepth 20000 in
theorem dX4_bringRiderHome_76 : decode cX4_bringRiderHome 76 = .ok (.getfield 92, 3) := by decide +kernel
set_option maxRecDepth 20000 in
theorem dX4_bringRiderHome_79 : decode cX4_bringRiderHome 79 = .ok (.imul, 1) := by decide +kernel
set_option maxRecDepth 20000 in
theorem dX4_bringRiderHome_80 : decode cX4_bringRiderHome 80 = .ok (.iadd, 1) := by decide +kernel
set_option maxRecDepth 20000 in
theorem dX4_bringRiderHome_81 : decode cX4_bringRiderHome 81 = .ok (.iadd, 1) := by decide +kernel
set_option maxRecDepth 20000 in
theorem dX4_bringRiderHome_82 : decode cX4_bringRiderHome 82 = .ok (.putfield 52, 3) := by decide +kernel
set_option maxRecDepth 20000 in
theorem dX4_bringRiderHome_85 : decode cX4_bringRiderHome 85 = .ok (.return_, 1) := by decide +kernel
set_option maxRecDepth 20000 in
theorem dX5_init_0 : decode cX5_init 0 = .ok (.aload_n 0, 1) := by decide +kernel
set_option maxRecDepth 20000 in
theorem dX5_init_1 : decode cX5_init 1 = .ok (.invokespecial 1, 3) := by decide +kernel
set_option maxRecDepth 20000 in
theorem dX5_init_4 : decode cX5_init 4 = .ok (.aload_n 0, 1) := by decide +kernel
set_option maxRecDepth 20000 in
theorem dX5_init_5 : decode cX5_init 5 = .ok (.new 7, 3) := by decide +kernel
set_option maxRecDepth 20000 in
theorem dX5_init_8 : decode cX5_init 8 = .ok (.dup, 1) := by decide +kernel
set_option maxRecDepth 20000 in
theorem dX5_init_9 : decode cX5_init 9 = .ok (.invokespecial 9, 3) := by decide +kernel
set_option maxRecDepth 20000 in
theorem dX5_init_12 : decode cX5_init 12 = .ok (.putfield 10, 3) := by decide +kernel
set_option maxRecDepth 20000 in
theorem dX5_init_15 : decode cX5_init 15 = .ok (.aload_n 0, 1) := by decide +kernel
set_option maxRecDepth 20000 in
theorem dX5_init_16 : decode cX5_init 16 = .ok (.new 16, 3) := by decide +kernel
set_option maxRecDepth 20000 in
theorem dX5_init_19 : decode cX5_init 19 = .ok (.dup, 1) := by decide +kernel
set_option maxRecDepth 20000 in
theorem dX5_init_20 : decode cX5_init 20 = .ok (.invokespecial 18, 3) := by decide +kernel
set_option maxRecDepth 20000 in
theorem dX5_init_23 : decode cX5_init 23 = .ok (.putfield 19, 3) := by decide +kernel
set_option maxRecDepth 20000 in
theorem dX5_init_26 : decode cX5_init 26 = .ok (.aload_n 0, 1) := by decide +kernel
set_option maxRecDepth 20000 in
theorem dX5_init_27 : decode cX5_init 27 = .ok (.new 23, 3) := by decide +kernel
set_option maxRecDepth 20000 in
theorem dX5_init_30 : decode cX5_init 30 = .ok (.dup, 1) := by decide +kernel
set_option maxRecDepth 20000 in
theorem dX5_init_31 : decode cX5_init 31 = .ok (.invokespecial 25, 3) := by decide +kernel
set_option maxRecDepth 20000 in
theorem dX5_init_34 : decode cX5_init 34 = .ok (.putfield 26, 3) := by decide +kernel
set_option maxRecDepth 20000 in
theorem dX5_init_37 : decode cX5_init 37 = .ok (.aload_n 0, 1) := by decide +kernel
set_option maxRecDepth 20000 in
theorem dX5_init_38 : decode cX5_init 38 = .ok (.new 7, 3) := by decide +kernel
set_option maxRecDepth 20000 in
theorem dX5_init_41 : decode cX5_init 41 = .ok (.dup, 1) := by decide +kernel
set_option maxRecDepth 20000 in
theorem dX5_init_42 : decode cX5_init 42 = .ok (.invokespecial 9, 3) := by decide +kernel
set_option maxRecDepth 20000 in
theorem dX5_init_45 : decode cX5_init 45 = .ok (.putfield 30, 3) := by decide +kernel
set_option maxRecDepth 20000 in
theorem dX5_init_48 : decode cX5_init 48 = .ok (.aload_n 0, 1) := by decide +kernel
set_option maxRecDepth 20000 in
theorem dX5_init_49 : decode cX5_init 49 = .ok (.iconst 0, 1) := by decide +kernel
set_option maxRecDepth 20000 in
theorem dX5_init_50 : decode cX5_init 50 = .ok (.putfield 33, 3) := by decide +kernel
set_option maxRecDepth 20000 in
theorem dX5_init_53 : decode cX5_init 53 = .ok (.return_, 1) := by decide +kernel
set_option maxRecDepth 20000 in
theorem dX5_addEnd_0 : decode cX5_addEnd 0 = .ok (.iload_n 1, 1) := by decide +kernel
set_option maxRecDepth 20000 in
theorem dX5_addEnd_1 : decode cX5_addEnd 1 = .ok (.ifCond .lt 10, 3) := by decide +kernel
set_option maxRecDepth 20000 in
theorem dX5_addEnd_4 : decode cX5_addEnd 4 = .ok (.iload_n 1, 1) := by decide +kernel
set_option maxRecDepth 20000 in
theorem dX5_addEnd_5 : decode cX5_addEnd 5 = .ok (.sipush 1440, 3) := by decide +kernel
set_option maxRecDepth 20000 in
theorem dX5_addEnd_8 : decode cX5_addEnd 8 = .ok (.if_icmp .lt 6, 3) := by decide +kernel
set_option maxRecDepth 20000 in
theorem dX5_addEnd_11 : decode cX5_addEnd 11 = .ok (.bipush (-2), 2) := by decide +kernel
set_option maxRecDepth 20000 in
theorem dX5_addEnd_13 : decode cX5_addEnd 13 = .ok (.ireturn, 1) := by decide +kernel
set_option maxRecDepth 20000 in
theorem dX5_addEnd_14 : decode cX5_addEnd 14 = .ok (.aload_n 0, 1) := by decide +kernel
set_option maxRecDepth 20000 in
theorem dX5_addEnd_15 : decode cX5_addEnd 15 = .ok (.getfield 10, 3) := by decide +kernel
set_option maxRecDepth 20000 in
theorem dX5_addEnd_18 : decode cX5_addEnd 18 = .ok (.getfield 37, 3) := by decide +kernel
set_option maxRecDepth 20000 in
theorem dX5_addEnd_21 : decode cX5_addEnd 21 = .ok (.bipush 10, 2) := by decide +kernel
set_option maxRecDepth 20000 in
theorem dX5_addEnd_23 : decode cX5_addEnd 23 = .ok (.if_icmp .lt 6, 3) := by decide +kernel
set_option maxRecDepth 20000 in
theorem dX5_addEnd_26 : decode cX5_addEnd 26 = .ok (.bipush (-3), 2) := by decide +kernel
set_option maxRecDepth 20000 in
theorem dX5_addEnd_28 : decode cX5_addEnd 28 = .ok (.ireturn, 1) := by decide +kernel
set_option maxRecDepth 20000 in
theorem dX5_addEnd_29 : decode cX5_addEnd 29 = .ok (.aload_n 0, 1) := by decide +kernel
set_option maxRecDepth 20000 in
theorem dX5_addEnd_30 : decode cX5_addEnd 30 = .ok (.getfield 26, 3) := by decide +kernel
set_option maxRecDepth 20000 in
theorem dX5_addEnd_33 : decode cX5_addEnd 33 = .ok (.aload_n 0, 1) := by decide +kernel
set_option maxRecDepth 20000 in
theorem dX5_addEnd_34 : decode cX5_addEnd 34 = .ok (.getfield 10, 3) := by decide +kernel
set_option maxRecDepth 20000 in
theorem dX5_addEnd_37 : decode cX5_addEnd 37 = .ok (.invokevirtual 41, 3) := by decide +kernel
set_option maxRecDepth 20000 in
theorem dX5_addEnd_40 : decode cX5_addEnd 40 = .ok (.aload_n 0, 1) := by decide +kernel
set_option maxRecDepth 20000 in
theorem dX5_addEnd_41 : decode cX5_addEnd 41 = .ok (.getfield 10, 3) := by decide +kernel
set_option maxRecDepth 20000 in
theorem dX5_addEnd_44 : decode cX5_addEnd 44 = .ok (.iload_n 1, 1) := by decide +kernel
set_option maxRecDepth 20000 in
theorem dX5_addEnd_45 : decode cX5_addEnd 45 = .ok (.invokevirtual 45, 3) := by decide +kernel
set_option maxRecDepth 20000 in
theorem dX5_addEnd_48 : decode cX5_addEnd 48 = .ok (.ireturn, 1) := by decide +kernel
set_option maxRecDepth 20000 in
theorem dX5_book_0 : decode cX5_book 0 = .ok (.aload_n 0, 1) := by decide +kernel
set_option maxRecDepth 20000 in
theorem dX5_book_1 : decode cX5_book 1 = .ok (.getfield 10, 3) := by decide +kernel
set_option maxRecDepth 20000 in
theorem dX5_book_4 : decode cX5_book 4 = .ok (.iload_n 1, 1) := by decide +kernel
set_option maxRecDepth 20000 in
theorem dX5_book_5 : decode cX5_book 5 = .ok (.invokevirtual 49, 3) := by decide +kernel
set_option maxRecDepth 20000 in
theorem dX5_book_8 : decode cX5_book 8 = .ok (.ifCond .eq 17, 3) := by decide +kernel
set_option maxRecDepth 20000 in
theorem dX5_book_11 : decode cX5_book 11 = .ok (.iload_n 2, 1) := by decide +kernel
set_option maxRecDepth 20000 in
theorem dX5_book_12 : decode cX5_book 12 = .ok (.invokestatic 53, 3) := by decide +kernel
set_option maxRecDepth 20000 in
theorem dX5_book_15 : decode cX5_book 15 = .ok (.ifCond .eq 10, 3) := by decide +kernel
set_option maxRecDepth 20000 in
theorem dX5_book_18 : decode cX5_book 18 = .ok (.iload_n 3, 1) := by decide +kernel
set_option maxRecDepth 20000 in
theorem dX5_book_19 : decode cX5_book 19 = .ok (.invokestatic 56, 3) := by decide +kernel
set_option maxRecDepth 20000 in
theorem dX5_book_22 : decode cX5_book 22 = .ok (.ifCond .ne 5, 3) := by decide +kernel
set_option maxRecDepth 20000 in
theorem dX5_book_25 : decode cX5_book 25 = .ok (.iconst (-1), 1) := by decide +kernel
set_option maxRecDepth 20000 in
theorem dX5_book_26 : decode cX5_book 26 = .ok (.ireturn, 1) := by decide +kernel
set_option maxRecDepth 20000 in
theorem dX5_book_27 : decode cX5_book 27 = .ok (.aload_n 0, 1) := by decide +kernel
set_option maxRecDepth 20000 in
theorem dX5_book_28 : decode cX5_book 28 = .ok (.getfield 10, 3) := by decide +kernel
set_option maxRecDepth 20000 in
theorem dX5_book_31 : decode cX5_book 31 = .ok (.invokevirtual 59, 3) := by decide +kernel
set_option maxRecDepth 20000 in
theorem dX5_book_34 : decode cX5_book 34 = .ok (.bipush 30, 2) := by decide +kernel
set_option maxRecDepth 20000 in
theorem dX5_book_36 : decode cX5_book 36 = .ok (.if_icmp .lt 6, 3) := by decide +kernel
set_option maxRecDepth 20000 in
theorem dX5_book_39 : decode cX5_book 39 = .ok (.bipush (-3), 2) := by decide +kernel
set_option maxRecDepth 20000 in
theorem dX5_book_41 : decode cX5_book 41 = .ok (.ireturn, 1) := by decide +kernel
set_option maxRecDepth 20000 in
theorem dX5_book_42 : decode cX5_book 42 = .ok (.aload_n 0, 1) := by decide +kernel
set_option maxRecDepth 20000 in
theorem dX5_book_43 : decode cX5_book 43 = .ok (.getfield 26, 3) := by decide +kernel
set_option maxRecDepth 20000 in
theorem dX5_book_46 : decode cX5_book 46 = .ok (.aload_n 0, 1) := by decide +kernel
set_option maxRecDepth 20000 in
theorem dX5_book_47 : decode cX5_book 47 = .ok (.getfield 10, 3) := by decide +kernel
set_option maxRecDepth 20000 in
theorem dX5_book_50 : decode cX5_book 50 = .ok (.invokevirtual 41, 3) := by decide +kernel
set_option maxRecDepth 20000 in
theorem dX5_book_53 : decode cX5_book 53 = .ok (.aload_n 0, 1) := by decide +kernel
set_option maxRecDepth 20000 in
theorem dX5_book_54 : decode cX5_book 54 = .ok (.getfield 10, 3) := by decide +kernel
set_option maxRecDepth 20000 in
theorem dX5_book_57 : decode cX5_book 57 = .ok (.iload_n 1, 1) := by decide +kernel
set_option maxRecDepth 20000 in
theorem dX5_book_58 : decode cX5_book 58 = .ok (.iload_n 2, 1) := by decide +kernel
set_option maxRecDepth 20000 in
theorem dX5_book_59 : decode cX5_book 59 = .ok (.iload_n 3, 1) := by decide +kernel
set_option maxRecDepth 20000 in
theorem dX5_book_60 : decode cX5_book 60 = .ok (.invokevirtual 63, 3) := by decide +kernel
set_option maxRecDepth 20000 in
theorem dX5_book_63 : decode cX5_book 63 = .ok (.ireturn, 1) := by decide +kernel
set_option maxRecDepth 20000 in
theorem dX5_takeBack_0 : decode cX5_takeBack 0 = .ok (.aload_n 0, 1) := by decide +kernel
set_option maxRecDepth 20000 in
theorem dX5_takeBack_1 : decode cX5_takeBack 1 = .ok (.getfield 10, 3) := by decide +kernel
set_option maxRecDepth 20000 in
theorem dX5_takeBack_4 : decode cX5_takeBack 4 = .ok (.iload_n 1, 1) := by decide +kernel
set_option maxRecDepth 20000 in
theorem dX5_takeBack_5 : decode cX5_takeBack 5 = .ok (.invokevirtual 80, 3) := by decide +kernel
set_option maxRecDepth 20000 in
theorem dX5_takeBack_8 : decode cX5_takeBack 8 = .ok (.astore_n 2, 1) := by decide +kernel
set_option maxRecDepth 20000 in
theorem dX5_takeBack_9 : decode cX5_takeBack 9 = .ok (.aload_n 2, 1) := by decide +kernel
set_option maxRecDepth 20000 in
theorem dX5_takeBack_10 : decode cX5_takeBack 10 = .ok (.ifnonnull 5, 3) := by decide +kernel
set_option maxRecDepth 20000 in
theorem dX5_takeBack_13 : decode cX5_takeBack 13 = .ok (.iconst (-1), 1) := by decide +kernel
set_option maxRecDepth 20000 in
theorem dX5_takeBack_14 : decode cX5_takeBack 14 = .ok (.ireturn, 1) := by decide +kernel
set_option maxRecDepth 20000 in
theorem dX5_takeBack_15 : decode cX5_takeBack 15 = .ok (.aload_n 0, 1) := by decide +kernel
set_option maxRecDepth 20000 in
theorem dX5_takeBack_16 : decode cX5_takeBack 16 = .ok (.getfield 26, 3) := by decide +kernel
set_option maxRecDepth 20000 in
theorem dX5_takeBack_19 : decode cX5_takeBack 19 = .ok (.aload_n 0, 1) := by decide +kernel
set_option maxRecDepth 20000 in
theorem dX5_takeBack_20 : decode cX5_takeBack 20 = .ok (.getfield 10, 3) := by decide +kernel
set_option maxRecDepth 20000 in
theorem dX5_takeBack_23 : decode cX5_takeBack 23 = .ok (.invokevirtual 41, 3) := by decide +kernel
set_option maxRecDepth 20000 in
theorem dX5_takeBack_26 : decode cX5_takeBack 26 = .ok (.aload_n 2, 1) := by decide +kernel
set_option maxRecDepth 20000 in
theorem dX5_takeBack_27 : decode cX5_takeBack 27 = .ok (.invokevirtual 84, 3) := by decide +kernel
set_option maxRecDepth 20000 in
theorem dX5_takeBack_30 : decode cX5_takeBack 30 = .ok (.aload_n 0, 1) := by decide +kernel
set_option maxRecDepth 20000 in
theorem dX5_takeBack_31 : decode cX5_takeBack 31 = .ok (.getfield 10, 3) := by decide +kernel
set_option maxRecDepth 20000 in
theorem dX5_takeBack_34 : decode cX5_takeBack 34 = .ok (.invokevirtual 89, 3) := by decide +kernel
set_option maxRecDepth 20000 in
theorem dX5_takeBack_37 : decode cX5_takeBack 37 = .ok (.aload_n 0, 1) := by decide +kernel
set_option maxRecDepth 20000 in
theorem dX5_takeBack_38 : decode cX5_takeBack 38 = .ok (.getfield 10, 3) := by decide +kernel
set_option maxRecDepth 20000 in
theorem dX5_takeBack_41 : decode cX5_takeBack 41 = .ok (.invokevirtual 92, 3) := by decide +kernel
set_option maxRecDepth 20000 in
theorem dX5_takeBack_44 : decode cX5_takeBack 44 = .ok (.ireturn, 1) := by decide +kernel
set_option maxRecDepth 20000 in
theorem dX5_stay_0 : decode cX5_stay 0 = .ok (.aload_n 0, 1) := by decide +kernel
set_option maxRecDepth 20000 in
theorem dX5_stay_1 : decode cX5_stay 1 = .ok (.getfield 10, 3) := by decide +kernel
set_option maxRecDepth 20000 in
theorem dX5_stay_4 : decode cX5_stay 4 = .ok (.iload_n 1, 1) := by decide +kernel
set_option maxRecDepth 20000 in
theorem dX5_stay_5 : decode cX5_stay 5 = .ok (.invokevirtual 80, 3) := by decide +kernel
set_option maxRecDepth 20000 in
theorem dX5_stay_8 : decode cX5_stay 8 = .ok (.astore_n 3, 1) := by decide +kernel
set_option maxRecDepth 20000 in
theorem dX5_stay_9 : decode cX5_stay 9 = .ok (.aload_n 3, 1) := by decide +kernel
set_option maxRecDepth 20000 in
theorem dX5_stay_10 : decode cX5_stay 10 = .ok (.ifnull 14, 3) := by decide +kernel
set_option maxRecDepth 20000 in
theorem dX5_stay_13 : decode cX5_stay 13 = .ok (.aload_n 0, 1) := by decide +kernel
set_option maxRecDepth 20000 in
theorem dX5_stay_14 : decode cX5_stay 14 = .ok (.getfield 10, 3) := by decide +kernel
set_option maxRecDepth 20000 in
theorem dX5_stay_17 : decode cX5_stay 17 = .ok (.iload_n 2, 1) := by decide +kernel
set_option maxRecDepth 20000 in
theorem dX5_stay_18 : decode cX5_stay 18 = .ok (.invokevirtual 49, 3) := by decide +kernel
set_option maxRecDepth 20000 in
theorem dX5_stay_21 : decode cX5_stay 21 = .ok (.ifCond .ne 5, 3) := by decide +kernel
set_option maxRecDepth 20000 in
theorem dX5_stay_24 : decode cX5_stay 24 = .ok (.iconst (-1), 1) := by decide +kernel
set_option maxRecDepth 20000 in
theorem dX5_stay_25 : decode cX5_stay 25 = .ok (.ireturn, 1) := by decide +kernel
set_option maxRecDepth 20000 in
theorem dX5_stay_26 : decode cX5_stay 26 = .ok (.aload_n 3, 1) := by decide +kernel
set_option maxRecDepth 20000 in
theorem dX5_stay_27 : decode cX5_stay 27 = .ok (.getfield 95, 3) := by decide +kernel
set_option maxRecDepth 20000 in
theorem dX5_stay_30 : decode cX5_stay 30 = .ok (.iload_n 2, 1) := by decide +kernel
set_option maxRecDepth 20000 in
theorem dX5_stay_31 : decode cX5_stay 31 = .ok (.if_icmp .ne 6, 3) := by decide +kernel
set_option maxRecDepth 20000 in
theorem dX5_stay_34 : decode cX5_stay 34 = .ok (.bipush (-5), 2) := by decide +kernel
set_option maxRecDepth 20000 in
theorem dX5_stay_36 : decode cX5_stay 36 = .ok (.ireturn, 1) := by decide +kernel
set_option maxRecDepth 20000 in
theorem dX5_stay_37 : decode cX5_stay 37 = .ok (.aload_n 0, 1) := by decide +kernel
set_option maxRecDepth 20000 in
theorem dX5_stay_38 : decode cX5_stay 38 = .ok (.getfield 26, 3) := by decide +kernel
set_option maxRecDepth 20000 in
theorem dX5_stay_41 : decode cX5_stay 41 = .ok (.aload_n 0, 1) := by decide +kernel
set_option maxRecDepth 20000 in
theorem dX5_stay_42 : decode cX5_stay 42 = .ok (.getfield 10, 3) := by decide +kernel
set_option maxRecDepth 20000 in
theorem dX5_stay_45 : decode cX5_stay 45 = .ok (.invokevirtual 41, 3) := by decide +kernel
set_option maxRecDepth 20000 in
theorem dX5_stay_48 : decode cX5_stay 48 = .ok (.aload_n 3, 1) := by decide +kernel
set_option maxRecDepth 20000 in
theorem dX5_stay_49 : decode cX5_stay 49 = .ok (.iload_n 2, 1) := by decide +kernel
set_option maxRecDepth 20000 in
theorem dX5_stay_50 : decode cX5_stay 50 = .ok (.putfield 95, 3) := by decide +kernel
set_option maxRecDepth 20000 in
theorem dX5_stay_53 : decode cX5_stay 53 = .ok (.aload_n 3, 1) := by decide +kernel
set_option maxRecDepth 20000 in
theorem dX5_stay_54 : decode cX5_stay 54 = .ok (.iconst 0, 1) := by decide +kernel
set_option maxRecDepth 20000 in
theorem dX5_stay_55 : decode cX5_stay 55 = .ok (.putfield 98, 3) := by decide +kernel
set_option maxRecDepth 20000 in
theorem dX5_stay_58 : decode cX5_stay 58 = .ok (.aload_n 0, 1) := by decide +kernel
set_option maxRecDepth 20000 in
theorem dX5_stay_59 : decode cX5_stay 59 = .ok (.getfield 10, 3) := by decide +kernel
set_option maxRecDepth 20000 in
theorem dX5_stay_62 : decode cX5_stay 62 = .ok (.invokevirtual 89, 3) := by decide +kernel
set_option maxRecDepth 20000 in
theorem dX5_stay_65 : decode cX5_stay 65 = .ok (.aload_n 3, 1) := by decide +kernel
set_option maxRecDepth 20000 in
theorem dX5_stay_66 : decode cX5_stay 66 = .ok (.getfield 98, 3) := by decide +kernel
set_option maxRecDepth 20000 in
theorem dX5_stay_69 : decode cX5_stay 69 = .ok (.ifCond .eq 7, 3) := by decide +kernel
set_option maxRecDepth 20000 in
theorem dX5_stay_72 : decode cX5_stay 72 = .ok (.iconst 1, 1) := by decide +kernel
set_option maxRecDepth 20000 in
theorem dX5_stay_73 : decode cX5_stay 73 = .ok (.goto 4, 3) := by decide +kernel
set_option maxRecDepth 20000 in
theorem dX5_stay_76 : decode cX5_stay 76 = .ok (.iconst 0, 1) := by decide +kernel
set_option maxRecDepth 20000 in
theorem dX5_stay_77 : decode cX5_stay 77 = .ok (.ireturn, 1) := by decide +kernel
set_option maxRecDepth 20000 in
theorem dX5_merge_0 : decode cX5_merge 0 = .ok (.aload_n 0, 1) := by decide +kernel
set_option maxRecDepth 20000 in
theorem dX5_merge_1 : decode cX5_merge 1 = .ok (.iload_n 1, 1) := by decide +kernel
set_option maxRecDepth 20000 in
theorem dX5_merge_2 : decode cX5_merge 2 = .ok (.iload_n 2, 1) := by decide +kernel
set_option maxRecDepth 20000 in
theorem dX5_merge_3 : decode cX5_merge 3 = .ok (.iload_n 3, 1) := by decide +kernel
set_option maxRecDepth 20000 in
theorem dX5_merge_4 : decode cX5_merge 4 = .ok (.invokevirtual 101, 3) := by decide +kernel
set_option maxRecDepth 20000 in
theorem dX5_merge_7 : decode cX5_merge 7 = .ok (.istore 4, 2) := by decide +kernel
set_option maxRecDepth 20000 in
theorem dX5_merge_9 : decode cX5_merge 9 = .ok (.iload 4, 2) := by decide +kernel
set_option maxRecDepth 20000 in
theorem dX5_merge_11 : decode cX5_merge 11 = .ok (.ifCond .eq 6, 3) := by decide +kernel
set_option maxRecDepth 20000 in
theorem dX5_merge_14 : decode cX5_merge 14 = .ok (.iload 4, 2) := by decide +kernel
set_option maxRecDepth 20000 in
theorem dX5_merge_16 : decode cX5_merge 16 = .ok (.ireturn, 1) := by decide +kernel
set_option maxRecDepth 20000 in
theorem dX5_merge_17 : decode cX5_merge 17 = .ok (.aload_n 0, 1) := by decide +kernel
set_option maxRecDepth 20000 in
theorem dX5_merge_18 : decode cX5_merge 18 = .ok (.getfield 26, 3) := by decide +kernel
set_option maxRecDepth 20000 in
theorem dX5_merge_21 : decode cX5_merge 21 = .ok (.aload_n 0, 1) := by decide +kernel
set_option maxRecDepth 20000 in
theorem dX5_merge_22 : decode cX5_merge 22 = .ok (.getfield 10, 3) := by decide +kernel
set_option maxRecDepth 20000 in
theorem dX5_merge_25 : decode cX5_merge 25 = .ok (.invokevirtual 41, 3) := by decide +kernel
set_option maxRecDepth 20000 in
theorem dX5_merge_28 : decode cX5_merge 28 = .ok (.aload_n 0, 1) := by decide +kernel
set_option maxRecDepth 20000 in
theorem dX5_merge_29 : decode cX5_merge 29 = .ok (.getfield 10, 3) := by decide +kernel
set_option maxRecDepth 20000 in
theorem dX5_merge_32 : decode cX5_merge 32 = .ok (.iload_n 1, 1) := by decide +kernel
set_option maxRecDepth 20000 in
theorem dX5_merge_33 : decode cX5_merge 33 = .ok (.iload_n 2, 1) := by decide +kernel
set_option maxRecDepth 20000 in
theorem dX5_merge_34 : decode cX5_merge 34 = .ok (.iload_n 3, 1) := by decide +kernel
set_option maxRecDepth 20000 in
theorem dX5_merge_35 : decode cX5_merge 35 = .ok (.invokevirtual 104, 3) := by decide +kernel
set_option maxRecDepth 20000 in
theorem dX5_merge_38 : decode cX5_merge 38 = .ok (.aload_n 0, 1) := by decide +kernel
set_option maxRecDepth 20000 in
theorem dX5_merge_39 : decode cX5_merge 39 = .ok (.getfield 10, 3) := by decide +kernel
set_option maxRecDepth 20000 in
theorem dX5_merge_42 : decode cX5_merge 42 = .ok (.iload_n 1, 1) := by decide +kernel
set_option maxRecDepth 20000 in
theorem dX5_merge_43 : decode cX5_merge 43 = .ok (.iload_n 3, 1) := by decide +kernel
set_option maxRecDepth 20000 in
theorem dX5_merge_44 : decode cX5_merge 44 = .ok (.iload_n 2, 1) := by decide +kernel
set_option maxRecDepth 20000 in
theorem dX5_merge_45 : decode cX5_merge 45 = .ok (.invokevirtual 104, 3) := by decide +kernel
set_option maxRecDepth 20000 in
theorem dX5_merge_48 : decode cX5_merge 48 = .ok (.aload_n 0, 1) := by decide +kernel
set_option maxRecDepth 20000 in
theorem dX5_merge_49 : decode cX5_merge 49 = .ok (.getfield 10, 3) := by decide +kernel
set_option maxRecDepth 20000 in
theorem dX5_merge_52 : decode cX5_merge 52 = .ok (.invokevirtual 89, 3) := by decide +kernel
set_option maxRecDepth 20000 in
theorem dX5_merge_55 : decode cX5_merge 55 = .ok (.aload_n 0, 1) := by decide +kernel
set_option maxRecDepth 20000 in
theorem dX5_merge_56 : decode cX5_merge 56 = .ok (.getfield 10, 3) := by decide +kernel
set_option maxRecDepth 20000 in
theorem dX5_merge_59 : decode cX5_merge 59 = .ok (.iload_n 2, 1) := by decide +kernel
set_option maxRecDepth 20000 in
theorem dX5_merge_60 : decode cX5_merge 60 = .ok (.iload_n 3, 1) := by decide +kernel
set_option maxRecDepth 20000 in
theorem dX5_merge_61 : decode cX5_merge 61 = .ok (.invokevirtual 108, 3) := by decide +kernel
set_option maxRecDepth 20000 in
theorem dX5_merge_64 : decode cX5_merge 64 = .ok (.ireturn, 1) := by decide +kernel
set_option maxRecDepth 20000 in
theorem dX5_part_0 : decode cX5_part 0 = .ok (.iload_n 1, 1) := by decide +kernel
set_option maxRecDepth 20000 in
theorem dX5_part_1 : decode cX5_part 1 = .ok (.invokestatic 53, 3) := by decide +kernel
set_option maxRecDepth 20000 in
theorem dX5_part_4 : decode cX5_part 4 = .ok (.ifCond .eq 14, 3) := by decide +kernel
set_option maxRecDepth 20000 in
theorem dX5_part_7 : decode cX5_part 7 = .ok (.aload_n 0, 1) := by decide +kernel
set_option maxRecDepth 20000 in
theorem dX5_part_8 : decode cX5_part 8 = .ok (.getfield 10, 3) := by decide +kernel
set_option maxRecDepth 20000 in
theorem dX5_part_11 : decode cX5_part 11 = .ok (.iload_n 2, 1) := by decide +kernel
set_option maxRecDepth 20000 in
theorem dX5_part_12 : decode cX5_part 12 = .ok (.invokevirtual 49, 3) := by decide +kernel
set_option maxRecDepth 20000 in
theorem dX5_part_15 : decode cX5_part 15 = .ok (.ifCond .ne 5, 3) := by decide +kernel
set_option maxRecDepth 20000 in
theorem dX5_part_18 : decode cX5_part 18 = .ok (.iconst (-1), 1) := by decide +kernel
set_option maxRecDepth 20000 in
theorem dX5_part_19 : decode cX5_part 19 = .ok (.ireturn, 1) := by decide +kernel
set_option maxRecDepth 20000 in
theorem dX5_part_20 : decode cX5_part 20 = .ok (.aload_n 0, 1) := by decide +kernel
set_option maxRecDepth 20000 in
theorem dX5_part_21 : decode cX5_part 21 = .ok (.getfield 10, 3) := by decide +kernel
set_option maxRecDepth 20000 in
theorem dX5_part_24 : decode cX5_part 24 = .ok (.iload_n 1, 1) := by decide +kernel
set_option maxRecDepth 20000 in
theorem dX5_part_25 : decode cX5_part 25 = .ok (.iload_n 2, 1) := by decide +kernel
set_option maxRecDepth 20000 in
theorem dX5_part_26 : decode cX5_part 26 = .ok (.invokevirtual 112, 3) := by decide +kernel
set_option maxRecDepth 20000 in
theorem dX5_part_29 : decode cX5_part 29 = .ok (.istore_n 3, 1) := by decide +kernel
set_option maxRecDepth 20000 in
theorem dX5_part_30 : decode cX5_part 30 = .ok (.iload_n 3, 1) := by decide +kernel
set_option maxRecDepth 20000 in
theorem dX5_part_31 : decode cX5_part 31 = .ok (.bipush (-5), 2) := by decide +kernel
set_option maxRecDepth 20000 in
theorem dX5_part_33 : decode cX5_part 33 = .ok (.if_icmp .ne 6, 3) := by decide +kernel
set_option maxRecDepth 20000 in
theorem dX5_part_36 : decode cX5_part 36 = .ok (.bipush (-5), 2) := by decide +kernel
set_option maxRecDepth 20000 in
theorem dX5_part_38 : decode cX5_part 38 = .ok (.ireturn, 1) := by decide +kernel
set_option maxRecDepth 20000 in
theorem dX5_part_39 : decode cX5_part 39 = .ok (.aload_n 0, 1) := by decide +kernel
set_option maxRecDepth 20000 in
theorem dX5_part_40 : decode cX5_part 40 = .ok (.getfield 26, 3) := by decide +kernel
set_option maxRecDepth 20000 in
theorem dX5_part_43 : decode cX5_part 43 = .ok (.aload_n 0, 1) := by decide +kernel
set_option maxRecDepth 20000 in
theorem dX5_part_44 : decode cX5_part 44 = .ok (.getfield 10, 3) := by decide +kernel
set_option maxRecDepth 20000 in
theorem dX5_part_47 : decode cX5_part 47 = .ok (.invokevirtual 41, 3) := by decide +kernel
set_option maxRecDepth 20000 in
theorem dX5_part_50 : decode cX5_part 50 = .ok (.aload_n 0, 1) := by decide +kernel
set_option maxRecDepth 20000 in
theorem dX5_part_51 : decode cX5_part 51 = .ok (.getfield 10, 3) := by decide +kernel
set_option maxRecDepth 20000 in
theorem dX5_part_54 : decode cX5_part 54 = .ok (.iload_n 1, 1) := by decide +kernel
set_option maxRecDepth 20000 in
theorem dX5_part_55 : decode cX5_part 55 = .ok (.iload_n 2, 1) := by decide +kernel
set_option maxRecDepth 20000 in
theorem dX5_part_56 : decode cX5_part 56 = .ok (.bipush (-5), 2) := by decide +kernel
set_option maxRecDepth 20000 in
theorem dX5_part_58 : decode cX5_part 58 = .ok (.invokevirtual 104, 3) := by decide +kernel
set_option maxRecDepth 20000 in
theorem dX5_part_61 : decode cX5_part 61 = .ok (.aload_n 0, 1) := by decide +kernel
set_option maxRecDepth 20000 in
theorem dX5_part_62 : decode cX5_part 62 = .ok (.getfield 10, 3) := by decide +kernel
set_option maxRecDepth 20000 in
theorem dX5_part_65 : decode cX5_part 65 = .ok (.iload_n 1, 1) := by decide +kernel
set_option maxRecDepth 20000 in
theorem dX5_part_66 : decode cX5_part 66 = .ok (.iload_n 3, 1) := by decide +kernel
set_option maxRecDepth 20000 in
theorem dX5_part_67 : decode cX5_part 67 = .ok (.bipush (-5), 2) := by decide +kernel
set_option maxRecDepth 20000 in
theorem dX5_part_69 : decode cX5_part 69 = .ok (.invokevirtual 104, 3) := by decide +kernel
set_option maxRecDepth 20000 in
theorem dX5_part_72 : decode cX5_part 72 = .ok (.aload_n 0, 1) := by decide +kernel
set_option maxRecDepth 20000 in
theorem dX5_part_73 : decode cX5_part 73 = .ok (.getfield 10, 3) := by decide +kernel
set_option maxRecDepth 20000 in
theorem dX5_part_76 : decode cX5_part 76 = .ok (.invokevirtual 89, 3) := by decide +kernel
set_option maxRecDepth 20000 in
theorem dX5_part_79 : decode cX5_part 79 = .ok (.iload_n 3, 1) := by decide +kernel
set_option maxRecDepth 20000 in
theorem dX5_part_80 : decode cX5_part 80 = .ok (.ireturn, 1) := by decide +kernel
set_option maxRecDepth 20000 in
theorem dX5_set_0 : decode cX5_set 0 = .ok (.iload_n 1, 1) := by decide +kernel
set_option maxRecDepth 20000 in
theorem dX5_set_1 : decode cX5_set 1 = .ok (.iload_n 2, 1) := by decide +kernel
set_option maxRecDepth 20000 in
theorem dX5_set_2 : decode cX5_set 2 = .ok (.invokestatic 115, 3) := by decide +kernel
set_option maxRecDepth 20000 in
theorem dX5_set_5 : decode cX5_set 5 = .ok (.ifCond .ne 6, 3) := by decide +kernel
set_option maxRecDepth 20000 in
theorem dX5_set_8 : decode cX5_set 8 = .ok (.bipush (-2), 2) := by decide +kernel
set_option maxRecDepth 20000 in
theorem dX5_set_10 : decode cX5_set 10 = .ok (.ireturn, 1) := by decide +kernel
set_option maxRecDepth 20000 in
theorem dX5_set_11 : decode cX5_set 11 = .ok (.aload_n 0, 1) := by decide +kernel
set_option maxRecDepth 20000 in
theorem dX5_set_12 : decode cX5_set 12 = .ok (.getfield 10, 3) := by decide +kernel
set_option maxRecDepth 20000 in
theorem dX5_set_15 : decode cX5_set 15 = .ok (.iload_n 1, 1) := by decide +kernel
set_option maxRecDepth 20000 in
theorem dX5_set_16 : decode cX5_set 16 = .ok (.invokevirtual 119, 3) := by decide +kernel
set_option maxRecDepth 20000 in
theorem dX5_set_19 : decode cX5_set 19 = .ok (.istore_n 3, 1) := by decide +kernel
set_option maxRecDepth 20000 in
theorem dX5_set_20 : decode cX5_set 20 = .ok (.iload_n 3, 1) := by decide +kernel
set_option maxRecDepth 20000 in
theorem dX5_set_21 : decode cX5_set 21 = .ok (.iload_n 2, 1) := by decide +kernel
set_option maxRecDepth 20000 in
theorem dX5_set_22 : decode cX5_set 22 = .ok (.if_icmp .ne 6, 3) := by decide +kernel
set_option maxRecDepth 20000 in
theorem dX5_set_25 : decode cX5_set 25 = .ok (.bipush (-5), 2) := by decide +kernel
set_option maxRecDepth 20000 in
theorem dX5_set_27 : decode cX5_set 27 = .ok (.ireturn, 1) := by decide +kernel
set_option maxRecDepth 20000 in
theorem dX5_set_28 : decode cX5_set 28 = .ok (.aload_n 0, 1) := by decide +kernel
set_option maxRecDepth 20000 in
theorem dX5_set_29 : decode cX5_set 29 = .ok (.getfield 26, 3) := by decide +kernel
set_option maxRecDepth 20000 in
theorem dX5_set_32 : decode cX5_set 32 = .ok (.aload_n 0, 1) := by decide +kernel
set_option maxRecDepth 20000 in
theorem dX5_set_33 : decode cX5_set 33 = .ok (.getfield 10, 3) := by decide +kernel
set_option maxRecDepth 20000 in
theorem dX5_set_36 : decode cX5_set 36 = .ok (.invokevirtual 41, 3) := by decide +kernel
set_option maxRecDepth 20000 in
theorem dX5_set_39 : decode cX5_set 39 = .ok (.aload_n 0, 1) := by decide +kernel
set_option maxRecDepth 20000 in
theorem dX5_set_40 : decode cX5_set 40 = .ok (.getfield 10, 3) := by decide +kernel
set_option maxRecDepth 20000 in
theorem dX5_set_43 : decode cX5_set 43 = .ok (.iload_n 1, 1) := by decide +kernel
set_option maxRecDepth 20000 in
theorem dX5_set_44 : decode cX5_set 44 = .ok (.iload_n 2, 1) := by decide +kernel
set_option maxRecDepth 20000 in
theorem dX5_set_45 : decode cX5_set 45 = .ok (.invokevirtual 122, 3) := by decide +kernel
set_option maxRecDepth 20000 in
theorem dX5_set_48 : decode cX5_set 48 = .ok (.iload_n 1, 1) := by decide +kernel
set_option maxRecDepth 20000 in
theorem dX5_set_49 : decode cX5_set 49 = .ok (.iconst 2, 1) := by decide +kernel
set_option maxRecDepth 20000 in
theorem dX5_set_50 : decode cX5_set 50 = .ok (.if_icmp .eq 10, 3) := by decide +kernel
set_option maxRecDepth 20000 in
theorem dX5_set_53 : decode cX5_set 53 = .ok (.aload_n 0, 1) := by decide +kernel
set_option maxRecDepth 20000 in
theorem dX5_set_54 : decode cX5_set 54 = .ok (.getfield 10, 3) := by decide +kernel
set_option maxRecDepth 20000 in
theorem dX5_set_57 : decode cX5_set 57 = .ok (.invokevirtual 89, 3) := by decide +kernel
set_option maxRecDepth 20000 in
theorem dX5_set_60 : decode cX5_set 60 = .ok (.iload_n 3, 1) := by decide +kernel
set_option maxRecDepth 20000 in
theorem dX5_set_61 : decode cX5_set 61 = .ok (.ireturn, 1) := by decide +kernel
set_option maxRecDepth 20000 in
theorem dX5_passDay_0 : decode cX5_passDay 0 = .ok (.aload_n 0, 1) := by decide +kernel
set_option maxRecDepth 20000 in
theorem dX5_passDay_1 : decode cX5_passDay 1 = .ok (.getfield 26, 3) := by decide +kernel
set_option maxRecDepth 20000 in
theorem dX5_passDay_4 : decode cX5_passDay 4 = .ok (.aload_n 0, 1) := by decide +kernel
set_option maxRecDepth 20000 in
theorem dX5_passDay_5 : decode cX5_passDay 5 = .ok (.getfield 10, 3) := by decide +kernel
set_option maxRecDepth 20000 in
theorem dX5_passDay_8 : decode cX5_passDay 8 = .ok (.invokevirtual 41, 3) := by decide +kernel
set_option maxRecDepth 20000 in
theorem dX5_passDay_11 : decode cX5_passDay 11 = .ok (.aload_n 0, 1) := by decide +kernel
set_option maxRecDepth 20000 in
theorem dX5_passDay_12 : decode cX5_passDay 12 = .ok (.getfield 10, 3) := by decide +kernel
set_option maxRecDepth 20000 in
theorem dX5_passDay_15 : decode cX5_passDay 15 = .ok (.getfield 126, 3) := by decide +kernel
set_option maxRecDepth 20000 in
theorem dX5_passDay_18 : decode cX5_passDay 18 = .ok (.istore_n 1, 1) := by decide +kernel
set_option maxRecDepth 20000 in
theorem dX5_passDay_19 : decode cX5_passDay 19 = .ok (.aload_n 0, 1) := by decide +kernel
set_option maxRecDepth 20000 in
theorem dX5_passDay_20 : decode cX5_passDay 20 = .ok (.getfield 10, 3) := by decide +kernel
set_option maxRecDepth 20000 in
theorem dX5_passDay_23 : decode cX5_passDay 23 = .ok (.invokevirtual 129, 3) := by decide +kernel
set_option maxRecDepth 20000 in
theorem dX5_passDay_26 : decode cX5_passDay 26 = .ok (.aload_n 0, 1) := by decide +kernel
set_option maxRecDepth 20000 in
theorem dX5_passDay_27 : decode cX5_passDay 27 = .ok (.getfield 10, 3) := by decide +kernel
set_option maxRecDepth 20000 in
theorem dX5_passDay_30 : decode cX5_passDay 30 = .ok (.invokevirtual 132, 3) := by decide +kernel
set_option maxRecDepth 20000 in
theorem dX5_passDay_33 : decode cX5_passDay 33 = .ok (.aload_n 0, 1) := by decide +kernel
set_option maxRecDepth 20000 in
theorem dX5_passDay_34 : decode cX5_passDay 34 = .ok (.getfield 10, 3) := by decide +kernel
set_option maxRecDepth 20000 in
theorem dX5_passDay_37 : decode cX5_passDay 37 = .ok (.dup, 1) := by decide +kernel
set_option maxRecDepth 20000 in
theorem dX5_passDay_38 : decode cX5_passDay 38 = .ok (.getfield 135, 3) := by decide +kernel
set_option maxRecDepth 20000 in
theorem dX5_passDay_41 : decode cX5_passDay 41 = .ok (.iconst 1, 1) := by decide +kernel
set_option maxRecDepth 20000 in
theorem dX5_passDay_42 : decode cX5_passDay 42 = .ok (.iadd, 1) := by decide +kernel
set_option maxRecDepth 20000 in
theorem dX5_passDay_43 : decode cX5_passDay 43 = .ok (.putfield 135, 3) := by decide +kernel
set_option maxRecDepth 20000 in
theorem dX5_passDay_46 : decode cX5_passDay 46 = .ok (.aload_n 0, 1) := by decide +kernel
set_option maxRecDepth 20000 in
theorem dX5_passDay_47 : decode cX5_passDay 47 = .ok (.getfield 10, 3) := by decide +kernel
set_option maxRecDepth 20000 in
theorem dX5_passDay_50 : decode cX5_passDay 50 = .ok (.getfield 126, 3) := by decide +kernel
set_option maxRecDepth 20000 in
theorem dX5_passDay_53 : decode cX5_passDay 53 = .ok (.iload_n 1, 1) := by decide +kernel
set_option maxRecDepth 20000 in
theorem dX5_passDay_54 : decode cX5_passDay 54 = .ok (.isub, 1) := by decide +kernel
set_option maxRecDepth 20000 in
theorem dX5_passDay_55 : decode cX5_passDay 55 = .ok (.ireturn, 1) := by decide +kernel
set_option maxRecDepth 20000 in
theorem dX5_undo_0 : decode cX5_undo 0 = .ok (.aload_n 0, 1) := by decide +kernel
set_option maxRecDepth 20000 in
theorem dX5_undo_1 : decode cX5_undo 1 = .ok (.getfield 26, 3) := by decide +kernel
set_option maxRecDepth 20000 in
theorem dX5_undo_4 : decode cX5_undo 4 = .ok (.getfield 145, 3) := by decide +kernel
set_option maxRecDepth 20000 in
theorem dX5_undo_7 : decode cX5_undo 7 = .ok (.ifCond .ne 6, 3) := by decide +kernel
set_option maxRecDepth 20000 in
theorem dX5_undo_10 : decode cX5_undo 10 = .ok (.bipush (-5), 2) := by decide +kernel
set_option maxRecDepth 20000 in
theorem dX5_undo_12 : decode cX5_undo 12 = .ok (.ireturn, 1) := by decide +kernel
set_option maxRecDepth 20000 in
theorem dX5_undo_13 : decode cX5_undo 13 = .ok (.aload_n 0, 1) := by decide +kernel
set_option maxRecDepth 20000 in
theorem dX5_undo_14 : decode cX5_undo 14 = .ok (.getfield 26, 3) := by decide +kernel
set_option maxRecDepth 20000 in
theorem dX5_undo_17 : decode cX5_undo 17 = .ok (.aload_n 0, 1) := by decide +kernel
set_option maxRecDepth 20000 in
theorem dX5_undo_18 : decode cX5_undo 18 = .ok (.getfield 10, 3) := by decide +kernel
set_option maxRecDepth 20000 in
theorem dX5_undo_21 : decode cX5_undo 21 = .ok (.invokevirtual 148, 3) := by decide +kernel
set_option maxRecDepth 20000 in
theorem dX5_undo_24 : decode cX5_undo 24 = .ok (.aload_n 0, 1) := by decide +kernel
set_option maxRecDepth 20000 in
theorem dX5_undo_25 : decode cX5_undo 25 = .ok (.getfield 26, 3) := by decide +kernel
set_option maxRecDepth 20000 in
theorem dX5_undo_28 : decode cX5_undo 28 = .ok (.getfield 145, 3) := by decide +kernel
set_option maxRecDepth 20000 in
theorem dX5_undo_31 : decode cX5_undo 31 = .ok (.ireturn, 1) := by decide +kernel
set_option maxRecDepth 20000 in
theorem dX5_keep_0 : decode cX5_keep 0 = .ok (.aload_n 0, 1) := by decide +kernel
set_option maxRecDepth 20000 in
theorem dX5_keep_1 : decode cX5_keep 1 = .ok (.getfield 30, 3) := by decide +kernel
set_option maxRecDepth 20000 in
theorem dX5_keep_4 : decode cX5_keep 4 = .ok (.aload_n 0, 1) := by decide +kernel
set_option maxRecDepth 20000 in
theorem dX5_keep_5 : decode cX5_keep 5 = .ok (.getfield 10, 3) := by decide +kernel
set_option maxRecDepth 20000 in
theorem dX5_keep_8 : decode cX5_keep 8 = .ok (.invokevirtual 151, 3) := by decide +kernel
set_option maxRecDepth 20000 in
theorem dX5_keep_11 : decode cX5_keep 11 = .ok (.aload_n 0, 1) := by decide +kernel
set_option maxRecDepth 20000 in
theorem dX5_keep_12 : decode cX5_keep 12 = .ok (.iconst 1, 1) := by decide +kernel
set_option maxRecDepth 20000 in
theorem dX5_keep_13 : decode cX5_keep 13 = .ok (.putfield 33, 3) := by decide +kernel
set_option maxRecDepth 20000 in
theorem dX5_keep_16 : decode cX5_keep 16 = .ok (.aload_n 0, 1) := by decide +kernel
set_option maxRecDepth 20000 in
theorem dX5_keep_17 : decode cX5_keep 17 = .ok (.getfield 10, 3) := by decide +kernel
set_option maxRecDepth 20000 in
theorem dX5_keep_20 : decode cX5_keep 20 = .ok (.invokevirtual 59, 3) := by decide +kernel
set_option maxRecDepth 20000 in
theorem dX5_keep_23 : decode cX5_keep 23 = .ok (.ireturn, 1) := by decide +kernel
set_option maxRecDepth 20000 in
theorem dX5_restore_0 : decode cX5_restore 0 = .ok (.aload_n 0, 1) := by decide +kernel
set_option maxRecDepth 20000 in
theorem dX5_restore_1 : decode cX5_restore 1 = .ok (.getfield 33, 3) := by decide +kernel
set_option maxRecDepth 20000 in
theorem dX5_restore_4 : decode cX5_restore 4 = .ok (.ifCond .ne 6, 3) := by decide +kernel
set_option maxRecDepth 20000 in
theorem dX5_restore_7 : decode cX5_restore 7 = .ok (.bipush (-5), 2) := by decide +kernel
set_option maxRecDepth 20000 in
theorem dX5_restore_9 : decode cX5_restore 9 = .ok (.ireturn, 1) := by decide +kernel
set_option maxRecDepth 20000 in
theorem dX5_restore_10 : decode cX5_restore 10 = .ok (.aload_n 0, 1) := by decide +kernel
set_option maxRecDepth 20000 in
theorem dX5_restore_11 : decode cX5_restore 11 = .ok (.getfield 26, 3) := by decide +kernel
set_option maxRecDepth 20000 in
theorem dX5_restore_14 : decode cX5_restore 14 = .ok (.aload_n 0, 1) := by decide +kernel
set_option maxRecDepth 20000 in
theorem dX5_restore_15 : decode cX5_restore 15 = .ok (.getfield 10, 3) := by decide +kernel
set_option maxRecDepth 20000 in
theorem dX5_restore_18 : decode cX5_restore 18 = .ok (.invokevirtual 41, 3) := by decide +kernel
set_option maxRecDepth 20000 in
theorem dX5_restore_21 : decode cX5_restore 21 = .ok (.aload_n 0, 1) := by decide +kernel
set_option maxRecDepth 20000 in
theorem dX5_restore_22 : decode cX5_restore 22 = .ok (.getfield 10, 3) := by decide +kernel
set_option maxRecDepth 20000 in
theorem dX5_restore_25 : decode cX5_restore 25 = .ok (.aload_n 0, 1) := by decide +kernel
set_option maxRecDepth 20000 in
theorem dX5_restore_26 : decode cX5_restore 26 = .ok (.getfield 30, 3) := by decide +kernel
set_option maxRecDepth 20000 in
theorem dX5_restore_29 : decode cX5_restore 29 = .ok (.invokevirtual 151, 3) := by decide +kernel
set_option maxRecDepth 20000 in
theorem dX5_restore_32 : decode cX5_restore 32 = .ok (.aload_n 0, 1) := by decide +kernel
set_option maxRecDepth 20000 in
theorem dX5_restore_33 : decode cX5_restore 33 = .ok (.getfield 10, 3) := by decide +kernel
set_option maxRecDepth 20000 in
theorem dX5_restore_36 : decode cX5_restore 36 = .ok (.invokevirtual 59, 3) := by decide +kernel
set_option maxRecDepth 20000 in
theorem dX5_restore_39 : decode cX5_restore 39 = .ok (.ireturn, 1) := by decide +kernel
set_option maxRecDepth 20000 in
theorem dX5_worker_0 : decode cX5_worker 0 = .ok (.aload_n 0, 1) := by decide +kernel
set_option maxRecDepth 20000 in
theorem dX5_worker_1 : decode cX5_worker 1 = .ok (.getfield 10, 3) := by decide +kernel
set_option maxRecDepth 20000 in
theorem dX5_worker_4 : decode cX5_worker 4 = .ok (.iload_n 1, 1) := by decide +kernel
set_option maxRecDepth 20000 in
theorem dX5_worker_5 : decode cX5_worker 5 = .ok (.invokevirtual 80, 3) := by decide +kernel
set_option maxRecDepth 20000 in
theorem dX5_worker_8 : decode cX5_worker 8 = .ok (.astore_n 3, 1) := by decide +kernel
set_option maxRecDepth 20000 in
theorem dX5_worker_9 : decode cX5_worker 9 = .ok (.aload_n 3, 1) := by decide +kernel
set_option maxRecDepth 20000 in
theorem dX5_worker_10 : decode cX5_worker 10 = .ok (.ifnonnull 5, 3) := by decide +kernel
set_option maxRecDepth 20000 in
theorem dX5_worker_13 : decode cX5_worker 13 = .ok (.iconst (-1), 1) := by decide +kernel
set_option maxRecDepth 20000 in
theorem dX5_worker_14 : decode cX5_worker 14 = .ok (.ireturn, 1) := by decide +kernel
set_option maxRecDepth 20000 in
theorem dX5_worker_15 : decode cX5_worker 15 = .ok (.iload_n 2, 1) := by decide +kernel
set_option maxRecDepth 20000 in
theorem dX5_worker_16 : decode cX5_worker 16 = .ok (.tableswitch 140 0 8 #[52, 57, 62, 67, 80, 104, 125, 130, 135], 52) := by decide +kernel
set_option maxRecDepth 20000 in
theorem dX5_worker_68 : decode cX5_worker 68 = .ok (.aload_n 3, 1) := by decide +kernel
set_option maxRecDepth 20000 in
theorem dX5_worker_69 : decode cX5_worker 69 = .ok (.getfield 95, 3) := by decide +kernel
set_option maxRecDepth 20000 in
theorem dX5_worker_72 : decode cX5_worker 72 = .ok (.ireturn, 1) := by decide +kernel
set_option maxRecDepth 20000 in
theorem dX5_worker_73 : decode cX5_worker 73 = .ok (.aload_n 3, 1) := by decide +kernel
set_option maxRecDepth 20000 in
theorem dX5_worker_74 : decode cX5_worker 74 = .ok (.getfield 154, 3) := by decide +kernel
set_option maxRecDepth 20000 in
theorem dX5_worker_77 : decode cX5_worker 77 = .ok (.ireturn, 1) := by decide +kernel
set_option maxRecDepth 20000 in
theorem dX5_worker_78 : decode cX5_worker 78 = .ok (.aload_n 3, 1) := by decide +kernel
set_option maxRecDepth 20000 in
theorem dX5_worker_79 : decode cX5_worker 79 = .ok (.getfield 157, 3) := by decide +kernel
set_option maxRecDepth 20000 in
theorem dX5_worker_82 : decode cX5_worker 82 = .ok (.ireturn, 1) := by decide +kernel
set_option maxRecDepth 20000 in
theorem dX5_worker_83 : decode cX5_worker 83 = .ok (.aload_n 3, 1) := by decide +kernel
set_option maxRecDepth 20000 in
theorem dX5_worker_84 : decode cX5_worker 84 = .ok (.getfield 98, 3) := by decide +kernel
set_option maxRecDepth 20000 in
theorem dX5_worker_87 : decode cX5_worker 87 = .ok (.ifCond .eq 7, 3) := by decide +kernel
set_option maxRecDepth 20000 in
theorem dX5_worker_90 : decode cX5_worker 90 = .ok (.iconst 1, 1) := by decide +kernel
set_option maxRecDepth 20000 in
theorem dX5_worker_91 : decode cX5_worker 91 = .ok (.goto 4, 3) := by decide +kernel
set_option maxRecDepth 20000 in
theorem dX5_worker_94 : decode cX5_worker 94 = .ok (.iconst 0, 1) := by decide +kernel
set_option maxRecDepth 20000 in
theorem dX5_worker_95 : decode cX5_worker 95 = .ok (.ireturn, 1) := by decide +kernel
set_option maxRecDepth 20000 in
theorem dX5_worker_96 : decode cX5_worker 96 = .ok (.aload_n 0, 1) := by decide +kernel
set_option maxRecDepth 20000 in
theorem dX5_worker_97 : decode cX5_worker 97 = .ok (.getfield 10, 3) := by decide +kernel
set_option maxRecDepth 20000 in
theorem dX5_worker_100 : decode cX5_worker 100 = .ok (.aload_n 3, 1) := by decide +kernel
set_option maxRecDepth 20000 in
theorem dX5_worker_101 : decode cX5_worker 101 = .ok (.getfield 95, 3) := by decide +kernel
set_option maxRecDepth 20000 in
theorem dX5_worker_104 : decode cX5_worker 104 = .ok (.aload_n 3, 1) := by decide +kernel
set_option maxRecDepth 20000 in
theorem dX5_worker_105 : decode cX5_worker 105 = .ok (.getfield 157, 3) := by decide +kernel
set_option maxRecDepth 20000 in
theorem dX5_worker_108 : decode cX5_worker 108 = .ok (.aload_n 0, 1) := by decide +kernel
set_option maxRecDepth 20000 in
theorem dX5_worker_109 : decode cX5_worker 109 = .ok (.getfield 10, 3) := by decide +kernel
set_option maxRecDepth 20000 in
theorem dX5_worker_112 : decode cX5_worker 112 = .ok (.aload_n 3, 1) := by decide +kernel
set_option maxRecDepth 20000 in
theorem dX5_worker_113 : decode cX5_worker 113 = .ok (.invokevirtual 160, 3) := by decide +kernel
set_option maxRecDepth 20000 in
theorem dX5_worker_116 : decode cX5_worker 116 = .ok (.invokevirtual 164, 3) := by decide +kernel
set_option maxRecDepth 20000 in
theorem dX5_worker_119 : decode cX5_worker 119 = .ok (.ireturn, 1) := by decide +kernel
set_option maxRecDepth 20000 in
theorem dX5_worker_120 : decode cX5_worker 120 = .ok (.aload_n 0, 1) := by decide +kernel
set_option maxRecDepth 20000 in
theorem dX5_worker_121 : decode cX5_worker 121 = .ok (.getfield 10, 3) := by decide +kernel
set_option maxRecDepth 20000 in
theorem dX5_worker_124 : decode cX5_worker 124 = .ok (.aload_n 3, 1) := by decide +kernel
set_option maxRecDepth 20000 in
theorem dX5_worker_125 : decode cX5_worker 125 = .ok (.getfield 154, 3) := by decide +kernel
set_option maxRecDepth 20000 in
theorem dX5_worker_128 : decode cX5_worker 128 = .ok (.aload_n 3, 1) := by decide +kernel
set_option maxRecDepth 20000 in
theorem dX5_worker_129 : decode cX5_worker 129 = .ok (.getfield 95, 3) := by decide +kernel
set_option maxRecDepth 20000 in
theorem dX5_worker_132 : decode cX5_worker 132 = .ok (.aload_n 3, 1) := by decide +kernel
set_option maxRecDepth 20000 in
theorem dX5_worker_133 : decode cX5_worker 133 = .ok (.getfield 157, 3) := by decide +kernel
set_option maxRecDepth 20000 in
theorem dX5_worker_136 : decode cX5_worker 136 = .ok (.aload_n 3, 1) := by decide +kernel
set_option maxRecDepth 20000 in
theorem dX5_worker_137 : decode cX5_worker 137 = .ok (.invokevirtual 167, 3) := by decide +kernel
set_option maxRecDepth 20000 in
theorem dX5_worker_140 : decode cX5_worker 140 = .ok (.ireturn, 1) := by decide +kernel
set_option maxRecDepth 20000 in
theorem dX5_worker_141 : decode cX5_worker 141 = .ok (.aload_n 3, 1) := by decide +kernel
set_option maxRecDepth 20000 in
theorem dX5_worker_142 : decode cX5_worker 142 = .ok (.getfield 171, 3) := by decide +kernel
set_option maxRecDepth 20000 in
theorem dX5_worker_145 : decode cX5_worker 145 = .ok (.ireturn, 1) := by decide +kernel
set_option maxRecDepth 20000 in
theorem dX5_worker_146 : decode cX5_worker 146 = .ok (.aload_n 3, 1) := by decide +kernel
set_option maxRecDepth 20000 in
theorem dX5_worker_147 : decode cX5_worker 147 = .ok (.getfield 174, 3) := by decide +kernel
set_option maxRecDepth 20000 in
theorem dX5_worker_150 : decode cX5_worker 150 = .ok (.ireturn, 1) := by decide +kernel
set_option maxRecDepth 20000 in
theorem dX5_worker_151 : decode cX5_worker 151 = .ok (.aload_n 3, 1) := by decide +kernel
set_option maxRecDepth 20000 in
theorem dX5_worker_152 : decode cX5_worker 152 = .ok (.getfield 175, 3) := by decide +kernel
set_option maxRecDepth 20000 in
theorem dX5_worker_155 : decode cX5_worker 155 = .ok (.ireturn, 1) := by decide +kernel
set_option maxRecDepth 20000 in
theorem dX5_worker_156 : decode cX5_worker 156 = .ok (.bipush (-2), 2) := by decide +kernel
set_option maxRecDepth 20000 in
theorem dX5_worker_158 : decode cX5_worker 158 = .ok (.ireturn, 1) := by decide +kernel
set_option maxRecDepth 20000 in
theorem dX5_bus_0 : decode cX5_bus 0 = .ok (.iload_n 1, 1) := by decide +kernel
set_option maxRecDepth 20000 in
theorem dX5_bus_1 : decode cX5_bus 1 = .ok (.invokestatic 53, 3) := by decide +kernel
set_option maxRecDepth 20000 in
theorem dX5_bus_4 : decode cX5_bus 4 = .ok (.ifCond .eq 14, 3) := by decide +kernel
set_option maxRecDepth 20000 in
theorem dX5_bus_7 : decode cX5_bus 7 = .ok (.aload_n 0, 1) := by decide +kernel
set_option maxRecDepth 20000 in
theorem dX5_bus_8 : decode cX5_bus 8 = .ok (.getfield 10, 3) := by decide +kernel
set_option maxRecDepth 20000 in
theorem dX5_bus_11 : decode cX5_bus 11 = .ok (.iload_n 2, 1) := by decide +kernel
set_option maxRecDepth 20000 in
theorem dX5_bus_12 : decode cX5_bus 12 = .ok (.invokevirtual 49, 3) := by decide +kernel
set_option maxRecDepth 20000 in
theorem dX5_bus_15 : decode cX5_bus 15 = .ok (.ifCond .ne 5, 3) := by decide +kernel
set_option maxRecDepth 20000 in
theorem dX5_bus_18 : decode cX5_bus 18 = .ok (.iconst (-1), 1) := by decide +kernel
set_option maxRecDepth 20000 in
theorem dX5_bus_19 : decode cX5_bus 19 = .ok (.ireturn, 1) := by decide +kernel
set_option maxRecDepth 20000 in
theorem dX5_bus_20 : decode cX5_bus 20 = .ok (.aload_n 0, 1) := by decide +kernel
set_option maxRecDepth 20000 in
theorem dX5_bus_21 : decode cX5_bus 21 = .ok (.getfield 10, 3) := by decide +kernel
set_option maxRecDepth 20000 in
theorem dX5_bus_24 : decode cX5_bus 24 = .ok (.iload_n 1, 1) := by decide +kernel
set_option maxRecDepth 20000 in
theorem dX5_bus_25 : decode cX5_bus 25 = .ok (.iload_n 2, 1) := by decide +kernel
set_option maxRecDepth 20000 in
theorem dX5_bus_26 : decode cX5_bus 26 = .ok (.invokevirtual 112, 3) := by decide +kernel
set_option maxRecDepth 20000 in
theorem dX5_bus_29 : decode cX5_bus 29 = .ok (.istore 4, 2) := by decide +kernel
set_option maxRecDepth 20000 in
theorem dX5_bus_31 : decode cX5_bus 31 = .ok (.iload_n 3, 1) := by decide +kernel
set_option maxRecDepth 20000 in
theorem dX5_bus_32 : decode cX5_bus 32 = .ok (.tableswitch 104 0 5 #[40, 51, 54, 68, 80, 92], 40) := by decide +kernel
set_option maxRecDepth 20000 in
theorem dX5_bus_72 : decode cX5_bus 72 = .ok (.aload_n 0, 1) := by decide +kernel
set_option maxRecDepth 20000 in
theorem dX5_bus_73 : decode cX5_bus 73 = .ok (.getfield 10, 3) := by decide +kernel
set_option maxRecDepth 20000 in
theorem dX5_bus_76 : decode cX5_bus 76 = .ok (.iload_n 2, 1) := by decide +kernel
set_option maxRecDepth 20000 in
theorem dX5_bus_77 : decode cX5_bus 77 = .ok (.iload 4, 2) := by decide +kernel
set_option maxRecDepth 20000 in
theorem dX5_bus_79 : decode cX5_bus 79 = .ok (.invokevirtual 108, 3) := by decide +kernel
set_option maxRecDepth 20000 in
theorem dX5_bus_82 : decode cX5_bus 82 = .ok (.ireturn, 1) := by decide +kernel
set_option maxRecDepth 20000 in
theorem dX5_bus_83 : decode cX5_bus 83 = .ok (.iload 4, 2) := by decide +kernel
set_option maxRecDepth 20000 in
theorem dX5_bus_85 : decode cX5_bus 85 = .ok (.ireturn, 1) := by decide +kernel
set_option maxRecDepth 20000 in
theorem dX5_bus_86 : decode cX5_bus 86 = .ok (.aload_n 0, 1) := by decide +kernel
set_option maxRecDepth 20000 in
theorem dX5_bus_87 : decode cX5_bus 87 = .ok (.getfield 10, 3) := by decide +kernel
set_option maxRecDepth 20000 in
theorem dX5_bus_90 : decode cX5_bus 90 = .ok (.iload_n 1, 1) := by decide +kernel
set_option maxRecDepth 20000 in
theorem dX5_bus_91 : decode cX5_bus 91 = .ok (.iload_n 2, 1) := by decide +kernel
set_option maxRecDepth 20000 in
theorem dX5_bus_92 : decode cX5_bus 92 = .ok (.iload 4, 2) := by decide +kernel
set_option maxRecDepth 20000 in
theorem dX5_bus_94 : decode cX5_bus 94 = .ok (.iconst 1, 1) := by decide +kernel
set_option maxRecDepth 20000 in
theorem dX5_bus_95 : decode cX5_bus 95 = .ok (.aconst_null, 1) := by decide +kernel
set_option maxRecDepth 20000 in
theorem dX5_bus_96 : decode cX5_bus 96 = .ok (.invokevirtual 178, 3) := by decide +kernel
set_option maxRecDepth 20000 in
theorem dX5_bus_99 : decode cX5_bus 99 = .ok (.ireturn, 1) := by decide +kernel
set_option maxRecDepth 20000 in
theorem dX5_bus_100 : decode cX5_bus 100 = .ok (.aload_n 0, 1) := by decide +kernel
set_option maxRecDepth 20000 in
theorem dX5_bus_101 : decode cX5_bus 101 = .ok (.getfield 10, 3) := by decide +kernel
set_option maxRecDepth 20000 in
theorem dX5_bus_104 : decode cX5_bus 104 = .ok (.iload_n 1, 1) := by decide +kernel
set_option maxRecDepth 20000 in
theorem dX5_bus_105 : decode cX5_bus 105 = .ok (.iload_n 2, 1) := by decide +kernel
set_option maxRecDepth 20000 in
theorem dX5_bus_106 : decode cX5_bus 106 = .ok (.iload 4, 2) := by decide +kernel
set_option maxRecDepth 20000 in
theorem dX5_bus_108 : decode cX5_bus 108 = .ok (.invokevirtual 182, 3) := by decide +kernel
set_option maxRecDepth 20000 in
theorem dX5_bus_111 : decode cX5_bus 111 = .ok (.ireturn, 1) := by decide +kernel
set_option maxRecDepth 20000 in
theorem dX5_bus_112 : decode cX5_bus 112 = .ok (.aload_n 0, 1) := by decide +kernel
set_option maxRecDepth 20000 in
theorem dX5_bus_113 : decode cX5_bus 113 = .ok (.getfield 10, 3) := by decide +kernel
set_option maxRecDepth 20000 in
theorem dX5_bus_116 : decode cX5_bus 116 = .ok (.iload_n 1, 1) := by decide +kernel
set_option maxRecDepth 20000 in
theorem dX5_bus_117 : decode cX5_bus 117 = .ok (.iload_n 2, 1) := by decide +kernel
set_option maxRecDepth 20000 in
theorem dX5_bus_118 : decode cX5_bus 118 = .ok (.iload 4, 2) := by decide +kernel
set_option maxRecDepth 20000 in
theorem dX5_bus_120 : decode cX5_bus 120 = .ok (.invokevirtual 185, 3) := by decide +kernel
set_option maxRecDepth 20000 in
theorem dX5_bus_123 : decode cX5_bus 123 = .ok (.ireturn, 1) := by decide +kernel
set_option maxRecDepth 20000 in
theorem dX5_bus_124 : decode cX5_bus 124 = .ok (.aload_n 0, 1) := by decide +kernel
set_option maxRecDepth 20000 in
theorem dX5_bus_125 : decode cX5_bus 125 = .ok (.getfield 10, 3) := by decide +kernel
set_option maxRecDepth 20000 in
theorem dX5_bus_128 : decode cX5_bus 128 = .ok (.iload_n 1, 1) := by decide +kernel
set_option maxRecDepth 20000 in
theorem dX5_bus_129 : decode cX5_bus 129 = .ok (.iload_n 2, 1) := by decide +kernel
set_option maxRecDepth 20000 in
theorem dX5_bus_130 : decode cX5_bus 130 = .ok (.iload 4, 2) := by decide +kernel
set_option maxRecDepth 20000 in
theorem dX5_bus_132 : decode cX5_bus 132 = .ok (.invokevirtual 188, 3) := by decide +kernel
set_option maxRecDepth 20000 in
theorem dX5_bus_135 : decode cX5_bus 135 = .ok (.ireturn, 1) := by decide +kernel
set_option maxRecDepth 20000 in
theorem dX5_bus_136 : decode cX5_bus 136 = .ok (.bipush (-2), 2) := by decide +kernel
set_option maxRecDepth 20000 in
theorem dX5_bus_138 : decode cX5_bus 138 = .ok (.ireturn, 1) := by decide +kernel
set_option maxRecDepth 20000 in
theorem dX5_taken_0 : decode cX5_taken 0 = .ok (.iload_n 1, 1) := by decide +kernel
set_option maxRecDepth 20000 in
theorem dX5_taken_1 : decode cX5_taken 1 = .ok (.invokestatic 53, 3) := by decide +kernel
set_option maxRecDepth 20000 in
theorem dX5_taken_4 : decode cX5_taken 4 = .ok (.ifCond .eq 21, 3) := by decide +kernel
set_option maxRecDepth 20000 in
theorem dX5_taken_7 : decode cX5_taken 7 = .ok (.aload_n 0, 1) := by decide +kernel
set_option maxRecDepth 20000 in
theorem dX5_taken_8 : decode cX5_taken 8 = .ok (.getfield 10, 3) := by decide +kernel
set_option maxRecDepth 20000 in
theorem dX5_taken_11 : decode cX5_taken 11 = .ok (.iload_n 2, 1) := by decide +kernel
set_option maxRecDepth 20000 in
theorem dX5_taken_12 : decode cX5_taken 12 = .ok (.invokevirtual 49, 3) := by decide +kernel
set_option maxRecDepth 20000 in
theorem dX5_taken_15 : decode cX5_taken 15 = .ok (.ifCond .eq 10, 3) := by decide +kernel
set_option maxRecDepth 20000 in
theorem dX5_taken_18 : decode cX5_taken 18 = .ok (.iload_n 3, 1) := by decide +kernel
set_option maxRecDepth 20000 in
theorem dX5_taken_19 : decode cX5_taken 19 = .ok (.invokestatic 56, 3) := by decide +kernel
set_option maxRecDepth 20000 in
theorem dX5_taken_22 : decode cX5_taken 22 = .ok (.ifCond .ne 5, 3) := by decide +kernel
set_option maxRecDepth 20000 in
theorem dX5_taken_25 : decode cX5_taken 25 = .ok (.iconst (-1), 1) := by decide +kernel
set_option maxRecDepth 20000 in
theorem dX5_taken_26 : decode cX5_taken 26 = .ok (.ireturn, 1) := by decide +kernel
set_option maxRecDepth 20000 in
theorem dX5_taken_27 : decode cX5_taken 27 = .ok (.aload_n 0, 1) := by decide +kernel
set_option maxRecDepth 20000 in
theorem dX5_taken_28 : decode cX5_taken 28 = .ok (.getfield 10, 3) := by decide +kernel
set_option maxRecDepth 20000 in
theorem dX5_taken_31 : decode cX5_taken 31 = .ok (.iload_n 1, 1) := by decide +kernel
set_option maxRecDepth 20000 in
theorem dX5_taken_32 : decode cX5_taken 32 = .ok (.iload_n 2, 1) := by decide +kernel
set_option maxRecDepth 20000 in
theorem dX5_taken_33 : decode cX5_taken 33 = .ok (.aload_n 0, 1) := by decide +kernel
set_option maxRecDepth 20000 in
theorem dX5_taken_34 : decode cX5_taken 34 = .ok (.getfield 10, 3) := by decide +kernel
set_option maxRecDepth 20000 in
theorem dX5_taken_37 : decode cX5_taken 37 = .ok (.iload_n 1, 1) := by decide +kernel
set_option maxRecDepth 20000 in
theorem dX5_taken_38 : decode cX5_taken 38 = .ok (.iload_n 2, 1) := by decide +kernel
set_option maxRecDepth 20000 in
theorem dX5_taken_39 : decode cX5_taken 39 = .ok (.invokevirtual 112, 3) := by decide +kernel
set_option maxRecDepth 20000 in
theorem dX5_taken_42 : decode cX5_taken 42 = .ok (.iload_n 3, 1) := by decide +kernel
set_option maxRecDepth 20000 in
theorem dX5_taken_43 : decode cX5_taken 43 = .ok (.aconst_null, 1) := by decide +kernel
set_option maxRecDepth 20000 in
theorem dX5_taken_44 : decode cX5_taken 44 = .ok (.invokevirtual 178, 3) := by decide +kernel
set_option maxRecDepth 20000 in
theorem dX5_taken_47 : decode cX5_taken 47 = .ok (.ireturn, 1) := by decide +kernel
set_option maxRecDepth 20000 in
theorem dX5_why_0 : decode cX5_why 0 = .ok (.iload_n 1, 1) := by decide +kernel
set_option maxRecDepth 20000 in
theorem dX5_why_1 : decode cX5_why 1 = .ok (.invokestatic 53, 3) := by decide +kernel
set_option maxRecDepth 20000 in
theorem dX5_why_4 : decode cX5_why 4 = .ok (.ifCond .eq 10, 3) := by decide +kernel
set_option maxRecDepth 20000 in
theorem dX5_why_7 : decode cX5_why 7 = .ok (.iload_n 3, 1) := by decide +kernel
set_option maxRecDepth 20000 in
theorem dX5_why_8 : decode cX5_why 8 = .ok (.invokestatic 56, 3) := by decide +kernel
set_option maxRecDepth 20000 in
theorem dX5_why_11 : decode cX5_why 11 = .ok (.ifCond .ne 5, 3) := by decide +kernel
set_option maxRecDepth 20000 in
theorem dX5_why_14 : decode cX5_why 14 = .ok (.iconst (-1), 1) := by decide +kernel
set_option maxRecDepth 20000 in
theorem dX5_why_15 : decode cX5_why 15 = .ok (.ireturn, 1) := by decide +kernel
set_option maxRecDepth 20000 in
theorem dX5_why_16 : decode cX5_why 16 = .ok (.aload_n 0, 1) := by decide +kernel
set_option maxRecDepth 20000 in
theorem dX5_why_17 : decode cX5_why 17 = .ok (.getfield 10, 3) := by decide +kernel
set_option maxRecDepth 20000 in
theorem dX5_why_20 : decode cX5_why 20 = .ok (.iload_n 1, 1) := by decide +kernel
set_option maxRecDepth 20000 in
theorem dX5_why_21 : decode cX5_why 21 = .ok (.iload_n 2, 1) := by decide +kernel
set_option maxRecDepth 20000 in
theorem dX5_why_22 : decode cX5_why 22 = .ok (.iload_n 3, 1) := by decide +kernel
set_option maxRecDepth 20000 in
theorem dX5_why_23 : decode cX5_why 23 = .ok (.aconst_null, 1) := by decide +kernel
set_option maxRecDepth 20000 in
theorem dX5_why_24 : decode cX5_why 24 = .ok (.invokevirtual 167, 3) := by decide +kernel
set_option maxRecDepth 20000 in
theorem dX5_why_27 : decode cX5_why 27 = .ok (.ireturn, 1) := by decide +kernel
set_option maxRecDepth 20000 in
theorem dX5_count_0 : decode cX5_count 0 = .ok (.iload_n 1, 1) := by decide +kernel
set_option maxRecDepth 20000 in
theorem dX5_count_1 : decode cX5_count 1 = .ok (.tableswitch 243 0 17 #[87, 95, 103, 119, 127, 135, 143, 151, 159, 167, 175, 183, 192, 201, 210, 219, 227, 235], 87) := by decide +kernel
set_option maxRecDepth 20000 in
theorem dX5_count_88 : decode cX5_count 88 = .ok (.aload_n 0, 1) := by decide +kernel
set_option maxRecDepth 20000 in
theorem dX5_count_89 : decode cX5_count 89 = .ok (.getfield 10, 3) := by decide +kernel
set_option maxRecDepth 20000 in
theorem dX5_count_92 : decode cX5_count 92 = .ok (.getfield 37, 3) := by decide +kernel
set_option maxRecDepth 20000 in
theorem dX5_count_95 : decode cX5_count 95 = .ok (.ireturn, 1) := by decide +kernel
set_option maxRecDepth 20000 in
theorem dX5_count_96 : decode cX5_count 96 = .ok (.aload_n 0, 1) := by decide +kernel
set_option maxRecDepth 20000 in
theorem dX5_count_97 : decode cX5_count 97 = .ok (.getfield 10, 3) := by decide +kernel
set_option maxRecDepth 20000 in
theorem dX5_count_100 : decode cX5_count 100 = .ok (.invokevirtual 59, 3) := by decide +kernel
set_option maxRecDepth 20000 in
theorem dX5_count_103 : decode cX5_count 103 = .ok (.ireturn, 1) := by decide +kernel
set_option maxRecDepth 20000 in
theorem dX5_count_104 : decode cX5_count 104 = .ok (.aload_n 0, 1) := by decide +kernel
set_option maxRecDepth 20000 in
theorem dX5_count_105 : decode cX5_count 105 = .ok (.getfield 10, 3) := by decide +kernel
set_option maxRecDepth 20000 in
theorem dX5_count_108 : decode cX5_count 108 = .ok (.invokevirtual 59, 3) := by decide +kernel
set_option maxRecDepth 20000 in
theorem dX5_count_111 : decode cX5_count 111 = .ok (.aload_n 0, 1) := by decide +kernel
set_option maxRecDepth 20000 in
theorem dX5_count_112 : decode cX5_count 112 = .ok (.getfield 10, 3) := by decide +kernel
set_option maxRecDepth 20000 in
theorem dX5_count_115 : decode cX5_count 115 = .ok (.invokevirtual 92, 3) := by decide +kernel
set_option maxRecDepth 20000 in
theorem dX5_count_118 : decode cX5_count 118 = .ok (.isub, 1) := by decide +kernel
set_option maxRecDepth 20000 in
theorem dX5_count_119 : decode cX5_count 119 = .ok (.ireturn, 1) := by decide +kernel
set_option maxRecDepth 20000 in
theorem dX5_count_120 : decode cX5_count 120 = .ok (.aload_n 0, 1) := by decide +kernel
set_option maxRecDepth 20000 in
theorem dX5_count_121 : decode cX5_count 121 = .ok (.getfield 10, 3) := by decide +kernel
set_option maxRecDepth 20000 in
theorem dX5_count_124 : decode cX5_count 124 = .ok (.invokevirtual 92, 3) := by decide +kernel
set_option maxRecDepth 20000 in
theorem dX5_count_127 : decode cX5_count 127 = .ok (.ireturn, 1) := by decide +kernel
set_option maxRecDepth 20000 in
theorem dX5_count_128 : decode cX5_count 128 = .ok (.aload_n 0, 1) := by decide +kernel
set_option maxRecDepth 20000 in
theorem dX5_count_129 : decode cX5_count 129 = .ok (.getfield 10, 3) := by decide +kernel
set_option maxRecDepth 20000 in
theorem dX5_count_132 : decode cX5_count 132 = .ok (.invokevirtual 194, 3) := by decide +kernel
set_option maxRecDepth 20000 in
theorem dX5_count_135 : decode cX5_count 135 = .ok (.ireturn, 1) := by decide +kernel
set_option maxRecDepth 20000 in
theorem dX5_count_136 : decode cX5_count 136 = .ok (.aload_n 0, 1) := by decide +kernel
set_option maxRecDepth 20000 in
theorem dX5_count_137 : decode cX5_count 137 = .ok (.getfield 10, 3) := by decide +kernel
set_option maxRecDepth 20000 in
theorem dX5_count_140 : decode cX5_count 140 = .ok (.getfield 135, 3) := by decide +kernel
set_option maxRecDepth 20000 in
theorem dX5_count_143 : decode cX5_count 143 = .ok (.ireturn, 1) := by decide +kernel
set_option maxRecDepth 20000 in
theorem dX5_count_144 : decode cX5_count 144 = .ok (.aload_n 0, 1) := by decide +kernel
set_option maxRecDepth 20000 in
theorem dX5_count_145 : decode cX5_count 145 = .ok (.getfield 10, 3) := by decide +kernel
set_option maxRecDepth 20000 in
theorem dX5_count_148 : decode cX5_count 148 = .ok (.getfield 197, 3) := by decide +kernel
set_option maxRecDepth 20000 in
theorem dX5_count_151 : decode cX5_count 151 = .ok (.ireturn, 1) := by decide +kernel
set_option maxRecDepth 20000 in
theorem dX5_count_152 : decode cX5_count 152 = .ok (.aload_n 0, 1) := by decide +kernel
set_option maxRecDepth 20000 in
theorem dX5_count_153 : decode cX5_count 153 = .ok (.getfield 10, 3) := by decide +kernel
set_option maxRecDepth 20000 in
theorem dX5_count_156 : decode cX5_count 156 = .ok (.getfield 126, 3) := by decide +kernel
set_option maxRecDepth 20000 in
theorem dX5_count_159 : decode cX5_count 159 = .ok (.ireturn, 1) := by decide +kernel
set_option maxRecDepth 20000 in
theorem dX5_count_160 : decode cX5_count 160 = .ok (.aload_n 0, 1) := by decide +kernel
set_option maxRecDepth 20000 in
theorem dX5_count_161 : decode cX5_count 161 = .ok (.getfield 10, 3) := by decide +kernel
set_option maxRecDepth 20000 in
theorem dX5_count_164 : decode cX5_count 164 = .ok (.getfield 198, 3) := by decide +kernel
set_option maxRecDepth 20000 in
theorem dX5_count_167 : decode cX5_count 167 = .ok (.ireturn, 1) := by decide +kernel
set_option maxRecDepth 20000 in
theorem dX5_count_168 : decode cX5_count 168 = .ok (.aload_n 0, 1) := by decide +kernel
set_option maxRecDepth 20000 in
theorem dX5_count_169 : decode cX5_count 169 = .ok (.getfield 10, 3) := by decide +kernel
set_option maxRecDepth 20000 in
theorem dX5_count_172 : decode cX5_count 172 = .ok (.getfield 199, 3) := by decide +kernel
set_option maxRecDepth 20000 in
theorem dX5_count_175 : decode cX5_count 175 = .ok (.ireturn, 1) := by decide +kernel
set_option maxRecDepth 20000 in
theorem dX5_count_176 : decode cX5_count 176 = .ok (.aload_n 0, 1) := by decide +kernel
set_option maxRecDepth 20000 in
theorem dX5_count_177 : decode cX5_count 177 = .ok (.getfield 10, 3) := by decide +kernel
set_option maxRecDepth 20000 in
theorem dX5_count_180 : decode cX5_count 180 = .ok (.getfield 202, 3) := by decide +kernel
set_option maxRecDepth 20000 in
theorem dX5_count_183 : decode cX5_count 183 = .ok (.ireturn, 1) := by decide +kernel
set_option maxRecDepth 20000 in
theorem dX5_count_184 : decode cX5_count 184 = .ok (.aload_n 0, 1) := by decide +kernel
set_option maxRecDepth 20000 in
theorem dX5_count_185 : decode cX5_count 185 = .ok (.getfield 10, 3) := by decide +kernel
set_option maxRecDepth 20000 in
theorem dX5_count_188 : decode cX5_count 188 = .ok (.iconst 0, 1) := by decide +kernel
set_option maxRecDepth 20000 in
theorem dX5_count_189 : decode cX5_count 189 = .ok (.invokevirtual 119, 3) := by decide +kernel
set_option maxRecDepth 20000 in
theorem dX5_count_192 : decode cX5_count 192 = .ok (.ireturn, 1) := by decide +kernel
set_option maxRecDepth 20000 in
theorem dX5_count_193 : decode cX5_count 193 = .ok (.aload_n 0, 1) := by decide +kernel
set_option maxRecDepth 20000 in
theorem dX5_count_194 : decode cX5_count 194 = .ok (.getfield 10, 3) := by decide +kernel
set_option maxRecDepth 20000 in
theorem dX5_count_197 : decode cX5_count 197 = .ok (.iconst 1, 1) := by decide +kernel
set_option maxRecDepth 20000 in
theorem dX5_count_198 : decode cX5_count 198 = .ok (.invokevirtual 119, 3) := by decide +kernel
set_option maxRecDepth 20000 in
theorem dX5_count_201 : decode cX5_count 201 = .ok (.ireturn, 1) := by decide +kernel
set_option maxRecDepth 20000 in
theorem dX5_count_202 : decode cX5_count 202 = .ok (.aload_n 0, 1) := by decide +kernel
set_option maxRecDepth 20000 in
theorem dX5_count_203 : decode cX5_count 203 = .ok (.getfield 10, 3) := by decide +kernel
set_option maxRecDepth 20000 in
theorem dX5_count_206 : decode cX5_count 206 = .ok (.iconst 2, 1) := by decide +kernel
set_option maxRecDepth 20000 in
theorem dX5_count_207 : decode cX5_count 207 = .ok (.invokevirtual 119, 3) := by decide +kernel
set_option maxRecDepth 20000 in
theorem dX5_count_210 : decode cX5_count 210 = .ok (.ireturn, 1) := by decide +kernel
set_option maxRecDepth 20000 in
theorem dX5_count_211 : decode cX5_count 211 = .ok (.aload_n 0, 1) := by decide +kernel
set_option maxRecDepth 20000 in
theorem dX5_count_212 : decode cX5_count 212 = .ok (.getfield 10, 3) := by decide +kernel
set_option maxRecDepth 20000 in
theorem dX5_count_215 : decode cX5_count 215 = .ok (.iconst 3, 1) := by decide +kernel
set_option maxRecDepth 20000 in
theorem dX5_count_216 : decode cX5_count 216 = .ok (.invokevirtual 119, 3) := by decide +kernel
set_option maxRecDepth 20000 in
theorem dX5_count_219 : decode cX5_count 219 = .ok (.ireturn, 1) := by decide +kernel
set_option maxRecDepth 20000 in
theorem dX5_count_220 : decode cX5_count 220 = .ok (.aload_n 0, 1) := by decide +kernel
set_option maxRecDepth 20000 in
theorem dX5_count_221 : decode cX5_count 221 = .ok (.getfield 10, 3) := by decide +kernel
set_option maxRecDepth 20000 in
theorem dX5_count_224 : decode cX5_count 224 = .ok (.getfield 205, 3) := by decide +kernel
set_option maxRecDepth 20000 in
theorem dX5_count_227 : decode cX5_count 227 = .ok (.ireturn, 1) := by decide +kernel
set_option maxRecDepth 20000 in
theorem dX5_count_228 : decode cX5_count 228 = .ok (.aload_n 0, 1) := by decide +kernel
set_option maxRecDepth 20000 in
theorem dX5_count_229 : decode cX5_count 229 = .ok (.getfield 26, 3) := by decide +kernel
set_option maxRecDepth 20000 in
theorem dX5_count_232 : decode cX5_count 232 = .ok (.getfield 145, 3) := by decide +kernel
set_option maxRecDepth 20000 in
theorem dX5_count_235 : decode cX5_count 235 = .ok (.ireturn, 1) := by decide +kernel
set_option maxRecDepth 20000 in
theorem dX5_count_236 : decode cX5_count 236 = .ok (.aload_n 0, 1) := by decide +kernel
set_option maxRecDepth 20000 in
theorem dX5_count_237 : decode cX5_count 237 = .ok (.getfield 19, 3) := by decide +kernel
set_option maxRecDepth 20000 in
theorem dX5_count_240 : decode cX5_count 240 = .ok (.getfield 138, 3) := by decide +kernel
set_option maxRecDepth 20000 in
theorem dX5_count_243 : decode cX5_count 243 = .ok (.ireturn, 1) := by decide +kernel
set_option maxRecDepth 20000 in
theorem dX5_count_244 : decode cX5_count 244 = .ok (.bipush (-2), 2) := by decide +kernel
set_option maxRecDepth 20000 in
theorem dX5_count_246 : decode cX5_count 246 = .ok (.ireturn, 1) := by decide +kernel
set_option maxRecDepth 20000 in
theorem dX5_isLine_0 : decode cX5_isLine 0 = .ok (.iload_n 0, 1) := by decide +kernel
set_option maxRecDepth 20000 in
theorem dX5_isLine_1 : decode cX5_isLine 1 = .ok (.ifCond .lt 12, 3) := by decide +kernel
set_option maxRecDepth 20000 in
theorem dX5_isLine_4 : decode cX5_isLine 4 = .ok (.iload_n 0, 1) := by decide +kernel
set_option maxRecDepth 20000 in
theorem dX5_isLine_5 : decode cX5_isLine 5 = .ok (.iconst 2, 1) := by decide +kernel
set_option maxRecDepth 20000 in
theorem dX5_isLine_6 : decode cX5_isLine 6 = .ok (.if_icmp .ge 7, 3) := by decide +kernel
set_option maxRecDepth 20000 in
theorem dX5_isLine_9 : decode cX5_isLine 9 = .ok (.iconst 1, 1) := by decide +kernel
set_option maxRecDepth 20000 in
theorem dX5_isLine_10 : decode cX5_isLine 10 = .ok (.goto 4, 3) := by decide +kernel
set_option maxRecDepth 20000 in
theorem dX5_isLine_13 : decode cX5_isLine 13 = .ok (.iconst 0, 1) := by decide +kernel
set_option maxRecDepth 20000 in
theorem dX5_isLine_14 : decode cX5_isLine 14 = .ok (.ireturn, 1) := by decide +kernel
set_option maxRecDepth 20000 in
theorem dX5_isStop_0 : decode cX5_isStop 0 = .ok (.iload_n 0, 1) := by decide +kernel
set_option maxRecDepth 20000 in
theorem dX5_isStop_1 : decode cX5_isStop 1 = .ok (.iconst 1, 1) := by decide +kernel
set_option maxRecDepth 20000 in
theorem dX5_isStop_2 : decode cX5_isStop 2 = .ok (.if_icmp .lt 13, 3) := by decide +kernel
set_option maxRecDepth 20000 in
theorem dX5_isStop_5 : decode cX5_isStop 5 = .ok (.iload_n 0, 1) := by decide +kernel
set_option maxRecDepth 20000 in
theorem dX5_isStop_6 : decode cX5_isStop 6 = .ok (.bipush 9, 2) := by decide +kernel
set_option maxRecDepth 20000 in
theorem dX5_isStop_8 : decode cX5_isStop 8 = .ok (.if_icmp .gt 7, 3) := by decide +kernel
set_option maxRecDepth 20000 in
theorem dX5_isStop_11 : decode cX5_isStop 11 = .ok (.iconst 1, 1) := by decide +kernel
set_option maxRecDepth 20000 in
theorem dX5_isStop_12 : decode cX5_isStop 12 = .ok (.goto 4, 3) := by decide +kernel
set_option maxRecDepth 20000 in
theorem dX5_isStop_15 : decode cX5_isStop 15 = .ok (.iconst 0, 1) := by decide +kernel
set_option maxRecDepth 20000 in
theorem dX5_isStop_16 : decode cX5_isStop 16 = .ok (.ireturn, 1) := by decide +kernel
set_option maxRecDepth 20000 in
theorem dX5_isSettingValue_0 : decode cX5_isSettingValue 0 = .ok (.iload_n 0, 1) := by decide +kernel
set_option maxRecDepth 20000 in
theorem dX5_isSettingValue_1 : decode cX5_isSettingValue 1 = .ok (.ifCond .lt 19, 3) := by decide +kernel
set_option maxRecDepth 20000 in
theorem dX5_isSettingValue_4 : decode cX5_isSettingValue 4 = .ok (.iload_n 0, 1) := by decide +kernel
set_option maxRecDepth 20000 in
theorem dX5_isSettingValue_5 : decode cX5_isSettingValue 5 = .ok (.getstatic 208, 3) := by decide +kernel
set_option maxRecDepth 20000 in
theorem dX5_isSettingValue_8 : decode cX5_isSettingValue 8 = .ok (.arraylength, 1) := by decide +kernel
set_option maxRecDepth 20000 in
theorem dX5_isSettingValue_9 : decode cX5_isSettingValue 9 = .ok (.if_icmp .ge 11, 3) := by decide +kernel
set_option maxRecDepth 20000 in
theorem dX5_isSettingValue_12 : decode cX5_isSettingValue 12 = .ok (.iload_n 0, 1) := by decide +kernel
set_option maxRecDepth 20000 in
theorem dX5_isSettingValue_13 : decode cX5_isSettingValue 13 = .ok (.getstatic 212, 3) := by decide +kernel
set_option maxRecDepth 20000 in
theorem dX5_isSettingValue_16 : decode cX5_isSettingValue 16 = .ok (.arraylength, 1) := by decide +kernel
set_option maxRecDepth 20000 in
theorem dX5_isSettingValue_17 : decode cX5_isSettingValue 17 = .ok (.if_icmp .lt 5, 3) := by decide +kernel
set_option maxRecDepth 20000 in
theorem dX5_isSettingValue_20 : decode cX5_isSettingValue 20 = .ok (.iconst 0, 1) := by decide +kernel
set_option maxRecDepth 20000 in
theorem dX5_isSettingValue_21 : decode cX5_isSettingValue 21 = .ok (.ireturn, 1) := by decide +kernel
set_option maxRecDepth 20000 in
theorem dX5_isSettingValue_22 : decode cX5_isSettingValue 22 = .ok (.iload_n 1, 1) := by decide +kernel
set_option maxRecDepth 20000 in
theorem dX5_isSettingValue_23 : decode cX5_isSettingValue 23 = .ok (.getstatic 208, 3) := by decide +kernel
set_option maxRecDepth 20000 in
theorem dX5_isSettingValue_26 : decode cX5_isSettingValue 26 = .ok (.iload_n 0, 1) := by decide +kernel
set_option maxRecDepth 20000 in
theorem dX5_isSettingValue_27 : decode cX5_isSettingValue 27 = .ok (.iaload, 1) := by decide +kernel
set_option maxRecDepth 20000 in
theorem dX5_isSettingValue_28 : decode cX5_isSettingValue 28 = .ok (.if_icmp .lt 16, 3) := by decide +kernel
set_option maxRecDepth 20000 in
theorem dX5_isSettingValue_31 : decode cX5_isSettingValue 31 = .ok (.iload_n 1, 1) := by decide +kernel
set_option maxRecDepth 20000 in
theorem dX5_isSettingValue_32 : decode cX5_isSettingValue 32 = .ok (.getstatic 212, 3) := by decide +kernel
set_option maxRecDepth 20000 in
theorem dX5_isSettingValue_35 : decode cX5_isSettingValue 35 = .ok (.iload_n 0, 1) := by decide +kernel
set_option maxRecDepth 20000 in
theorem dX5_isSettingValue_36 : decode cX5_isSettingValue 36 = .ok (.iaload, 1) := by decide +kernel
set_option maxRecDepth 20000 in
theorem dX5_isSettingValue_37 : decode cX5_isSettingValue 37 = .ok (.if_icmp .gt 7, 3) := by decide +kernel
set_option maxRecDepth 20000 in
theorem dX5_isSettingValue_40 : decode cX5_isSettingValue 40 = .ok (.iconst 1, 1) := by decide +kernel
set_option maxRecDepth 20000 in
theorem dX5_isSettingValue_41 : decode cX5_isSettingValue 41 = .ok (.goto 4, 3) := by decide +kernel
set_option maxRecDepth 20000 in
theorem dX5_isSettingValue_44 : decode cX5_isSettingValue 44 = .ok (.iconst 0, 1) := by decide +kernel
set_option maxRecDepth 20000 in
theorem dX5_isSettingValue_45 : decode cX5_isSettingValue 45 = .ok (.ireturn, 1) := by decide +kernel
set_option maxRecDepth 20000 in
theorem dX5_mergingError_0 : decode cX5_mergingError 0 = .ok (.iload_n 1, 1) := by decide +kernel
set_option maxRecDepth 20000 in
theorem dX5_mergingError_1 : decode cX5_mergingError 1 = .ok (.invokestatic 53, 3) := by decide +kernel
set_option maxRecDepth 20000 in
theorem dX5_mergingError_4 : decode cX5_mergingError 4 = .ok (.ifCond .eq 25, 3) := by decide +kernel
set_option maxRecDepth 20000 in
theorem dX5_mergingError_7 : decode cX5_mergingError 7 = .ok (.aload_n 0, 1) := by decide +kernel
set_option maxRecDepth 20000 in
theorem dX5_mergingError_8 : decode cX5_mergingError 8 = .ok (.getfield 10, 3) := by decide +kernel
set_option maxRecDepth 20000 in
theorem dX5_mergingError_11 : decode cX5_mergingError 11 = .ok (.iload_n 2, 1) := by decide +kernel
set_option maxRecDepth 20000 in
theorem dX5_mergingError_12 : decode cX5_mergingError 12 = .ok (.invokevirtual 49, 3) := by decide +kernel
set_option maxRecDepth 20000 in
theorem dX5_mergingError_15 : decode cX5_mergingError 15 = .ok (.ifCond .eq 14, 3) := by decide +kernel
set_option maxRecDepth 20000 in
theorem dX5_mergingError_18 : decode cX5_mergingError 18 = .ok (.aload_n 0, 1) := by decide +kernel
set_option maxRecDepth 20000 in
theorem dX5_mergingError_19 : decode cX5_mergingError 19 = .ok (.getfield 10, 3) := by decide +kernel
set_option maxRecDepth 20000 in
theorem dX5_mergingError_22 : decode cX5_mergingError 22 = .ok (.iload_n 3, 1) := by decide +kernel
set_option maxRecDepth 20000 in
theorem dX5_mergingError_23 : decode cX5_mergingError 23 = .ok (.invokevirtual 49, 3) := by decide +kernel
set_option maxRecDepth 20000 in
theorem dX5_mergingError_26 : decode cX5_mergingError 26 = .ok (.ifCond .ne 5, 3) := by decide +kernel
set_option maxRecDepth 20000 in
theorem dX5_mergingError_29 : decode cX5_mergingError 29 = .ok (.iconst (-1), 1) := by decide +kernel
set_option maxRecDepth 20000 in
theorem dX5_mergingError_30 : decode cX5_mergingError 30 = .ok (.ireturn, 1) := by decide +kernel
set_option maxRecDepth 20000 in
theorem dX5_mergingError_31 : decode cX5_mergingError 31 = .ok (.iload_n 2, 1) := by decide +kernel
set_option maxRecDepth 20000 in
theorem dX5_mergingError_32 : decode cX5_mergingError 32 = .ok (.iload_n 3, 1) := by decide +kernel
set_option maxRecDepth 20000 in
theorem dX5_mergingError_33 : decode cX5_mergingError 33 = .ok (.if_icmp .ne 6, 3) := by decide +kernel
set_option maxRecDepth 20000 in
theorem dX5_mergingError_36 : decode cX5_mergingError 36 = .ok (.bipush (-2), 2) := by decide +kernel
set_option maxRecDepth 20000 in
theorem dX5_mergingError_38 : decode cX5_mergingError 38 = .ok (.ireturn, 1) := by decide +kernel
set_option maxRecDepth 20000 in
theorem dX5_mergingError_39 : decode cX5_mergingError 39 = .ok (.aload_n 0, 1) := by decide +kernel
set_option maxRecDepth 20000 in
theorem dX5_mergingError_40 : decode cX5_mergingError 40 = .ok (.getfield 10, 3) := by decide +kernel
set_option maxRecDepth 20000 in
theorem dX5_mergingError_43 : decode cX5_mergingError 43 = .ok (.iload_n 1, 1) := by decide +kernel
set_option maxRecDepth 20000 in
theorem dX5_mergingError_44 : decode cX5_mergingError 44 = .ok (.iload_n 2, 1) := by decide +kernel
set_option maxRecDepth 20000 in
theorem dX5_mergingError_45 : decode cX5_mergingError 45 = .ok (.iload_n 3, 1) := by decide +kernel
set_option maxRecDepth 20000 in
theorem dX5_mergingError_46 : decode cX5_mergingError 46 = .ok (.invokevirtual 215, 3) := by decide +kernel
set_option maxRecDepth 20000 in
theorem dX5_mergingError_49 : decode cX5_mergingError 49 = .ok (.ifCond .eq 7, 3) := by decide +kernel
set_option maxRecDepth 20000 in
theorem dX5_mergingError_52 : decode cX5_mergingError 52 = .ok (.iconst 0, 1) := by decide +kernel
set_option maxRecDepth 20000 in
theorem dX5_mergingError_53 : decode cX5_mergingError 53 = .ok (.goto 5, 3) := by decide +kernel
set_option maxRecDepth 20000 in
theorem dX5_mergingError_56 : decode cX5_mergingError 56 = .ok (.bipush (-4), 2) := by decide +kernel
set_option maxRecDepth 20000 in
theorem dX5_mergingError_58 : decode cX5_mergingError 58 = .ok (.ireturn, 1) := by decide +kernel
set_option maxRecDepth 20000 in
theorem dJ9_abs_0f7a4_0 : decode cJ9_abs_0f7a4 0 = .ok (.iload_n 0, 1) := by decide +kernel
set_option maxRecDepth 20000 in
theorem dJ9_abs_0f7a4_1 : decode cJ9_abs_0f7a4 1 = .ok (.ifCond .ge 8, 3) := by decide +kernel
set_option maxRecDepth 20000 in
theorem dJ9_abs_0f7a4_4 : decode cJ9_abs_0f7a4 4 = .ok (.iload_n 0, 1) := by decide +kernel
set_option maxRecDepth 20000 in
theorem dJ9_abs_0f7a4_5 : decode cJ9_abs_0f7a4 5 = .ok (.ineg, 1) := by decide +kernel
set_option maxRecDepth 20000 in
theorem dJ9_abs_0f7a4_6 : decode cJ9_abs_0f7a4 6 = .ok (.goto 4, 3) := by decide +kernel
set_option maxRecDepth 20000 in
theorem dJ9_abs_0f7a4_9 : decode cJ9_abs_0f7a4 9 = .ok (.iload_n 0, 1) := by decide +kernel
set_option maxRecDepth 20000 in
theorem dJ9_abs_0f7a4_10 : decode cJ9_abs_0f7a4 10 = .ok (.ireturn, 1) := by decide +kernel
set_option maxRecDepth 20000 in
theorem dJ9_max_7cf53_0 : decode cJ9_max_7cf53 0 = .ok (.iload_n 0, 1) := by decide +kernel
set_option maxRecDepth 20000 in
theorem dJ9_max_7cf53_1 : decode cJ9_max_7cf53 1 = .ok (.iload_n 1, 1) := by decide +kernel
set_option maxRecDepth 20000 in
theorem dJ9_max_7cf53_2 : decode cJ9_max_7cf53 2 = .ok (.if_icmp .lt 7, 3) := by decide +kernel
set_option maxRecDepth 20000 in
theorem dJ9_max_7cf53_5 : decode cJ9_max_7cf53 5 = .ok (.iload_n 0, 1) := by decide +kernel
set_option maxRecDepth 20000 in
theorem dJ9_max_7cf53_6 : decode cJ9_max_7cf53 6 = .ok (.goto 4, 3) := by decide +kernel
set_option maxRecDepth 20000 in
theorem dJ9_max_7cf53_9 : decode cJ9_max_7cf53 9 = .ok (.iload_n 1, 1) := by decide +kernel
set_option maxRecDepth 20000 in
theorem dJ9_max_7cf53_10 : decode cJ9_max_7cf53 10 = .ok (.ireturn, 1) := by decide +kernel
set_option maxRecDepth 20000 in
theorem dL_cell_0 : decode cL_cell 0 = .ok (.iload_n 1, 1) := by decide +kernel
set_option maxRecDepth 20000 in
theorem dL_cell_1 : decode cL_cell 1 = .ok (.aload_n 0, 1) := by decide +kernel
set_option maxRecDepth 20000 in
theorem dL_cell_2 : decode cL_cell 2 = .ok (.arraylength, 1) := by decide +kernel
set_option maxRecDepth 20000 in
theorem dL_cell_3 : decode cL_cell 3 = .ok (.if_icmp .ge 9, 3) := by decide +kernel
set_option maxRecDepth 20000 in
theorem dL_cell_6 : decode cL_cell 6 = .ok (.aload_n 0, 1) := by decide +kernel
set_option maxRecDepth 20000 in
theorem dL_cell_7 : decode cL_cell 7 = .ok (.iload_n 1, 1) := by decide +kernel
set_option maxRecDepth 20000 in
theorem dL_cell_8 : decode cL_cell 8 = .ok (.iaload, 1) := by decide +kernel
set_option maxRecDepth 20000 in
theorem dL_cell_9 : decode cL_cell 9 = .ok (.goto 15, 3) := by decide +kernel
set_option maxRecDepth 20000 in
theorem dL_cell_12 : decode cL_cell 12 = .ok (.sipush 7919, 3) := by decide +kernel
set_option maxRecDepth 20000 in
theorem dL_cell_15 : decode cL_cell 15 = .ok (.iload_n 1, 1) := by decide +kernel
set_option maxRecDepth 20000 in
theorem dL_cell_16 : decode cL_cell 16 = .ok (.iconst 3, 1) := by decide +kernel
set_option maxRecDepth 20000 in
theorem dL_cell_17 : decode cL_cell 17 = .ok (.iadd, 1) := by decide +kernel
set_option maxRecDepth 20000 in
theorem dL_cell_18 : decode cL_cell 18 = .ok (.imul, 1) := by decide +kernel
set_option maxRecDepth 20000 in
theorem dL_cell_19 : decode cL_cell 19 = .ok (.iload_n 1, 1) := by decide +kernel
set_option maxRecDepth 20000 in
theorem dL_cell_20 : decode cL_cell 20 = .ok (.bipush 11, 2) := by decide +kernel
set_option maxRecDepth 20000 in
theorem dL_cell_22 : decode cL_cell 22 = .ok (.iadd, 1) := by decide +kernel
set_option maxRecDepth 20000 in
theorem dL_cell_23 : decode cL_cell 23 = .ok (.imul, 1) := by decide +kernel
set_option maxRecDepth 20000 in
theorem dL_cell_24 : decode cL_cell 24 = .ok (.ireturn, 1) := by decide +kernel
set_option maxRecDepth 20000 in
theorem dL_low_0 : decode cL_low 0 = .ok (.iload_n 0, 1) := by decide +kernel
set_option maxRecDepth 20000 in
theorem dL_low_1 : decode cL_low 1 = .ok (.ldc 7, 2) := by decide +kernel
set_option maxRecDepth 20000 in
theorem dL_low_3 : decode cL_low 3 = .ok (.iand, 1) := by decide +kernel
set_option maxRecDepth 20000 in
theorem dL_low_4 : decode cL_low 4 = .ok (.iload_n 1, 1) := by decide +kernel
set_option maxRecDepth 20000 in
theorem dL_low_5 : decode cL_low 5 = .ok (.irem, 1) := by decide +kernel
set_option maxRecDepth 20000 in
theorem dL_low_6 : decode cL_low 6 = .ok (.ireturn, 1) := by decide +kernel
set_option maxRecDepth 20000 in
theorem dL_told_0 : decode cL_told 0 = .ok (.ldc2_w 8, 3) := by decide +kernel
set_option maxRecDepth 20000 in
theorem dL_told_3 : decode cL_told 3 = .ok (.lstore_n 1, 1) := by decide +kernel
set_option maxRecDepth 20000 in
theorem dL_told_4 : decode cL_told 4 = .ok (.iconst 0, 1) := by decide +kernel
set_option maxRecDepth 20000 in
theorem dL_told_5 : decode cL_told 5 = .ok (.istore_n 3, 1) := by decide +kernel
set_option maxRecDepth 20000 in
theorem dL_told_6 : decode cL_told 6 = .ok (.iload_n 3, 1) := by decide +kernel
set_option maxRecDepth 20000 in
theorem dL_told_7 : decode cL_told 7 = .ok (.bipush 16, 2) := by decide +kernel
set_option maxRecDepth 20000 in
theorem dL_told_9 : decode cL_told 9 = .ok (.if_icmp .ge 22, 3) := by decide +kernel
set_option maxRecDepth 20000 in
theorem dL_told_12 : decode cL_told 12 = .ok (.ldc2_w 10, 3) := by decide +kernel
set_option maxRecDepth 20000 in
theorem dL_told_15 : decode cL_told 15 = .ok (.lload_n 1, 1) := by decide +kernel
set_option maxRecDepth 20000 in
theorem dL_told_16 : decode cL_told 16 = .ok (.lmul, 1) := by decide +kernel
set_option maxRecDepth 20000 in
theorem dL_told_17 : decode cL_told 17 = .ok (.aload_n 0, 1) := by decide +kernel
set_option maxRecDepth 20000 in
theorem dL_told_18 : decode cL_told 18 = .ok (.iload_n 3, 1) := by decide +kernel
set_option maxRecDepth 20000 in
theorem dL_told_19 : decode cL_told 19 = .ok (.invokevirtual 12, 3) := by decide +kernel
set_option maxRecDepth 20000 in
theorem dL_told_22 : decode cL_told 22 = .ok (.i2l, 1) := by decide +kernel
set_option maxRecDepth 20000 in
theorem dL_told_23 : decode cL_told 23 = .ok (.ladd, 1) := by decide +kernel
set_option maxRecDepth 20000 in
theorem dL_told_24 : decode cL_told 24 = .ok (.lstore_n 1, 1) := by decide +kernel
set_option maxRecDepth 20000 in
theorem dL_told_25 : decode cL_told 25 = .ok (.iinc 3 1, 3) := by decide +kernel
set_option maxRecDepth 20000 in
theorem dL_told_28 : decode cL_told 28 = .ok (.goto (-22), 3) := by decide +kernel
set_option maxRecDepth 20000 in
theorem dL_told_31 : decode cL_told 31 = .ok (.iconst 0, 1) := by decide +kernel
set_option maxRecDepth 20000 in
theorem dL_told_32 : decode cL_told 32 = .ok (.istore_n 3, 1) := by decide +kernel
set_option maxRecDepth 20000 in
theorem dL_told_33 : decode cL_told 33 = .ok (.iload_n 3, 1) := by decide +kernel
set_option maxRecDepth 20000 in
theorem dL_told_34 : decode cL_told 34 = .ok (.aload_n 0, 1) := by decide +kernel
set_option maxRecDepth 20000 in
theorem dL_told_35 : decode cL_told 35 = .ok (.bipush 15, 2) := by decide +kernel
set_option maxRecDepth 20000 in
theorem dL_told_37 : decode cL_told 37 = .ok (.invokevirtual 12, 3) := by decide +kernel
set_option maxRecDepth 20000 in
theorem dL_told_40 : decode cL_told 40 = .ok (.if_icmp .ge 50, 3) := by decide +kernel
set_option maxRecDepth 20000 in
theorem dL_told_43 : decode cL_told 43 = .ok (.iconst 0, 1) := by decide +kernel
set_option maxRecDepth 20000 in
theorem dL_told_44 : decode cL_told 44 = .ok (.istore 4, 2) := by decide +kernel
set_option maxRecDepth 20000 in
theorem dL_told_46 : decode cL_told 46 = .ok (.iload 4, 2) := by decide +kernel
set_option maxRecDepth 20000 in
theorem dL_told_48 : decode cL_told 48 = .ok (.bipush 9, 2) := by decide +kernel
set_option maxRecDepth 20000 in
theorem dL_told_50 : decode cL_told 50 = .ok (.if_icmp .ge 34, 3) := by decide +kernel
set_option maxRecDepth 20000 in
theorem dL_told_53 : decode cL_told 53 = .ok (.iload 4, 2) := by decide +kernel
set_option maxRecDepth 20000 in
theorem dL_told_55 : decode cL_told 55 = .ok (.iconst 5, 1) := by decide +kernel
set_option maxRecDepth 20000 in
theorem dL_told_56 : decode cL_told 56 = .ok (.if_icmp .ne 7, 3) := by decide +kernel
set_option maxRecDepth 20000 in
theorem dL_told_59 : decode cL_told 59 = .ok (.lload_n 1, 1) := by decide +kernel
set_option maxRecDepth 20000 in
theorem dL_told_60 : decode cL_told 60 = .ok (.goto 17, 3) := by decide +kernel
set_option maxRecDepth 20000 in
theorem dL_told_63 : decode cL_told 63 = .ok (.ldc2_w 10, 3) := by decide +kernel
set_option maxRecDepth 20000 in
theorem dL_told_66 : decode cL_told 66 = .ok (.lload_n 1, 1) := by decide +kernel
set_option maxRecDepth 20000 in
theorem dL_told_67 : decode cL_told 67 = .ok (.lmul, 1) := by decide +kernel
set_option maxRecDepth 20000 in
theorem dL_told_68 : decode cL_told 68 = .ok (.aload_n 0, 1) := by decide +kernel
set_option maxRecDepth 20000 in
theorem dL_told_69 : decode cL_told 69 = .ok (.iload_n 3, 1) := by decide +kernel
set_option maxRecDepth 20000 in
theorem dL_told_70 : decode cL_told 70 = .ok (.iload 4, 2) := by decide +kernel
set_option maxRecDepth 20000 in
theorem dL_told_72 : decode cL_told 72 = .ok (.invokevirtual 18, 3) := by decide +kernel
set_option maxRecDepth 20000 in
theorem dL_told_75 : decode cL_told 75 = .ok (.i2l, 1) := by decide +kernel
set_option maxRecDepth 20000 in
theorem dL_told_76 : decode cL_told 76 = .ok (.ladd, 1) := by decide +kernel
set_option maxRecDepth 20000 in
theorem dL_told_77 : decode cL_told 77 = .ok (.lstore_n 1, 1) := by decide +kernel
set_option maxRecDepth 20000 in
theorem dL_told_78 : decode cL_told 78 = .ok (.iinc 4 1, 3) := by decide +kernel
set_option maxRecDepth 20000 in
theorem dL_told_81 : decode cL_told 81 = .ok (.goto (-35), 3) := by decide +kernel
set_option maxRecDepth 20000 in
theorem dL_told_84 : decode cL_told 84 = .ok (.iinc 3 1, 3) := by decide +kernel
set_option maxRecDepth 20000 in
theorem dL_told_87 : decode cL_told 87 = .ok (.goto (-54), 3) := by decide +kernel
set_option maxRecDepth 20000 in
theorem dL_told_90 : decode cL_told 90 = .ok (.iconst 0, 1) := by decide +kernel
set_option maxRecDepth 20000 in
theorem dL_told_91 : decode cL_told 91 = .ok (.istore_n 3, 1) := by decide +kernel
set_option maxRecDepth 20000 in
theorem dL_told_92 : decode cL_told 92 = .ok (.iload_n 3, 1) := by decide +kernel
set_option maxRecDepth 20000 in
theorem dL_told_93 : decode cL_told 93 = .ok (.iconst 2, 1) := by decide +kernel
set_option maxRecDepth 20000 in
theorem dL_told_94 : decode cL_told 94 = .ok (.aload_n 0, 1) := by decide +kernel
set_option maxRecDepth 20000 in
theorem dL_told_95 : decode cL_told 95 = .ok (.iconst 0, 1) := by decide +kernel
set_option maxRecDepth 20000 in
theorem dL_told_96 : decode cL_told 96 = .ok (.invokevirtual 12, 3) := by decide +kernel
set_option maxRecDepth 20000 in
theorem dL_told_99 : decode cL_told 99 = .ok (.imul, 1) := by decide +kernel
set_option maxRecDepth 20000 in
theorem dL_told_100 : decode cL_told 100 = .ok (.if_icmp .ge 45, 3) := by decide +kernel
set_option maxRecDepth 20000 in
theorem dL_told_103 : decode cL_told 103 = .ok (.ldc2_w 10, 3) := by decide +kernel
set_option maxRecDepth 20000 in
theorem dL_told_106 : decode cL_told 106 = .ok (.ldc2_w 10, 3) := by decide +kernel
set_option maxRecDepth 20000 in
theorem dL_told_109 : decode cL_told 109 = .ok (.lload_n 1, 1) := by decide +kernel
set_option maxRecDepth 20000 in
theorem dL_told_110 : decode cL_told 110 = .ok (.lmul, 1) := by decide +kernel
set_option maxRecDepth 20000 in
theorem dL_told_111 : decode cL_told 111 = .ok (.aload_n 0, 1) := by decide +kernel
set_option maxRecDepth 20000 in
theorem dL_told_112 : decode cL_told 112 = .ok (.iload_n 3, 1) := by decide +kernel
set_option maxRecDepth 20000 in
theorem dL_told_113 : decode cL_told 113 = .ok (.iconst 2, 1) := by decide +kernel
set_option maxRecDepth 20000 in
theorem dL_told_114 : decode cL_told 114 = .ok (.irem, 1) := by decide +kernel
set_option maxRecDepth 20000 in
theorem dL_told_115 : decode cL_told 115 = .ok (.iload_n 3, 1) := by decide +kernel
set_option maxRecDepth 20000 in
theorem dL_told_116 : decode cL_told 116 = .ok (.iconst 2, 1) := by decide +kernel
set_option maxRecDepth 20000 in
theorem dL_told_117 : decode cL_told 117 = .ok (.idiv, 1) := by decide +kernel
set_option maxRecDepth 20000 in
theorem dL_told_118 : decode cL_told 118 = .ok (.iconst 0, 1) := by decide +kernel
set_option maxRecDepth 20000 in
theorem dL_told_119 : decode cL_told 119 = .ok (.invokevirtual 22, 3) := by decide +kernel
set_option maxRecDepth 20000 in
theorem dL_told_122 : decode cL_told 122 = .ok (.i2l, 1) := by decide +kernel
set_option maxRecDepth 20000 in
theorem dL_told_123 : decode cL_told 123 = .ok (.ladd, 1) := by decide +kernel
set_option maxRecDepth 20000 in
theorem dL_told_124 : decode cL_told 124 = .ok (.lmul, 1) := by decide +kernel
set_option maxRecDepth 20000 in
theorem dL_told_125 : decode cL_told 125 = .ok (.aload_n 0, 1) := by decide +kernel
set_option maxRecDepth 20000 in
theorem dL_told_126 : decode cL_told 126 = .ok (.iload_n 3, 1) := by decide +kernel
set_option maxRecDepth 20000 in
theorem dL_told_127 : decode cL_told 127 = .ok (.iconst 2, 1) := by decide +kernel
set_option maxRecDepth 20000 in
theorem dL_told_128 : decode cL_told 128 = .ok (.irem, 1) := by decide +kernel
set_option maxRecDepth 20000 in
theorem dL_told_129 : decode cL_told 129 = .ok (.iload_n 3, 1) := by decide +kernel
set_option maxRecDepth 20000 in
theorem dL_told_130 : decode cL_told 130 = .ok (.iconst 2, 1) := by decide +kernel
set_option maxRecDepth 20000 in
theorem dL_told_131 : decode cL_told 131 = .ok (.idiv, 1) := by decide +kernel
set_option maxRecDepth 20000 in
theorem dL_told_132 : decode cL_told 132 = .ok (.iconst 1, 1) := by decide +kernel
set_option maxRecDepth 20000 in
theorem dL_told_133 : decode cL_told 133 = .ok (.invokevirtual 22, 3) := by decide +kernel
set_option maxRecDepth 20000 in
theorem dL_told_136 : decode cL_told 136 = .ok (.i2l, 1) := by decide +kernel
set_option maxRecDepth 20000 in
theorem dL_told_137 : decode cL_told 137 = .ok (.ladd, 1) := by decide +kernel
set_option maxRecDepth 20000 in
theorem dL_told_138 : decode cL_told 138 = .ok (.lstore_n 1, 1) := by decide +kernel
set_option maxRecDepth 20000 in
theorem dL_told_139 : decode cL_told 139 = .ok (.iinc 3 1, 3) := by decide +kernel
set_option maxRecDepth 20000 in
theorem dL_told_142 : decode cL_told 142 = .ok (.goto (-50), 3) := by decide +kernel
set_option maxRecDepth 20000 in
theorem dL_told_145 : decode cL_told 145 = .ok (.lload_n 1, 1) := by decide +kernel
set_option maxRecDepth 20000 in
theorem dL_told_146 : decode cL_told 146 = .ok (.lreturn, 1) := by decide +kernel
set_option maxRecDepth 20000 in
theorem dL_act_0 : decode cL_act 0 = .ok (.iload_n 1, 1) := by decide +kernel
set_option maxRecDepth 20000 in
theorem dL_act_1 : decode cL_act 1 = .ok (.iconst 4, 1) := by decide +kernel
set_option maxRecDepth 20000 in
theorem dL_act_2 : decode cL_act 2 = .ok (.ishr, 1) := by decide +kernel
set_option maxRecDepth 20000 in
theorem dL_act_3 : decode cL_act 3 = .ok (.aload_n 0, 1) := by decide +kernel
set_option maxRecDepth 20000 in
theorem dL_act_4 : decode cL_act 4 = .ok (.iconst 0, 1) := by decide +kernel
set_option maxRecDepth 20000 in
theorem dL_act_5 : decode cL_act 5 = .ok (.invokevirtual 12, 3) := by decide +kernel
set_option maxRecDepth 20000 in
theorem dL_act_8 : decode cL_act 8 = .ok (.iconst 1, 1) := by decide +kernel
set_option maxRecDepth 20000 in
theorem dL_act_9 : decode cL_act 9 = .ok (.iadd, 1) := by decide +kernel
set_option maxRecDepth 20000 in
theorem dL_act_10 : decode cL_act 10 = .ok (.invokestatic 26, 3) := by decide +kernel
set_option maxRecDepth 20000 in
theorem dL_act_13 : decode cL_act 13 = .ok (.istore_n 3, 1) := by decide +kernel
set_option maxRecDepth 20000 in
theorem dL_act_14 : decode cL_act 14 = .ok (.iload_n 1, 1) := by decide +kernel
set_option maxRecDepth 20000 in
theorem dL_act_15 : decode cL_act 15 = .ok (.bipush 8, 2) := by decide +kernel
set_option maxRecDepth 20000 in
theorem dL_act_17 : decode cL_act 17 = .ok (.ishr, 1) := by decide +kernel
set_option maxRecDepth 20000 in
theorem dL_act_18 : decode cL_act 18 = .ok (.aload_n 0, 1) := by decide +kernel
set_option maxRecDepth 20000 in
theorem dL_act_19 : decode cL_act 19 = .ok (.bipush 15, 2) := by decide +kernel
set_option maxRecDepth 20000 in
theorem dL_act_21 : decode cL_act 21 = .ok (.invokevirtual 12, 3) := by decide +kernel
set_option maxRecDepth 20000 in
theorem dL_act_24 : decode cL_act 24 = .ok (.iconst 1, 1) := by decide +kernel
set_option maxRecDepth 20000 in
theorem dL_act_25 : decode cL_act 25 = .ok (.iadd, 1) := by decide +kernel
set_option maxRecDepth 20000 in
theorem dL_act_26 : decode cL_act 26 = .ok (.invokestatic 26, 3) := by decide +kernel
set_option maxRecDepth 20000 in
theorem dL_act_29 : decode cL_act 29 = .ok (.istore 4, 2) := by decide +kernel
set_option maxRecDepth 20000 in
theorem dL_act_31 : decode cL_act 31 = .ok (.iload_n 1, 1) := by decide +kernel
set_option maxRecDepth 20000 in
theorem dL_act_32 : decode cL_act 32 = .ok (.bipush 15, 2) := by decide +kernel
set_option maxRecDepth 20000 in
theorem dL_act_34 : decode cL_act 34 = .ok (.iand, 1) := by decide +kernel
set_option maxRecDepth 20000 in
theorem dL_act_35 : decode cL_act 35 = .ok (.tableswitch 211 0 10 #[57, 57, 83, 138, 138, 156, 168, 168, 173, 193, 193], 57) := by decide +kernel
set_option maxRecDepth 20000 in
theorem dL_act_92 : decode cL_act 92 = .ok (.aload_n 0, 1) := by decide +kernel
set_option maxRecDepth 20000 in
theorem dL_act_93 : decode cL_act 93 = .ok (.iload_n 2, 1) := by decide +kernel
set_option maxRecDepth 20000 in
theorem dL_act_94 : decode cL_act 94 = .ok (.iload_n 2, 1) := by decide +kernel
set_option maxRecDepth 20000 in
theorem dL_act_95 : decode cL_act 95 = .ok (.bipush 20, 2) := by decide +kernel
set_option maxRecDepth 20000 in
theorem dL_act_97 : decode cL_act 97 = .ok (.ishr, 1) := by decide +kernel
set_option maxRecDepth 20000 in
theorem dL_act_98 : decode cL_act 98 = .ok (.iconst 1, 1) := by decide +kernel
set_option maxRecDepth 20000 in
theorem dL_act_99 : decode cL_act 99 = .ok (.iand, 1) := by decide +kernel
set_option maxRecDepth 20000 in
theorem dL_act_100 : decode cL_act 100 = .ok (.ifCond .ne 8, 3) := by decide +kernel
set_option maxRecDepth 20000 in
theorem dL_act_103 : decode cL_act 103 = .ok (.bipush 50, 2) := by decide +kernel
set_option maxRecDepth 20000 in
theorem dL_act_105 : decode cL_act 105 = .ok (.goto 6, 3) := by decide +kernel
set_option maxRecDepth 20000 in
theorem dL_act_108 : decode cL_act 108 = .ok (.sipush 1441, 3) := by decide +kernel
set_option maxRecDepth 20000 in
theorem dL_act_111 : decode cL_act 111 = .ok (.invokestatic 26, 3) := by decide +kernel
set_option maxRecDepth 20000 in
theorem dL_act_114 : decode cL_act 114 = .ok (.invokevirtual 31, 3) := by decide +kernel
set_option maxRecDepth 20000 in
theorem dL_act_117 : decode cL_act 117 = .ok (.ireturn, 1) := by decide +kernel
set_option maxRecDepth 20000 in
theorem dL_act_118 : decode cL_act 118 = .ok (.iload_n 2, 1) := by decide +kernel
set_option maxRecDepth 20000 in
theorem dL_act_119 : decode cL_act 119 = .ok (.iconst 5, 1) := by decide +kernel
set_option maxRecDepth 20000 in
theorem dL_act_120 : decode cL_act 120 = .ok (.invokestatic 26, 3) := by decide +kernel
set_option maxRecDepth 20000 in
theorem dL_act_123 : decode cL_act 123 = .ok (.istore 5, 2) := by decide +kernel
set_option maxRecDepth 20000 in
theorem dL_act_125 : decode cL_act 125 = .ok (.aload_n 0, 1) := by decide +kernel
set_option maxRecDepth 20000 in
theorem dL_act_126 : decode cL_act 126 = .ok (.iload 5, 2) := by decide +kernel
set_option maxRecDepth 20000 in
theorem dL_act_128 : decode cL_act 128 = .ok (.iload_n 2, 1) := by decide +kernel
set_option maxRecDepth 20000 in
theorem dL_act_129 : decode cL_act 129 = .ok (.iconst 3, 1) := by decide +kernel
set_option maxRecDepth 20000 in
theorem dL_act_130 : decode cL_act 130 = .ok (.ishr, 1) := by decide +kernel
set_option maxRecDepth 20000 in
theorem dL_act_131 : decode cL_act 131 = .ok (.iload 5, 2) := by decide +kernel
set_option maxRecDepth 20000 in
theorem dL_act_133 : decode cL_act 133 = .ok (.ifCond .ne 8, 3) := by decide +kernel
set_option maxRecDepth 20000 in
theorem dL_act_136 : decode cL_act 136 = .ok (.bipush 22, 2) := by decide +kernel
set_option maxRecDepth 20000 in
theorem dL_act_138 : decode cL_act 138 = .ok (.goto 28, 3) := by decide +kernel
set_option maxRecDepth 20000 in
theorem dL_act_141 : decode cL_act 141 = .ok (.iload 5, 2) := by decide +kernel
set_option maxRecDepth 20000 in
theorem dL_act_143 : decode cL_act 143 = .ok (.iconst 1, 1) := by decide +kernel
set_option maxRecDepth 20000 in
theorem dL_act_144 : decode cL_act 144 = .ok (.if_icmp .ne 8, 3) := by decide +kernel
set_option maxRecDepth 20000 in
theorem dL_act_147 : decode cL_act 147 = .ok (.bipush 9, 2) := by decide +kernel
set_option maxRecDepth 20000 in
theorem dL_act_149 : decode cL_act 149 = .ok (.goto 17, 3) := by decide +kernel
set_option maxRecDepth 20000 in
theorem dL_act_152 : decode cL_act 152 = .ok (.iload 5, 2) := by decide +kernel
set_option maxRecDepth 20000 in
theorem dL_act_154 : decode cL_act 154 = .ok (.iconst 2, 1) := by decide +kernel
set_option maxRecDepth 20000 in
theorem dL_act_155 : decode cL_act 155 = .ok (.if_icmp .ne 8, 3) := by decide +kernel
set_option maxRecDepth 20000 in
theorem dL_act_158 : decode cL_act 158 = .ok (.bipush 122, 2) := by decide +kernel
set_option maxRecDepth 20000 in
theorem dL_act_160 : decode cL_act 160 = .ok (.goto 6, 3) := by decide +kernel
set_option maxRecDepth 20000 in
theorem dL_act_163 : decode cL_act 163 = .ok (.sipush 200, 3) := by decide +kernel
set_option maxRecDepth 20000 in
theorem dL_act_166 : decode cL_act 166 = .ok (.invokestatic 26, 3) := by decide +kernel
set_option maxRecDepth 20000 in
theorem dL_act_169 : decode cL_act 169 = .ok (.invokevirtual 34, 3) := by decide +kernel
set_option maxRecDepth 20000 in
theorem dL_act_172 : decode cL_act 172 = .ok (.ireturn, 1) := by decide +kernel
set_option maxRecDepth 20000 in
theorem dL_act_173 : decode cL_act 173 = .ok (.aload_n 0, 1) := by decide +kernel
set_option maxRecDepth 20000 in
theorem dL_act_174 : decode cL_act 174 = .ok (.iload_n 1, 1) := by decide +kernel
set_option maxRecDepth 20000 in
theorem dL_act_175 : decode cL_act 175 = .ok (.bipush 12, 2) := by decide +kernel
set_option maxRecDepth 20000 in
theorem dL_act_177 : decode cL_act 177 = .ok (.ishr, 1) := by decide +kernel
set_option maxRecDepth 20000 in
theorem dL_act_178 : decode cL_act 178 = .ok (.iconst 1, 1) := by decide +kernel
set_option maxRecDepth 20000 in
theorem dL_act_179 : decode cL_act 179 = .ok (.iand, 1) := by decide +kernel
set_option maxRecDepth 20000 in
theorem dL_act_180 : decode cL_act 180 = .ok (.iload_n 3, 1) := by decide +kernel
set_option maxRecDepth 20000 in
theorem dL_act_181 : decode cL_act 181 = .ok (.iload_n 2, 1) := by decide +kernel
set_option maxRecDepth 20000 in
theorem dL_act_182 : decode cL_act 182 = .ok (.bipush 11, 2) := by decide +kernel
set_option maxRecDepth 20000 in
theorem dL_act_184 : decode cL_act 184 = .ok (.invokestatic 26, 3) := by decide +kernel
set_option maxRecDepth 20000 in
theorem dL_act_187 : decode cL_act 187 = .ok (.invokevirtual 37, 3) := by decide +kernel
set_option maxRecDepth 20000 in
theorem dL_act_190 : decode cL_act 190 = .ok (.ireturn, 1) := by decide +kernel
set_option maxRecDepth 20000 in
theorem dL_act_191 : decode cL_act 191 = .ok (.aload_n 0, 1) := by decide +kernel
set_option maxRecDepth 20000 in
theorem dL_act_192 : decode cL_act 192 = .ok (.iload_n 1, 1) := by decide +kernel
set_option maxRecDepth 20000 in
theorem dL_act_193 : decode cL_act 193 = .ok (.bipush 12, 2) := by decide +kernel
set_option maxRecDepth 20000 in
theorem dL_act_195 : decode cL_act 195 = .ok (.ishr, 1) := by decide +kernel
set_option maxRecDepth 20000 in
theorem dL_act_196 : decode cL_act 196 = .ok (.iconst 1, 1) := by decide +kernel
set_option maxRecDepth 20000 in
theorem dL_act_197 : decode cL_act 197 = .ok (.iand, 1) := by decide +kernel
set_option maxRecDepth 20000 in
theorem dL_act_198 : decode cL_act 198 = .ok (.iload_n 3, 1) := by decide +kernel
set_option maxRecDepth 20000 in
theorem dL_act_199 : decode cL_act 199 = .ok (.invokevirtual 40, 3) := by decide +kernel
set_option maxRecDepth 20000 in
theorem dL_act_202 : decode cL_act 202 = .ok (.ireturn, 1) := by decide +kernel
set_option maxRecDepth 20000 in
theorem dL_act_203 : decode cL_act 203 = .ok (.aload_n 0, 1) := by decide +kernel
set_option maxRecDepth 20000 in
theorem dL_act_204 : decode cL_act 204 = .ok (.invokevirtual 43, 3) := by decide +kernel
set_option maxRecDepth 20000 in
theorem dL_act_207 : decode cL_act 207 = .ok (.ireturn, 1) := by decide +kernel
set_option maxRecDepth 20000 in
theorem dL_act_208 : decode cL_act 208 = .ok (.iload_n 2, 1) := by decide +kernel
set_option maxRecDepth 20000 in
theorem dL_act_209 : decode cL_act 209 = .ok (.iconst 1, 1) := by decide +kernel
set_option maxRecDepth 20000 in
theorem dL_act_210 : decode cL_act 210 = .ok (.iand, 1) := by decide +kernel
set_option maxRecDepth 20000 in
theorem dL_act_211 : decode cL_act 211 = .ok (.ifCond .ne 12, 3) := by decide +kernel
set_option maxRecDepth 20000 in
theorem dL_act_214 : decode cL_act 214 = .ok (.aload_n 0, 1) := by decide +kernel
set_option maxRecDepth 20000 in
theorem dL_act_215 : decode cL_act 215 = .ok (.iload 4, 2) := by decide +kernel
set_option maxRecDepth 20000 in
theorem dL_act_217 : decode cL_act 217 = .ok (.invokevirtual 47, 3) := by decide +kernel
set_option maxRecDepth 20000 in
theorem dL_act_220 : decode cL_act 220 = .ok (.goto 7, 3) := by decide +kernel
set_option maxRecDepth 20000 in
theorem dL_act_223 : decode cL_act 223 = .ok (.aload_n 0, 1) := by decide +kernel
set_option maxRecDepth 20000 in
theorem dL_act_224 : decode cL_act 224 = .ok (.invokevirtual 50, 3) := by decide +kernel
set_option maxRecDepth 20000 in
theorem dL_act_227 : decode cL_act 227 = .ok (.ireturn, 1) := by decide +kernel
set_option maxRecDepth 20000 in
theorem dL_act_228 : decode cL_act 228 = .ok (.aload_n 0, 1) := by decide +kernel
set_option maxRecDepth 20000 in
theorem dL_act_229 : decode cL_act 229 = .ok (.iload 4, 2) := by decide +kernel
set_option maxRecDepth 20000 in
theorem dL_act_231 : decode cL_act 231 = .ok (.iload_n 2, 1) := by decide +kernel
set_option maxRecDepth 20000 in
theorem dL_act_232 : decode cL_act 232 = .ok (.aload_n 0, 1) := by decide +kernel
set_option maxRecDepth 20000 in
theorem dL_act_233 : decode cL_act 233 = .ok (.iconst 0, 1) := by decide +kernel
set_option maxRecDepth 20000 in
theorem dL_act_234 : decode cL_act 234 = .ok (.invokevirtual 12, 3) := by decide +kernel
set_option maxRecDepth 20000 in
theorem dL_act_237 : decode cL_act 237 = .ok (.iconst 1, 1) := by decide +kernel
set_option maxRecDepth 20000 in
theorem dL_act_238 : decode cL_act 238 = .ok (.iadd, 1) := by decide +kernel
set_option maxRecDepth 20000 in
theorem dL_act_239 : decode cL_act 239 = .ok (.invokestatic 26, 3) := by decide +kernel
set_option maxRecDepth 20000 in
theorem dL_act_242 : decode cL_act 242 = .ok (.invokevirtual 53, 3) := by decide +kernel
set_option maxRecDepth 20000 in
theorem dL_act_245 : decode cL_act 245 = .ok (.ireturn, 1) := by decide +kernel
set_option maxRecDepth 20000 in
theorem dL_act_246 : decode cL_act 246 = .ok (.aload_n 0, 1) := by decide +kernel
set_option maxRecDepth 20000 in
theorem dL_act_247 : decode cL_act 247 = .ok (.iload_n 3, 1) := by decide +kernel
set_option maxRecDepth 20000 in
theorem dL_act_248 : decode cL_act 248 = .ok (.iload_n 2, 1) := by decide +kernel
set_option maxRecDepth 20000 in
theorem dL_act_249 : decode cL_act 249 = .ok (.iload_n 2, 1) := by decide +kernel
set_option maxRecDepth 20000 in
theorem dL_act_250 : decode cL_act 250 = .ok (.bipush 20, 2) := by decide +kernel
set_option maxRecDepth 20000 in
theorem dL_act_252 : decode cL_act 252 = .ok (.ishr, 1) := by decide +kernel
set_option maxRecDepth 20000 in
theorem dL_act_253 : decode cL_act 253 = .ok (.bipush 7, 2) := by decide +kernel
set_option maxRecDepth 20000 in
theorem dL_act_255 : decode cL_act 255 = .ok (.iand, 1) := by decide +kernel
set_option maxRecDepth 20000 in
theorem dL_act_256 : decode cL_act 256 = .ok (.ifCond .ne 7, 3) := by decide +kernel
set_option maxRecDepth 20000 in
theorem dL_act_259 : decode cL_act 259 = .ok (.iconst 3, 1) := by decide +kernel
set_option maxRecDepth 20000 in
theorem dL_act_260 : decode cL_act 260 = .ok (.goto 4, 3) := by decide +kernel
set_option maxRecDepth 20000 in
theorem dL_act_263 : decode cL_act 263 = .ok (.iconst 2, 1) := by decide +kernel
set_option maxRecDepth 20000 in
theorem dL_act_264 : decode cL_act 264 = .ok (.invokestatic 26, 3) := by decide +kernel
set_option maxRecDepth 20000 in
theorem dL_act_267 : decode cL_act 267 = .ok (.iload_n 2, 1) := by decide +kernel
set_option maxRecDepth 20000 in
theorem dL_act_268 : decode cL_act 268 = .ok (.iconst 2, 1) := by decide +kernel
set_option maxRecDepth 20000 in
theorem dL_act_269 : decode cL_act 269 = .ok (.ishr, 1) := by decide +kernel
set_option maxRecDepth 20000 in
theorem dL_act_270 : decode cL_act 270 = .ok (.iload_n 2, 1) := by decide +kernel
set_option maxRecDepth 20000 in
theorem dL_act_271 : decode cL_act 271 = .ok (.bipush 20, 2) := by decide +kernel
set_option maxRecDepth 20000 in
theorem dL_act_273 : decode cL_act 273 = .ok (.ishr, 1) := by decide +kernel
set_option maxRecDepth 20000 in
theorem dL_act_274 : decode cL_act 274 = .ok (.bipush 7, 2) := by decide +kernel
set_option maxRecDepth 20000 in
theorem dL_act_276 : decode cL_act 276 = .ok (.iand, 1) := by decide +kernel
set_option maxRecDepth 20000 in
theorem dL_act_277 : decode cL_act 277 = .ok (.iconst 1, 1) := by decide +kernel
set_option maxRecDepth 20000 in
theorem dL_act_278 : decode cL_act 278 = .ok (.if_icmp .ne 8, 3) := by decide +kernel
set_option maxRecDepth 20000 in
theorem dL_act_281 : decode cL_act 281 = .ok (.bipush 11, 2) := by decide +kernel
set_option maxRecDepth 20000 in
theorem dL_act_283 : decode cL_act 283 = .ok (.goto 5, 3) := by decide +kernel
set_option maxRecDepth 20000 in
theorem dL_act_286 : decode cL_act 286 = .ok (.bipush 9, 2) := by decide +kernel
set_option maxRecDepth 20000 in
theorem dL_act_288 : decode cL_act 288 = .ok (.invokestatic 26, 3) := by decide +kernel
set_option maxRecDepth 20000 in
theorem dL_act_291 : decode cL_act 291 = .ok (.iload_n 2, 1) := by decide +kernel
set_option maxRecDepth 20000 in
theorem dL_act_292 : decode cL_act 292 = .ok (.bipush 20, 2) := by decide +kernel
set_option maxRecDepth 20000 in
theorem dL_act_294 : decode cL_act 294 = .ok (.ishr, 1) := by decide +kernel
set_option maxRecDepth 20000 in
theorem dL_act_295 : decode cL_act 295 = .ok (.bipush 7, 2) := by decide +kernel
set_option maxRecDepth 20000 in
theorem dL_act_297 : decode cL_act 297 = .ok (.iand, 1) := by decide +kernel
set_option maxRecDepth 20000 in
theorem dL_act_298 : decode cL_act 298 = .ok (.iconst 1, 1) := by decide +kernel
set_option maxRecDepth 20000 in
theorem dL_act_299 : decode cL_act 299 = .ok (.if_icmp .ne 7, 3) := by decide +kernel
set_option maxRecDepth 20000 in
theorem dL_act_302 : decode cL_act 302 = .ok (.iconst 0, 1) := by decide +kernel
set_option maxRecDepth 20000 in
theorem dL_act_303 : decode cL_act 303 = .ok (.goto 4, 3) := by decide +kernel
set_option maxRecDepth 20000 in
theorem dL_act_306 : decode cL_act 306 = .ok (.iconst 1, 1) := by decide +kernel
set_option maxRecDepth 20000 in
theorem dL_act_307 : decode cL_act 307 = .ok (.iadd, 1) := by decide +kernel
set_option maxRecDepth 20000 in
theorem dL_act_308 : decode cL_act 308 = .ok (.invokevirtual 56, 3) := by decide +kernel
set_option maxRecDepth 20000 in
theorem dL_act_311 : decode cL_act 311 = .ok (.ireturn, 1) := by decide +kernel
set_option maxRecDepth 20000 in
theorem dL_holds_0 : decode cL_holds 0 = .ok (.iconst 0, 1) := by decide +kernel
set_option maxRecDepth 20000 in
theorem dL_holds_1 : decode cL_holds 1 = .ok (.istore_n 1, 1) := by decide +kernel
set_option maxRecDepth 20000 in
theorem dL_holds_2 : decode cL_holds 2 = .ok (.iconst 0, 1) := by decide +kernel
set_option maxRecDepth 20000 in
theorem dL_holds_3 : decode cL_holds 3 = .ok (.istore_n 2, 1) := by decide +kernel
set_option maxRecDepth 20000 in
theorem dL_holds_4 : decode cL_holds 4 = .ok (.iconst 0, 1) := by decide +kernel
set_option maxRecDepth 20000 in
theorem dL_holds_5 : decode cL_holds 5 = .ok (.istore_n 3, 1) := by decide +kernel
set_option maxRecDepth 20000 in
theorem dL_holds_6 : decode cL_holds 6 = .ok (.iload_n 3, 1) := by decide +kernel
set_option maxRecDepth 20000 in
theorem dL_holds_7 : decode cL_holds 7 = .ok (.aload_n 0, 1) := by decide +kernel
set_option maxRecDepth 20000 in
theorem dL_holds_8 : decode cL_holds 8 = .ok (.bipush 15, 2) := by decide +kernel
set_option maxRecDepth 20000 in
theorem dL_holds_10 : decode cL_holds 10 = .ok (.invokevirtual 12, 3) := by decide +kernel
set_option maxRecDepth 20000 in
theorem dL_holds_13 : decode cL_holds 13 = .ok (.if_icmp .ge 43, 3) := by decide +kernel
set_option maxRecDepth 20000 in
theorem dL_holds_16 : decode cL_holds 16 = .ok (.aload_n 0, 1) := by decide +kernel
set_option maxRecDepth 20000 in
theorem dL_holds_17 : decode cL_holds 17 = .ok (.iload_n 3, 1) := by decide +kernel
set_option maxRecDepth 20000 in
theorem dL_holds_18 : decode cL_holds 18 = .ok (.iconst 3, 1) := by decide +kernel
set_option maxRecDepth 20000 in
theorem dL_holds_19 : decode cL_holds 19 = .ok (.invokevirtual 18, 3) := by decide +kernel
set_option maxRecDepth 20000 in
theorem dL_holds_22 : decode cL_holds 22 = .ok (.istore 4, 2) := by decide +kernel
set_option maxRecDepth 20000 in
theorem dL_holds_24 : decode cL_holds 24 = .ok (.iload_n 2, 1) := by decide +kernel
set_option maxRecDepth 20000 in
theorem dL_holds_25 : decode cL_holds 25 = .ok (.iload 4, 2) := by decide +kernel
set_option maxRecDepth 20000 in
theorem dL_holds_27 : decode cL_holds 27 = .ok (.ifCond .ge 7, 3) := by decide +kernel
set_option maxRecDepth 20000 in
theorem dL_holds_30 : decode cL_holds 30 = .ok (.iconst 0, 1) := by decide +kernel
set_option maxRecDepth 20000 in
theorem dL_holds_31 : decode cL_holds 31 = .ok (.goto 4, 3) := by decide +kernel
set_option maxRecDepth 20000 in
theorem dL_holds_34 : decode cL_holds 34 = .ok (.iconst 1, 1) := by decide +kernel
set_option maxRecDepth 20000 in
theorem dL_holds_35 : decode cL_holds 35 = .ok (.iadd, 1) := by decide +kernel
set_option maxRecDepth 20000 in
theorem dL_holds_36 : decode cL_holds 36 = .ok (.istore_n 2, 1) := by decide +kernel
set_option maxRecDepth 20000 in
theorem dL_holds_37 : decode cL_holds 37 = .ok (.iload_n 1, 1) := by decide +kernel
set_option maxRecDepth 20000 in
theorem dL_holds_38 : decode cL_holds 38 = .ok (.iload 4, 2) := by decide +kernel
set_option maxRecDepth 20000 in
theorem dL_holds_40 : decode cL_holds 40 = .ok (.ifCond .le 7, 3) := by decide +kernel
set_option maxRecDepth 20000 in
theorem dL_holds_43 : decode cL_holds 43 = .ok (.iconst 1, 1) := by decide +kernel
set_option maxRecDepth 20000 in
theorem dL_holds_44 : decode cL_holds 44 = .ok (.goto 4, 3) := by decide +kernel
set_option maxRecDepth 20000 in
theorem dL_holds_47 : decode cL_holds 47 = .ok (.iconst 0, 1) := by decide +kernel
set_option maxRecDepth 20000 in
theorem dL_holds_48 : decode cL_holds 48 = .ok (.iadd, 1) := by decide +kernel
set_option maxRecDepth 20000 in
theorem dL_holds_49 : decode cL_holds 49 = .ok (.istore_n 1, 1) := by decide +kernel
set_option maxRecDepth 20000 in
theorem dL_holds_50 : decode cL_holds 50 = .ok (.iinc 3 1, 3) := by decide +kernel
set_option maxRecDepth 20000 in
theorem dL_holds_53 : decode cL_holds 53 = .ok (.goto (-47), 3) := by decide +kernel
set_option maxRecDepth 20000 in
theorem dL_holds_56 : decode cL_holds 56 = .ok (.iconst 0, 1) := by decide +kernel
set_option maxRecDepth 20000 in
theorem dL_holds_57 : decode cL_holds 57 = .ok (.istore_n 3, 1) := by decide +kernel
set_option maxRecDepth 20000 in
theorem dL_holds_58 : decode cL_holds 58 = .ok (.iconst 0, 1) := by decide +kernel
set_option maxRecDepth 20000 in
theorem dL_holds_59 : decode cL_holds 59 = .ok (.istore 4, 2) := by decide +kernel
set_option maxRecDepth 20000 in
theorem dL_holds_61 : decode cL_holds 61 = .ok (.iconst 0, 1) := by decide +kernel
set_option maxRecDepth 20000 in
theorem dL_holds_62 : decode cL_holds 62 = .ok (.istore 5, 2) := by decide +kernel
set_option maxRecDepth 20000 in
theorem dL_holds_64 : decode cL_holds 64 = .ok (.iconst 0, 1) := by decide +kernel
set_option maxRecDepth 20000 in
theorem dL_holds_65 : decode cL_holds 65 = .ok (.istore 6, 2) := by decide +kernel
set_option maxRecDepth 20000 in
theorem dL_holds_67 : decode cL_holds 67 = .ok (.iload 6, 2) := by decide +kernel
set_option maxRecDepth 20000 in
theorem dL_holds_69 : decode cL_holds 69 = .ok (.iconst 2, 1) := by decide +kernel
set_option maxRecDepth 20000 in
theorem dL_holds_70 : decode cL_holds 70 = .ok (.aload_n 0, 1) := by decide +kernel
set_option maxRecDepth 20000 in
theorem dL_holds_71 : decode cL_holds 71 = .ok (.iconst 0, 1) := by decide +kernel
set_option maxRecDepth 20000 in
theorem dL_holds_72 : decode cL_holds 72 = .ok (.invokevirtual 12, 3) := by decide +kernel
set_option maxRecDepth 20000 in
theorem dL_holds_75 : decode cL_holds 75 = .ok (.imul, 1) := by decide +kernel
set_option maxRecDepth 20000 in
theorem dL_holds_76 : decode cL_holds 76 = .ok (.if_icmp .ge 334, 3) := by decide +kernel
set_option maxRecDepth 20000 in
theorem dL_holds_79 : decode cL_holds 79 = .ok (.iload 6, 2) := by decide +kernel
set_option maxRecDepth 20000 in
theorem dL_holds_81 : decode cL_holds 81 = .ok (.iconst 2, 1) := by decide +kernel
set_option maxRecDepth 20000 in
theorem dL_holds_82 : decode cL_holds 82 = .ok (.irem, 1) := by decide +kernel
set_option maxRecDepth 20000 in
theorem dL_holds_83 : decode cL_holds 83 = .ok (.istore 7, 2) := by decide +kernel
set_option maxRecDepth 20000 in
theorem dL_holds_85 : decode cL_holds 85 = .ok (.iload 6, 2) := by decide +kernel
set_option maxRecDepth 20000 in
theorem dL_holds_87 : decode cL_holds 87 = .ok (.iconst 2, 1) := by decide +kernel
set_option maxRecDepth 20000 in
theorem dL_holds_88 : decode cL_holds 88 = .ok (.idiv, 1) := by decide +kernel
set_option maxRecDepth 20000 in
theorem dL_holds_89 : decode cL_holds 89 = .ok (.istore 8, 2) := by decide +kernel
set_option maxRecDepth 20000 in
theorem dL_holds_91 : decode cL_holds 91 = .ok (.aload_n 0, 1) := by decide +kernel
set_option maxRecDepth 20000 in
theorem dL_holds_92 : decode cL_holds 92 = .ok (.iload 7, 2) := by decide +kernel
set_option maxRecDepth 20000 in
theorem dL_holds_94 : decode cL_holds 94 = .ok (.iload 8, 2) := by decide +kernel
set_option maxRecDepth 20000 in
theorem dL_holds_96 : decode cL_holds 96 = .ok (.iconst 1, 1) := by decide +kernel
set_option maxRecDepth 20000 in
theorem dL_holds_97 : decode cL_holds 97 = .ok (.invokevirtual 22, 3) := by decide +kernel
set_option maxRecDepth 20000 in
theorem dL_holds_100 : decode cL_holds 100 = .ok (.istore 9, 2) := by decide +kernel
set_option maxRecDepth 20000 in
theorem dL_holds_102 : decode cL_holds 102 = .ok (.aload_n 0, 1) := by decide +kernel
set_option maxRecDepth 20000 in
theorem dL_holds_103 : decode cL_holds 103 = .ok (.iload 7, 2) := by decide +kernel
set_option maxRecDepth 20000 in
theorem dL_holds_105 : decode cL_holds 105 = .ok (.iload 8, 2) := by decide +kernel
set_option maxRecDepth 20000 in
theorem dL_holds_107 : decode cL_holds 107 = .ok (.iconst 5, 1) := by decide +kernel
set_option maxRecDepth 20000 in
theorem dL_holds_108 : decode cL_holds 108 = .ok (.invokevirtual 22, 3) := by decide +kernel
set_option maxRecDepth 20000 in
theorem dL_holds_111 : decode cL_holds 111 = .ok (.istore 10, 2) := by decide +kernel
set_option maxRecDepth 20000 in
theorem dL_holds_113 : decode cL_holds 113 = .ok (.aload_n 0, 1) := by decide +kernel
set_option maxRecDepth 20000 in
theorem dL_holds_114 : decode cL_holds 114 = .ok (.iload 7, 2) := by decide +kernel
set_option maxRecDepth 20000 in
theorem dL_holds_116 : decode cL_holds 116 = .ok (.iload 8, 2) := by decide +kernel
set_option maxRecDepth 20000 in
theorem dL_holds_118 : decode cL_holds 118 = .ok (.iconst 4, 1) := by decide +kernel
set_option maxRecDepth 20000 in
theorem dL_holds_119 : decode cL_holds 119 = .ok (.invokevirtual 22, 3) := by decide +kernel
set_option maxRecDepth 20000 in
theorem dL_holds_122 : decode cL_holds 122 = .ok (.istore 11, 2) := by decide +kernel
set_option maxRecDepth 20000 in
theorem dL_holds_124 : decode cL_holds 124 = .ok (.iload 9, 2) := by decide +kernel
set_option maxRecDepth 20000 in
theorem dL_holds_126 : decode cL_holds 126 = .ok (.bipush (-5), 2) := by decide +kernel
set_option maxRecDepth 20000 in
theorem dL_holds_128 : decode cL_holds 128 = .ok (.if_icmp .eq 10, 3) := by decide +kernel
set_option maxRecDepth 20000 in
theorem dL_holds_131 : decode cL_holds 131 = .ok (.iload 9, 2) := by decide +kernel
set_option maxRecDepth 20000 in
theorem dL_holds_133 : decode cL_holds 133 = .ok (.iload 8, 2) := by decide +kernel
set_option maxRecDepth 20000 in
theorem dL_holds_135 : decode cL_holds 135 = .ok (.if_icmp .le 7, 3) := by decide +kernel
set_option maxRecDepth 20000 in
theorem dL_holds_138 : decode cL_holds 138 = .ok (.iconst 1, 1) := by decide +kernel
set_option maxRecDepth 20000 in
theorem dL_holds_139 : decode cL_holds 139 = .ok (.goto 4, 3) := by decide +kernel
set_option maxRecDepth 20000 in
theorem dL_holds_142 : decode cL_holds 142 = .ok (.iconst 0, 1) := by decide +kernel
set_option maxRecDepth 20000 in
theorem dL_holds_143 : decode cL_holds 143 = .ok (.istore 12, 2) := by decide +kernel
set_option maxRecDepth 20000 in
theorem dL_holds_145 : decode cL_holds 145 = .ok (.iload_n 3, 1) := by decide +kernel
set_option maxRecDepth 20000 in
theorem dL_holds_146 : decode cL_holds 146 = .ok (.iload 12, 2) := by decide +kernel
set_option maxRecDepth 20000 in
theorem dL_holds_148 : decode cL_holds 148 = .ok (.ifCond .eq 15, 3) := by decide +kernel
set_option maxRecDepth 20000 in
theorem dL_holds_151 : decode cL_holds 151 = .ok (.aload_n 0, 1) := by decide +kernel
set_option maxRecDepth 20000 in
theorem dL_holds_152 : decode cL_holds 152 = .ok (.iload 7, 2) := by decide +kernel
set_option maxRecDepth 20000 in
theorem dL_holds_154 : decode cL_holds 154 = .ok (.iload 8, 2) := by decide +kernel
set_option maxRecDepth 20000 in
theorem dL_holds_156 : decode cL_holds 156 = .ok (.iconst 2, 1) := by decide +kernel
set_option maxRecDepth 20000 in
theorem dL_holds_157 : decode cL_holds 157 = .ok (.invokevirtual 22, 3) := by decide +kernel
set_option maxRecDepth 20000 in
theorem dL_holds_160 : decode cL_holds 160 = .ok (.goto 4, 3) := by decide +kernel
set_option maxRecDepth 20000 in
theorem dL_holds_163 : decode cL_holds 163 = .ok (.iconst 0, 1) := by decide +kernel
set_option maxRecDepth 20000 in
theorem dL_holds_164 : decode cL_holds 164 = .ok (.iadd, 1) := by decide +kernel
set_option maxRecDepth 20000 in
theorem dL_holds_165 : decode cL_holds 165 = .ok (.istore_n 3, 1) := by decide +kernel
set_option maxRecDepth 20000 in
theorem dL_holds_166 : decode cL_holds 166 = .ok (.iload 4, 2) := by decide +kernel
set_option maxRecDepth 20000 in
theorem dL_holds_168 : decode cL_holds 168 = .ok (.iload 12, 2) := by decide +kernel
set_option maxRecDepth 20000 in
theorem dL_holds_170 : decode cL_holds 170 = .ok (.ifCond .eq 15, 3) := by decide +kernel
set_option maxRecDepth 20000 in
theorem dL_holds_173 : decode cL_holds 173 = .ok (.aload_n 0, 1) := by decide +kernel
set_option maxRecDepth 20000 in
theorem dL_holds_174 : decode cL_holds 174 = .ok (.iload 7, 2) := by decide +kernel
set_option maxRecDepth 20000 in
theorem dL_holds_176 : decode cL_holds 176 = .ok (.iload 8, 2) := by decide +kernel
set_option maxRecDepth 20000 in
theorem dL_holds_178 : decode cL_holds 178 = .ok (.iconst 3, 1) := by decide +kernel
set_option maxRecDepth 20000 in
theorem dL_holds_179 : decode cL_holds 179 = .ok (.invokevirtual 22, 3) := by decide +kernel
set_option maxRecDepth 20000 in
theorem dL_holds_182 : decode cL_holds 182 = .ok (.goto 4, 3) := by decide +kernel
set_option maxRecDepth 20000 in
theorem dL_holds_185 : decode cL_holds 185 = .ok (.iconst 0, 1) := by decide +kernel
set_option maxRecDepth 20000 in
theorem dL_holds_186 : decode cL_holds 186 = .ok (.iadd, 1) := by decide +kernel
set_option maxRecDepth 20000 in
theorem dL_holds_187 : decode cL_holds 187 = .ok (.istore 4, 2) := by decide +kernel
set_option maxRecDepth 20000 in
theorem dL_holds_189 : decode cL_holds 189 = .ok (.iload 5, 2) := by decide +kernel
set_option maxRecDepth 20000 in
theorem dL_holds_191 : decode cL_holds 191 = .ok (.iload 9, 2) := by decide +kernel
set_option maxRecDepth 20000 in
theorem dL_holds_193 : decode cL_holds 193 = .ok (.bipush (-5), 2) := by decide +kernel
set_option maxRecDepth 20000 in
theorem dL_holds_195 : decode cL_holds 195 = .ok (.if_icmp .ne 7, 3) := by decide +kernel
set_option maxRecDepth 20000 in
theorem dL_holds_198 : decode cL_holds 198 = .ok (.iconst 0, 1) := by decide +kernel
set_option maxRecDepth 20000 in
theorem dL_holds_199 : decode cL_holds 199 = .ok (.goto 4, 3) := by decide +kernel
set_option maxRecDepth 20000 in
theorem dL_holds_202 : decode cL_holds 202 = .ok (.iconst 1, 1) := by decide +kernel
set_option maxRecDepth 20000 in
theorem dL_holds_203 : decode cL_holds 203 = .ok (.iadd, 1) := by decide +kernel
set_option maxRecDepth 20000 in
theorem dL_holds_204 : decode cL_holds 204 = .ok (.istore 5, 2) := by decide +kernel
set_option maxRecDepth 20000 in
theorem dL_holds_206 : decode cL_holds 206 = .ok (.iload 9, 2) := by decide +kernel
set_option maxRecDepth 20000 in
theorem dL_holds_208 : decode cL_holds 208 = .ok (.bipush (-5), 2) := by decide +kernel
set_option maxRecDepth 20000 in
theorem dL_holds_210 : decode cL_holds 210 = .ok (.if_icmp .eq 54, 3) := by decide +kernel
set_option maxRecDepth 20000 in
theorem dL_holds_213 : decode cL_holds 213 = .ok (.aload_n 0, 1) := by decide +kernel
set_option maxRecDepth 20000 in
theorem dL_holds_214 : decode cL_holds 214 = .ok (.iload 7, 2) := by decide +kernel
set_option maxRecDepth 20000 in
theorem dL_holds_216 : decode cL_holds 216 = .ok (.iload 9, 2) := by decide +kernel
set_option maxRecDepth 20000 in
theorem dL_holds_218 : decode cL_holds 218 = .ok (.iconst 1, 1) := by decide +kernel
set_option maxRecDepth 20000 in
theorem dL_holds_219 : decode cL_holds 219 = .ok (.invokevirtual 22, 3) := by decide +kernel
set_option maxRecDepth 20000 in
theorem dL_holds_222 : decode cL_holds 222 = .ok (.iload 8, 2) := by decide +kernel
set_option maxRecDepth 20000 in
theorem dL_holds_224 : decode cL_holds 224 = .ok (.if_icmp .ne 38, 3) := by decide +kernel
set_option maxRecDepth 20000 in
theorem dL_holds_227 : decode cL_holds 227 = .ok (.aload_n 0, 1) := by decide +kernel
set_option maxRecDepth 20000 in
theorem dL_holds_228 : decode cL_holds 228 = .ok (.iload 7, 2) := by decide +kernel
set_option maxRecDepth 20000 in
theorem dL_holds_230 : decode cL_holds 230 = .ok (.iload 9, 2) := by decide +kernel
set_option maxRecDepth 20000 in
theorem dL_holds_232 : decode cL_holds 232 = .ok (.iconst 0, 1) := by decide +kernel
set_option maxRecDepth 20000 in
theorem dL_holds_233 : decode cL_holds 233 = .ok (.invokevirtual 22, 3) := by decide +kernel
set_option maxRecDepth 20000 in
theorem dL_holds_236 : decode cL_holds 236 = .ok (.aload_n 0, 1) := by decide +kernel
set_option maxRecDepth 20000 in
theorem dL_holds_237 : decode cL_holds 237 = .ok (.iload 7, 2) := by decide +kernel
set_option maxRecDepth 20000 in
theorem dL_holds_239 : decode cL_holds 239 = .ok (.iload 8, 2) := by decide +kernel
set_option maxRecDepth 20000 in
theorem dL_holds_241 : decode cL_holds 241 = .ok (.iconst 0, 1) := by decide +kernel
set_option maxRecDepth 20000 in
theorem dL_holds_242 : decode cL_holds 242 = .ok (.invokevirtual 22, 3) := by decide +kernel
set_option maxRecDepth 20000 in
theorem dL_holds_245 : decode cL_holds 245 = .ok (.if_icmp .ne 17, 3) := by decide +kernel
set_option maxRecDepth 20000 in
theorem dL_holds_248 : decode cL_holds 248 = .ok (.aload_n 0, 1) := by decide +kernel
set_option maxRecDepth 20000 in
theorem dL_holds_249 : decode cL_holds 249 = .ok (.iload 7, 2) := by decide +kernel
set_option maxRecDepth 20000 in
theorem dL_holds_251 : decode cL_holds 251 = .ok (.iload 9, 2) := by decide +kernel
set_option maxRecDepth 20000 in
theorem dL_holds_253 : decode cL_holds 253 = .ok (.iconst 5, 1) := by decide +kernel
set_option maxRecDepth 20000 in
theorem dL_holds_254 : decode cL_holds 254 = .ok (.invokevirtual 22, 3) := by decide +kernel
set_option maxRecDepth 20000 in
theorem dL_holds_257 : decode cL_holds 257 = .ok (.iload 10, 2) := by decide +kernel
set_option maxRecDepth 20000 in
theorem dL_holds_259 : decode cL_holds 259 = .ok (.if_icmp .eq 5, 3) := by decide +kernel
set_option maxRecDepth 20000 in
theorem dL_holds_262 : decode cL_holds 262 = .ok (.iconst 0, 1) := by decide +kernel
set_option maxRecDepth 20000 in
theorem dL_holds_263 : decode cL_holds 263 = .ok (.ireturn, 1) := by decide +kernel
set_option maxRecDepth 20000 in
theorem dL_holds_264 : decode cL_holds 264 = .ok (.aload_n 0, 1) := by decide +kernel
set_option maxRecDepth 20000 in
theorem dL_holds_265 : decode cL_holds 265 = .ok (.iload 7, 2) := by decide +kernel
set_option maxRecDepth 20000 in
theorem dL_holds_267 : decode cL_holds 267 = .ok (.iload 8, 2) := by decide +kernel
set_option maxRecDepth 20000 in
theorem dL_holds_269 : decode cL_holds 269 = .ok (.iconst 2, 1) := by decide +kernel
set_option maxRecDepth 20000 in
theorem dL_holds_270 : decode cL_holds 270 = .ok (.invokevirtual 22, 3) := by decide +kernel
set_option maxRecDepth 20000 in
theorem dL_holds_273 : decode cL_holds 273 = .ok (.istore 13, 2) := by decide +kernel
set_option maxRecDepth 20000 in
theorem dL_holds_275 : decode cL_holds 275 = .ok (.iconst 1, 1) := by decide +kernel
set_option maxRecDepth 20000 in
theorem dL_holds_276 : decode cL_holds 276 = .ok (.istore 14, 2) := by decide +kernel
set_option maxRecDepth 20000 in
theorem dL_holds_278 : decode cL_holds 278 = .ok (.iload 14, 2) := by decide +kernel
set_option maxRecDepth 20000 in
theorem dL_holds_280 : decode cL_holds 280 = .ok (.bipush 10, 2) := by decide +kernel
set_option maxRecDepth 20000 in
theorem dL_holds_282 : decode cL_holds 282 = .ok (.if_icmp .ge 59, 3) := by decide +kernel
set_option maxRecDepth 20000 in
theorem dL_holds_285 : decode cL_holds 285 = .ok (.aload_n 0, 1) := by decide +kernel
set_option maxRecDepth 20000 in
theorem dL_holds_286 : decode cL_holds 286 = .ok (.iload 7, 2) := by decide +kernel
set_option maxRecDepth 20000 in
theorem dL_holds_288 : decode cL_holds 288 = .ok (.iload 8, 2) := by decide +kernel
set_option maxRecDepth 20000 in
theorem dL_holds_290 : decode cL_holds 290 = .ok (.iload 14, 2) := by decide +kernel
set_option maxRecDepth 20000 in
theorem dL_holds_292 : decode cL_holds 292 = .ok (.invokevirtual 59, 3) := by decide +kernel
set_option maxRecDepth 20000 in
theorem dL_holds_295 : decode cL_holds 295 = .ok (.istore 15, 2) := by decide +kernel
set_option maxRecDepth 20000 in
theorem dL_holds_297 : decode cL_holds 297 = .ok (.iload 15, 2) := by decide +kernel
set_option maxRecDepth 20000 in
theorem dL_holds_299 : decode cL_holds 299 = .ok (.iload 13, 2) := by decide +kernel
set_option maxRecDepth 20000 in
theorem dL_holds_301 : decode cL_holds 301 = .ok (.if_icmp .gt 28, 3) := by decide +kernel
set_option maxRecDepth 20000 in
theorem dL_holds_304 : decode cL_holds 304 = .ok (.iload 15, 2) := by decide +kernel
set_option maxRecDepth 20000 in
theorem dL_holds_306 : decode cL_holds 306 = .ok (.ifCond .le 7, 3) := by decide +kernel
set_option maxRecDepth 20000 in
theorem dL_holds_309 : decode cL_holds 309 = .ok (.iconst 1, 1) := by decide +kernel
set_option maxRecDepth 20000 in
theorem dL_holds_310 : decode cL_holds 310 = .ok (.goto 4, 3) := by decide +kernel
set_option maxRecDepth 20000 in
theorem dL_holds_313 : decode cL_holds 313 = .ok (.iconst 0, 1) := by decide +kernel
set_option maxRecDepth 20000 in
theorem dL_holds_314 : decode cL_holds 314 = .ok (.iload 14, 2) := by decide +kernel
set_option maxRecDepth 20000 in
theorem dL_holds_316 : decode cL_holds 316 = .ok (.iload 11, 2) := by decide +kernel
set_option maxRecDepth 20000 in
theorem dL_holds_318 : decode cL_holds 318 = .ok (.if_icmp .gt 7, 3) := by decide +kernel
set_option maxRecDepth 20000 in
theorem dL_holds_321 : decode cL_holds 321 = .ok (.iconst 1, 1) := by decide +kernel
set_option maxRecDepth 20000 in
theorem dL_holds_322 : decode cL_holds 322 = .ok (.goto 4, 3) := by decide +kernel
set_option maxRecDepth 20000 in
theorem dL_holds_325 : decode cL_holds 325 = .ok (.iconst 0, 1) := by decide +kernel
set_option maxRecDepth 20000 in
theorem dL_holds_326 : decode cL_holds 326 = .ok (.if_icmp .eq 5, 3) := by decide +kernel
set_option maxRecDepth 20000 in
theorem dL_holds_329 : decode cL_holds 329 = .ok (.iconst 0, 1) := by decide +kernel
set_option maxRecDepth 20000 in
theorem dL_holds_330 : decode cL_holds 330 = .ok (.ireturn, 1) := by decide +kernel
set_option maxRecDepth 20000 in
theorem dL_holds_331 : decode cL_holds 331 = .ok (.iload 15, 2) := by decide +kernel
set_option maxRecDepth 20000 in
theorem dL_holds_333 : decode cL_holds 333 = .ok (.istore 13, 2) := by decide +kernel
set_option maxRecDepth 20000 in
theorem dL_holds_335 : decode cL_holds 335 = .ok (.iinc 14 1, 3) := by decide +kernel
set_option maxRecDepth 20000 in
theorem dL_holds_338 : decode cL_holds 338 = .ok (.goto (-60), 3) := by decide +kernel
set_option maxRecDepth 20000 in
theorem dL_holds_341 : decode cL_holds 341 = .ok (.iload 10, 2) := by decide +kernel
set_option maxRecDepth 20000 in
theorem dL_holds_343 : decode cL_holds 343 = .ok (.ifCond .eq 30, 3) := by decide +kernel
set_option maxRecDepth 20000 in
theorem dL_holds_346 : decode cL_holds 346 = .ok (.iload 10, 2) := by decide +kernel
set_option maxRecDepth 20000 in
theorem dL_holds_348 : decode cL_holds 348 = .ok (.bipush 22, 2) := by decide +kernel
set_option maxRecDepth 20000 in
theorem dL_holds_350 : decode cL_holds 350 = .ok (.if_icmp .lt 52, 3) := by decide +kernel
set_option maxRecDepth 20000 in
theorem dL_holds_353 : decode cL_holds 353 = .ok (.iload 10, 2) := by decide +kernel
set_option maxRecDepth 20000 in
theorem dL_holds_355 : decode cL_holds 355 = .ok (.bipush 20, 2) := by decide +kernel
set_option maxRecDepth 20000 in
theorem dL_holds_357 : decode cL_holds 357 = .ok (.iconst 2, 1) := by decide +kernel
set_option maxRecDepth 20000 in
theorem dL_holds_358 : decode cL_holds 358 = .ok (.iload 11, 2) := by decide +kernel
set_option maxRecDepth 20000 in
theorem dL_holds_360 : decode cL_holds 360 = .ok (.imul, 1) := by decide +kernel
set_option maxRecDepth 20000 in
theorem dL_holds_361 : decode cL_holds 361 = .ok (.iadd, 1) := by decide +kernel
set_option maxRecDepth 20000 in
theorem dL_holds_362 : decode cL_holds 362 = .ok (.if_icmp .gt 40, 3) := by decide +kernel
set_option maxRecDepth 20000 in
theorem dL_holds_365 : decode cL_holds 365 = .ok (.iload 10, 2) := by decide +kernel
set_option maxRecDepth 20000 in
theorem dL_holds_367 : decode cL_holds 367 = .ok (.iconst 2, 1) := by decide +kernel
set_option maxRecDepth 20000 in
theorem dL_holds_368 : decode cL_holds 368 = .ok (.irem, 1) := by decide +kernel
set_option maxRecDepth 20000 in
theorem dL_holds_369 : decode cL_holds 369 = .ok (.iconst 1, 1) := by decide +kernel
set_option maxRecDepth 20000 in
theorem dL_holds_370 : decode cL_holds 370 = .ok (.if_icmp .eq 32, 3) := by decide +kernel
set_option maxRecDepth 20000 in
theorem dL_holds_373 : decode cL_holds 373 = .ok (.aload_n 0, 1) := by decide +kernel
set_option maxRecDepth 20000 in
theorem dL_holds_374 : decode cL_holds 374 = .ok (.iload 7, 2) := by decide +kernel
set_option maxRecDepth 20000 in
theorem dL_holds_376 : decode cL_holds 376 = .ok (.aload_n 0, 1) := by decide +kernel
set_option maxRecDepth 20000 in
theorem dL_holds_377 : decode cL_holds 377 = .ok (.iconst 0, 1) := by decide +kernel
set_option maxRecDepth 20000 in
theorem dL_holds_378 : decode cL_holds 378 = .ok (.invokevirtual 12, 3) := by decide +kernel
set_option maxRecDepth 20000 in
theorem dL_holds_381 : decode cL_holds 381 = .ok (.iconst 5, 1) := by decide +kernel
set_option maxRecDepth 20000 in
theorem dL_holds_382 : decode cL_holds 382 = .ok (.invokevirtual 62, 3) := by decide +kernel
set_option maxRecDepth 20000 in
theorem dL_holds_385 : decode cL_holds 385 = .ok (.iconst 1, 1) := by decide +kernel
set_option maxRecDepth 20000 in
theorem dL_holds_386 : decode cL_holds 386 = .ok (.if_icmp .ne 16, 3) := by decide +kernel
set_option maxRecDepth 20000 in
theorem dL_holds_389 : decode cL_holds 389 = .ok (.aload_n 0, 1) := by decide +kernel
set_option maxRecDepth 20000 in
theorem dL_holds_390 : decode cL_holds 390 = .ok (.iload 7, 2) := by decide +kernel
set_option maxRecDepth 20000 in
theorem dL_holds_392 : decode cL_holds 392 = .ok (.iload 8, 2) := by decide +kernel
set_option maxRecDepth 20000 in
theorem dL_holds_394 : decode cL_holds 394 = .ok (.iconst 5, 1) := by decide +kernel
set_option maxRecDepth 20000 in
theorem dL_holds_395 : decode cL_holds 395 = .ok (.invokevirtual 62, 3) := by decide +kernel
set_option maxRecDepth 20000 in
theorem dL_holds_398 : decode cL_holds 398 = .ok (.iconst 1, 1) := by decide +kernel
set_option maxRecDepth 20000 in
theorem dL_holds_399 : decode cL_holds 399 = .ok (.if_icmp .ne 5, 3) := by decide +kernel
set_option maxRecDepth 20000 in
theorem dL_holds_402 : decode cL_holds 402 = .ok (.iconst 0, 1) := by decide +kernel
set_option maxRecDepth 20000 in
theorem dL_holds_403 : decode cL_holds 403 = .ok (.ireturn, 1) := by decide +kernel
set_option maxRecDepth 20000 in
theorem dL_holds_404 : decode cL_holds 404 = .ok (.iinc 6 1, 3) := by decide +kernel
set_option maxRecDepth 20000 in
theorem dL_holds_407 : decode cL_holds 407 = .ok (.goto (-340), 3) := by decide +kernel
set_option maxRecDepth 20000 in
theorem dL_holds_410 : decode cL_holds 410 = .ok (.iload_n 2, 1) := by decide +kernel
set_option maxRecDepth 20000 in
theorem dL_holds_411 : decode cL_holds 411 = .ok (.aload_n 0, 1) := by decide +kernel
set_option maxRecDepth 20000 in
theorem dL_holds_412 : decode cL_holds 412 = .ok (.iconst 1, 1) := by decide +kernel
set_option maxRecDepth 20000 in
theorem dL_holds_413 : decode cL_holds 413 = .ok (.invokevirtual 12, 3) := by decide +kernel
set_option maxRecDepth 20000 in
theorem dL_holds_416 : decode cL_holds 416 = .ok (.if_icmp .ne 64, 3) := by decide +kernel
set_option maxRecDepth 20000 in
theorem dL_holds_419 : decode cL_holds 419 = .ok (.iload_n 1, 1) := by decide +kernel
set_option maxRecDepth 20000 in
theorem dL_holds_420 : decode cL_holds 420 = .ok (.aload_n 0, 1) := by decide +kernel
set_option maxRecDepth 20000 in
theorem dL_holds_421 : decode cL_holds 421 = .ok (.iconst 2, 1) := by decide +kernel
set_option maxRecDepth 20000 in
theorem dL_holds_422 : decode cL_holds 422 = .ok (.invokevirtual 12, 3) := by decide +kernel
set_option maxRecDepth 20000 in
theorem dL_holds_425 : decode cL_holds 425 = .ok (.if_icmp .ne 55, 3) := by decide +kernel
set_option maxRecDepth 20000 in
theorem dL_holds_428 : decode cL_holds 428 = .ok (.iload_n 2, 1) := by decide +kernel
set_option maxRecDepth 20000 in
theorem dL_holds_429 : decode cL_holds 429 = .ok (.iload_n 1, 1) := by decide +kernel
set_option maxRecDepth 20000 in
theorem dL_holds_430 : decode cL_holds 430 = .ok (.isub, 1) := by decide +kernel
set_option maxRecDepth 20000 in
theorem dL_holds_431 : decode cL_holds 431 = .ok (.aload_n 0, 1) := by decide +kernel
set_option maxRecDepth 20000 in
theorem dL_holds_432 : decode cL_holds 432 = .ok (.iconst 3, 1) := by decide +kernel
set_option maxRecDepth 20000 in
theorem dL_holds_433 : decode cL_holds 433 = .ok (.invokevirtual 12, 3) := by decide +kernel
set_option maxRecDepth 20000 in
theorem dL_holds_436 : decode cL_holds 436 = .ok (.if_icmp .ne 44, 3) := by decide +kernel
set_option maxRecDepth 20000 in
theorem dL_holds_439 : decode cL_holds 439 = .ok (.iload_n 3, 1) := by decide +kernel
set_option maxRecDepth 20000 in
theorem dL_holds_440 : decode cL_holds 440 = .ok (.iload_n 1, 1) := by decide +kernel
set_option maxRecDepth 20000 in
theorem dL_holds_441 : decode cL_holds 441 = .ok (.if_icmp .ne 39, 3) := by decide +kernel
set_option maxRecDepth 20000 in
theorem dL_holds_444 : decode cL_holds 444 = .ok (.iload 4, 2) := by decide +kernel
set_option maxRecDepth 20000 in
theorem dL_holds_446 : decode cL_holds 446 = .ok (.aload_n 0, 1) := by decide +kernel
set_option maxRecDepth 20000 in
theorem dL_holds_447 : decode cL_holds 447 = .ok (.iconst 3, 1) := by decide +kernel
set_option maxRecDepth 20000 in
theorem dL_holds_448 : decode cL_holds 448 = .ok (.invokevirtual 12, 3) := by decide +kernel
set_option maxRecDepth 20000 in
theorem dL_holds_451 : decode cL_holds 451 = .ok (.if_icmp .ne 29, 3) := by decide +kernel
set_option maxRecDepth 20000 in
theorem dL_holds_454 : decode cL_holds 454 = .ok (.iload 5, 2) := by decide +kernel
set_option maxRecDepth 20000 in
theorem dL_holds_456 : decode cL_holds 456 = .ok (.iconst 2, 1) := by decide +kernel
set_option maxRecDepth 20000 in
theorem dL_holds_457 : decode cL_holds 457 = .ok (.aload_n 0, 1) := by decide +kernel
set_option maxRecDepth 20000 in
theorem dL_holds_458 : decode cL_holds 458 = .ok (.iconst 4, 1) := by decide +kernel
set_option maxRecDepth 20000 in
theorem dL_holds_459 : decode cL_holds 459 = .ok (.invokevirtual 12, 3) := by decide +kernel
set_option maxRecDepth 20000 in
theorem dL_holds_462 : decode cL_holds 462 = .ok (.imul, 1) := by decide +kernel
set_option maxRecDepth 20000 in
theorem dL_holds_463 : decode cL_holds 463 = .ok (.if_icmp .ne 17, 3) := by decide +kernel
set_option maxRecDepth 20000 in
theorem dL_holds_466 : decode cL_holds 466 = .ok (.aload_n 0, 1) := by decide +kernel
set_option maxRecDepth 20000 in
theorem dL_holds_467 : decode cL_holds 467 = .ok (.iconst 1, 1) := by decide +kernel
set_option maxRecDepth 20000 in
theorem dL_holds_468 : decode cL_holds 468 = .ok (.invokevirtual 12, 3) := by decide +kernel
set_option maxRecDepth 20000 in
theorem dL_holds_471 : decode cL_holds 471 = .ok (.bipush 30, 2) := by decide +kernel
set_option maxRecDepth 20000 in
theorem dL_holds_473 : decode cL_holds 473 = .ok (.if_icmp .gt 7, 3) := by decide +kernel
set_option maxRecDepth 20000 in
theorem dL_holds_476 : decode cL_holds 476 = .ok (.iconst 1, 1) := by decide +kernel
set_option maxRecDepth 20000 in
theorem dL_holds_477 : decode cL_holds 477 = .ok (.goto 4, 3) := by decide +kernel
set_option maxRecDepth 20000 in
theorem dL_holds_480 : decode cL_holds 480 = .ok (.iconst 0, 1) := by decide +kernel
set_option maxRecDepth 20000 in
theorem dL_holds_481 : decode cL_holds 481 = .ok (.ireturn, 1) := by decide +kernel
set_option maxRecDepth 20000 in
theorem dL_law_0 : decode cL_law 0 = .ok (.new 13, 3) := by decide +kernel
set_option maxRecDepth 20000 in
theorem dL_law_3 : decode cL_law 3 = .ok (.dup, 1) := by decide +kernel
set_option maxRecDepth 20000 in
theorem dL_law_4 : decode cL_law 4 = .ok (.invokespecial 65, 3) := by decide +kernel
set_option maxRecDepth 20000 in
theorem dL_law_7 : decode cL_law 7 = .ok (.astore_n 1, 1) := by decide +kernel
set_option maxRecDepth 20000 in
theorem dL_law_8 : decode cL_law 8 = .ok (.aload_n 1, 1) := by decide +kernel
set_option maxRecDepth 20000 in
theorem dL_law_9 : decode cL_law 9 = .ok (.invokevirtual 66, 3) := by decide +kernel
set_option maxRecDepth 20000 in
theorem dL_law_12 : decode cL_law 12 = .ok (.bipush (-5), 2) := by decide +kernel
set_option maxRecDepth 20000 in
theorem dL_law_14 : decode cL_law 14 = .ok (.if_icmp .ne 19, 3) := by decide +kernel
set_option maxRecDepth 20000 in
theorem dL_law_17 : decode cL_law 17 = .ok (.aload_n 1, 1) := by decide +kernel
set_option maxRecDepth 20000 in
theorem dL_law_18 : decode cL_law 18 = .ok (.invokevirtual 50, 3) := by decide +kernel
set_option maxRecDepth 20000 in
theorem dL_law_21 : decode cL_law 21 = .ok (.bipush (-5), 2) := by decide +kernel
set_option maxRecDepth 20000 in
theorem dL_law_23 : decode cL_law 23 = .ok (.if_icmp .ne 10, 3) := by decide +kernel
set_option maxRecDepth 20000 in
theorem dL_law_26 : decode cL_law 26 = .ok (.aload_n 1, 1) := by decide +kernel
set_option maxRecDepth 20000 in
theorem dL_law_27 : decode cL_law 27 = .ok (.invokevirtual 69, 3) := by decide +kernel
set_option maxRecDepth 20000 in
theorem dL_law_30 : decode cL_law 30 = .ok (.ifCond .eq 5, 3) := by decide +kernel
set_option maxRecDepth 20000 in
theorem dL_law_33 : decode cL_law 33 = .ok (.iconst 0, 1) := by decide +kernel
set_option maxRecDepth 20000 in
theorem dL_law_34 : decode cL_law 34 = .ok (.ireturn, 1) := by decide +kernel
set_option maxRecDepth 20000 in
theorem dL_law_35 : decode cL_law 35 = .ok (.aload_n 1, 1) := by decide +kernel
set_option maxRecDepth 20000 in
theorem dL_law_36 : decode cL_law 36 = .ok (.invokestatic 72, 3) := by decide +kernel
set_option maxRecDepth 20000 in
theorem dL_law_39 : decode cL_law 39 = .ok (.lstore_n 2, 1) := by decide +kernel
set_option maxRecDepth 20000 in
theorem dL_law_40 : decode cL_law 40 = .ok (.iconst 0, 1) := by decide +kernel
set_option maxRecDepth 20000 in
theorem dL_law_41 : decode cL_law 41 = .ok (.istore 4, 2) := by decide +kernel
set_option maxRecDepth 20000 in
theorem dL_law_43 : decode cL_law 43 = .ok (.iload 4, 2) := by decide +kernel
set_option maxRecDepth 20000 in
theorem dL_law_45 : decode cL_law 45 = .ok (.bipush 34, 2) := by decide +kernel
set_option maxRecDepth 20000 in
theorem dL_law_47 : decode cL_law 47 = .ok (.if_icmp .ge 336, 3) := by decide +kernel
set_option maxRecDepth 20000 in
theorem dL_law_50 : decode cL_law 50 = .ok (.iload 4, 2) := by decide +kernel
set_option maxRecDepth 20000 in
theorem dL_law_52 : decode cL_law 52 = .ok (.iconst 2, 1) := by decide +kernel
set_option maxRecDepth 20000 in
theorem dL_law_53 : decode cL_law 53 = .ok (.if_icmp .ge 7, 3) := by decide +kernel
set_option maxRecDepth 20000 in
theorem dL_law_56 : decode cL_law 56 = .ok (.iconst 0, 1) := by decide +kernel
set_option maxRecDepth 20000 in
theorem dL_law_57 : decode cL_law 57 = .ok (.goto 11, 3) := by decide +kernel
set_option maxRecDepth 20000 in
theorem dL_law_60 : decode cL_law 60 = .ok (.aload_n 0, 1) := by decide +kernel
set_option maxRecDepth 20000 in
theorem dL_law_61 : decode cL_law 61 = .ok (.iconst 2, 1) := by decide +kernel
set_option maxRecDepth 20000 in
theorem dL_law_62 : decode cL_law 62 = .ok (.iload 4, 2) := by decide +kernel
set_option maxRecDepth 20000 in
theorem dL_law_64 : decode cL_law 64 = .ok (.imul, 1) := by decide +kernel
set_option maxRecDepth 20000 in
theorem dL_law_65 : decode cL_law 65 = .ok (.invokestatic 76, 3) := by decide +kernel
set_option maxRecDepth 20000 in
theorem dL_law_68 : decode cL_law 68 = .ok (.istore 5, 2) := by decide +kernel
set_option maxRecDepth 20000 in
theorem dL_law_70 : decode cL_law 70 = .ok (.aload_n 0, 1) := by decide +kernel
set_option maxRecDepth 20000 in
theorem dL_law_71 : decode cL_law 71 = .ok (.iconst 2, 1) := by decide +kernel
set_option maxRecDepth 20000 in
theorem dL_law_72 : decode cL_law 72 = .ok (.iload 4, 2) := by decide +kernel
set_option maxRecDepth 20000 in
theorem dL_law_74 : decode cL_law 74 = .ok (.imul, 1) := by decide +kernel
set_option maxRecDepth 20000 in
theorem dL_law_75 : decode cL_law 75 = .ok (.iconst 1, 1) := by decide +kernel
set_option maxRecDepth 20000 in
theorem dL_law_76 : decode cL_law 76 = .ok (.iadd, 1) := by decide +kernel
set_option maxRecDepth 20000 in
theorem dL_law_77 : decode cL_law 77 = .ok (.invokestatic 76, 3) := by decide +kernel
set_option maxRecDepth 20000 in
theorem dL_law_80 : decode cL_law 80 = .ok (.istore 6, 2) := by decide +kernel
set_option maxRecDepth 20000 in
theorem dL_law_82 : decode cL_law 82 = .ok (.aload_n 1, 1) := by decide +kernel
set_option maxRecDepth 20000 in
theorem dL_law_83 : decode cL_law 83 = .ok (.invokestatic 72, 3) := by decide +kernel
set_option maxRecDepth 20000 in
theorem dL_law_86 : decode cL_law 86 = .ok (.lstore 7, 2) := by decide +kernel
set_option maxRecDepth 20000 in
theorem dL_law_88 : decode cL_law 88 = .ok (.aload_n 1, 1) := by decide +kernel
set_option maxRecDepth 20000 in
theorem dL_law_89 : decode cL_law 89 = .ok (.bipush 16, 2) := by decide +kernel
set_option maxRecDepth 20000 in
theorem dL_law_91 : decode cL_law 91 = .ok (.invokevirtual 12, 3) := by decide +kernel
set_option maxRecDepth 20000 in
theorem dL_law_94 : decode cL_law 94 = .ok (.istore 9, 2) := by decide +kernel
set_option maxRecDepth 20000 in
theorem dL_law_96 : decode cL_law 96 = .ok (.aload_n 1, 1) := by decide +kernel
set_option maxRecDepth 20000 in
theorem dL_law_97 : decode cL_law 97 = .ok (.bipush 6, 2) := by decide +kernel
set_option maxRecDepth 20000 in
theorem dL_law_99 : decode cL_law 99 = .ok (.invokevirtual 12, 3) := by decide +kernel
set_option maxRecDepth 20000 in
theorem dL_law_102 : decode cL_law 102 = .ok (.aload_n 1, 1) := by decide +kernel
set_option maxRecDepth 20000 in
theorem dL_law_103 : decode cL_law 103 = .ok (.bipush 7, 2) := by decide +kernel
set_option maxRecDepth 20000 in
theorem dL_law_105 : decode cL_law 105 = .ok (.invokevirtual 12, 3) := by decide +kernel
set_option maxRecDepth 20000 in
theorem dL_law_108 : decode cL_law 108 = .ok (.iadd, 1) := by decide +kernel
set_option maxRecDepth 20000 in
theorem dL_law_109 : decode cL_law 109 = .ok (.aload_n 1, 1) := by decide +kernel
set_option maxRecDepth 20000 in
theorem dL_law_110 : decode cL_law 110 = .ok (.bipush 8, 2) := by decide +kernel
set_option maxRecDepth 20000 in
theorem dL_law_112 : decode cL_law 112 = .ok (.invokevirtual 12, 3) := by decide +kernel
set_option maxRecDepth 20000 in
theorem dL_law_115 : decode cL_law 115 = .ok (.iadd, 1) := by decide +kernel
set_option maxRecDepth 20000 in
theorem dL_law_116 : decode cL_law 116 = .ok (.istore 10, 2) := by decide +kernel
set_option maxRecDepth 20000 in
theorem dL_law_118 : decode cL_law 118 = .ok (.aload_n 1, 1) := by decide +kernel
set_option maxRecDepth 20000 in
theorem dL_law_119 : decode cL_law 119 = .ok (.iconst 1, 1) := by decide +kernel
set_option maxRecDepth 20000 in
theorem dL_law_120 : decode cL_law 120 = .ok (.invokevirtual 12, 3) := by decide +kernel
set_option maxRecDepth 20000 in
theorem dL_law_123 : decode cL_law 123 = .ok (.istore 11, 2) := by decide +kernel
set_option maxRecDepth 20000 in
theorem dL_law_125 : decode cL_law 125 = .ok (.aload_n 1, 1) := by decide +kernel
set_option maxRecDepth 20000 in
theorem dL_law_126 : decode cL_law 126 = .ok (.iload 5, 2) := by decide +kernel
set_option maxRecDepth 20000 in
theorem dL_law_128 : decode cL_law 128 = .ok (.iload 6, 2) := by decide +kernel
set_option maxRecDepth 20000 in
theorem dL_law_130 : decode cL_law 130 = .ok (.invokestatic 80, 3) := by decide +kernel
set_option maxRecDepth 20000 in
theorem dL_law_133 : decode cL_law 133 = .ok (.istore 12, 2) := by decide +kernel
set_option maxRecDepth 20000 in
theorem dL_law_135 : decode cL_law 135 = .ok (.aload_n 1, 1) := by decide +kernel
set_option maxRecDepth 20000 in
theorem dL_law_136 : decode cL_law 136 = .ok (.invokestatic 72, 3) := by decide +kernel
set_option maxRecDepth 20000 in
theorem dL_law_139 : decode cL_law 139 = .ok (.lstore 13, 2) := by decide +kernel
set_option maxRecDepth 20000 in
theorem dL_law_141 : decode cL_law 141 = .ok (.iload 12, 2) := by decide +kernel
set_option maxRecDepth 20000 in
theorem dL_law_143 : decode cL_law 143 = .ok (.ifCond .ge 25, 3) := by decide +kernel
set_option maxRecDepth 20000 in
theorem dL_law_146 : decode cL_law 146 = .ok (.lload 13, 2) := by decide +kernel
set_option maxRecDepth 20000 in
theorem dL_law_148 : decode cL_law 148 = .ok (.lload 7, 2) := by decide +kernel
set_option maxRecDepth 20000 in
theorem dL_law_150 : decode cL_law 150 = .ok (.lcmp, 1) := by decide +kernel
set_option maxRecDepth 20000 in
theorem dL_law_151 : decode cL_law 151 = .ok (.ifCond .ne 40, 3) := by decide +kernel
set_option maxRecDepth 20000 in
theorem dL_law_154 : decode cL_law 154 = .ok (.aload_n 1, 1) := by decide +kernel
set_option maxRecDepth 20000 in
theorem dL_law_155 : decode cL_law 155 = .ok (.bipush 16, 2) := by decide +kernel
set_option maxRecDepth 20000 in
theorem dL_law_157 : decode cL_law 157 = .ok (.invokevirtual 12, 3) := by decide +kernel
set_option maxRecDepth 20000 in
theorem dL_law_160 : decode cL_law 160 = .ok (.iload 9, 2) := by decide +kernel
set_option maxRecDepth 20000 in
theorem dL_law_162 : decode cL_law 162 = .ok (.if_icmp .eq 31, 3) := by decide +kernel
set_option maxRecDepth 20000 in
theorem dL_law_165 : decode cL_law 165 = .ok (.goto 26, 3) := by decide +kernel
set_option maxRecDepth 20000 in
theorem dL_law_168 : decode cL_law 168 = .ok (.aload_n 1, 1) := by decide +kernel
set_option maxRecDepth 20000 in
theorem dL_law_169 : decode cL_law 169 = .ok (.bipush 16, 2) := by decide +kernel
set_option maxRecDepth 20000 in
theorem dL_law_171 : decode cL_law 171 = .ok (.invokevirtual 12, 3) := by decide +kernel
set_option maxRecDepth 20000 in
theorem dL_law_174 : decode cL_law 174 = .ok (.iload 9, 2) := by decide +kernel
set_option maxRecDepth 20000 in
theorem dL_law_176 : decode cL_law 176 = .ok (.iconst 4, 1) := by decide +kernel
set_option maxRecDepth 20000 in
theorem dL_law_177 : decode cL_law 177 = .ok (.if_icmp .ge 10, 3) := by decide +kernel
set_option maxRecDepth 20000 in
theorem dL_law_180 : decode cL_law 180 = .ok (.iload 9, 2) := by decide +kernel
set_option maxRecDepth 20000 in
theorem dL_law_182 : decode cL_law 182 = .ok (.iconst 1, 1) := by decide +kernel
set_option maxRecDepth 20000 in
theorem dL_law_183 : decode cL_law 183 = .ok (.iadd, 1) := by decide +kernel
set_option maxRecDepth 20000 in
theorem dL_law_184 : decode cL_law 184 = .ok (.goto 4, 3) := by decide +kernel
set_option maxRecDepth 20000 in
theorem dL_law_187 : decode cL_law 187 = .ok (.iconst 4, 1) := by decide +kernel
set_option maxRecDepth 20000 in
theorem dL_law_188 : decode cL_law 188 = .ok (.if_icmp .eq 5, 3) := by decide +kernel
set_option maxRecDepth 20000 in
theorem dL_law_191 : decode cL_law 191 = .ok (.iconst 0, 1) := by decide +kernel
set_option maxRecDepth 20000 in
theorem dL_law_192 : decode cL_law 192 = .ok (.ireturn, 1) := by decide +kernel
set_option maxRecDepth 20000 in
theorem dL_law_193 : decode cL_law 193 = .ok (.iload 5, 2) := by decide +kernel
set_option maxRecDepth 20000 in
theorem dL_law_195 : decode cL_law 195 = .ok (.bipush 15, 2) := by decide +kernel
set_option maxRecDepth 20000 in
theorem dL_law_197 : decode cL_law 197 = .ok (.iand, 1) := by decide +kernel
set_option maxRecDepth 20000 in
theorem dL_law_198 : decode cL_law 198 = .ok (.istore 15, 2) := by decide +kernel
set_option maxRecDepth 20000 in
theorem dL_law_200 : decode cL_law 200 = .ok (.iload 15, 2) := by decide +kernel
set_option maxRecDepth 20000 in
theorem dL_law_202 : decode cL_law 202 = .ok (.bipush 6, 2) := by decide +kernel
set_option maxRecDepth 20000 in
theorem dL_law_204 : decode cL_law 204 = .ok (.if_icmp .eq 10, 3) := by decide +kernel
set_option maxRecDepth 20000 in
theorem dL_law_207 : decode cL_law 207 = .ok (.iload 15, 2) := by decide +kernel
set_option maxRecDepth 20000 in
theorem dL_law_209 : decode cL_law 209 = .ok (.bipush 7, 2) := by decide +kernel
set_option maxRecDepth 20000 in
theorem dL_law_211 : decode cL_law 211 = .ok (.if_icmp .ne 31, 3) := by decide +kernel
set_option maxRecDepth 20000 in
theorem dL_law_214 : decode cL_law 214 = .ok (.aload_n 1, 1) := by decide +kernel
set_option maxRecDepth 20000 in
theorem dL_law_215 : decode cL_law 215 = .ok (.bipush 6, 2) := by decide +kernel
set_option maxRecDepth 20000 in
theorem dL_law_217 : decode cL_law 217 = .ok (.invokevirtual 12, 3) := by decide +kernel
set_option maxRecDepth 20000 in
theorem dL_law_220 : decode cL_law 220 = .ok (.aload_n 1, 1) := by decide +kernel
set_option maxRecDepth 20000 in
theorem dL_law_221 : decode cL_law 221 = .ok (.bipush 7, 2) := by decide +kernel
set_option maxRecDepth 20000 in
theorem dL_law_223 : decode cL_law 223 = .ok (.invokevirtual 12, 3) := by decide +kernel
set_option maxRecDepth 20000 in
theorem dL_law_226 : decode cL_law 226 = .ok (.iadd, 1) := by decide +kernel
set_option maxRecDepth 20000 in
theorem dL_law_227 : decode cL_law 227 = .ok (.aload_n 1, 1) := by decide +kernel
set_option maxRecDepth 20000 in
theorem dL_law_228 : decode cL_law 228 = .ok (.bipush 8, 2) := by decide +kernel
set_option maxRecDepth 20000 in
theorem dL_law_230 : decode cL_law 230 = .ok (.invokevirtual 12, 3) := by decide +kernel
set_option maxRecDepth 20000 in
theorem dL_law_233 : decode cL_law 233 = .ok (.iadd, 1) := by decide +kernel
set_option maxRecDepth 20000 in
theorem dL_law_234 : decode cL_law 234 = .ok (.iload 10, 2) := by decide +kernel
set_option maxRecDepth 20000 in
theorem dL_law_236 : decode cL_law 236 = .ok (.iload 11, 2) := by decide +kernel
set_option maxRecDepth 20000 in
theorem dL_law_238 : decode cL_law 238 = .ok (.iadd, 1) := by decide +kernel
set_option maxRecDepth 20000 in
theorem dL_law_239 : decode cL_law 239 = .ok (.if_icmp .ne 30, 3) := by decide +kernel
set_option maxRecDepth 20000 in
theorem dL_law_242 : decode cL_law 242 = .ok (.iload 12, 2) := by decide +kernel
set_option maxRecDepth 20000 in
theorem dL_law_244 : decode cL_law 244 = .ok (.ifCond .lt 27, 3) := by decide +kernel
set_option maxRecDepth 20000 in
theorem dL_law_247 : decode cL_law 247 = .ok (.iload 15, 2) := by decide +kernel
set_option maxRecDepth 20000 in
theorem dL_law_249 : decode cL_law 249 = .ok (.bipush 8, 2) := by decide +kernel
set_option maxRecDepth 20000 in
theorem dL_law_251 : decode cL_law 251 = .ok (.if_icmp .ne 20, 3) := by decide +kernel
set_option maxRecDepth 20000 in
theorem dL_law_254 : decode cL_law 254 = .ok (.iload 6, 2) := by decide +kernel
set_option maxRecDepth 20000 in
theorem dL_law_256 : decode cL_law 256 = .ok (.iconst 1, 1) := by decide +kernel
set_option maxRecDepth 20000 in
theorem dL_law_257 : decode cL_law 257 = .ok (.iand, 1) := by decide +kernel
set_option maxRecDepth 20000 in
theorem dL_law_258 : decode cL_law 258 = .ok (.iconst 1, 1) := by decide +kernel
set_option maxRecDepth 20000 in
theorem dL_law_259 : decode cL_law 259 = .ok (.if_icmp .ne 12, 3) := by decide +kernel
set_option maxRecDepth 20000 in
theorem dL_law_262 : decode cL_law 262 = .ok (.lload 13, 2) := by decide +kernel
set_option maxRecDepth 20000 in
theorem dL_law_264 : decode cL_law 264 = .ok (.lload_n 2, 1) := by decide +kernel
set_option maxRecDepth 20000 in
theorem dL_law_265 : decode cL_law 265 = .ok (.lcmp, 1) := by decide +kernel
set_option maxRecDepth 20000 in
theorem dL_law_266 : decode cL_law 266 = .ok (.ifCond .eq 5, 3) := by decide +kernel
set_option maxRecDepth 20000 in
theorem dL_law_269 : decode cL_law 269 = .ok (.iconst 0, 1) := by decide +kernel
set_option maxRecDepth 20000 in
theorem dL_law_270 : decode cL_law 270 = .ok (.ireturn, 1) := by decide +kernel
set_option maxRecDepth 20000 in
theorem dL_law_271 : decode cL_law 271 = .ok (.iload 12, 2) := by decide +kernel
set_option maxRecDepth 20000 in
theorem dL_law_273 : decode cL_law 273 = .ok (.ifCond .lt 67, 3) := by decide +kernel
set_option maxRecDepth 20000 in
theorem dL_law_276 : decode cL_law 276 = .ok (.iload 5, 2) := by decide +kernel
set_option maxRecDepth 20000 in
theorem dL_law_278 : decode cL_law 278 = .ok (.bipush 13, 2) := by decide +kernel
set_option maxRecDepth 20000 in
theorem dL_law_280 : decode cL_law 280 = .ok (.ishr, 1) := by decide +kernel
set_option maxRecDepth 20000 in
theorem dL_law_281 : decode cL_law 281 = .ok (.iconst 1, 1) := by decide +kernel
set_option maxRecDepth 20000 in
theorem dL_law_282 : decode cL_law 282 = .ok (.iand, 1) := by decide +kernel
set_option maxRecDepth 20000 in
theorem dL_law_283 : decode cL_law 283 = .ok (.ifCond .ne 57, 3) := by decide +kernel
set_option maxRecDepth 20000 in
theorem dL_law_286 : decode cL_law 286 = .ok (.aload_n 1, 1) := by decide +kernel
set_option maxRecDepth 20000 in
theorem dL_law_287 : decode cL_law 287 = .ok (.bipush 16, 2) := by decide +kernel
set_option maxRecDepth 20000 in
theorem dL_law_289 : decode cL_law 289 = .ok (.invokevirtual 12, 3) := by decide +kernel
set_option maxRecDepth 20000 in
theorem dL_law_292 : decode cL_law 292 = .ok (.iconst 1, 1) := by decide +kernel
set_option maxRecDepth 20000 in
theorem dL_law_293 : decode cL_law 293 = .ok (.isub, 1) := by decide +kernel
set_option maxRecDepth 20000 in
theorem dL_law_294 : decode cL_law 294 = .ok (.istore 16, 2) := by decide +kernel
set_option maxRecDepth 20000 in
theorem dL_law_296 : decode cL_law 296 = .ok (.aload_n 1, 1) := by decide +kernel
set_option maxRecDepth 20000 in
theorem dL_law_297 : decode cL_law 297 = .ok (.invokevirtual 66, 3) := by decide +kernel
set_option maxRecDepth 20000 in
theorem dL_law_300 : decode cL_law 300 = .ok (.iload 16, 2) := by decide +kernel
set_option maxRecDepth 20000 in
theorem dL_law_302 : decode cL_law 302 = .ok (.if_icmp .ne 36, 3) := by decide +kernel
set_option maxRecDepth 20000 in
theorem dL_law_305 : decode cL_law 305 = .ok (.aload_n 1, 1) := by decide +kernel
set_option maxRecDepth 20000 in
theorem dL_law_306 : decode cL_law 306 = .ok (.invokestatic 72, 3) := by decide +kernel
set_option maxRecDepth 20000 in
theorem dL_law_309 : decode cL_law 309 = .ok (.lload 7, 2) := by decide +kernel
set_option maxRecDepth 20000 in
theorem dL_law_311 : decode cL_law 311 = .ok (.lcmp, 1) := by decide +kernel
set_option maxRecDepth 20000 in
theorem dL_law_312 : decode cL_law 312 = .ok (.ifCond .ne 26, 3) := by decide +kernel
set_option maxRecDepth 20000 in
theorem dL_law_315 : decode cL_law 315 = .ok (.aload_n 1, 1) := by decide +kernel
set_option maxRecDepth 20000 in
theorem dL_law_316 : decode cL_law 316 = .ok (.iload 5, 2) := by decide +kernel
set_option maxRecDepth 20000 in
theorem dL_law_318 : decode cL_law 318 = .ok (.iload 6, 2) := by decide +kernel
set_option maxRecDepth 20000 in
theorem dL_law_320 : decode cL_law 320 = .ok (.invokestatic 80, 3) := by decide +kernel
set_option maxRecDepth 20000 in
theorem dL_law_323 : decode cL_law 323 = .ok (.iload 12, 2) := by decide +kernel
set_option maxRecDepth 20000 in
theorem dL_law_325 : decode cL_law 325 = .ok (.if_icmp .ne 13, 3) := by decide +kernel
set_option maxRecDepth 20000 in
theorem dL_law_328 : decode cL_law 328 = .ok (.aload_n 1, 1) := by decide +kernel
set_option maxRecDepth 20000 in
theorem dL_law_329 : decode cL_law 329 = .ok (.invokestatic 72, 3) := by decide +kernel
set_option maxRecDepth 20000 in
theorem dL_law_332 : decode cL_law 332 = .ok (.lload 13, 2) := by decide +kernel
set_option maxRecDepth 20000 in
theorem dL_law_334 : decode cL_law 334 = .ok (.lcmp, 1) := by decide +kernel
set_option maxRecDepth 20000 in
theorem dL_law_335 : decode cL_law 335 = .ok (.ifCond .eq 5, 3) := by decide +kernel
set_option maxRecDepth 20000 in
theorem dL_law_338 : decode cL_law 338 = .ok (.iconst 0, 1) := by decide +kernel
set_option maxRecDepth 20000 in
theorem dL_law_339 : decode cL_law 339 = .ok (.ireturn, 1) := by decide +kernel
set_option maxRecDepth 20000 in
theorem dL_law_340 : decode cL_law 340 = .ok (.iload 4, 2) := by decide +kernel
set_option maxRecDepth 20000 in
theorem dL_law_342 : decode cL_law 342 = .ok (.iconst 2, 1) := by decide +kernel
set_option maxRecDepth 20000 in
theorem dL_law_343 : decode cL_law 343 = .ok (.irem, 1) := by decide +kernel
set_option maxRecDepth 20000 in
theorem dL_law_344 : decode cL_law 344 = .ok (.iconst 1, 1) := by decide +kernel
set_option maxRecDepth 20000 in
theorem dL_law_345 : decode cL_law 345 = .ok (.if_icmp .ne 12, 3) := by decide +kernel
set_option maxRecDepth 20000 in
theorem dL_law_348 : decode cL_law 348 = .ok (.aload_n 1, 1) := by decide +kernel
set_option maxRecDepth 20000 in
theorem dL_law_349 : decode cL_law 349 = .ok (.invokestatic 84, 3) := by decide +kernel
set_option maxRecDepth 20000 in
theorem dL_law_352 : decode cL_law 352 = .ok (.ifCond .ne 5, 3) := by decide +kernel
set_option maxRecDepth 20000 in
theorem dL_law_355 : decode cL_law 355 = .ok (.iconst 0, 1) := by decide +kernel
set_option maxRecDepth 20000 in
theorem dL_law_356 : decode cL_law 356 = .ok (.ireturn, 1) := by decide +kernel
set_option maxRecDepth 20000 in
theorem dL_law_357 : decode cL_law 357 = .ok (.iload 5, 2) := by decide +kernel
set_option maxRecDepth 20000 in
theorem dL_law_359 : decode cL_law 359 = .ok (.bipush 14, 2) := by decide +kernel
set_option maxRecDepth 20000 in
theorem dL_law_361 : decode cL_law 361 = .ok (.ishr, 1) := by decide +kernel
set_option maxRecDepth 20000 in
theorem dL_law_362 : decode cL_law 362 = .ok (.bipush 7, 2) := by decide +kernel
set_option maxRecDepth 20000 in
theorem dL_law_364 : decode cL_law 364 = .ok (.iand, 1) := by decide +kernel
set_option maxRecDepth 20000 in
theorem dL_law_365 : decode cL_law 365 = .ok (.iconst 1, 1) := by decide +kernel
set_option maxRecDepth 20000 in
theorem dL_law_366 : decode cL_law 366 = .ok (.if_icmp .ne 11, 3) := by decide +kernel
set_option maxRecDepth 20000 in
theorem dL_law_369 : decode cL_law 369 = .ok (.aload_n 1, 1) := by decide +kernel
set_option maxRecDepth 20000 in
theorem dL_law_370 : decode cL_law 370 = .ok (.invokevirtual 69, 3) := by decide +kernel
set_option maxRecDepth 20000 in
theorem dL_law_373 : decode cL_law 373 = .ok (.pop, 1) := by decide +kernel
set_option maxRecDepth 20000 in
theorem dL_law_374 : decode cL_law 374 = .ok (.lload 13, 2) := by decide +kernel
set_option maxRecDepth 20000 in
theorem dL_law_376 : decode cL_law 376 = .ok (.lstore_n 2, 1) := by decide +kernel
set_option maxRecDepth 20000 in
theorem dL_law_377 : decode cL_law 377 = .ok (.iinc 4 1, 3) := by decide +kernel
set_option maxRecDepth 20000 in
theorem dL_law_380 : decode cL_law 380 = .ok (.goto (-337), 3) := by decide +kernel
set_option maxRecDepth 20000 in
theorem dL_law_383 : decode cL_law 383 = .ok (.iconst 1, 1) := by decide +kernel
set_option maxRecDepth 20000 in
theorem dL_law_384 : decode cL_law 384 = .ok (.ireturn, 1) := by decide +kernel
