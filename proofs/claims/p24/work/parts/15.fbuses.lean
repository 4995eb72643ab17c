def gX_addEnd (F : Nat) (S : qz_S) (a0 : Int32) : Option (Int32 × qz_S) :=
  if a0 < 0 then (some ((-2 : Int32), S)) else (if a0 < (1440 : Int32) then (if (S.1 ((4, 0, 0) : qz_N) 0) < (10 : Int32) then (Option.bind (gH_remember F S) fun R4 => Option.bind (gW_openEnd F R4 a0) fun R6 => some (R6.1, R6.2)) else (some ((-3 : Int32), S))) else (some ((-2 : Int32), S)))
set_option maxHeartbeats 4000000 in
theorem vX_addEnd (F : Nat) (S : qz_S) (a0 : Int32) (r : Int32 × qz_S) (h : (gX_addEnd F S a0) = some r) : qz_E 50 0 (qz_in0 50 [.inr (.inl (some ((5, 0, 0) : qz_N))), .inl a0]) [] (qz_mk S.1 S.2) (some (.inl r.1)) (qz_mk r.2.1 r.2.2) := by
  have hb : qz_b 50 = cX5_addEnd := rfl
  have hcn : qz_cn 50 = 5 := rfl
  have hml : qz_ml 50 = 2 := rfl
  show qz_E 50 0 [some (.inr (.inl (some ((5, 0, 0) : qz_N)))), some (.inl a0)] [] _ _ _
  rw [gX_addEnd] at h
  refine ei_iln hb dX5_addEnd_0 (pc' := 1) rfl rfl ?_
  by_cases c1 : a0 < 0
  · rw [if_pos c1] at h
    refine ei_ifT hb dX5_addEnd_1 (pc' := 11) (decide_eq_true c1) (by decide) ?_
    refine ei_b hb dX5_addEnd_11 (v := (-2 : Int32)) (pc' := 13) (by decide) rfl ?_
    have h := Option.some.inj h
    subst h
    exact ei_reti hb dX5_addEnd_13 rfl
  · rw [if_neg c1] at h
    refine ei_ifF hb dX5_addEnd_1 (pc' := 4) (t := 11) (decide_eq_false c1) (by decide) rfl ?_
    refine ei_iln hb dX5_addEnd_4 (pc' := 5) rfl rfl ?_
    refine ei_s hb dX5_addEnd_5 (v := (1440 : Int32)) (pc' := 8) (by decide) rfl ?_
    by_cases c2 : a0 < (1440 : Int32)
    · rw [if_pos c2] at h
      refine ei_icT hb dX5_addEnd_8 (pc' := 14) (decide_eq_true c2) (by decide) ?_
      refine ei_aln hb dX5_addEnd_14 (pc' := 15) rfl rfl ?_
      refine ei_gr hb dX5_addEnd_15 (pc' := 18) (x := some ((4, 0, 0) : qz_N)) hcn qz_f_5_10 rfl rfl rfl rfl ?_
      refine ei_gi hb dX5_addEnd_18 (pc' := 21) (x := (S.1 ((4, 0, 0) : qz_N) 0)) hcn qz_f_5_37 rfl rfl rfl rfl ?_
      refine ei_b hb dX5_addEnd_21 (v := (10 : Int32)) (pc' := 23) (by decide) rfl ?_
      by_cases c3 : (S.1 ((4, 0, 0) : qz_N) 0) < (10 : Int32)
      · rw [if_pos c3] at h
        refine ei_icT hb dX5_addEnd_23 (pc' := 29) (decide_eq_true c3) (by decide) ?_
        refine ei_aln hb dX5_addEnd_29 (pc' := 30) rfl rfl ?_
        refine ei_gr hb dX5_addEnd_30 (pc' := 33) (x := some ((2, 0, 0) : qz_N)) hcn qz_f_5_26 rfl rfl rfl rfl ?_
        refine ei_aln hb dX5_addEnd_33 (pc' := 34) rfl rfl ?_
        refine ei_gr hb dX5_addEnd_34 (pc' := 37) (x := some ((4, 0, 0) : qz_N)) hcn qz_f_5_10 rfl rfl rfl rfl ?_
        obtain ⟨R4, e5, h⟩ := Option.bind_eq_some_iff.mp h
        refine ei_cv hb dX5_addEnd_37 (pc' := 40) (M1 := (qz_mk R4.1 R4.2)) (as := [.inr (.inl (some ((4, 0, 0) : qz_N)))]) (rest := []) (st' := []) hcn qz_c_5_41 qz_k_10 (qz_q_50_10) (Nat.le_of_ble_eq_true rfl) (Nat.le_of_ble_eq_true rfl) rfl rfl rfl rfl (vH_remember F S _ e5) rfl rfl ?_
        refine ei_aln hb dX5_addEnd_40 (pc' := 41) rfl rfl ?_
        refine ei_gr hb dX5_addEnd_41 (pc' := 44) (x := some ((4, 0, 0) : qz_N)) hcn qz_f_5_10 rfl rfl rfl rfl ?_
        refine ei_iln hb dX5_addEnd_44 (pc' := 45) rfl rfl ?_
        obtain ⟨R6, e7, h⟩ := Option.bind_eq_some_iff.mp h
        refine ei_cv hb dX5_addEnd_45 (pc' := 48) (M1 := (qz_mk R6.2.1 R6.2.2)) (as := [.inl a0]) (rest := []) (st' := [.inl R6.1]) hcn qz_c_5_45 qz_k_20 (qz_q_50_20) (Nat.le_of_ble_eq_true rfl) (Nat.le_of_ble_eq_true rfl) rfl rfl rfl rfl (vW_openEnd F R4 a0 _ e7) rfl rfl ?_
        have h := Option.some.inj h
        subst h
        exact ei_reti hb dX5_addEnd_48 rfl
      · rw [if_neg c3] at h
        refine ei_icF hb dX5_addEnd_23 (pc' := 26) (t := 29) (decide_eq_false c3) (by decide) rfl ?_
        refine ei_b hb dX5_addEnd_26 (v := (-3 : Int32)) (pc' := 28) (by decide) rfl ?_
        have h := Option.some.inj h
        subst h
        exact ei_reti hb dX5_addEnd_28 rfl
    · rw [if_neg c2] at h
      refine ei_icF hb dX5_addEnd_8 (pc' := 11) (t := 14) (decide_eq_false c2) (by decide) rfl ?_
      refine ei_b hb dX5_addEnd_11 (v := (-2 : Int32)) (pc' := 13) (by decide) rfl ?_
      have h := Option.some.inj h
      subst h
      exact ei_reti hb dX5_addEnd_13 rfl
def gX_isStop (f : qz_F) (a0 : Int32) : Int32 :=
  if a0 < (1 : Int32) then (0 : Int32) else (if (9 : Int32) < a0 then (0 : Int32) else (1 : Int32))
set_option maxHeartbeats 4000000 in
theorem vX_isStop (f : qz_F) (p : Nat → Nat) (a0 : Int32) : qz_E 67 0 (qz_in0 67 [.inl a0]) [] (qz_mk f p) (some (.inl (gX_isStop f a0))) (qz_mk f p) := by
  have hb : qz_b 67 = cX5_isStop := rfl
  have hcn : qz_cn 67 = 5 := rfl
  have hml : qz_ml 67 = 1 := rfl
  obtain ⟨r, h⟩ : ∃ r, (gX_isStop f a0) = r := ⟨_, rfl⟩
  rw [h]
  show qz_E 67 0 [some (.inl a0)] [] _ _ _
  rw [gX_isStop] at h
  refine ei_iln hb dX5_isStop_0 (pc' := 1) rfl rfl ?_
  refine ei_c hb dX5_isStop_1 (v := (1 : Int32)) (pc' := 2) (by decide) rfl ?_
  by_cases c1 : a0 < (1 : Int32)
  · rw [if_pos c1] at h
    refine ei_icT hb dX5_isStop_2 (pc' := 15) (decide_eq_true c1) (by decide) ?_
    refine ei_c hb dX5_isStop_15 (v := (0 : Int32)) (pc' := 16) (by decide) rfl ?_
    subst h
    exact ei_retz hb dX5_isStop_16 rfl (by decide)
  · rw [if_neg c1] at h
    refine ei_icF hb dX5_isStop_2 (pc' := 5) (t := 15) (decide_eq_false c1) (by decide) rfl ?_
    refine ei_iln hb dX5_isStop_5 (pc' := 6) rfl rfl ?_
    refine ei_b hb dX5_isStop_6 (v := (9 : Int32)) (pc' := 8) (by decide) rfl ?_
    by_cases c2 : (9 : Int32) < a0
    · rw [if_pos c2] at h
      refine ei_icT hb dX5_isStop_8 (pc' := 15) (decide_eq_true c2) (by decide) ?_
      refine ei_c hb dX5_isStop_15 (v := (0 : Int32)) (pc' := 16) (by decide) rfl ?_
      subst h
      exact ei_retz hb dX5_isStop_16 rfl (by decide)
    · rw [if_neg c2] at h
      refine ei_icF hb dX5_isStop_8 (pc' := 11) (t := 15) (decide_eq_false c2) (by decide) rfl ?_
      refine ei_c hb dX5_isStop_11 (v := (1 : Int32)) (pc' := 12) (by decide) rfl ?_
      refine ei_go hb dX5_isStop_12 (pc' := 16) (by decide) ?_
      subst h
      exact ei_retz hb dX5_isStop_16 rfl (by decide)
def gX_book (F : Nat) (S : qz_S) (a0 : Int32) (a1 : Int32) (a2 : Int32) : Option (Int32 × qz_S) :=
  if (gW_hasEnd S.1 a0) = 0 then (some ((-1 : Int32), S)) else (if (gX_isLine S.1 a1) = 0 then (some ((-1 : Int32), S)) else (if (gX_isStop S.1 a2) = 0 then (some ((-1 : Int32), S)) else (Option.bind (gW_workerCount F S.1) fun x4 => if x4 < (30 : Int32) then (Option.bind (gH_remember F S) fun R7 => Option.bind (gW_enter F R7 a0 a1 a2) fun R9 => some (R9.1, R9.2)) else (some ((-3 : Int32), S)))))
set_option maxHeartbeats 4000000 in
theorem vX_book (F : Nat) (S : qz_S) (a0 : Int32) (a1 : Int32) (a2 : Int32) (r : Int32 × qz_S) (h : (gX_book F S a0 a1 a2) = some r) : qz_E 51 0 (qz_in0 51 [.inr (.inl (some ((5, 0, 0) : qz_N))), .inl a0, .inl a1, .inl a2]) [] (qz_mk S.1 S.2) (some (.inl r.1)) (qz_mk r.2.1 r.2.2) := by
  have hb : qz_b 51 = cX5_book := rfl
  have hcn : qz_cn 51 = 5 := rfl
  have hml : qz_ml 51 = 4 := rfl
  show qz_E 51 0 [some (.inr (.inl (some ((5, 0, 0) : qz_N)))), some (.inl a0), some (.inl a1), some (.inl a2)] [] _ _ _
  rw [gX_book] at h
  refine ei_aln hb dX5_book_0 (pc' := 1) rfl rfl ?_
  refine ei_gr hb dX5_book_1 (pc' := 4) (x := some ((4, 0, 0) : qz_N)) hcn qz_f_5_10 rfl rfl rfl rfl ?_
  refine ei_iln hb dX5_book_4 (pc' := 5) rfl rfl ?_
  refine ei_cv hb dX5_book_5 (pc' := 8) (M1 := (qz_mk S.1 S.2)) (as := [.inl a0]) (rest := []) (st' := [.inl (gW_hasEnd S.1 a0)]) hcn qz_c_5_49 qz_k_19 (qz_q_51_19) (Nat.le_of_ble_eq_true rfl) (Nat.le_of_ble_eq_true rfl) rfl rfl rfl rfl (vW_hasEnd S.1 S.2 a0) rfl rfl ?_
  by_cases c1 : (gW_hasEnd S.1 a0) = 0
  · rw [if_pos c1] at h
    refine ei_ifT hb dX5_book_8 (pc' := 25) (decide_eq_true c1) (by decide) ?_
    refine ei_c hb dX5_book_25 (v := (-1 : Int32)) (pc' := 26) (by decide) rfl ?_
    have h := Option.some.inj h
    subst h
    exact ei_reti hb dX5_book_26 rfl
  · rw [if_neg c1] at h
    refine ei_ifF hb dX5_book_8 (pc' := 11) (t := 25) (decide_eq_false c1) (by decide) rfl ?_
    refine ei_iln hb dX5_book_11 (pc' := 12) rfl rfl ?_
    refine ei_cs hb dX5_book_12 (pc' := 15) (M1 := (qz_mk S.1 S.2)) (as := [.inl a1]) (rest := []) (st' := [.inl (gX_isLine S.1 a1)]) hcn qz_c_5_53 rfl qz_k_66 (qz_q_51_66) (Nat.le_of_ble_eq_true rfl) (Nat.le_of_ble_eq_true rfl) rfl rfl rfl (vX_isLine S.1 S.2 a1) rfl rfl ?_
    by_cases c2 : (gX_isLine S.1 a1) = 0
    · rw [if_pos c2] at h
      refine ei_ifT hb dX5_book_15 (pc' := 25) (decide_eq_true c2) (by decide) ?_
      refine ei_c hb dX5_book_25 (v := (-1 : Int32)) (pc' := 26) (by decide) rfl ?_
      have h := Option.some.inj h
      subst h
      exact ei_reti hb dX5_book_26 rfl
    · rw [if_neg c2] at h
      refine ei_ifF hb dX5_book_15 (pc' := 18) (t := 25) (decide_eq_false c2) (by decide) rfl ?_
      refine ei_iln hb dX5_book_18 (pc' := 19) rfl rfl ?_
      refine ei_cs hb dX5_book_19 (pc' := 22) (M1 := (qz_mk S.1 S.2)) (as := [.inl a2]) (rest := []) (st' := [.inl (gX_isStop S.1 a2)]) hcn qz_c_5_56 rfl qz_k_67 (qz_q_51_67) (Nat.le_of_ble_eq_true rfl) (Nat.le_of_ble_eq_true rfl) rfl rfl rfl (vX_isStop S.1 S.2 a2) rfl rfl ?_
      by_cases c3 : (gX_isStop S.1 a2) = 0
      · rw [if_pos c3] at h
        refine ei_ifF hb dX5_book_22 (pc' := 25) (t := 27) (decide_eq_false (fun q => q c3)) (by decide) rfl ?_
        refine ei_c hb dX5_book_25 (v := (-1 : Int32)) (pc' := 26) (by decide) rfl ?_
        have h := Option.some.inj h
        subst h
        exact ei_reti hb dX5_book_26 rfl
      · rw [if_neg c3] at h
        refine ei_ifT hb dX5_book_22 (pc' := 27) (decide_eq_true c3) (by decide) ?_
        refine ei_aln hb dX5_book_27 (pc' := 28) rfl rfl ?_
        refine ei_gr hb dX5_book_28 (pc' := 31) (x := some ((4, 0, 0) : qz_N)) hcn qz_f_5_10 rfl rfl rfl rfl ?_
        obtain ⟨x4, e5, h⟩ := Option.bind_eq_some_iff.mp h
        refine ei_cv hb dX5_book_31 (pc' := 34) (M1 := (qz_mk S.1 S.2)) (as := []) (rest := []) (st' := [.inl x4]) hcn qz_c_5_59 qz_k_25 (qz_q_51_25) (Nat.le_of_ble_eq_true rfl) (Nat.le_of_ble_eq_true rfl) rfl rfl rfl rfl (vW_workerCount F S.1 S.2 _ e5) rfl rfl ?_
        refine ei_b hb dX5_book_34 (v := (30 : Int32)) (pc' := 36) (by decide) rfl ?_
        by_cases c6 : x4 < (30 : Int32)
        · rw [if_pos c6] at h
          refine ei_icT hb dX5_book_36 (pc' := 42) (decide_eq_true c6) (by decide) ?_
          refine ei_aln hb dX5_book_42 (pc' := 43) rfl rfl ?_
          refine ei_gr hb dX5_book_43 (pc' := 46) (x := some ((2, 0, 0) : qz_N)) hcn qz_f_5_26 rfl rfl rfl rfl ?_
          refine ei_aln hb dX5_book_46 (pc' := 47) rfl rfl ?_
          refine ei_gr hb dX5_book_47 (pc' := 50) (x := some ((4, 0, 0) : qz_N)) hcn qz_f_5_10 rfl rfl rfl rfl ?_
          obtain ⟨R7, e8, h⟩ := Option.bind_eq_some_iff.mp h
          refine ei_cv hb dX5_book_50 (pc' := 53) (M1 := (qz_mk R7.1 R7.2)) (as := [.inr (.inl (some ((4, 0, 0) : qz_N)))]) (rest := []) (st' := []) hcn qz_c_5_41 qz_k_10 (qz_q_51_10) (Nat.le_of_ble_eq_true rfl) (Nat.le_of_ble_eq_true rfl) rfl rfl rfl rfl (vH_remember F S _ e8) rfl rfl ?_
          refine ei_aln hb dX5_book_53 (pc' := 54) rfl rfl ?_
          refine ei_gr hb dX5_book_54 (pc' := 57) (x := some ((4, 0, 0) : qz_N)) hcn qz_f_5_10 rfl rfl rfl rfl ?_
          refine ei_iln hb dX5_book_57 (pc' := 58) rfl rfl ?_
          refine ei_iln hb dX5_book_58 (pc' := 59) rfl rfl ?_
          refine ei_iln hb dX5_book_59 (pc' := 60) rfl rfl ?_
          obtain ⟨R9, e10, h⟩ := Option.bind_eq_some_iff.mp h
          refine ei_cv hb dX5_book_60 (pc' := 63) (M1 := (qz_mk R9.2.1 R9.2.2)) (as := [.inl a0, .inl a1, .inl a2]) (rest := []) (st' := [.inl R9.1]) hcn qz_c_5_63 qz_k_24 (qz_q_51_24) (Nat.le_of_ble_eq_true rfl) (Nat.le_of_ble_eq_true rfl) rfl rfl rfl rfl (vW_enter F R7 a0 a1 a2 _ e10) rfl rfl ?_
          have h := Option.some.inj h
          subst h
          exact ei_reti hb dX5_book_63 rfl
        · rw [if_neg c6] at h
          refine ei_icF hb dX5_book_36 (pc' := 39) (t := 42) (decide_eq_false c6) (by decide) rfl ?_
          refine ei_b hb dX5_book_39 (v := (-3 : Int32)) (pc' := 41) (by decide) rfl ?_
          have h := Option.some.inj h
          subst h
          exact ei_reti hb dX5_book_41 rfl
def gX_takeBack (F : Nat) (S : qz_S) (a0 : Int32) : Option (Int32 × qz_S) :=
  Option.bind (gW_bookingOf F S.1 a0) fun o1 => Option.elim o1 (some ((-1 : Int32), S)) (fun j3 => Option.bind (gH_remember F S) fun R4 => Option.bind (gB_clear F R4 j3) fun R6 => Option.bind (gW_lookAtWaiting F R6) fun R8 => Option.bind (gW_waitingCount F R8.1) fun x10 => some (x10, R8))
set_option maxHeartbeats 4000000 in
theorem vX_takeBack (F : Nat) (S : qz_S) (a0 : Int32) (r : Int32 × qz_S) (h : (gX_takeBack F S a0) = some r) : qz_E 52 0 (qz_in0 52 [.inr (.inl (some ((5, 0, 0) : qz_N))), .inl a0]) [] (qz_mk S.1 S.2) (some (.inl r.1)) (qz_mk r.2.1 r.2.2) := by
  have hb : qz_b 52 = cX5_takeBack := rfl
  have hcn : qz_cn 52 = 5 := rfl
  have hml : qz_ml 52 = 3 := rfl
  show qz_E 52 0 [some (.inr (.inl (some ((5, 0, 0) : qz_N)))), some (.inl a0), none] [] _ _ _
  rw [gX_takeBack] at h
  refine ei_aln hb dX5_takeBack_0 (pc' := 1) rfl rfl ?_
  refine ei_gr hb dX5_takeBack_1 (pc' := 4) (x := some ((4, 0, 0) : qz_N)) hcn qz_f_5_10 rfl rfl rfl rfl ?_
  refine ei_iln hb dX5_takeBack_4 (pc' := 5) rfl rfl ?_
  obtain ⟨o1, e2, h⟩ := Option.bind_eq_some_iff.mp h
  refine ei_cv hb dX5_takeBack_5 (pc' := 8) (M1 := (qz_mk S.1 S.2)) (as := [.inl a0]) (rest := []) (st' := [.inr (.inl (qz_bo o1))]) hcn qz_c_5_80 qz_k_23 (qz_q_52_23) (Nat.le_of_ble_eq_true rfl) (Nat.le_of_ble_eq_true rfl) rfl rfl rfl rfl (vW_bookingOf F S.1 S.2 a0 _ e2) rfl rfl ?_
  refine ei_asn hb dX5_takeBack_8 (pc' := 9) (ls' := [some (.inr (.inl (some ((5, 0, 0) : qz_N)))), some (.inl a0), some (.inr (.inl (qz_bo o1)))]) hml (Nat.le_of_ble_eq_true rfl) rfl rfl rfl ?_
  refine ei_aln hb dX5_takeBack_9 (pc' := 10) rfl rfl ?_
  rcases o1 with _ | j3
  · rw [Option.elim_none] at h
    refine ei_nnF hb dX5_takeBack_10 (pc' := 13) (t := 15) (by decide) rfl ?_
    refine ei_c hb dX5_takeBack_13 (v := (-1 : Int32)) (pc' := 14) (by decide) rfl ?_
    have h := Option.some.inj h
    subst h
    exact ei_reti hb dX5_takeBack_14 rfl
  · rw [Option.elim_some] at h
    refine ei_nnT hb dX5_takeBack_10 (pc' := 15) (by decide) ?_
    refine ei_aln hb dX5_takeBack_15 (pc' := 16) rfl rfl ?_
    refine ei_gr hb dX5_takeBack_16 (pc' := 19) (x := some ((2, 0, 0) : qz_N)) hcn qz_f_5_26 rfl rfl rfl rfl ?_
    refine ei_aln hb dX5_takeBack_19 (pc' := 20) rfl rfl ?_
    refine ei_gr hb dX5_takeBack_20 (pc' := 23) (x := some ((4, 0, 0) : qz_N)) hcn qz_f_5_10 rfl rfl rfl rfl ?_
    obtain ⟨R4, e5, h⟩ := Option.bind_eq_some_iff.mp h
    refine ei_cv hb dX5_takeBack_23 (pc' := 26) (M1 := (qz_mk R4.1 R4.2)) (as := [.inr (.inl (some ((4, 0, 0) : qz_N)))]) (rest := []) (st' := []) hcn qz_c_5_41 qz_k_10 (qz_q_52_10) (Nat.le_of_ble_eq_true rfl) (Nat.le_of_ble_eq_true rfl) rfl rfl rfl rfl (vH_remember F S _ e5) rfl rfl ?_
    refine ei_aln hb dX5_takeBack_26 (pc' := 27) rfl rfl ?_
    obtain ⟨R6, e7, h⟩ := Option.bind_eq_some_iff.mp h
    refine ei_cv hb dX5_takeBack_27 (pc' := 30) (M1 := (qz_mk R6.1 R6.2)) (as := []) (rest := []) (st' := []) hcn qz_c_5_84 qz_k_6 (qz_q_52_6) (Nat.le_of_ble_eq_true rfl) (Nat.le_of_ble_eq_true rfl) rfl rfl rfl rfl (vB_clear F R4 j3 _ e7) rfl rfl ?_
    refine ei_aln hb dX5_takeBack_30 (pc' := 31) rfl rfl ?_
    refine ei_gr hb dX5_takeBack_31 (pc' := 34) (x := some ((4, 0, 0) : qz_N)) hcn qz_f_5_10 rfl rfl rfl rfl ?_
    obtain ⟨R8, e9, h⟩ := Option.bind_eq_some_iff.mp h
    refine ei_cv hb dX5_takeBack_34 (pc' := 37) (M1 := (qz_mk R8.1 R8.2)) (as := []) (rest := []) (st' := []) hcn qz_c_5_89 qz_k_28 (qz_q_52_28) (Nat.le_of_ble_eq_true rfl) (Nat.le_of_ble_eq_true rfl) rfl rfl rfl rfl (vW_lookAtWaiting F R6 _ e9) rfl rfl ?_
    refine ei_aln hb dX5_takeBack_37 (pc' := 38) rfl rfl ?_
    refine ei_gr hb dX5_takeBack_38 (pc' := 41) (x := some ((4, 0, 0) : qz_N)) hcn qz_f_5_10 rfl rfl rfl rfl ?_
    obtain ⟨x10, e11, h⟩ := Option.bind_eq_some_iff.mp h
    refine ei_cv hb dX5_takeBack_41 (pc' := 44) (M1 := (qz_mk R8.1 R8.2)) (as := []) (rest := []) (st' := [.inl x10]) hcn qz_c_5_92 qz_k_26 (qz_q_52_26) (Nat.le_of_ble_eq_true rfl) (Nat.le_of_ble_eq_true rfl) rfl rfl rfl rfl (vW_waitingCount F R8.1 R8.2 _ e11) rfl rfl ?_
    have h := Option.some.inj h
    subst h
    exact ei_reti hb dX5_takeBack_44 rfl
def gX_stay (F : Nat) (S : qz_S) (a0 : Int32) (a1 : Int32) : Option (Int32 × qz_S) :=
  Option.bind (gW_bookingOf F S.1 a0) fun o1 => Option.elim o1 (some ((-1 : Int32), S)) (fun j3 => if (gW_hasEnd S.1 a1) = 0 then (some ((-1 : Int32), S)) else (if (S.1 ((0, 0, j3) : qz_N) 1) = a1 then (some ((-5 : Int32), S)) else (Option.bind (gH_remember F S) fun R6 => qz_let (qz_wr R6 ((0, 0, j3) : qz_N) 1 a1) fun S8 => qz_let (qz_wr S8 ((0, 0, j3) : qz_N) 4 (0 : Int32)) fun S9 => Option.bind (gW_lookAtWaiting F S9) fun R10 => if (R10.1 ((0, 0, j3) : qz_N) 4) = 0 then (some ((0 : Int32), R10)) else (some ((1 : Int32), R10)))))
set_option maxHeartbeats 4000000 in
theorem vX_stay (F : Nat) (S : qz_S) (a0 : Int32) (a1 : Int32) (r : Int32 × qz_S) (h : (gX_stay F S a0 a1) = some r) : qz_E 53 0 (qz_in0 53 [.inr (.inl (some ((5, 0, 0) : qz_N))), .inl a0, .inl a1]) [] (qz_mk S.1 S.2) (some (.inl r.1)) (qz_mk r.2.1 r.2.2) := by
  have hb : qz_b 53 = cX5_stay := rfl
  have hcn : qz_cn 53 = 5 := rfl
  have hml : qz_ml 53 = 4 := rfl
  show qz_E 53 0 [some (.inr (.inl (some ((5, 0, 0) : qz_N)))), some (.inl a0), some (.inl a1), none] [] _ _ _
  rw [gX_stay] at h
  refine ei_aln hb dX5_stay_0 (pc' := 1) rfl rfl ?_
  refine ei_gr hb dX5_stay_1 (pc' := 4) (x := some ((4, 0, 0) : qz_N)) hcn qz_f_5_10 rfl rfl rfl rfl ?_
  refine ei_iln hb dX5_stay_4 (pc' := 5) rfl rfl ?_
  obtain ⟨o1, e2, h⟩ := Option.bind_eq_some_iff.mp h
  refine ei_cv hb dX5_stay_5 (pc' := 8) (M1 := (qz_mk S.1 S.2)) (as := [.inl a0]) (rest := []) (st' := [.inr (.inl (qz_bo o1))]) hcn qz_c_5_80 qz_k_23 (qz_q_53_23) (Nat.le_of_ble_eq_true rfl) (Nat.le_of_ble_eq_true rfl) rfl rfl rfl rfl (vW_bookingOf F S.1 S.2 a0 _ e2) rfl rfl ?_
  refine ei_asn hb dX5_stay_8 (pc' := 9) (ls' := [some (.inr (.inl (some ((5, 0, 0) : qz_N)))), some (.inl a0), some (.inl a1), some (.inr (.inl (qz_bo o1)))]) hml (Nat.le_of_ble_eq_true rfl) rfl rfl rfl ?_
  refine ei_aln hb dX5_stay_9 (pc' := 10) rfl rfl ?_
  rcases o1 with _ | j3
  · rw [Option.elim_none] at h
    refine ei_nuT hb dX5_stay_10 (pc' := 24) (by decide) ?_
    refine ei_c hb dX5_stay_24 (v := (-1 : Int32)) (pc' := 25) (by decide) rfl ?_
    have h := Option.some.inj h
    subst h
    exact ei_reti hb dX5_stay_25 rfl
  · rw [Option.elim_some] at h
    refine ei_nuF hb dX5_stay_10 (pc' := 13) (t := 24) (by decide) rfl ?_
    refine ei_aln hb dX5_stay_13 (pc' := 14) rfl rfl ?_
    refine ei_gr hb dX5_stay_14 (pc' := 17) (x := some ((4, 0, 0) : qz_N)) hcn qz_f_5_10 rfl rfl rfl rfl ?_
    refine ei_iln hb dX5_stay_17 (pc' := 18) rfl rfl ?_
    refine ei_cv hb dX5_stay_18 (pc' := 21) (M1 := (qz_mk S.1 S.2)) (as := [.inl a1]) (rest := []) (st' := [.inl (gW_hasEnd S.1 a1)]) hcn qz_c_5_49 qz_k_19 (qz_q_53_19) (Nat.le_of_ble_eq_true rfl) (Nat.le_of_ble_eq_true rfl) rfl rfl rfl rfl (vW_hasEnd S.1 S.2 a1) rfl rfl ?_
    by_cases c4 : (gW_hasEnd S.1 a1) = 0
    · rw [if_pos c4] at h
      refine ei_ifF hb dX5_stay_21 (pc' := 24) (t := 26) (decide_eq_false (fun q => q c4)) (by decide) rfl ?_
      refine ei_c hb dX5_stay_24 (v := (-1 : Int32)) (pc' := 25) (by decide) rfl ?_
      have h := Option.some.inj h
      subst h
      exact ei_reti hb dX5_stay_25 rfl
    · rw [if_neg c4] at h
      refine ei_ifT hb dX5_stay_21 (pc' := 26) (decide_eq_true c4) (by decide) ?_
      refine ei_aln hb dX5_stay_26 (pc' := 27) rfl rfl ?_
      refine ei_gi hb dX5_stay_27 (pc' := 30) (x := (S.1 ((0, 0, j3) : qz_N) 1)) hcn qz_f_5_95 rfl rfl rfl rfl ?_
      refine ei_iln hb dX5_stay_30 (pc' := 31) rfl rfl ?_
      by_cases c5 : (S.1 ((0, 0, j3) : qz_N) 1) = a1
      · rw [if_pos c5] at h
        refine ei_icF hb dX5_stay_31 (pc' := 34) (t := 37) (decide_eq_false (fun q => q c5)) (by decide) rfl ?_
        refine ei_b hb dX5_stay_34 (v := (-5 : Int32)) (pc' := 36) (by decide) rfl ?_
        have h := Option.some.inj h
        subst h
        exact ei_reti hb dX5_stay_36 rfl
      · rw [if_neg c5] at h
        refine ei_icT hb dX5_stay_31 (pc' := 37) (decide_eq_true c5) (by decide) ?_
        refine ei_aln hb dX5_stay_37 (pc' := 38) rfl rfl ?_
        refine ei_gr hb dX5_stay_38 (pc' := 41) (x := some ((2, 0, 0) : qz_N)) hcn qz_f_5_26 rfl rfl rfl rfl ?_
        refine ei_aln hb dX5_stay_41 (pc' := 42) rfl rfl ?_
        refine ei_gr hb dX5_stay_42 (pc' := 45) (x := some ((4, 0, 0) : qz_N)) hcn qz_f_5_10 rfl rfl rfl rfl ?_
        obtain ⟨R6, e7, h⟩ := Option.bind_eq_some_iff.mp h
        refine ei_cv hb dX5_stay_45 (pc' := 48) (M1 := (qz_mk R6.1 R6.2)) (as := [.inr (.inl (some ((4, 0, 0) : qz_N)))]) (rest := []) (st' := []) hcn qz_c_5_41 qz_k_10 (qz_q_53_10) (Nat.le_of_ble_eq_true rfl) (Nat.le_of_ble_eq_true rfl) rfl rfl rfl rfl (vH_remember F S _ e7) rfl rfl ?_
        refine ei_aln hb dX5_stay_48 (pc' := 49) rfl rfl ?_
        refine ei_iln hb dX5_stay_49 (pc' := 50) rfl rfl ?_
        obtain ⟨S8, eS8⟩ : ∃ q, q = qz_wr R6 ((0, 0, j3) : qz_N) 1 a1 := ⟨_, rfl⟩
        rw [qz_let, ← eS8] at h
        refine ei_pi hb dX5_stay_50 (pc' := 53) (M1 := (qz_mk S8.1 S8.2)) hcn qz_f_5_95 rfl rfl (fun q => by cases q) rfl (by rw [eS8]; rfl) rfl ?_
        refine ei_aln hb dX5_stay_53 (pc' := 54) rfl rfl ?_
        refine ei_c hb dX5_stay_54 (v := (0 : Int32)) (pc' := 55) (by decide) rfl ?_
        obtain ⟨S9, eS9⟩ : ∃ q, q = qz_wr S8 ((0, 0, j3) : qz_N) 4 (0 : Int32) := ⟨_, rfl⟩
        rw [qz_let, ← eS9] at h
        refine ei_pi hb dX5_stay_55 (pc' := 58) (M1 := (qz_mk S9.1 S9.2)) hcn qz_f_5_98 rfl rfl (fun _ => by decide) rfl (by rw [eS9]; rfl) rfl ?_
        refine ei_aln hb dX5_stay_58 (pc' := 59) rfl rfl ?_
        refine ei_gr hb dX5_stay_59 (pc' := 62) (x := some ((4, 0, 0) : qz_N)) hcn qz_f_5_10 rfl rfl rfl rfl ?_
        obtain ⟨R10, e11, h⟩ := Option.bind_eq_some_iff.mp h
        refine ei_cv hb dX5_stay_62 (pc' := 65) (M1 := (qz_mk R10.1 R10.2)) (as := []) (rest := []) (st' := []) hcn qz_c_5_89 qz_k_28 (qz_q_53_28) (Nat.le_of_ble_eq_true rfl) (Nat.le_of_ble_eq_true rfl) rfl rfl rfl rfl (vW_lookAtWaiting F S9 _ e11) rfl rfl ?_
        refine ei_aln hb dX5_stay_65 (pc' := 66) rfl rfl ?_
        refine ei_gi hb dX5_stay_66 (pc' := 69) (x := (R10.1 ((0, 0, j3) : qz_N) 4)) hcn qz_f_5_98 rfl rfl rfl rfl ?_
        by_cases c12 : (R10.1 ((0, 0, j3) : qz_N) 4) = 0
        · rw [if_pos c12] at h
          refine ei_ifT hb dX5_stay_69 (pc' := 76) (decide_eq_true c12) (by decide) ?_
          refine ei_c hb dX5_stay_76 (v := (0 : Int32)) (pc' := 77) (by decide) rfl ?_
          have h := Option.some.inj h
          subst h
          exact ei_reti hb dX5_stay_77 rfl
        · rw [if_neg c12] at h
          refine ei_ifF hb dX5_stay_69 (pc' := 72) (t := 76) (decide_eq_false c12) (by decide) rfl ?_
          refine ei_c hb dX5_stay_72 (v := (1 : Int32)) (pc' := 73) (by decide) rfl ?_
          refine ei_go hb dX5_stay_73 (pc' := 77) (by decide) ?_
          have h := Option.some.inj h
          subst h
          exact ei_reti hb dX5_stay_77 rfl
def gX_mergingError (F : Nat) (f : qz_F) (a0 : Int32) (a1 : Int32) (a2 : Int32) : Option (Int32) :=
  if (gX_isLine f a0) = 0 then (some (-1 : Int32)) else (if (gW_hasEnd f a1) = 0 then (some (-1 : Int32)) else (if (gW_hasEnd f a2) = 0 then (some (-1 : Int32)) else (if a1 = a2 then (some (-2 : Int32)) else (Option.bind (gW_canMerge F f a0 a1 a2) fun x5 => if x5 = 0 then (some (-4 : Int32)) else (some (0 : Int32))))))
set_option maxHeartbeats 4000000 in
theorem vX_mergingError (F : Nat) (f : qz_F) (p : Nat → Nat) (a0 : Int32) (a1 : Int32) (a2 : Int32) (r : Int32) (h : (gX_mergingError F f a0 a1 a2) = some r) : qz_E 69 0 (qz_in0 69 [.inr (.inl (some ((5, 0, 0) : qz_N))), .inl a0, .inl a1, .inl a2]) [] (qz_mk f p) (some (.inl r)) (qz_mk f p) := by
  have hb : qz_b 69 = cX5_mergingError := rfl
  have hcn : qz_cn 69 = 5 := rfl
  have hml : qz_ml 69 = 4 := rfl
  show qz_E 69 0 [some (.inr (.inl (some ((5, 0, 0) : qz_N)))), some (.inl a0), some (.inl a1), some (.inl a2)] [] _ _ _
  rw [gX_mergingError] at h
  refine ei_iln hb dX5_mergingError_0 (pc' := 1) rfl rfl ?_
  refine ei_cs hb dX5_mergingError_1 (pc' := 4) (M1 := (qz_mk f p)) (as := [.inl a0]) (rest := []) (st' := [.inl (gX_isLine f a0)]) hcn qz_c_5_53 rfl qz_k_66 (qz_q_69_66) (Nat.le_of_ble_eq_true rfl) (Nat.le_of_ble_eq_true rfl) rfl rfl rfl (vX_isLine f p a0) rfl rfl ?_
  by_cases c1 : (gX_isLine f a0) = 0
  · rw [if_pos c1] at h
    refine ei_ifT hb dX5_mergingError_4 (pc' := 29) (decide_eq_true c1) (by decide) ?_
    refine ei_c hb dX5_mergingError_29 (v := (-1 : Int32)) (pc' := 30) (by decide) rfl ?_
    have h := Option.some.inj h
    subst h
    exact ei_reti hb dX5_mergingError_30 rfl
  · rw [if_neg c1] at h
    refine ei_ifF hb dX5_mergingError_4 (pc' := 7) (t := 29) (decide_eq_false c1) (by decide) rfl ?_
    refine ei_aln hb dX5_mergingError_7 (pc' := 8) rfl rfl ?_
    refine ei_gr hb dX5_mergingError_8 (pc' := 11) (x := some ((4, 0, 0) : qz_N)) hcn qz_f_5_10 rfl rfl rfl rfl ?_
    refine ei_iln hb dX5_mergingError_11 (pc' := 12) rfl rfl ?_
    refine ei_cv hb dX5_mergingError_12 (pc' := 15) (M1 := (qz_mk f p)) (as := [.inl a1]) (rest := []) (st' := [.inl (gW_hasEnd f a1)]) hcn qz_c_5_49 qz_k_19 (qz_q_69_19) (Nat.le_of_ble_eq_true rfl) (Nat.le_of_ble_eq_true rfl) rfl rfl rfl rfl (vW_hasEnd f p a1) rfl rfl ?_
    by_cases c2 : (gW_hasEnd f a1) = 0
    · rw [if_pos c2] at h
      refine ei_ifT hb dX5_mergingError_15 (pc' := 29) (decide_eq_true c2) (by decide) ?_
      refine ei_c hb dX5_mergingError_29 (v := (-1 : Int32)) (pc' := 30) (by decide) rfl ?_
      have h := Option.some.inj h
      subst h
      exact ei_reti hb dX5_mergingError_30 rfl
    · rw [if_neg c2] at h
      refine ei_ifF hb dX5_mergingError_15 (pc' := 18) (t := 29) (decide_eq_false c2) (by decide) rfl ?_
      refine ei_aln hb dX5_mergingError_18 (pc' := 19) rfl rfl ?_
      refine ei_gr hb dX5_mergingError_19 (pc' := 22) (x := some ((4, 0, 0) : qz_N)) hcn qz_f_5_10 rfl rfl rfl rfl ?_
      refine ei_iln hb dX5_mergingError_22 (pc' := 23) rfl rfl ?_
      refine ei_cv hb dX5_mergingError_23 (pc' := 26) (M1 := (qz_mk f p)) (as := [.inl a2]) (rest := []) (st' := [.inl (gW_hasEnd f a2)]) hcn qz_c_5_49 qz_k_19 (qz_q_69_19) (Nat.le_of_ble_eq_true rfl) (Nat.le_of_ble_eq_true rfl) rfl rfl rfl rfl (vW_hasEnd f p a2) rfl rfl ?_
      by_cases c3 : (gW_hasEnd f a2) = 0
      · rw [if_pos c3] at h
        refine ei_ifF hb dX5_mergingError_26 (pc' := 29) (t := 31) (decide_eq_false (fun q => q c3)) (by decide) rfl ?_
        refine ei_c hb dX5_mergingError_29 (v := (-1 : Int32)) (pc' := 30) (by decide) rfl ?_
        have h := Option.some.inj h
        subst h
        exact ei_reti hb dX5_mergingError_30 rfl
      · rw [if_neg c3] at h
        refine ei_ifT hb dX5_mergingError_26 (pc' := 31) (decide_eq_true c3) (by decide) ?_
        refine ei_iln hb dX5_mergingError_31 (pc' := 32) rfl rfl ?_
        refine ei_iln hb dX5_mergingError_32 (pc' := 33) rfl rfl ?_
        by_cases c4 : a1 = a2
        · rw [if_pos c4] at h
          refine ei_icF hb dX5_mergingError_33 (pc' := 36) (t := 39) (decide_eq_false (fun q => q c4)) (by decide) rfl ?_
          refine ei_b hb dX5_mergingError_36 (v := (-2 : Int32)) (pc' := 38) (by decide) rfl ?_
          have h := Option.some.inj h
          subst h
          exact ei_reti hb dX5_mergingError_38 rfl
        · rw [if_neg c4] at h
          refine ei_icT hb dX5_mergingError_33 (pc' := 39) (decide_eq_true c4) (by decide) ?_
          refine ei_aln hb dX5_mergingError_39 (pc' := 40) rfl rfl ?_
          refine ei_gr hb dX5_mergingError_40 (pc' := 43) (x := some ((4, 0, 0) : qz_N)) hcn qz_f_5_10 rfl rfl rfl rfl ?_
          refine ei_iln hb dX5_mergingError_43 (pc' := 44) rfl rfl ?_
          refine ei_iln hb dX5_mergingError_44 (pc' := 45) rfl rfl ?_
          refine ei_iln hb dX5_mergingError_45 (pc' := 46) rfl rfl ?_
          obtain ⟨x5, e6, h⟩ := Option.bind_eq_some_iff.mp h
          refine ei_cv hb dX5_mergingError_46 (pc' := 49) (M1 := (qz_mk f p)) (as := [.inl a0, .inl a1, .inl a2]) (rest := []) (st' := [.inl x5]) hcn qz_c_5_215 qz_k_42 (qz_q_69_42) (Nat.le_of_ble_eq_true rfl) (Nat.le_of_ble_eq_true rfl) rfl rfl rfl rfl (vW_canMerge F f p a0 a1 a2 _ e6) rfl rfl ?_
          by_cases c7 : x5 = 0
          · rw [if_pos c7] at h
            refine ei_ifT hb dX5_mergingError_49 (pc' := 56) (decide_eq_true c7) (by decide) ?_
            refine ei_b hb dX5_mergingError_56 (v := (-4 : Int32)) (pc' := 58) (by decide) rfl ?_
            have h := Option.some.inj h
            subst h
            exact ei_reti hb dX5_mergingError_58 rfl
          · rw [if_neg c7] at h
            refine ei_ifF hb dX5_mergingError_49 (pc' := 52) (t := 56) (decide_eq_false c7) (by decide) rfl ?_
            refine ei_c hb dX5_mergingError_52 (v := (0 : Int32)) (pc' := 53) (by decide) rfl ?_
            refine ei_go hb dX5_mergingError_53 (pc' := 58) (by decide) ?_
            have h := Option.some.inj h
            subst h
            exact ei_reti hb dX5_mergingError_58 rfl
def gX_merge (F : Nat) (S : qz_S) (a0 : Int32) (a1 : Int32) (a2 : Int32) : Option (Int32 × qz_S) :=
  Option.bind (gX_mergingError F S.1 a0 a1 a2) fun x1 => if x1 = 0 then (Option.bind (gH_remember F S) fun R4 => Option.bind (gW_tie F R4 a0 a1 a2) fun R6 => Option.bind (gW_tie F R6 a0 a2 a1) fun R8 => Option.bind (gW_lookAtWaiting F R8) fun R10 => Option.bind (gW_startOf F R10.1 a1 a2) fun x12 => some (x12, R10)) else (some (x1, S))
set_option maxHeartbeats 4000000 in
theorem vX_merge (F : Nat) (S : qz_S) (a0 : Int32) (a1 : Int32) (a2 : Int32) (r : Int32 × qz_S) (h : (gX_merge F S a0 a1 a2) = some r) : qz_E 54 0 (qz_in0 54 [.inr (.inl (some ((5, 0, 0) : qz_N))), .inl a0, .inl a1, .inl a2]) [] (qz_mk S.1 S.2) (some (.inl r.1)) (qz_mk r.2.1 r.2.2) := by
  have hb : qz_b 54 = cX5_merge := rfl
  have hcn : qz_cn 54 = 5 := rfl
  have hml : qz_ml 54 = 5 := rfl
  show qz_E 54 0 [some (.inr (.inl (some ((5, 0, 0) : qz_N)))), some (.inl a0), some (.inl a1), some (.inl a2), none] [] _ _ _
  rw [gX_merge] at h
  refine ei_aln hb dX5_merge_0 (pc' := 1) rfl rfl ?_
  refine ei_iln hb dX5_merge_1 (pc' := 2) rfl rfl ?_
  refine ei_iln hb dX5_merge_2 (pc' := 3) rfl rfl ?_
  refine ei_iln hb dX5_merge_3 (pc' := 4) rfl rfl ?_
  obtain ⟨x1, e2, h⟩ := Option.bind_eq_some_iff.mp h
  refine ei_cv hb dX5_merge_4 (pc' := 7) (M1 := (qz_mk S.1 S.2)) (as := [.inl a0, .inl a1, .inl a2]) (rest := []) (st' := [.inl x1]) hcn qz_c_5_101 qz_k_69 (qz_q_54_69) (Nat.le_of_ble_eq_true rfl) (Nat.le_of_ble_eq_true rfl) rfl rfl rfl rfl (vX_mergingError F S.1 S.2 a0 a1 a2 _ e2) rfl rfl ?_
  refine ei_is hb dX5_merge_7 (pc' := 9) (ls' := [some (.inr (.inl (some ((5, 0, 0) : qz_N)))), some (.inl a0), some (.inl a1), some (.inl a2), some (.inl x1)]) hml (Nat.le_of_ble_eq_true rfl) rfl rfl rfl ?_
  refine ei_il hb dX5_merge_9 (pc' := 11) rfl rfl ?_
  by_cases c3 : x1 = 0
  · rw [if_pos c3] at h
    refine ei_ifT hb dX5_merge_11 (pc' := 17) (decide_eq_true c3) (by decide) ?_
    refine ei_aln hb dX5_merge_17 (pc' := 18) rfl rfl ?_
    refine ei_gr hb dX5_merge_18 (pc' := 21) (x := some ((2, 0, 0) : qz_N)) hcn qz_f_5_26 rfl rfl rfl rfl ?_
    refine ei_aln hb dX5_merge_21 (pc' := 22) rfl rfl ?_
    refine ei_gr hb dX5_merge_22 (pc' := 25) (x := some ((4, 0, 0) : qz_N)) hcn qz_f_5_10 rfl rfl rfl rfl ?_
    obtain ⟨R4, e5, h⟩ := Option.bind_eq_some_iff.mp h
    refine ei_cv hb dX5_merge_25 (pc' := 28) (M1 := (qz_mk R4.1 R4.2)) (as := [.inr (.inl (some ((4, 0, 0) : qz_N)))]) (rest := []) (st' := []) hcn qz_c_5_41 qz_k_10 (qz_q_54_10) (Nat.le_of_ble_eq_true rfl) (Nat.le_of_ble_eq_true rfl) rfl rfl rfl rfl (vH_remember F S _ e5) rfl rfl ?_
    refine ei_aln hb dX5_merge_28 (pc' := 29) rfl rfl ?_
    refine ei_gr hb dX5_merge_29 (pc' := 32) (x := some ((4, 0, 0) : qz_N)) hcn qz_f_5_10 rfl rfl rfl rfl ?_
    refine ei_iln hb dX5_merge_32 (pc' := 33) rfl rfl ?_
    refine ei_iln hb dX5_merge_33 (pc' := 34) rfl rfl ?_
    refine ei_iln hb dX5_merge_34 (pc' := 35) rfl rfl ?_
    obtain ⟨R6, e7, h⟩ := Option.bind_eq_some_iff.mp h
    refine ei_cv hb dX5_merge_35 (pc' := 38) (M1 := (qz_mk R6.1 R6.2)) (as := [.inl a0, .inl a1, .inl a2]) (rest := []) (st' := []) hcn qz_c_5_104 qz_k_33 (qz_q_54_33) (Nat.le_of_ble_eq_true rfl) (Nat.le_of_ble_eq_true rfl) rfl rfl rfl rfl (vW_tie F R4 a0 a1 a2 _ e7) rfl rfl ?_
    refine ei_aln hb dX5_merge_38 (pc' := 39) rfl rfl ?_
    refine ei_gr hb dX5_merge_39 (pc' := 42) (x := some ((4, 0, 0) : qz_N)) hcn qz_f_5_10 rfl rfl rfl rfl ?_
    refine ei_iln hb dX5_merge_42 (pc' := 43) rfl rfl ?_
    refine ei_iln hb dX5_merge_43 (pc' := 44) rfl rfl ?_
    refine ei_iln hb dX5_merge_44 (pc' := 45) rfl rfl ?_
    obtain ⟨R8, e9, h⟩ := Option.bind_eq_some_iff.mp h
    refine ei_cv hb dX5_merge_45 (pc' := 48) (M1 := (qz_mk R8.1 R8.2)) (as := [.inl a0, .inl a2, .inl a1]) (rest := []) (st' := []) hcn qz_c_5_104 qz_k_33 (qz_q_54_33) (Nat.le_of_ble_eq_true rfl) (Nat.le_of_ble_eq_true rfl) rfl rfl rfl rfl (vW_tie F R6 a0 a2 a1 _ e9) rfl rfl ?_
    refine ei_aln hb dX5_merge_48 (pc' := 49) rfl rfl ?_
    refine ei_gr hb dX5_merge_49 (pc' := 52) (x := some ((4, 0, 0) : qz_N)) hcn qz_f_5_10 rfl rfl rfl rfl ?_
    obtain ⟨R10, e11, h⟩ := Option.bind_eq_some_iff.mp h
    refine ei_cv hb dX5_merge_52 (pc' := 55) (M1 := (qz_mk R10.1 R10.2)) (as := []) (rest := []) (st' := []) hcn qz_c_5_89 qz_k_28 (qz_q_54_28) (Nat.le_of_ble_eq_true rfl) (Nat.le_of_ble_eq_true rfl) rfl rfl rfl rfl (vW_lookAtWaiting F R8 _ e11) rfl rfl ?_
    refine ei_aln hb dX5_merge_55 (pc' := 56) rfl rfl ?_
    refine ei_gr hb dX5_merge_56 (pc' := 59) (x := some ((4, 0, 0) : qz_N)) hcn qz_f_5_10 rfl rfl rfl rfl ?_
    refine ei_iln hb dX5_merge_59 (pc' := 60) rfl rfl ?_
    refine ei_iln hb dX5_merge_60 (pc' := 61) rfl rfl ?_
    obtain ⟨x12, e13, h⟩ := Option.bind_eq_some_iff.mp h
    refine ei_cv hb dX5_merge_61 (pc' := 64) (M1 := (qz_mk R10.1 R10.2)) (as := [.inl a1, .inl a2]) (rest := []) (st' := [.inl x12]) hcn qz_c_5_108 qz_k_35 (qz_q_54_35) (Nat.le_of_ble_eq_true rfl) (Nat.le_of_ble_eq_true rfl) rfl rfl rfl rfl (vW_startOf F R10.1 R10.2 a1 a2 _ e13) rfl rfl ?_
    have h := Option.some.inj h
    subst h
    exact ei_reti hb dX5_merge_64 rfl
  · rw [if_neg c3] at h
    refine ei_ifF hb dX5_merge_11 (pc' := 14) (t := 17) (decide_eq_false c3) (by decide) rfl ?_
    refine ei_il hb dX5_merge_14 (pc' := 16) rfl rfl ?_
    have h := Option.some.inj h
    subst h
    exact ei_reti hb dX5_merge_16 rfl
def gX_part (F : Nat) (S : qz_S) (a0 : Int32) (a1 : Int32) : Option (Int32 × qz_S) :=
  if (gX_isLine S.1 a0) = 0 then (some ((-1 : Int32), S)) else (if (gW_hasEnd S.1 a1) = 0 then (some ((-1 : Int32), S)) else (Option.bind (gW_partnerOf F S.1 a0 a1) fun x3 => if x3 = (-5 : Int32) then (some ((-5 : Int32), S)) else (Option.bind (gH_remember F S) fun R6 => Option.bind (gW_tie F R6 a0 a1 (-5 : Int32)) fun R8 => Option.bind (gW_tie F R8 a0 x3 (-5 : Int32)) fun R10 => Option.bind (gW_lookAtWaiting F R10) fun R12 => some (x3, R12))))
set_option maxHeartbeats 4000000 in
theorem vX_part (F : Nat) (S : qz_S) (a0 : Int32) (a1 : Int32) (r : Int32 × qz_S) (h : (gX_part F S a0 a1) = some r) : qz_E 55 0 (qz_in0 55 [.inr (.inl (some ((5, 0, 0) : qz_N))), .inl a0, .inl a1]) [] (qz_mk S.1 S.2) (some (.inl r.1)) (qz_mk r.2.1 r.2.2) := by
  have hb : qz_b 55 = cX5_part := rfl
  have hcn : qz_cn 55 = 5 := rfl
  have hml : qz_ml 55 = 4 := rfl
  show qz_E 55 0 [some (.inr (.inl (some ((5, 0, 0) : qz_N)))), some (.inl a0), some (.inl a1), none] [] _ _ _
  rw [gX_part] at h
  refine ei_iln hb dX5_part_0 (pc' := 1) rfl rfl ?_
  refine ei_cs hb dX5_part_1 (pc' := 4) (M1 := (qz_mk S.1 S.2)) (as := [.inl a0]) (rest := []) (st' := [.inl (gX_isLine S.1 a0)]) hcn qz_c_5_53 rfl qz_k_66 (qz_q_55_66) (Nat.le_of_ble_eq_true rfl) (Nat.le_of_ble_eq_true rfl) rfl rfl rfl (vX_isLine S.1 S.2 a0) rfl rfl ?_
  by_cases c1 : (gX_isLine S.1 a0) = 0
  · rw [if_pos c1] at h
    refine ei_ifT hb dX5_part_4 (pc' := 18) (decide_eq_true c1) (by decide) ?_
    refine ei_c hb dX5_part_18 (v := (-1 : Int32)) (pc' := 19) (by decide) rfl ?_
    have h := Option.some.inj h
    subst h
    exact ei_reti hb dX5_part_19 rfl
  · rw [if_neg c1] at h
    refine ei_ifF hb dX5_part_4 (pc' := 7) (t := 18) (decide_eq_false c1) (by decide) rfl ?_
    refine ei_aln hb dX5_part_7 (pc' := 8) rfl rfl ?_
    refine ei_gr hb dX5_part_8 (pc' := 11) (x := some ((4, 0, 0) : qz_N)) hcn qz_f_5_10 rfl rfl rfl rfl ?_
    refine ei_iln hb dX5_part_11 (pc' := 12) rfl rfl ?_
    refine ei_cv hb dX5_part_12 (pc' := 15) (M1 := (qz_mk S.1 S.2)) (as := [.inl a1]) (rest := []) (st' := [.inl (gW_hasEnd S.1 a1)]) hcn qz_c_5_49 qz_k_19 (qz_q_55_19) (Nat.le_of_ble_eq_true rfl) (Nat.le_of_ble_eq_true rfl) rfl rfl rfl rfl (vW_hasEnd S.1 S.2 a1) rfl rfl ?_
    by_cases c2 : (gW_hasEnd S.1 a1) = 0
    · rw [if_pos c2] at h
      refine ei_ifF hb dX5_part_15 (pc' := 18) (t := 20) (decide_eq_false (fun q => q c2)) (by decide) rfl ?_
      refine ei_c hb dX5_part_18 (v := (-1 : Int32)) (pc' := 19) (by decide) rfl ?_
      have h := Option.some.inj h
      subst h
      exact ei_reti hb dX5_part_19 rfl
    · rw [if_neg c2] at h
      refine ei_ifT hb dX5_part_15 (pc' := 20) (decide_eq_true c2) (by decide) ?_
      refine ei_aln hb dX5_part_20 (pc' := 21) rfl rfl ?_
      refine ei_gr hb dX5_part_21 (pc' := 24) (x := some ((4, 0, 0) : qz_N)) hcn qz_f_5_10 rfl rfl rfl rfl ?_
      refine ei_iln hb dX5_part_24 (pc' := 25) rfl rfl ?_
      refine ei_iln hb dX5_part_25 (pc' := 26) rfl rfl ?_
      obtain ⟨x3, e4, h⟩ := Option.bind_eq_some_iff.mp h
      refine ei_cv hb dX5_part_26 (pc' := 29) (M1 := (qz_mk S.1 S.2)) (as := [.inl a0, .inl a1]) (rest := []) (st' := [.inl x3]) hcn qz_c_5_112 qz_k_32 (qz_q_55_32) (Nat.le_of_ble_eq_true rfl) (Nat.le_of_ble_eq_true rfl) rfl rfl rfl rfl (vW_partnerOf F S.1 S.2 a0 a1 _ e4) rfl rfl ?_
      refine ei_isn hb dX5_part_29 (pc' := 30) (ls' := [some (.inr (.inl (some ((5, 0, 0) : qz_N)))), some (.inl a0), some (.inl a1), some (.inl x3)]) hml (Nat.le_of_ble_eq_true rfl) rfl rfl rfl ?_
      refine ei_iln hb dX5_part_30 (pc' := 31) rfl rfl ?_
      refine ei_b hb dX5_part_31 (v := (-5 : Int32)) (pc' := 33) (by decide) rfl ?_
      by_cases c5 : x3 = (-5 : Int32)
      · rw [if_pos c5] at h
        refine ei_icF hb dX5_part_33 (pc' := 36) (t := 39) (decide_eq_false (fun q => q c5)) (by decide) rfl ?_
        refine ei_b hb dX5_part_36 (v := (-5 : Int32)) (pc' := 38) (by decide) rfl ?_
        have h := Option.some.inj h
        subst h
        exact ei_reti hb dX5_part_38 rfl
      · rw [if_neg c5] at h
        refine ei_icT hb dX5_part_33 (pc' := 39) (decide_eq_true c5) (by decide) ?_
        refine ei_aln hb dX5_part_39 (pc' := 40) rfl rfl ?_
        refine ei_gr hb dX5_part_40 (pc' := 43) (x := some ((2, 0, 0) : qz_N)) hcn qz_f_5_26 rfl rfl rfl rfl ?_
        refine ei_aln hb dX5_part_43 (pc' := 44) rfl rfl ?_
        refine ei_gr hb dX5_part_44 (pc' := 47) (x := some ((4, 0, 0) : qz_N)) hcn qz_f_5_10 rfl rfl rfl rfl ?_
        obtain ⟨R6, e7, h⟩ := Option.bind_eq_some_iff.mp h
        refine ei_cv hb dX5_part_47 (pc' := 50) (M1 := (qz_mk R6.1 R6.2)) (as := [.inr (.inl (some ((4, 0, 0) : qz_N)))]) (rest := []) (st' := []) hcn qz_c_5_41 qz_k_10 (qz_q_55_10) (Nat.le_of_ble_eq_true rfl) (Nat.le_of_ble_eq_true rfl) rfl rfl rfl rfl (vH_remember F S _ e7) rfl rfl ?_
        refine ei_aln hb dX5_part_50 (pc' := 51) rfl rfl ?_
        refine ei_gr hb dX5_part_51 (pc' := 54) (x := some ((4, 0, 0) : qz_N)) hcn qz_f_5_10 rfl rfl rfl rfl ?_
        refine ei_iln hb dX5_part_54 (pc' := 55) rfl rfl ?_
        refine ei_iln hb dX5_part_55 (pc' := 56) rfl rfl ?_
        refine ei_b hb dX5_part_56 (v := (-5 : Int32)) (pc' := 58) (by decide) rfl ?_
        obtain ⟨R8, e9, h⟩ := Option.bind_eq_some_iff.mp h
        refine ei_cv hb dX5_part_58 (pc' := 61) (M1 := (qz_mk R8.1 R8.2)) (as := [.inl a0, .inl a1, .inl (-5 : Int32)]) (rest := []) (st' := []) hcn qz_c_5_104 qz_k_33 (qz_q_55_33) (Nat.le_of_ble_eq_true rfl) (Nat.le_of_ble_eq_true rfl) rfl rfl rfl rfl (vW_tie F R6 a0 a1 (-5 : Int32) _ e9) rfl rfl ?_
        refine ei_aln hb dX5_part_61 (pc' := 62) rfl rfl ?_
        refine ei_gr hb dX5_part_62 (pc' := 65) (x := some ((4, 0, 0) : qz_N)) hcn qz_f_5_10 rfl rfl rfl rfl ?_
        refine ei_iln hb dX5_part_65 (pc' := 66) rfl rfl ?_
        refine ei_iln hb dX5_part_66 (pc' := 67) rfl rfl ?_
        refine ei_b hb dX5_part_67 (v := (-5 : Int32)) (pc' := 69) (by decide) rfl ?_
        obtain ⟨R10, e11, h⟩ := Option.bind_eq_some_iff.mp h
        refine ei_cv hb dX5_part_69 (pc' := 72) (M1 := (qz_mk R10.1 R10.2)) (as := [.inl a0, .inl x3, .inl (-5 : Int32)]) (rest := []) (st' := []) hcn qz_c_5_104 qz_k_33 (qz_q_55_33) (Nat.le_of_ble_eq_true rfl) (Nat.le_of_ble_eq_true rfl) rfl rfl rfl rfl (vW_tie F R8 a0 x3 (-5 : Int32) _ e11) rfl rfl ?_
        refine ei_aln hb dX5_part_72 (pc' := 73) rfl rfl ?_
        refine ei_gr hb dX5_part_73 (pc' := 76) (x := some ((4, 0, 0) : qz_N)) hcn qz_f_5_10 rfl rfl rfl rfl ?_
        obtain ⟨R12, e13, h⟩ := Option.bind_eq_some_iff.mp h
        refine ei_cv hb dX5_part_76 (pc' := 79) (M1 := (qz_mk R12.1 R12.2)) (as := []) (rest := []) (st' := []) hcn qz_c_5_89 qz_k_28 (qz_q_55_28) (Nat.le_of_ble_eq_true rfl) (Nat.le_of_ble_eq_true rfl) rfl rfl rfl rfl (vW_lookAtWaiting F R10 _ e13) rfl rfl ?_
        refine ei_iln hb dX5_part_79 (pc' := 80) rfl rfl ?_
        have h := Option.some.inj h
        subst h
        exact ei_reti hb dX5_part_80 rfl
def gX_isSettingValue (F : Nat) (f : qz_F) (a0 : Int32) (a1 : Int32) : Option (Int32) :=
  if a0 < 0 then (some (0 : Int32)) else (if (4 : Int32) ≤ a0 then (some (0 : Int32)) else (if a0 < (4 : Int32) then (if qz_xi a0 4 = true then (if a1 < (f ((31, 0, 0) : qz_N) (a0).toNatClampNeg) then (some (0 : Int32)) else (if (f ((32, 0, 0) : qz_N) (a0).toNatClampNeg) < a1 then (some (0 : Int32)) else (some (1 : Int32)))) else none) else (some (0 : Int32))))
set_option maxHeartbeats 4000000 in
theorem vX_isSettingValue (F : Nat) (f : qz_F) (p : Nat → Nat) (a0 : Int32) (a1 : Int32) (r : Int32) (h : (gX_isSettingValue F f a0 a1) = some r) : qz_E 68 0 (qz_in0 68 [.inl a0, .inl a1]) [] (qz_mk f p) (some (.inl r)) (qz_mk f p) := by
  have hb : qz_b 68 = cX5_isSettingValue := rfl
  have hcn : qz_cn 68 = 5 := rfl
  have hml : qz_ml 68 = 2 := rfl
  show qz_E 68 0 [some (.inl a0), some (.inl a1)] [] _ _ _
  rw [gX_isSettingValue] at h
  refine ei_iln hb dX5_isSettingValue_0 (pc' := 1) rfl rfl ?_
  by_cases c1 : a0 < 0
  · rw [if_pos c1] at h
    refine ei_ifT hb dX5_isSettingValue_1 (pc' := 20) (decide_eq_true c1) (by decide) ?_
    refine ei_c hb dX5_isSettingValue_20 (v := (0 : Int32)) (pc' := 21) (by decide) rfl ?_
    have h := Option.some.inj h
    subst h
    exact ei_retz hb dX5_isSettingValue_21 rfl (by decide)
  · rw [if_neg c1] at h
    refine ei_ifF hb dX5_isSettingValue_1 (pc' := 4) (t := 20) (decide_eq_false c1) (by decide) rfl ?_
    refine ei_iln hb dX5_isSettingValue_4 (pc' := 5) rfl rfl ?_
    refine ei_gs hb dX5_isSettingValue_5 (pc' := 8) (t := 31) hcn rfl rfl ?_
    refine ei_len hb dX5_isSettingValue_8 (pc' := 9) (x := (4 : Int32)) (show ¬ qz_at 31 = 0 by decide) rfl rfl ?_
    by_cases c2 : (4 : Int32) ≤ a0
    · rw [if_pos c2] at h
      refine ei_icT hb dX5_isSettingValue_9 (pc' := 20) (decide_eq_true c2) (by decide) ?_
      refine ei_c hb dX5_isSettingValue_20 (v := (0 : Int32)) (pc' := 21) (by decide) rfl ?_
      have h := Option.some.inj h
      subst h
      exact ei_retz hb dX5_isSettingValue_21 rfl (by decide)
    · rw [if_neg c2] at h
      refine ei_icF hb dX5_isSettingValue_9 (pc' := 12) (t := 20) (decide_eq_false c2) (by decide) rfl ?_
      refine ei_iln hb dX5_isSettingValue_12 (pc' := 13) rfl rfl ?_
      refine ei_gs hb dX5_isSettingValue_13 (pc' := 16) (t := 32) hcn rfl rfl ?_
      refine ei_len hb dX5_isSettingValue_16 (pc' := 17) (x := (4 : Int32)) (show ¬ qz_at 32 = 0 by decide) rfl rfl ?_
      by_cases c3 : a0 < (4 : Int32)
      · rw [if_pos c3] at h
        refine ei_icT hb dX5_isSettingValue_17 (pc' := 22) (decide_eq_true c3) (by decide) ?_
        refine ei_iln hb dX5_isSettingValue_22 (pc' := 23) rfl rfl ?_
        refine ei_gs hb dX5_isSettingValue_23 (pc' := 26) (t := 31) hcn rfl rfl ?_
        refine ei_iln hb dX5_isSettingValue_26 (pc' := 27) rfl rfl ?_
        by_cases c4 : qz_xi a0 4 = true
        · rw [if_pos c4] at h
          refine ei_ia hb dX5_isSettingValue_27 (pc' := 28) (x := (f ((31, 0, 0) : qz_N) (a0).toNatClampNeg)) rfl c4 rfl rfl ?_
          by_cases c5 : a1 < (f ((31, 0, 0) : qz_N) (a0).toNatClampNeg)
          · rw [if_pos c5] at h
            refine ei_icT hb dX5_isSettingValue_28 (pc' := 44) (decide_eq_true c5) (by decide) ?_
            refine ei_c hb dX5_isSettingValue_44 (v := (0 : Int32)) (pc' := 45) (by decide) rfl ?_
            have h := Option.some.inj h
            subst h
            exact ei_retz hb dX5_isSettingValue_45 rfl (by decide)
          · rw [if_neg c5] at h
            refine ei_icF hb dX5_isSettingValue_28 (pc' := 31) (t := 44) (decide_eq_false c5) (by decide) rfl ?_
            refine ei_iln hb dX5_isSettingValue_31 (pc' := 32) rfl rfl ?_
            refine ei_gs hb dX5_isSettingValue_32 (pc' := 35) (t := 32) hcn rfl rfl ?_
            refine ei_iln hb dX5_isSettingValue_35 (pc' := 36) rfl rfl ?_
            refine ei_ia hb dX5_isSettingValue_36 (pc' := 37) (x := (f ((32, 0, 0) : qz_N) (a0).toNatClampNeg)) rfl c4 rfl rfl ?_
            by_cases c6 : (f ((32, 0, 0) : qz_N) (a0).toNatClampNeg) < a1
            · rw [if_pos c6] at h
              refine ei_icT hb dX5_isSettingValue_37 (pc' := 44) (decide_eq_true c6) (by decide) ?_
              refine ei_c hb dX5_isSettingValue_44 (v := (0 : Int32)) (pc' := 45) (by decide) rfl ?_
              have h := Option.some.inj h
              subst h
              exact ei_retz hb dX5_isSettingValue_45 rfl (by decide)
            · rw [if_neg c6] at h
              refine ei_icF hb dX5_isSettingValue_37 (pc' := 40) (t := 44) (decide_eq_false c6) (by decide) rfl ?_
              refine ei_c hb dX5_isSettingValue_40 (v := (1 : Int32)) (pc' := 41) (by decide) rfl ?_
              refine ei_go hb dX5_isSettingValue_41 (pc' := 45) (by decide) ?_
              have h := Option.some.inj h
              subst h
              exact ei_retz hb dX5_isSettingValue_45 rfl (by decide)
        · rw [if_neg c4] at h
          cases h
      · rw [if_neg c3] at h
        refine ei_icF hb dX5_isSettingValue_17 (pc' := 20) (t := 22) (decide_eq_false c3) (by decide) rfl ?_
        refine ei_c hb dX5_isSettingValue_20 (v := (0 : Int32)) (pc' := 21) (by decide) rfl ?_
        have h := Option.some.inj h
        subst h
        exact ei_retz hb dX5_isSettingValue_21 rfl (by decide)
def gX_set (F : Nat) (S : qz_S) (a0 : Int32) (a1 : Int32) : Option (Int32 × qz_S) :=
  Option.bind (gX_isSettingValue F S.1 a0 a1) fun x1 => if x1 = 0 then (some ((-2 : Int32), S)) else (Option.bind (gW_setting F S.1 a0) fun x4 => if x4 = a1 then (some ((-5 : Int32), S)) else (Option.bind (gH_remember F S) fun R7 => Option.bind (gW_changeSetting F R7 a0 a1) fun R9 => if a0 = (2 : Int32) then (some (x4, R9)) else (Option.bind (gW_lookAtWaiting F R9) fun R12 => some (x4, R12))))
set_option maxHeartbeats 4000000 in
theorem vX_set (F : Nat) (S : qz_S) (a0 : Int32) (a1 : Int32) (r : Int32 × qz_S) (h : (gX_set F S a0 a1) = some r) : qz_E 56 0 (qz_in0 56 [.inr (.inl (some ((5, 0, 0) : qz_N))), .inl a0, .inl a1]) [] (qz_mk S.1 S.2) (some (.inl r.1)) (qz_mk r.2.1 r.2.2) := by
  have hb : qz_b 56 = cX5_set := rfl
  have hcn : qz_cn 56 = 5 := rfl
  have hml : qz_ml 56 = 4 := rfl
  show qz_E 56 0 [some (.inr (.inl (some ((5, 0, 0) : qz_N)))), some (.inl a0), some (.inl a1), none] [] _ _ _
  rw [gX_set] at h
  refine ei_iln hb dX5_set_0 (pc' := 1) rfl rfl ?_
  refine ei_iln hb dX5_set_1 (pc' := 2) rfl rfl ?_
  obtain ⟨x1, e2, h⟩ := Option.bind_eq_some_iff.mp h
  refine ei_cs hb dX5_set_2 (pc' := 5) (M1 := (qz_mk S.1 S.2)) (as := [.inl a0, .inl a1]) (rest := []) (st' := [.inl x1]) hcn qz_c_5_115 rfl qz_k_68 (qz_q_56_68) (Nat.le_of_ble_eq_true rfl) (Nat.le_of_ble_eq_true rfl) rfl rfl rfl (vX_isSettingValue F S.1 S.2 a0 a1 _ e2) rfl rfl ?_
  by_cases c3 : x1 = 0
  · rw [if_pos c3] at h
    refine ei_ifF hb dX5_set_5 (pc' := 8) (t := 11) (decide_eq_false (fun q => q c3)) (by decide) rfl ?_
    refine ei_b hb dX5_set_8 (v := (-2 : Int32)) (pc' := 10) (by decide) rfl ?_
    have h := Option.some.inj h
    subst h
    exact ei_reti hb dX5_set_10 rfl
  · rw [if_neg c3] at h
    refine ei_ifT hb dX5_set_5 (pc' := 11) (decide_eq_true c3) (by decide) ?_
    refine ei_aln hb dX5_set_11 (pc' := 12) rfl rfl ?_
    refine ei_gr hb dX5_set_12 (pc' := 15) (x := some ((4, 0, 0) : qz_N)) hcn qz_f_5_10 rfl rfl rfl rfl ?_
    refine ei_iln hb dX5_set_15 (pc' := 16) rfl rfl ?_
    obtain ⟨x4, e5, h⟩ := Option.bind_eq_some_iff.mp h
    refine ei_cv hb dX5_set_16 (pc' := 19) (M1 := (qz_mk S.1 S.2)) (as := [.inl a0]) (rest := []) (st' := [.inl x4]) hcn qz_c_5_119 qz_k_17 (qz_q_56_17) (Nat.le_of_ble_eq_true rfl) (Nat.le_of_ble_eq_true rfl) rfl rfl rfl rfl (vW_setting F S.1 S.2 a0 _ e5) rfl rfl ?_
    refine ei_isn hb dX5_set_19 (pc' := 20) (ls' := [some (.inr (.inl (some ((5, 0, 0) : qz_N)))), some (.inl a0), some (.inl a1), some (.inl x4)]) hml (Nat.le_of_ble_eq_true rfl) rfl rfl rfl ?_
    refine ei_iln hb dX5_set_20 (pc' := 21) rfl rfl ?_
    refine ei_iln hb dX5_set_21 (pc' := 22) rfl rfl ?_
    by_cases c6 : x4 = a1
    · rw [if_pos c6] at h
      refine ei_icF hb dX5_set_22 (pc' := 25) (t := 28) (decide_eq_false (fun q => q c6)) (by decide) rfl ?_
      refine ei_b hb dX5_set_25 (v := (-5 : Int32)) (pc' := 27) (by decide) rfl ?_
      have h := Option.some.inj h
      subst h
      exact ei_reti hb dX5_set_27 rfl
    · rw [if_neg c6] at h
      refine ei_icT hb dX5_set_22 (pc' := 28) (decide_eq_true c6) (by decide) ?_
      refine ei_aln hb dX5_set_28 (pc' := 29) rfl rfl ?_
      refine ei_gr hb dX5_set_29 (pc' := 32) (x := some ((2, 0, 0) : qz_N)) hcn qz_f_5_26 rfl rfl rfl rfl ?_
      refine ei_aln hb dX5_set_32 (pc' := 33) rfl rfl ?_
      refine ei_gr hb dX5_set_33 (pc' := 36) (x := some ((4, 0, 0) : qz_N)) hcn qz_f_5_10 rfl rfl rfl rfl ?_
      obtain ⟨R7, e8, h⟩ := Option.bind_eq_some_iff.mp h
      refine ei_cv hb dX5_set_36 (pc' := 39) (M1 := (qz_mk R7.1 R7.2)) (as := [.inr (.inl (some ((4, 0, 0) : qz_N)))]) (rest := []) (st' := []) hcn qz_c_5_41 qz_k_10 (qz_q_56_10) (Nat.le_of_ble_eq_true rfl) (Nat.le_of_ble_eq_true rfl) rfl rfl rfl rfl (vH_remember F S _ e8) rfl rfl ?_
      refine ei_aln hb dX5_set_39 (pc' := 40) rfl rfl ?_
      refine ei_gr hb dX5_set_40 (pc' := 43) (x := some ((4, 0, 0) : qz_N)) hcn qz_f_5_10 rfl rfl rfl rfl ?_
      refine ei_iln hb dX5_set_43 (pc' := 44) rfl rfl ?_
      refine ei_iln hb dX5_set_44 (pc' := 45) rfl rfl ?_
      obtain ⟨R9, e10, h⟩ := Option.bind_eq_some_iff.mp h
      refine ei_cv hb dX5_set_45 (pc' := 48) (M1 := (qz_mk R9.1 R9.2)) (as := [.inl a0, .inl a1]) (rest := []) (st' := []) hcn qz_c_5_122 qz_k_18 (qz_q_56_18) (Nat.le_of_ble_eq_true rfl) (Nat.le_of_ble_eq_true rfl) rfl rfl rfl rfl (vW_changeSetting F R7 a0 a1 _ e10) rfl rfl ?_
      refine ei_iln hb dX5_set_48 (pc' := 49) rfl rfl ?_
      refine ei_c hb dX5_set_49 (v := (2 : Int32)) (pc' := 50) (by decide) rfl ?_
      by_cases c11 : a0 = (2 : Int32)
      · rw [if_pos c11] at h
        refine ei_icT hb dX5_set_50 (pc' := 60) (decide_eq_true c11) (by decide) ?_
        refine ei_iln hb dX5_set_60 (pc' := 61) rfl rfl ?_
        have h := Option.some.inj h
        subst h
        exact ei_reti hb dX5_set_61 rfl
      · rw [if_neg c11] at h
        refine ei_icF hb dX5_set_50 (pc' := 53) (t := 60) (decide_eq_false c11) (by decide) rfl ?_
        refine ei_aln hb dX5_set_53 (pc' := 54) rfl rfl ?_
        refine ei_gr hb dX5_set_54 (pc' := 57) (x := some ((4, 0, 0) : qz_N)) hcn qz_f_5_10 rfl rfl rfl rfl ?_
        obtain ⟨R12, e13, h⟩ := Option.bind_eq_some_iff.mp h
        refine ei_cv hb dX5_set_57 (pc' := 60) (M1 := (qz_mk R12.1 R12.2)) (as := []) (rest := []) (st' := []) hcn qz_c_5_89 qz_k_28 (qz_q_56_28) (Nat.le_of_ble_eq_true rfl) (Nat.le_of_ble_eq_true rfl) rfl rfl rfl rfl (vW_lookAtWaiting F R9 _ e13) rfl rfl ?_
        refine ei_iln hb dX5_set_60 (pc' := 61) rfl rfl ?_
        have h := Option.some.inj h
        subst h
        exact ei_reti hb dX5_set_61 rfl
def gX_passDay (F : Nat) (S : qz_S)  : Option (Int32 × qz_S) :=
  Option.bind (gH_remember F S) fun R1 => Option.bind (gW_runBuses F R1) fun R3 => Option.bind (gW_bringHome F R3) fun R5 => qz_let (qz_wr R5 ((4, 0, 0) : qz_N) 6 ((R5.1 ((4, 0, 0) : qz_N) 6) + (1 : Int32))) fun S7 => some (((S7.1 ((4, 0, 0) : qz_N) 8) - (R1.1 ((4, 0, 0) : qz_N) 8)), S7)
set_option maxHeartbeats 4000000 in
theorem vX_passDay (F : Nat) (S : qz_S)  (r : Int32 × qz_S) (h : (gX_passDay F S) = some r) : qz_E 57 0 (qz_in0 57 [.inr (.inl (some ((5, 0, 0) : qz_N)))]) [] (qz_mk S.1 S.2) (some (.inl r.1)) (qz_mk r.2.1 r.2.2) := by
  have hb : qz_b 57 = cX5_passDay := rfl
  have hcn : qz_cn 57 = 5 := rfl
  have hml : qz_ml 57 = 2 := rfl
  show qz_E 57 0 [some (.inr (.inl (some ((5, 0, 0) : qz_N)))), none] [] _ _ _
  rw [gX_passDay] at h
  refine ei_aln hb dX5_passDay_0 (pc' := 1) rfl rfl ?_
  refine ei_gr hb dX5_passDay_1 (pc' := 4) (x := some ((2, 0, 0) : qz_N)) hcn qz_f_5_26 rfl rfl rfl rfl ?_
  refine ei_aln hb dX5_passDay_4 (pc' := 5) rfl rfl ?_
  refine ei_gr hb dX5_passDay_5 (pc' := 8) (x := some ((4, 0, 0) : qz_N)) hcn qz_f_5_10 rfl rfl rfl rfl ?_
  obtain ⟨R1, e2, h⟩ := Option.bind_eq_some_iff.mp h
  refine ei_cv hb dX5_passDay_8 (pc' := 11) (M1 := (qz_mk R1.1 R1.2)) (as := [.inr (.inl (some ((4, 0, 0) : qz_N)))]) (rest := []) (st' := []) hcn qz_c_5_41 qz_k_10 (qz_q_57_10) (Nat.le_of_ble_eq_true rfl) (Nat.le_of_ble_eq_true rfl) rfl rfl rfl rfl (vH_remember F S _ e2) rfl rfl ?_
  refine ei_aln hb dX5_passDay_11 (pc' := 12) rfl rfl ?_
  refine ei_gr hb dX5_passDay_12 (pc' := 15) (x := some ((4, 0, 0) : qz_N)) hcn qz_f_5_10 rfl rfl rfl rfl ?_
  refine ei_gi hb dX5_passDay_15 (pc' := 18) (x := (R1.1 ((4, 0, 0) : qz_N) 8)) hcn qz_f_5_126 rfl rfl rfl rfl ?_
  refine ei_isn hb dX5_passDay_18 (pc' := 19) (ls' := [some (.inr (.inl (some ((5, 0, 0) : qz_N)))), some (.inl (R1.1 ((4, 0, 0) : qz_N) 8))]) hml (Nat.le_of_ble_eq_true rfl) rfl rfl rfl ?_
  refine ei_aln hb dX5_passDay_19 (pc' := 20) rfl rfl ?_
  refine ei_gr hb dX5_passDay_20 (pc' := 23) (x := some ((4, 0, 0) : qz_N)) hcn qz_f_5_10 rfl rfl rfl rfl ?_
  obtain ⟨R3, e4, h⟩ := Option.bind_eq_some_iff.mp h
  refine ei_cv hb dX5_passDay_23 (pc' := 26) (M1 := (qz_mk R3.1 R3.2)) (as := []) (rest := []) (st' := []) hcn qz_c_5_129 qz_k_46 (qz_q_57_46) (Nat.le_of_ble_eq_true rfl) (Nat.le_of_ble_eq_true rfl) rfl rfl rfl rfl (vW_runBuses F R1 _ e4) rfl rfl ?_
  refine ei_aln hb dX5_passDay_26 (pc' := 27) rfl rfl ?_
  refine ei_gr hb dX5_passDay_27 (pc' := 30) (x := some ((4, 0, 0) : qz_N)) hcn qz_f_5_10 rfl rfl rfl rfl ?_
  obtain ⟨R5, e6, h⟩ := Option.bind_eq_some_iff.mp h
  refine ei_cv hb dX5_passDay_30 (pc' := 33) (M1 := (qz_mk R5.1 R5.2)) (as := []) (rest := []) (st' := []) hcn qz_c_5_132 qz_k_47 (qz_q_57_47) (Nat.le_of_ble_eq_true rfl) (Nat.le_of_ble_eq_true rfl) rfl rfl rfl rfl (vW_bringHome F R3 _ e6) rfl rfl ?_
  refine ei_aln hb dX5_passDay_33 (pc' := 34) rfl rfl ?_
  refine ei_gr hb dX5_passDay_34 (pc' := 37) (x := some ((4, 0, 0) : qz_N)) hcn qz_f_5_10 rfl rfl rfl rfl ?_
  refine ei_dup hb dX5_passDay_37 (pc' := 38) rfl rfl ?_
  refine ei_gi hb dX5_passDay_38 (pc' := 41) (x := (R5.1 ((4, 0, 0) : qz_N) 6)) hcn qz_f_5_135 rfl rfl rfl rfl ?_
  refine ei_c hb dX5_passDay_41 (v := (1 : Int32)) (pc' := 42) (by decide) rfl ?_
  refine ei_add hb dX5_passDay_42 (pc' := 43) rfl ?_
  obtain ⟨S7, eS7⟩ : ∃ q, q = qz_wr R5 ((4, 0, 0) : qz_N) 6 ((R5.1 ((4, 0, 0) : qz_N) 6) + (1 : Int32)) := ⟨_, rfl⟩
  rw [qz_let, ← eS7] at h
  refine ei_pi hb dX5_passDay_43 (pc' := 46) (M1 := (qz_mk S7.1 S7.2)) hcn qz_f_5_135 rfl rfl (fun q => by cases q) rfl (by rw [eS7]; rfl) rfl ?_
  refine ei_aln hb dX5_passDay_46 (pc' := 47) rfl rfl ?_
  refine ei_gr hb dX5_passDay_47 (pc' := 50) (x := some ((4, 0, 0) : qz_N)) hcn qz_f_5_10 rfl rfl rfl rfl ?_
  refine ei_gi hb dX5_passDay_50 (pc' := 53) (x := (S7.1 ((4, 0, 0) : qz_N) 8)) hcn qz_f_5_126 rfl rfl rfl rfl ?_
  refine ei_iln hb dX5_passDay_53 (pc' := 54) rfl rfl ?_
  refine ei_sub hb dX5_passDay_54 (pc' := 55) rfl ?_
  have h := Option.some.inj h
  subst h
  exact ei_reti hb dX5_passDay_55 rfl
def gX_undo (F : Nat) (S : qz_S)  : Option (Int32 × qz_S) :=
  if (S.1 ((2, 0, 0) : qz_N) 1) = 0 then (some ((-5 : Int32), S)) else (Option.bind (gH_takeLatestInto F S) fun R2 => some ((R2.1 ((2, 0, 0) : qz_N) 1), R2))
set_option maxHeartbeats 4000000 in
theorem vX_undo (F : Nat) (S : qz_S)  (r : Int32 × qz_S) (h : (gX_undo F S) = some r) : qz_E 58 0 (qz_in0 58 [.inr (.inl (some ((5, 0, 0) : qz_N)))]) [] (qz_mk S.1 S.2) (some (.inl r.1)) (qz_mk r.2.1 r.2.2) := by
  have hb : qz_b 58 = cX5_undo := rfl
  have hcn : qz_cn 58 = 5 := rfl
  have hml : qz_ml 58 = 1 := rfl
  show qz_E 58 0 [some (.inr (.inl (some ((5, 0, 0) : qz_N))))] [] _ _ _
  rw [gX_undo] at h
  refine ei_aln hb dX5_undo_0 (pc' := 1) rfl rfl ?_
  refine ei_gr hb dX5_undo_1 (pc' := 4) (x := some ((2, 0, 0) : qz_N)) hcn qz_f_5_26 rfl rfl rfl rfl ?_
  refine ei_gi hb dX5_undo_4 (pc' := 7) (x := (S.1 ((2, 0, 0) : qz_N) 1)) hcn qz_f_5_145 rfl rfl rfl rfl ?_
  by_cases c1 : (S.1 ((2, 0, 0) : qz_N) 1) = 0
  · rw [if_pos c1] at h
    refine ei_ifF hb dX5_undo_7 (pc' := 10) (t := 13) (decide_eq_false (fun q => q c1)) (by decide) rfl ?_
    refine ei_b hb dX5_undo_10 (v := (-5 : Int32)) (pc' := 12) (by decide) rfl ?_
    have h := Option.some.inj h
    subst h
    exact ei_reti hb dX5_undo_12 rfl
  · rw [if_neg c1] at h
    refine ei_ifT hb dX5_undo_7 (pc' := 13) (decide_eq_true c1) (by decide) ?_
    refine ei_aln hb dX5_undo_13 (pc' := 14) rfl rfl ?_
    refine ei_gr hb dX5_undo_14 (pc' := 17) (x := some ((2, 0, 0) : qz_N)) hcn qz_f_5_26 rfl rfl rfl rfl ?_
    refine ei_aln hb dX5_undo_17 (pc' := 18) rfl rfl ?_
    refine ei_gr hb dX5_undo_18 (pc' := 21) (x := some ((4, 0, 0) : qz_N)) hcn qz_f_5_10 rfl rfl rfl rfl ?_
    obtain ⟨R2, e3, h⟩ := Option.bind_eq_some_iff.mp h
    refine ei_cv hb dX5_undo_21 (pc' := 24) (M1 := (qz_mk R2.1 R2.2)) (as := [.inr (.inl (some ((4, 0, 0) : qz_N)))]) (rest := []) (st' := []) hcn qz_c_5_148 qz_k_12 (qz_q_58_12) (Nat.le_of_ble_eq_true rfl) (Nat.le_of_ble_eq_true rfl) rfl rfl rfl rfl (vH_takeLatestInto F S _ e3) rfl rfl ?_
    refine ei_aln hb dX5_undo_24 (pc' := 25) rfl rfl ?_
    refine ei_gr hb dX5_undo_25 (pc' := 28) (x := some ((2, 0, 0) : qz_N)) hcn qz_f_5_26 rfl rfl rfl rfl ?_
    refine ei_gi hb dX5_undo_28 (pc' := 31) (x := (R2.1 ((2, 0, 0) : qz_N) 1)) hcn qz_f_5_145 rfl rfl rfl rfl ?_
    have h := Option.some.inj h
    subst h
    exact ei_reti hb dX5_undo_31 rfl
def gX_keep (F : Nat) (S : qz_S)  : Option (Int32 × qz_S) :=
  Option.bind (gW_copyFrom F S 5 0) fun R1 => qz_let (qz_wr R1 ((5, 0, 0) : qz_N) 4 (1 : Int32)) fun S3 => Option.bind (gW_workerCount F S3.1) fun x4 => some (x4, S3)
set_option maxHeartbeats 4000000 in
theorem vX_keep (F : Nat) (S : qz_S)  (r : Int32 × qz_S) (h : (gX_keep F S) = some r) : qz_E 59 0 (qz_in0 59 [.inr (.inl (some ((5, 0, 0) : qz_N)))]) [] (qz_mk S.1 S.2) (some (.inl r.1)) (qz_mk r.2.1 r.2.2) := by
  have hb : qz_b 59 = cX5_keep := rfl
  have hcn : qz_cn 59 = 5 := rfl
  have hml : qz_ml 59 = 1 := rfl
  show qz_E 59 0 [some (.inr (.inl (some ((5, 0, 0) : qz_N))))] [] _ _ _
  rw [gX_keep] at h
  refine ei_aln hb dX5_keep_0 (pc' := 1) rfl rfl ?_
  refine ei_gr hb dX5_keep_1 (pc' := 4) (x := some ((4, 5, 0) : qz_N)) hcn qz_f_5_30 rfl rfl rfl rfl ?_
  refine ei_aln hb dX5_keep_4 (pc' := 5) rfl rfl ?_
  refine ei_gr hb dX5_keep_5 (pc' := 8) (x := some ((4, 0, 0) : qz_N)) hcn qz_f_5_10 rfl rfl rfl rfl ?_
  obtain ⟨R1, e2, h⟩ := Option.bind_eq_some_iff.mp h
  refine ei_cv hb dX5_keep_8 (pc' := 11) (M1 := (qz_mk R1.1 R1.2)) (as := [.inr (.inl (some ((4, 0, 0) : qz_N)))]) (rest := []) (st' := []) hcn qz_c_5_151 qz_k_15 (qz_q_59_15) (Nat.le_of_ble_eq_true rfl) (Nat.le_of_ble_eq_true rfl) rfl rfl rfl rfl (vW_copyFrom F S 5 0 _ e2) rfl rfl ?_
  refine ei_aln hb dX5_keep_11 (pc' := 12) rfl rfl ?_
  refine ei_c hb dX5_keep_12 (v := (1 : Int32)) (pc' := 13) (by decide) rfl ?_
  obtain ⟨S3, eS3⟩ : ∃ q, q = qz_wr R1 ((5, 0, 0) : qz_N) 4 (1 : Int32) := ⟨_, rfl⟩
  rw [qz_let, ← eS3] at h
  refine ei_pi hb dX5_keep_13 (pc' := 16) (M1 := (qz_mk S3.1 S3.2)) hcn qz_f_5_33 rfl rfl (fun _ => by decide) rfl (by rw [eS3]; rfl) rfl ?_
  refine ei_aln hb dX5_keep_16 (pc' := 17) rfl rfl ?_
  refine ei_gr hb dX5_keep_17 (pc' := 20) (x := some ((4, 0, 0) : qz_N)) hcn qz_f_5_10 rfl rfl rfl rfl ?_
  obtain ⟨x4, e5, h⟩ := Option.bind_eq_some_iff.mp h
  refine ei_cv hb dX5_keep_20 (pc' := 23) (M1 := (qz_mk S3.1 S3.2)) (as := []) (rest := []) (st' := [.inl x4]) hcn qz_c_5_59 qz_k_25 (qz_q_59_25) (Nat.le_of_ble_eq_true rfl) (Nat.le_of_ble_eq_true rfl) rfl rfl rfl rfl (vW_workerCount F S3.1 S3.2 _ e5) rfl rfl ?_
  have h := Option.some.inj h
  subst h
  exact ei_reti hb dX5_keep_23 rfl
def gX_restore (F : Nat) (S : qz_S)  : Option (Int32 × qz_S) :=
  if (S.1 ((5, 0, 0) : qz_N) 4) = 0 then (some ((-5 : Int32), S)) else (Option.bind (gH_remember F S) fun R2 => Option.bind (gW_copyFrom F R2 0 5) fun R4 => Option.bind (gW_workerCount F R4.1) fun x6 => some (x6, R4))
set_option maxHeartbeats 4000000 in
theorem vX_restore (F : Nat) (S : qz_S)  (r : Int32 × qz_S) (h : (gX_restore F S) = some r) : qz_E 60 0 (qz_in0 60 [.inr (.inl (some ((5, 0, 0) : qz_N)))]) [] (qz_mk S.1 S.2) (some (.inl r.1)) (qz_mk r.2.1 r.2.2) := by
  have hb : qz_b 60 = cX5_restore := rfl
  have hcn : qz_cn 60 = 5 := rfl
  have hml : qz_ml 60 = 1 := rfl
  show qz_E 60 0 [some (.inr (.inl (some ((5, 0, 0) : qz_N))))] [] _ _ _
  rw [gX_restore] at h
  refine ei_aln hb dX5_restore_0 (pc' := 1) rfl rfl ?_
  refine ei_gi hb dX5_restore_1 (pc' := 4) (x := (S.1 ((5, 0, 0) : qz_N) 4)) hcn qz_f_5_33 rfl rfl rfl rfl ?_
  by_cases c1 : (S.1 ((5, 0, 0) : qz_N) 4) = 0
  · rw [if_pos c1] at h
    refine ei_ifF hb dX5_restore_4 (pc' := 7) (t := 10) (decide_eq_false (fun q => q c1)) (by decide) rfl ?_
    refine ei_b hb dX5_restore_7 (v := (-5 : Int32)) (pc' := 9) (by decide) rfl ?_
    have h := Option.some.inj h
    subst h
    exact ei_reti hb dX5_restore_9 rfl
  · rw [if_neg c1] at h
    refine ei_ifT hb dX5_restore_4 (pc' := 10) (decide_eq_true c1) (by decide) ?_
    refine ei_aln hb dX5_restore_10 (pc' := 11) rfl rfl ?_
    refine ei_gr hb dX5_restore_11 (pc' := 14) (x := some ((2, 0, 0) : qz_N)) hcn qz_f_5_26 rfl rfl rfl rfl ?_
    refine ei_aln hb dX5_restore_14 (pc' := 15) rfl rfl ?_
    refine ei_gr hb dX5_restore_15 (pc' := 18) (x := some ((4, 0, 0) : qz_N)) hcn qz_f_5_10 rfl rfl rfl rfl ?_
    obtain ⟨R2, e3, h⟩ := Option.bind_eq_some_iff.mp h
    refine ei_cv hb dX5_restore_18 (pc' := 21) (M1 := (qz_mk R2.1 R2.2)) (as := [.inr (.inl (some ((4, 0, 0) : qz_N)))]) (rest := []) (st' := []) hcn qz_c_5_41 qz_k_10 (qz_q_60_10) (Nat.le_of_ble_eq_true rfl) (Nat.le_of_ble_eq_true rfl) rfl rfl rfl rfl (vH_remember F S _ e3) rfl rfl ?_
    refine ei_aln hb dX5_restore_21 (pc' := 22) rfl rfl ?_
    refine ei_gr hb dX5_restore_22 (pc' := 25) (x := some ((4, 0, 0) : qz_N)) hcn qz_f_5_10 rfl rfl rfl rfl ?_
    refine ei_aln hb dX5_restore_25 (pc' := 26) rfl rfl ?_
    refine ei_gr hb dX5_restore_26 (pc' := 29) (x := some ((4, 5, 0) : qz_N)) hcn qz_f_5_30 rfl rfl rfl rfl ?_
    obtain ⟨R4, e5, h⟩ := Option.bind_eq_some_iff.mp h
    refine ei_cv hb dX5_restore_29 (pc' := 32) (M1 := (qz_mk R4.1 R4.2)) (as := [.inr (.inl (some ((4, 5, 0) : qz_N)))]) (rest := []) (st' := []) hcn qz_c_5_151 qz_k_15 (qz_q_60_15) (Nat.le_of_ble_eq_true rfl) (Nat.le_of_ble_eq_true rfl) rfl rfl rfl rfl (vW_copyFrom F R2 0 5 _ e5) rfl rfl ?_
    refine ei_aln hb dX5_restore_32 (pc' := 33) rfl rfl ?_
    refine ei_gr hb dX5_restore_33 (pc' := 36) (x := some ((4, 0, 0) : qz_N)) hcn qz_f_5_10 rfl rfl rfl rfl ?_
    obtain ⟨x6, e7, h⟩ := Option.bind_eq_some_iff.mp h
    refine ei_cv hb dX5_restore_36 (pc' := 39) (M1 := (qz_mk R4.1 R4.2)) (as := []) (rest := []) (st' := [.inl x6]) hcn qz_c_5_59 qz_k_25 (qz_q_60_25) (Nat.le_of_ble_eq_true rfl) (Nat.le_of_ble_eq_true rfl) rfl rfl rfl rfl (vW_workerCount F R4.1 R4.2 _ e7) rfl rfl ?_
    have h := Option.some.inj h
    subst h
    exact ei_reti hb dX5_restore_39 rfl
def gX_worker (F : Nat) (f : qz_F) (a0 : Int32) (a1 : Int32) : Option (Int32) :=
  Option.bind (gW_bookingOf F f a0) fun o1 => Option.elim o1 (some (-1 : Int32)) (fun j3 => if a1 = 0 then (some (f ((0, 0, j3) : qz_N) 1)) else (if a1 = 1 then (some (f ((0, 0, j3) : qz_N) 2)) else (if a1 = 2 then (some (f ((0, 0, j3) : qz_N) 3)) else (if a1 = 3 then (if (f ((0, 0, j3) : qz_N) 4) = 0 then (some (0 : Int32)) else (some (1 : Int32))) else (if a1 = 4 then (Option.bind (gW_startOfBusOf F f j3) fun x10 => Option.bind (gW_minutesBehind F f (f ((0, 0, j3) : qz_N) 1) (f ((0, 0, j3) : qz_N) 3) x10) fun x12 => some x12) else (if a1 = 5 then (Option.bind (gW_reason F f (f ((0, 0, j3) : qz_N) 2) (f ((0, 0, j3) : qz_N) 1) (f ((0, 0, j3) : qz_N) 3) (some j3)) fun x15 => some x15) else (if a1 = 6 then (some (f ((0, 0, j3) : qz_N) 5)) else (if a1 = 7 then (some (f ((0, 0, j3) : qz_N) 6)) else (if a1 = 8 then (some (f ((0, 0, j3) : qz_N) 7)) else (some (-2 : Int32)))))))))))
set_option maxHeartbeats 4000000 in
theorem vX_worker (F : Nat) (f : qz_F) (p : Nat → Nat) (a0 : Int32) (a1 : Int32) (r : Int32) (h : (gX_worker F f a0 a1) = some r) : qz_E 61 0 (qz_in0 61 [.inr (.inl (some ((5, 0, 0) : qz_N))), .inl a0, .inl a1]) [] (qz_mk f p) (some (.inl r)) (qz_mk f p) := by
  have hb : qz_b 61 = cX5_worker := rfl
  have hcn : qz_cn 61 = 5 := rfl
  have hml : qz_ml 61 = 4 := rfl
  show qz_E 61 0 [some (.inr (.inl (some ((5, 0, 0) : qz_N)))), some (.inl a0), some (.inl a1), none] [] _ _ _
  rw [gX_worker] at h
  refine ei_aln hb dX5_worker_0 (pc' := 1) rfl rfl ?_
  refine ei_gr hb dX5_worker_1 (pc' := 4) (x := some ((4, 0, 0) : qz_N)) hcn qz_f_5_10 rfl rfl rfl rfl ?_
  refine ei_iln hb dX5_worker_4 (pc' := 5) rfl rfl ?_
  obtain ⟨o1, e2, h⟩ := Option.bind_eq_some_iff.mp h
  refine ei_cv hb dX5_worker_5 (pc' := 8) (M1 := (qz_mk f p)) (as := [.inl a0]) (rest := []) (st' := [.inr (.inl (qz_bo o1))]) hcn qz_c_5_80 qz_k_23 (qz_q_61_23) (Nat.le_of_ble_eq_true rfl) (Nat.le_of_ble_eq_true rfl) rfl rfl rfl rfl (vW_bookingOf F f p a0 _ e2) rfl rfl ?_
  refine ei_asn hb dX5_worker_8 (pc' := 9) (ls' := [some (.inr (.inl (some ((5, 0, 0) : qz_N)))), some (.inl a0), some (.inl a1), some (.inr (.inl (qz_bo o1)))]) hml (Nat.le_of_ble_eq_true rfl) rfl rfl rfl ?_
  refine ei_aln hb dX5_worker_9 (pc' := 10) rfl rfl ?_
  rcases o1 with _ | j3
  · rw [Option.elim_none] at h
    refine ei_nnF hb dX5_worker_10 (pc' := 13) (t := 15) (by decide) rfl ?_
    refine ei_c hb dX5_worker_13 (v := (-1 : Int32)) (pc' := 14) (by decide) rfl ?_
    have h := Option.some.inj h
    subst h
    exact ei_reti hb dX5_worker_14 rfl
  · rw [Option.elim_some] at h
    refine ei_nnT hb dX5_worker_10 (pc' := 15) (by decide) ?_
    refine ei_iln hb dX5_worker_15 (pc' := 16) rfl rfl ?_
    by_cases c4 : a1 = 0
    · rw [if_pos c4] at h
      refine ei_tbI hb dX5_worker_16 (pc' := 68) (off := 52) (by rw [c4]; decide) (by rw [c4]; rfl) (by decide) ?_
      refine ei_aln hb dX5_worker_68 (pc' := 69) rfl rfl ?_
      refine ei_gi hb dX5_worker_69 (pc' := 72) (x := (f ((0, 0, j3) : qz_N) 1)) hcn qz_f_5_95 rfl rfl rfl rfl ?_
      have h := Option.some.inj h
      subst h
      exact ei_reti hb dX5_worker_72 rfl
    · rw [if_neg c4] at h
      by_cases c5 : a1 = 1
      · rw [if_pos c5] at h
        refine ei_tbI hb dX5_worker_16 (pc' := 73) (off := 57) (by rw [c5]; decide) (by rw [c5]; rfl) (by decide) ?_
        refine ei_aln hb dX5_worker_73 (pc' := 74) rfl rfl ?_
        refine ei_gi hb dX5_worker_74 (pc' := 77) (x := (f ((0, 0, j3) : qz_N) 2)) hcn qz_f_5_154 rfl rfl rfl rfl ?_
        have h := Option.some.inj h
        subst h
        exact ei_reti hb dX5_worker_77 rfl
      · rw [if_neg c5] at h
        by_cases c6 : a1 = 2
        · rw [if_pos c6] at h
          refine ei_tbI hb dX5_worker_16 (pc' := 78) (off := 62) (by rw [c6]; decide) (by rw [c6]; rfl) (by decide) ?_
          refine ei_aln hb dX5_worker_78 (pc' := 79) rfl rfl ?_
          refine ei_gi hb dX5_worker_79 (pc' := 82) (x := (f ((0, 0, j3) : qz_N) 3)) hcn qz_f_5_157 rfl rfl rfl rfl ?_
          have h := Option.some.inj h
          subst h
          exact ei_reti hb dX5_worker_82 rfl
        · rw [if_neg c6] at h
          by_cases c7 : a1 = 3
          · rw [if_pos c7] at h
            refine ei_tbI hb dX5_worker_16 (pc' := 83) (off := 67) (by rw [c7]; decide) (by rw [c7]; rfl) (by decide) ?_
            refine ei_aln hb dX5_worker_83 (pc' := 84) rfl rfl ?_
            refine ei_gi hb dX5_worker_84 (pc' := 87) (x := (f ((0, 0, j3) : qz_N) 4)) hcn qz_f_5_98 rfl rfl rfl rfl ?_
            by_cases c8 : (f ((0, 0, j3) : qz_N) 4) = 0
            · rw [if_pos c8] at h
              refine ei_ifT hb dX5_worker_87 (pc' := 94) (decide_eq_true c8) (by decide) ?_
              refine ei_c hb dX5_worker_94 (v := (0 : Int32)) (pc' := 95) (by decide) rfl ?_
              have h := Option.some.inj h
              subst h
              exact ei_reti hb dX5_worker_95 rfl
            · rw [if_neg c8] at h
              refine ei_ifF hb dX5_worker_87 (pc' := 90) (t := 94) (decide_eq_false c8) (by decide) rfl ?_
              refine ei_c hb dX5_worker_90 (v := (1 : Int32)) (pc' := 91) (by decide) rfl ?_
              refine ei_go hb dX5_worker_91 (pc' := 95) (by decide) ?_
              have h := Option.some.inj h
              subst h
              exact ei_reti hb dX5_worker_95 rfl
          · rw [if_neg c7] at h
            by_cases c9 : a1 = 4
            · rw [if_pos c9] at h
              refine ei_tbI hb dX5_worker_16 (pc' := 96) (off := 80) (by rw [c9]; decide) (by rw [c9]; rfl) (by decide) ?_
              refine ei_aln hb dX5_worker_96 (pc' := 97) rfl rfl ?_
              refine ei_gr hb dX5_worker_97 (pc' := 100) (x := some ((4, 0, 0) : qz_N)) hcn qz_f_5_10 rfl rfl rfl rfl ?_
              refine ei_aln hb dX5_worker_100 (pc' := 101) rfl rfl ?_
              refine ei_gi hb dX5_worker_101 (pc' := 104) (x := (f ((0, 0, j3) : qz_N) 1)) hcn qz_f_5_95 rfl rfl rfl rfl ?_
              refine ei_aln hb dX5_worker_104 (pc' := 105) rfl rfl ?_
              refine ei_gi hb dX5_worker_105 (pc' := 108) (x := (f ((0, 0, j3) : qz_N) 3)) hcn qz_f_5_157 rfl rfl rfl rfl ?_
              refine ei_aln hb dX5_worker_108 (pc' := 109) rfl rfl ?_
              refine ei_gr hb dX5_worker_109 (pc' := 112) (x := some ((4, 0, 0) : qz_N)) hcn qz_f_5_10 rfl rfl rfl rfl ?_
              refine ei_aln hb dX5_worker_112 (pc' := 113) rfl rfl ?_
              obtain ⟨x10, e11, h⟩ := Option.bind_eq_some_iff.mp h
              refine ei_cv hb dX5_worker_113 (pc' := 116) (M1 := (qz_mk f p)) (as := [.inr (.inl (some ((0, 0, j3) : qz_N)))]) (rest := [.inl (f ((0, 0, j3) : qz_N) 3), .inl (f ((0, 0, j3) : qz_N) 1), .inr (.inl (some ((4, 0, 0) : qz_N)))]) (st' := [.inl x10, .inl (f ((0, 0, j3) : qz_N) 3), .inl (f ((0, 0, j3) : qz_N) 1), .inr (.inl (some ((4, 0, 0) : qz_N)))]) hcn qz_c_5_160 qz_k_36 (qz_q_61_36) (Nat.le_of_ble_eq_true rfl) (Nat.le_of_ble_eq_true rfl) rfl rfl rfl rfl (vW_startOfBusOf F f p j3 _ e11) rfl rfl ?_
              obtain ⟨x12, e13, h⟩ := Option.bind_eq_some_iff.mp h
              refine ei_cv hb dX5_worker_116 (pc' := 119) (M1 := (qz_mk f p)) (as := [.inl (f ((0, 0, j3) : qz_N) 1), .inl (f ((0, 0, j3) : qz_N) 3), .inl x10]) (rest := []) (st' := [.inl x12]) hcn qz_c_5_164 qz_k_37 (qz_q_61_37) (Nat.le_of_ble_eq_true rfl) (Nat.le_of_ble_eq_true rfl) rfl rfl rfl rfl (vW_minutesBehind F f p (f ((0, 0, j3) : qz_N) 1) (f ((0, 0, j3) : qz_N) 3) x10 _ e13) rfl rfl ?_
              have h := Option.some.inj h
              subst h
              exact ei_reti hb dX5_worker_119 rfl
            · rw [if_neg c9] at h
              by_cases c14 : a1 = 5
              · rw [if_pos c14] at h
                refine ei_tbI hb dX5_worker_16 (pc' := 120) (off := 104) (by rw [c14]; decide) (by rw [c14]; rfl) (by decide) ?_
                refine ei_aln hb dX5_worker_120 (pc' := 121) rfl rfl ?_
                refine ei_gr hb dX5_worker_121 (pc' := 124) (x := some ((4, 0, 0) : qz_N)) hcn qz_f_5_10 rfl rfl rfl rfl ?_
                refine ei_aln hb dX5_worker_124 (pc' := 125) rfl rfl ?_
                refine ei_gi hb dX5_worker_125 (pc' := 128) (x := (f ((0, 0, j3) : qz_N) 2)) hcn qz_f_5_154 rfl rfl rfl rfl ?_
                refine ei_aln hb dX5_worker_128 (pc' := 129) rfl rfl ?_
                refine ei_gi hb dX5_worker_129 (pc' := 132) (x := (f ((0, 0, j3) : qz_N) 1)) hcn qz_f_5_95 rfl rfl rfl rfl ?_
                refine ei_aln hb dX5_worker_132 (pc' := 133) rfl rfl ?_
                refine ei_gi hb dX5_worker_133 (pc' := 136) (x := (f ((0, 0, j3) : qz_N) 3)) hcn qz_f_5_157 rfl rfl rfl rfl ?_
                refine ei_aln hb dX5_worker_136 (pc' := 137) rfl rfl ?_
                obtain ⟨x15, e16, h⟩ := Option.bind_eq_some_iff.mp h
                refine ei_cv hb dX5_worker_137 (pc' := 140) (M1 := (qz_mk f p)) (as := [.inl (f ((0, 0, j3) : qz_N) 2), .inl (f ((0, 0, j3) : qz_N) 1), .inl (f ((0, 0, j3) : qz_N) 3), .inr (.inl (some ((0, 0, j3) : qz_N)))]) (rest := []) (st' := [.inl x15]) hcn qz_c_5_167 qz_k_27 (qz_q_61_27) (Nat.le_of_ble_eq_true rfl) (Nat.le_of_ble_eq_true rfl) rfl rfl rfl rfl (vW_reason F f p (f ((0, 0, j3) : qz_N) 2) (f ((0, 0, j3) : qz_N) 1) (f ((0, 0, j3) : qz_N) 3) (some j3) _ e16) rfl rfl ?_
                have h := Option.some.inj h
                subst h
                exact ei_reti hb dX5_worker_140 rfl
              · rw [if_neg c14] at h
                by_cases c17 : a1 = 6
                · rw [if_pos c17] at h
                  refine ei_tbI hb dX5_worker_16 (pc' := 141) (off := 125) (by rw [c17]; decide) (by rw [c17]; rfl) (by decide) ?_
                  refine ei_aln hb dX5_worker_141 (pc' := 142) rfl rfl ?_
                  refine ei_gi hb dX5_worker_142 (pc' := 145) (x := (f ((0, 0, j3) : qz_N) 5)) hcn qz_f_5_171 rfl rfl rfl rfl ?_
                  have h := Option.some.inj h
                  subst h
                  exact ei_reti hb dX5_worker_145 rfl
                · rw [if_neg c17] at h
                  by_cases c18 : a1 = 7
                  · rw [if_pos c18] at h
                    refine ei_tbI hb dX5_worker_16 (pc' := 146) (off := 130) (by rw [c18]; decide) (by rw [c18]; rfl) (by decide) ?_
                    refine ei_aln hb dX5_worker_146 (pc' := 147) rfl rfl ?_
                    refine ei_gi hb dX5_worker_147 (pc' := 150) (x := (f ((0, 0, j3) : qz_N) 6)) hcn qz_f_5_174 rfl rfl rfl rfl ?_
                    have h := Option.some.inj h
                    subst h
                    exact ei_reti hb dX5_worker_150 rfl
                  · rw [if_neg c18] at h
                    by_cases c19 : a1 = 8
                    · rw [if_pos c19] at h
                      refine ei_tbI hb dX5_worker_16 (pc' := 151) (off := 135) (by rw [c19]; decide) (by rw [c19]; rfl) (by decide) ?_
                      refine ei_aln hb dX5_worker_151 (pc' := 152) rfl rfl ?_
                      refine ei_gi hb dX5_worker_152 (pc' := 155) (x := (f ((0, 0, j3) : qz_N) 7)) hcn qz_f_5_175 rfl rfl rfl rfl ?_
                      have h := Option.some.inj h
                      subst h
                      exact ei_reti hb dX5_worker_155 rfl
                    · rw [if_neg c19] at h
                      have tc4 := lv_neT c4 (show (0 : Int32).toInt = 0 by decide)
                      have tc5 := lv_neT c5 (show (1 : Int32).toInt = 1 by decide)
                      have tc6 := lv_neT c6 (show (2 : Int32).toInt = 2 by decide)
                      have tc7 := lv_neT c7 (show (3 : Int32).toInt = 3 by decide)
                      have tc9 := lv_neT c9 (show (4 : Int32).toInt = 4 by decide)
                      have tc14 := lv_neT c14 (show (5 : Int32).toInt = 5 by decide)
                      have tc17 := lv_neT c17 (show (6 : Int32).toInt = 6 by decide)
                      have tc18 := lv_neT c18 (show (7 : Int32).toInt = 7 by decide)
                      have tc19 := lv_neT c19 (show (8 : Int32).toInt = 8 by decide)
                      refine ei_tbO hb dX5_worker_16 (pc' := 156) (by omega) (by decide) ?_
                      refine ei_b hb dX5_worker_156 (v := (-2 : Int32)) (pc' := 158) (by decide) rfl ?_
                      have h := Option.some.inj h
                      subst h
                      exact ei_reti hb dX5_worker_158 rfl
def gX_bus (F : Nat) (f : qz_F) (a0 : Int32) (a1 : Int32) (a2 : Int32) : Option (Int32) :=
  if (gX_isLine f a0) = 0 then (some (-1 : Int32)) else (if (gW_hasEnd f a1) = 0 then (some (-1 : Int32)) else (Option.bind (gW_partnerOf F f a0 a1) fun x3 => if a2 = 0 then (Option.bind (gW_startOf F f a1 x3) fun x6 => some x6) else (if a2 = 1 then (some x3) else (if a2 = 2 then (Option.bind (gW_takenSeats F f a0 a1 x3 (1 : Int32) none) fun x10 => some x10) else (if a2 = 3 then (Option.bind (gW_waitingFor F f a0 a1 x3) fun x13 => some x13) else (if a2 = 4 then (Option.bind (gW_farthestPromised F f a0 a1 x3) fun x16 => some x16) else (if a2 = 5 then (Option.bind (gW_costToday F f a0 a1 x3) fun x19 => some x19) else (some (-2 : Int32)))))))))
set_option maxHeartbeats 4000000 in
theorem vX_bus (F : Nat) (f : qz_F) (p : Nat → Nat) (a0 : Int32) (a1 : Int32) (a2 : Int32) (r : Int32) (h : (gX_bus F f a0 a1 a2) = some r) : qz_E 62 0 (qz_in0 62 [.inr (.inl (some ((5, 0, 0) : qz_N))), .inl a0, .inl a1, .inl a2]) [] (qz_mk f p) (some (.inl r)) (qz_mk f p) := by
  have hb : qz_b 62 = cX5_bus := rfl
  have hcn : qz_cn 62 = 5 := rfl
  have hml : qz_ml 62 = 5 := rfl
  show qz_E 62 0 [some (.inr (.inl (some ((5, 0, 0) : qz_N)))), some (.inl a0), some (.inl a1), some (.inl a2), none] [] _ _ _
  rw [gX_bus] at h
  refine ei_iln hb dX5_bus_0 (pc' := 1) rfl rfl ?_
  refine ei_cs hb dX5_bus_1 (pc' := 4) (M1 := (qz_mk f p)) (as := [.inl a0]) (rest := []) (st' := [.inl (gX_isLine f a0)]) hcn qz_c_5_53 rfl qz_k_66 (qz_q_62_66) (Nat.le_of_ble_eq_true rfl) (Nat.le_of_ble_eq_true rfl) rfl rfl rfl (vX_isLine f p a0) rfl rfl ?_
  by_cases c1 : (gX_isLine f a0) = 0
  · rw [if_pos c1] at h
    refine ei_ifT hb dX5_bus_4 (pc' := 18) (decide_eq_true c1) (by decide) ?_
    refine ei_c hb dX5_bus_18 (v := (-1 : Int32)) (pc' := 19) (by decide) rfl ?_
    have h := Option.some.inj h
    subst h
    exact ei_reti hb dX5_bus_19 rfl
  · rw [if_neg c1] at h
    refine ei_ifF hb dX5_bus_4 (pc' := 7) (t := 18) (decide_eq_false c1) (by decide) rfl ?_
    refine ei_aln hb dX5_bus_7 (pc' := 8) rfl rfl ?_
    refine ei_gr hb dX5_bus_8 (pc' := 11) (x := some ((4, 0, 0) : qz_N)) hcn qz_f_5_10 rfl rfl rfl rfl ?_
    refine ei_iln hb dX5_bus_11 (pc' := 12) rfl rfl ?_
    refine ei_cv hb dX5_bus_12 (pc' := 15) (M1 := (qz_mk f p)) (as := [.inl a1]) (rest := []) (st' := [.inl (gW_hasEnd f a1)]) hcn qz_c_5_49 qz_k_19 (qz_q_62_19) (Nat.le_of_ble_eq_true rfl) (Nat.le_of_ble_eq_true rfl) rfl rfl rfl rfl (vW_hasEnd f p a1) rfl rfl ?_
    by_cases c2 : (gW_hasEnd f a1) = 0
    · rw [if_pos c2] at h
      refine ei_ifF hb dX5_bus_15 (pc' := 18) (t := 20) (decide_eq_false (fun q => q c2)) (by decide) rfl ?_
      refine ei_c hb dX5_bus_18 (v := (-1 : Int32)) (pc' := 19) (by decide) rfl ?_
      have h := Option.some.inj h
      subst h
      exact ei_reti hb dX5_bus_19 rfl
    · rw [if_neg c2] at h
      refine ei_ifT hb dX5_bus_15 (pc' := 20) (decide_eq_true c2) (by decide) ?_
      refine ei_aln hb dX5_bus_20 (pc' := 21) rfl rfl ?_
      refine ei_gr hb dX5_bus_21 (pc' := 24) (x := some ((4, 0, 0) : qz_N)) hcn qz_f_5_10 rfl rfl rfl rfl ?_
      refine ei_iln hb dX5_bus_24 (pc' := 25) rfl rfl ?_
      refine ei_iln hb dX5_bus_25 (pc' := 26) rfl rfl ?_
      obtain ⟨x3, e4, h⟩ := Option.bind_eq_some_iff.mp h
      refine ei_cv hb dX5_bus_26 (pc' := 29) (M1 := (qz_mk f p)) (as := [.inl a0, .inl a1]) (rest := []) (st' := [.inl x3]) hcn qz_c_5_112 qz_k_32 (qz_q_62_32) (Nat.le_of_ble_eq_true rfl) (Nat.le_of_ble_eq_true rfl) rfl rfl rfl rfl (vW_partnerOf F f p a0 a1 _ e4) rfl rfl ?_
      refine ei_is hb dX5_bus_29 (pc' := 31) (ls' := [some (.inr (.inl (some ((5, 0, 0) : qz_N)))), some (.inl a0), some (.inl a1), some (.inl a2), some (.inl x3)]) hml (Nat.le_of_ble_eq_true rfl) rfl rfl rfl ?_
      refine ei_iln hb dX5_bus_31 (pc' := 32) rfl rfl ?_
      by_cases c5 : a2 = 0
      · rw [if_pos c5] at h
        refine ei_tbI hb dX5_bus_32 (pc' := 72) (off := 40) (by rw [c5]; decide) (by rw [c5]; rfl) (by decide) ?_
        refine ei_aln hb dX5_bus_72 (pc' := 73) rfl rfl ?_
        refine ei_gr hb dX5_bus_73 (pc' := 76) (x := some ((4, 0, 0) : qz_N)) hcn qz_f_5_10 rfl rfl rfl rfl ?_
        refine ei_iln hb dX5_bus_76 (pc' := 77) rfl rfl ?_
        refine ei_il hb dX5_bus_77 (pc' := 79) rfl rfl ?_
        obtain ⟨x6, e7, h⟩ := Option.bind_eq_some_iff.mp h
        refine ei_cv hb dX5_bus_79 (pc' := 82) (M1 := (qz_mk f p)) (as := [.inl a1, .inl x3]) (rest := []) (st' := [.inl x6]) hcn qz_c_5_108 qz_k_35 (qz_q_62_35) (Nat.le_of_ble_eq_true rfl) (Nat.le_of_ble_eq_true rfl) rfl rfl rfl rfl (vW_startOf F f p a1 x3 _ e7) rfl rfl ?_
        have h := Option.some.inj h
        subst h
        exact ei_reti hb dX5_bus_82 rfl
      · rw [if_neg c5] at h
        by_cases c8 : a2 = 1
        · rw [if_pos c8] at h
          refine ei_tbI hb dX5_bus_32 (pc' := 83) (off := 51) (by rw [c8]; decide) (by rw [c8]; rfl) (by decide) ?_
          refine ei_il hb dX5_bus_83 (pc' := 85) rfl rfl ?_
          have h := Option.some.inj h
          subst h
          exact ei_reti hb dX5_bus_85 rfl
        · rw [if_neg c8] at h
          by_cases c9 : a2 = 2
          · rw [if_pos c9] at h
            refine ei_tbI hb dX5_bus_32 (pc' := 86) (off := 54) (by rw [c9]; decide) (by rw [c9]; rfl) (by decide) ?_
            refine ei_aln hb dX5_bus_86 (pc' := 87) rfl rfl ?_
            refine ei_gr hb dX5_bus_87 (pc' := 90) (x := some ((4, 0, 0) : qz_N)) hcn qz_f_5_10 rfl rfl rfl rfl ?_
            refine ei_iln hb dX5_bus_90 (pc' := 91) rfl rfl ?_
            refine ei_iln hb dX5_bus_91 (pc' := 92) rfl rfl ?_
            refine ei_il hb dX5_bus_92 (pc' := 94) rfl rfl ?_
            refine ei_c hb dX5_bus_94 (v := (1 : Int32)) (pc' := 95) (by decide) rfl ?_
            refine ei_null hb dX5_bus_95 (pc' := 96) rfl ?_
            obtain ⟨x10, e11, h⟩ := Option.bind_eq_some_iff.mp h
            refine ei_cv hb dX5_bus_96 (pc' := 99) (M1 := (qz_mk f p)) (as := [.inl a0, .inl a1, .inl x3, .inl (1 : Int32), .inr (.inl none)]) (rest := []) (st' := [.inl x10]) hcn qz_c_5_178 qz_k_39 (qz_q_62_39) (Nat.le_of_ble_eq_true rfl) (Nat.le_of_ble_eq_true rfl) rfl rfl rfl rfl (vW_takenSeats F f p a0 a1 x3 (1 : Int32) none _ e11) rfl rfl ?_
            have h := Option.some.inj h
            subst h
            exact ei_reti hb dX5_bus_99 rfl
          · rw [if_neg c9] at h
            by_cases c12 : a2 = 3
            · rw [if_pos c12] at h
              refine ei_tbI hb dX5_bus_32 (pc' := 100) (off := 68) (by rw [c12]; decide) (by rw [c12]; rfl) (by decide) ?_
              refine ei_aln hb dX5_bus_100 (pc' := 101) rfl rfl ?_
              refine ei_gr hb dX5_bus_101 (pc' := 104) (x := some ((4, 0, 0) : qz_N)) hcn qz_f_5_10 rfl rfl rfl rfl ?_
              refine ei_iln hb dX5_bus_104 (pc' := 105) rfl rfl ?_
              refine ei_iln hb dX5_bus_105 (pc' := 106) rfl rfl ?_
              refine ei_il hb dX5_bus_106 (pc' := 108) rfl rfl ?_
              obtain ⟨x13, e14, h⟩ := Option.bind_eq_some_iff.mp h
              refine ei_cv hb dX5_bus_108 (pc' := 111) (M1 := (qz_mk f p)) (as := [.inl a0, .inl a1, .inl x3]) (rest := []) (st' := [.inl x13]) hcn qz_c_5_182 qz_k_40 (qz_q_62_40) (Nat.le_of_ble_eq_true rfl) (Nat.le_of_ble_eq_true rfl) rfl rfl rfl rfl (vW_waitingFor F f p a0 a1 x3 _ e14) rfl rfl ?_
              have h := Option.some.inj h
              subst h
              exact ei_reti hb dX5_bus_111 rfl
            · rw [if_neg c12] at h
              by_cases c15 : a2 = 4
              · rw [if_pos c15] at h
                refine ei_tbI hb dX5_bus_32 (pc' := 112) (off := 80) (by rw [c15]; decide) (by rw [c15]; rfl) (by decide) ?_
                refine ei_aln hb dX5_bus_112 (pc' := 113) rfl rfl ?_
                refine ei_gr hb dX5_bus_113 (pc' := 116) (x := some ((4, 0, 0) : qz_N)) hcn qz_f_5_10 rfl rfl rfl rfl ?_
                refine ei_iln hb dX5_bus_116 (pc' := 117) rfl rfl ?_
                refine ei_iln hb dX5_bus_117 (pc' := 118) rfl rfl ?_
                refine ei_il hb dX5_bus_118 (pc' := 120) rfl rfl ?_
                obtain ⟨x16, e17, h⟩ := Option.bind_eq_some_iff.mp h
                refine ei_cv hb dX5_bus_120 (pc' := 123) (M1 := (qz_mk f p)) (as := [.inl a0, .inl a1, .inl x3]) (rest := []) (st' := [.inl x16]) hcn qz_c_5_185 qz_k_41 (qz_q_62_41) (Nat.le_of_ble_eq_true rfl) (Nat.le_of_ble_eq_true rfl) rfl rfl rfl rfl (vW_farthestPromised F f p a0 a1 x3 _ e17) rfl rfl ?_
                have h := Option.some.inj h
                subst h
                exact ei_reti hb dX5_bus_123 rfl
              · rw [if_neg c15] at h
                by_cases c18 : a2 = 5
                · rw [if_pos c18] at h
                  refine ei_tbI hb dX5_bus_32 (pc' := 124) (off := 92) (by rw [c18]; decide) (by rw [c18]; rfl) (by decide) ?_
                  refine ei_aln hb dX5_bus_124 (pc' := 125) rfl rfl ?_
                  refine ei_gr hb dX5_bus_125 (pc' := 128) (x := some ((4, 0, 0) : qz_N)) hcn qz_f_5_10 rfl rfl rfl rfl ?_
                  refine ei_iln hb dX5_bus_128 (pc' := 129) rfl rfl ?_
                  refine ei_iln hb dX5_bus_129 (pc' := 130) rfl rfl ?_
                  refine ei_il hb dX5_bus_130 (pc' := 132) rfl rfl ?_
                  obtain ⟨x19, e20, h⟩ := Option.bind_eq_some_iff.mp h
                  refine ei_cv hb dX5_bus_132 (pc' := 135) (M1 := (qz_mk f p)) (as := [.inl a0, .inl a1, .inl x3]) (rest := []) (st' := [.inl x19]) hcn qz_c_5_188 qz_k_45 (qz_q_62_45) (Nat.le_of_ble_eq_true rfl) (Nat.le_of_ble_eq_true rfl) rfl rfl rfl rfl (vW_costToday F f p a0 a1 x3 _ e20) rfl rfl ?_
                  have h := Option.some.inj h
                  subst h
                  exact ei_reti hb dX5_bus_135 rfl
                · rw [if_neg c18] at h
                  have tc5 := lv_neT c5 (show (0 : Int32).toInt = 0 by decide)
                  have tc8 := lv_neT c8 (show (1 : Int32).toInt = 1 by decide)
                  have tc9 := lv_neT c9 (show (2 : Int32).toInt = 2 by decide)
                  have tc12 := lv_neT c12 (show (3 : Int32).toInt = 3 by decide)
                  have tc15 := lv_neT c15 (show (4 : Int32).toInt = 4 by decide)
                  have tc18 := lv_neT c18 (show (5 : Int32).toInt = 5 by decide)
                  refine ei_tbO hb dX5_bus_32 (pc' := 136) (by omega) (by decide) ?_
                  refine ei_b hb dX5_bus_136 (v := (-2 : Int32)) (pc' := 138) (by decide) rfl ?_
                  have h := Option.some.inj h
                  subst h
                  exact ei_reti hb dX5_bus_138 rfl
def gX_taken (F : Nat) (f : qz_F) (a0 : Int32) (a1 : Int32) (a2 : Int32) : Option (Int32) :=
  if (gX_isLine f a0) = 0 then (some (-1 : Int32)) else (if (gW_hasEnd f a1) = 0 then (some (-1 : Int32)) else (if (gX_isStop f a2) = 0 then (some (-1 : Int32)) else (Option.bind (gW_partnerOf F f a0 a1) fun x4 => Option.bind (gW_takenSeats F f a0 a1 x4 a2 none) fun x6 => some x6)))
set_option maxHeartbeats 4000000 in
theorem vX_taken (F : Nat) (f : qz_F) (p : Nat → Nat) (a0 : Int32) (a1 : Int32) (a2 : Int32) (r : Int32) (h : (gX_taken F f a0 a1 a2) = some r) : qz_E 63 0 (qz_in0 63 [.inr (.inl (some ((5, 0, 0) : qz_N))), .inl a0, .inl a1, .inl a2]) [] (qz_mk f p) (some (.inl r)) (qz_mk f p) := by
  have hb : qz_b 63 = cX5_taken := rfl
  have hcn : qz_cn 63 = 5 := rfl
  have hml : qz_ml 63 = 4 := rfl
  show qz_E 63 0 [some (.inr (.inl (some ((5, 0, 0) : qz_N)))), some (.inl a0), some (.inl a1), some (.inl a2)] [] _ _ _
  rw [gX_taken] at h
  refine ei_iln hb dX5_taken_0 (pc' := 1) rfl rfl ?_
  refine ei_cs hb dX5_taken_1 (pc' := 4) (M1 := (qz_mk f p)) (as := [.inl a0]) (rest := []) (st' := [.inl (gX_isLine f a0)]) hcn qz_c_5_53 rfl qz_k_66 (qz_q_63_66) (Nat.le_of_ble_eq_true rfl) (Nat.le_of_ble_eq_true rfl) rfl rfl rfl (vX_isLine f p a0) rfl rfl ?_
  by_cases c1 : (gX_isLine f a0) = 0
  · rw [if_pos c1] at h
    refine ei_ifT hb dX5_taken_4 (pc' := 25) (decide_eq_true c1) (by decide) ?_
    refine ei_c hb dX5_taken_25 (v := (-1 : Int32)) (pc' := 26) (by decide) rfl ?_
    have h := Option.some.inj h
    subst h
    exact ei_reti hb dX5_taken_26 rfl
  · rw [if_neg c1] at h
    refine ei_ifF hb dX5_taken_4 (pc' := 7) (t := 25) (decide_eq_false c1) (by decide) rfl ?_
    refine ei_aln hb dX5_taken_7 (pc' := 8) rfl rfl ?_
    refine ei_gr hb dX5_taken_8 (pc' := 11) (x := some ((4, 0, 0) : qz_N)) hcn qz_f_5_10 rfl rfl rfl rfl ?_
    refine ei_iln hb dX5_taken_11 (pc' := 12) rfl rfl ?_
    refine ei_cv hb dX5_taken_12 (pc' := 15) (M1 := (qz_mk f p)) (as := [.inl a1]) (rest := []) (st' := [.inl (gW_hasEnd f a1)]) hcn qz_c_5_49 qz_k_19 (qz_q_63_19) (Nat.le_of_ble_eq_true rfl) (Nat.le_of_ble_eq_true rfl) rfl rfl rfl rfl (vW_hasEnd f p a1) rfl rfl ?_
    by_cases c2 : (gW_hasEnd f a1) = 0
    · rw [if_pos c2] at h
      refine ei_ifT hb dX5_taken_15 (pc' := 25) (decide_eq_true c2) (by decide) ?_
      refine ei_c hb dX5_taken_25 (v := (-1 : Int32)) (pc' := 26) (by decide) rfl ?_
      have h := Option.some.inj h
      subst h
      exact ei_reti hb dX5_taken_26 rfl
    · rw [if_neg c2] at h
      refine ei_ifF hb dX5_taken_15 (pc' := 18) (t := 25) (decide_eq_false c2) (by decide) rfl ?_
      refine ei_iln hb dX5_taken_18 (pc' := 19) rfl rfl ?_
      refine ei_cs hb dX5_taken_19 (pc' := 22) (M1 := (qz_mk f p)) (as := [.inl a2]) (rest := []) (st' := [.inl (gX_isStop f a2)]) hcn qz_c_5_56 rfl qz_k_67 (qz_q_63_67) (Nat.le_of_ble_eq_true rfl) (Nat.le_of_ble_eq_true rfl) rfl rfl rfl (vX_isStop f p a2) rfl rfl ?_
      by_cases c3 : (gX_isStop f a2) = 0
      · rw [if_pos c3] at h
        refine ei_ifF hb dX5_taken_22 (pc' := 25) (t := 27) (decide_eq_false (fun q => q c3)) (by decide) rfl ?_
        refine ei_c hb dX5_taken_25 (v := (-1 : Int32)) (pc' := 26) (by decide) rfl ?_
        have h := Option.some.inj h
        subst h
        exact ei_reti hb dX5_taken_26 rfl
      · rw [if_neg c3] at h
        refine ei_ifT hb dX5_taken_22 (pc' := 27) (decide_eq_true c3) (by decide) ?_
        refine ei_aln hb dX5_taken_27 (pc' := 28) rfl rfl ?_
        refine ei_gr hb dX5_taken_28 (pc' := 31) (x := some ((4, 0, 0) : qz_N)) hcn qz_f_5_10 rfl rfl rfl rfl ?_
        refine ei_iln hb dX5_taken_31 (pc' := 32) rfl rfl ?_
        refine ei_iln hb dX5_taken_32 (pc' := 33) rfl rfl ?_
        refine ei_aln hb dX5_taken_33 (pc' := 34) rfl rfl ?_
        refine ei_gr hb dX5_taken_34 (pc' := 37) (x := some ((4, 0, 0) : qz_N)) hcn qz_f_5_10 rfl rfl rfl rfl ?_
        refine ei_iln hb dX5_taken_37 (pc' := 38) rfl rfl ?_
        refine ei_iln hb dX5_taken_38 (pc' := 39) rfl rfl ?_
        obtain ⟨x4, e5, h⟩ := Option.bind_eq_some_iff.mp h
        refine ei_cv hb dX5_taken_39 (pc' := 42) (M1 := (qz_mk f p)) (as := [.inl a0, .inl a1]) (rest := [.inl a1, .inl a0, .inr (.inl (some ((4, 0, 0) : qz_N)))]) (st' := [.inl x4, .inl a1, .inl a0, .inr (.inl (some ((4, 0, 0) : qz_N)))]) hcn qz_c_5_112 qz_k_32 (qz_q_63_32) (Nat.le_of_ble_eq_true rfl) (Nat.le_of_ble_eq_true rfl) rfl rfl rfl rfl (vW_partnerOf F f p a0 a1 _ e5) rfl rfl ?_
        refine ei_iln hb dX5_taken_42 (pc' := 43) rfl rfl ?_
        refine ei_null hb dX5_taken_43 (pc' := 44) rfl ?_
        obtain ⟨x6, e7, h⟩ := Option.bind_eq_some_iff.mp h
        refine ei_cv hb dX5_taken_44 (pc' := 47) (M1 := (qz_mk f p)) (as := [.inl a0, .inl a1, .inl x4, .inl a2, .inr (.inl none)]) (rest := []) (st' := [.inl x6]) hcn qz_c_5_178 qz_k_39 (qz_q_63_39) (Nat.le_of_ble_eq_true rfl) (Nat.le_of_ble_eq_true rfl) rfl rfl rfl rfl (vW_takenSeats F f p a0 a1 x4 a2 none _ e7) rfl rfl ?_
        have h := Option.some.inj h
        subst h
        exact ei_reti hb dX5_taken_47 rfl
def gX_why (F : Nat) (f : qz_F) (a0 : Int32) (a1 : Int32) (a2 : Int32) : Option (Int32) :=
  if (gX_isLine f a0) = 0 then (some (-1 : Int32)) else (if (gX_isStop f a2) = 0 then (some (-1 : Int32)) else (Option.bind (gW_reason F f a0 a1 a2 none) fun x3 => some x3))
set_option maxHeartbeats 4000000 in
theorem vX_why (F : Nat) (f : qz_F) (p : Nat → Nat) (a0 : Int32) (a1 : Int32) (a2 : Int32) (r : Int32) (h : (gX_why F f a0 a1 a2) = some r) : qz_E 64 0 (qz_in0 64 [.inr (.inl (some ((5, 0, 0) : qz_N))), .inl a0, .inl a1, .inl a2]) [] (qz_mk f p) (some (.inl r)) (qz_mk f p) := by
  have hb : qz_b 64 = cX5_why := rfl
  have hcn : qz_cn 64 = 5 := rfl
  have hml : qz_ml 64 = 4 := rfl
  show qz_E 64 0 [some (.inr (.inl (some ((5, 0, 0) : qz_N)))), some (.inl a0), some (.inl a1), some (.inl a2)] [] _ _ _
  rw [gX_why] at h
  refine ei_iln hb dX5_why_0 (pc' := 1) rfl rfl ?_
  refine ei_cs hb dX5_why_1 (pc' := 4) (M1 := (qz_mk f p)) (as := [.inl a0]) (rest := []) (st' := [.inl (gX_isLine f a0)]) hcn qz_c_5_53 rfl qz_k_66 (qz_q_64_66) (Nat.le_of_ble_eq_true rfl) (Nat.le_of_ble_eq_true rfl) rfl rfl rfl (vX_isLine f p a0) rfl rfl ?_
  by_cases c1 : (gX_isLine f a0) = 0
  · rw [if_pos c1] at h
    refine ei_ifT hb dX5_why_4 (pc' := 14) (decide_eq_true c1) (by decide) ?_
    refine ei_c hb dX5_why_14 (v := (-1 : Int32)) (pc' := 15) (by decide) rfl ?_
    have h := Option.some.inj h
    subst h
    exact ei_reti hb dX5_why_15 rfl
  · rw [if_neg c1] at h
    refine ei_ifF hb dX5_why_4 (pc' := 7) (t := 14) (decide_eq_false c1) (by decide) rfl ?_
    refine ei_iln hb dX5_why_7 (pc' := 8) rfl rfl ?_
    refine ei_cs hb dX5_why_8 (pc' := 11) (M1 := (qz_mk f p)) (as := [.inl a2]) (rest := []) (st' := [.inl (gX_isStop f a2)]) hcn qz_c_5_56 rfl qz_k_67 (qz_q_64_67) (Nat.le_of_ble_eq_true rfl) (Nat.le_of_ble_eq_true rfl) rfl rfl rfl (vX_isStop f p a2) rfl rfl ?_
    by_cases c2 : (gX_isStop f a2) = 0
    · rw [if_pos c2] at h
      refine ei_ifF hb dX5_why_11 (pc' := 14) (t := 16) (decide_eq_false (fun q => q c2)) (by decide) rfl ?_
      refine ei_c hb dX5_why_14 (v := (-1 : Int32)) (pc' := 15) (by decide) rfl ?_
      have h := Option.some.inj h
      subst h
      exact ei_reti hb dX5_why_15 rfl
    · rw [if_neg c2] at h
      refine ei_ifT hb dX5_why_11 (pc' := 16) (decide_eq_true c2) (by decide) ?_
      refine ei_aln hb dX5_why_16 (pc' := 17) rfl rfl ?_
      refine ei_gr hb dX5_why_17 (pc' := 20) (x := some ((4, 0, 0) : qz_N)) hcn qz_f_5_10 rfl rfl rfl rfl ?_
      refine ei_iln hb dX5_why_20 (pc' := 21) rfl rfl ?_
      refine ei_iln hb dX5_why_21 (pc' := 22) rfl rfl ?_
      refine ei_iln hb dX5_why_22 (pc' := 23) rfl rfl ?_
      refine ei_null hb dX5_why_23 (pc' := 24) rfl ?_
      obtain ⟨x3, e4, h⟩ := Option.bind_eq_some_iff.mp h
      refine ei_cv hb dX5_why_24 (pc' := 27) (M1 := (qz_mk f p)) (as := [.inl a0, .inl a1, .inl a2, .inr (.inl none)]) (rest := []) (st' := [.inl x3]) hcn qz_c_5_167 qz_k_27 (qz_q_64_27) (Nat.le_of_ble_eq_true rfl) (Nat.le_of_ble_eq_true rfl) rfl rfl rfl rfl (vW_reason F f p a0 a1 a2 none _ e4) rfl rfl ?_
      have h := Option.some.inj h
      subst h
      exact ei_reti hb dX5_why_27 rfl
def gX_count (F : Nat) (f : qz_F) (a0 : Int32) : Option (Int32) :=
  if a0 = 0 then (some (f ((4, 0, 0) : qz_N) 0)) else (if a0 = 1 then (Option.bind (gW_workerCount F f) fun x3 => some x3) else (if a0 = 2 then (Option.bind (gW_workerCount F f) fun x6 => Option.bind (gW_waitingCount F f) fun x8 => some (x6 - x8)) else (if a0 = 3 then (Option.bind (gW_waitingCount F f) fun x11 => some x11) else (if a0 = 4 then (Option.bind (gW_pairCount F f) fun x14 => some x14) else (if a0 = 5 then (some (f ((4, 0, 0) : qz_N) 6)) else (if a0 = 6 then (some (f ((4, 0, 0) : qz_N) 7)) else (if a0 = 7 then (some (f ((4, 0, 0) : qz_N) 8)) else (if a0 = 8 then (some (f ((4, 0, 0) : qz_N) 9)) else (if a0 = 9 then (some (f ((4, 0, 0) : qz_N) 10)) else (if a0 = 10 then (some (f ((4, 0, 0) : qz_N) 11)) else (if a0 = 11 then (Option.bind (gW_setting F f (0 : Int32)) fun x23 => some x23) else (if a0 = 12 then (Option.bind (gW_setting F f (1 : Int32)) fun x26 => some x26) else (if a0 = 13 then (Option.bind (gW_setting F f (2 : Int32)) fun x29 => some x29) else (if a0 = 14 then (Option.bind (gW_setting F f (3 : Int32)) fun x32 => some x32) else (if a0 = 15 then (some (f ((4, 0, 0) : qz_N) 5)) else (if a0 = 16 then (some (f ((2, 0, 0) : qz_N) 1)) else (if a0 = 17 then (some (f ((1, 0, 0) : qz_N) 1)) else (some (-2 : Int32)))))))))))))))))))
set_option maxHeartbeats 4000000 in
theorem vX_count (F : Nat) (f : qz_F) (p : Nat → Nat) (a0 : Int32) (r : Int32) (h : (gX_count F f a0) = some r) : qz_E 65 0 (qz_in0 65 [.inr (.inl (some ((5, 0, 0) : qz_N))), .inl a0]) [] (qz_mk f p) (some (.inl r)) (qz_mk f p) := by
  have hb : qz_b 65 = cX5_count := rfl
  have hcn : qz_cn 65 = 5 := rfl
  have hml : qz_ml 65 = 2 := rfl
  show qz_E 65 0 [some (.inr (.inl (some ((5, 0, 0) : qz_N)))), some (.inl a0)] [] _ _ _
  rw [gX_count] at h
  refine ei_iln hb dX5_count_0 (pc' := 1) rfl rfl ?_
  by_cases c1 : a0 = 0
  · rw [if_pos c1] at h
    refine ei_tbI hb dX5_count_1 (pc' := 88) (off := 87) (by rw [c1]; decide) (by rw [c1]; rfl) (by decide) ?_
    refine ei_aln hb dX5_count_88 (pc' := 89) rfl rfl ?_
    refine ei_gr hb dX5_count_89 (pc' := 92) (x := some ((4, 0, 0) : qz_N)) hcn qz_f_5_10 rfl rfl rfl rfl ?_
    refine ei_gi hb dX5_count_92 (pc' := 95) (x := (f ((4, 0, 0) : qz_N) 0)) hcn qz_f_5_37 rfl rfl rfl rfl ?_
    have h := Option.some.inj h
    subst h
    exact ei_reti hb dX5_count_95 rfl
  · rw [if_neg c1] at h
    by_cases c2 : a0 = 1
    · rw [if_pos c2] at h
      refine ei_tbI hb dX5_count_1 (pc' := 96) (off := 95) (by rw [c2]; decide) (by rw [c2]; rfl) (by decide) ?_
      refine ei_aln hb dX5_count_96 (pc' := 97) rfl rfl ?_
      refine ei_gr hb dX5_count_97 (pc' := 100) (x := some ((4, 0, 0) : qz_N)) hcn qz_f_5_10 rfl rfl rfl rfl ?_
      obtain ⟨x3, e4, h⟩ := Option.bind_eq_some_iff.mp h
      refine ei_cv hb dX5_count_100 (pc' := 103) (M1 := (qz_mk f p)) (as := []) (rest := []) (st' := [.inl x3]) hcn qz_c_5_59 qz_k_25 (qz_q_65_25) (Nat.le_of_ble_eq_true rfl) (Nat.le_of_ble_eq_true rfl) rfl rfl rfl rfl (vW_workerCount F f p _ e4) rfl rfl ?_
      have h := Option.some.inj h
      subst h
      exact ei_reti hb dX5_count_103 rfl
    · rw [if_neg c2] at h
      by_cases c5 : a0 = 2
      · rw [if_pos c5] at h
        refine ei_tbI hb dX5_count_1 (pc' := 104) (off := 103) (by rw [c5]; decide) (by rw [c5]; rfl) (by decide) ?_
        refine ei_aln hb dX5_count_104 (pc' := 105) rfl rfl ?_
        refine ei_gr hb dX5_count_105 (pc' := 108) (x := some ((4, 0, 0) : qz_N)) hcn qz_f_5_10 rfl rfl rfl rfl ?_
        obtain ⟨x6, e7, h⟩ := Option.bind_eq_some_iff.mp h
        refine ei_cv hb dX5_count_108 (pc' := 111) (M1 := (qz_mk f p)) (as := []) (rest := []) (st' := [.inl x6]) hcn qz_c_5_59 qz_k_25 (qz_q_65_25) (Nat.le_of_ble_eq_true rfl) (Nat.le_of_ble_eq_true rfl) rfl rfl rfl rfl (vW_workerCount F f p _ e7) rfl rfl ?_
        refine ei_aln hb dX5_count_111 (pc' := 112) rfl rfl ?_
        refine ei_gr hb dX5_count_112 (pc' := 115) (x := some ((4, 0, 0) : qz_N)) hcn qz_f_5_10 rfl rfl rfl rfl ?_
        obtain ⟨x8, e9, h⟩ := Option.bind_eq_some_iff.mp h
        refine ei_cv hb dX5_count_115 (pc' := 118) (M1 := (qz_mk f p)) (as := []) (rest := [.inl x6]) (st' := [.inl x8, .inl x6]) hcn qz_c_5_92 qz_k_26 (qz_q_65_26) (Nat.le_of_ble_eq_true rfl) (Nat.le_of_ble_eq_true rfl) rfl rfl rfl rfl (vW_waitingCount F f p _ e9) rfl rfl ?_
        refine ei_sub hb dX5_count_118 (pc' := 119) rfl ?_
        have h := Option.some.inj h
        subst h
        exact ei_reti hb dX5_count_119 rfl
      · rw [if_neg c5] at h
        by_cases c10 : a0 = 3
        · rw [if_pos c10] at h
          refine ei_tbI hb dX5_count_1 (pc' := 120) (off := 119) (by rw [c10]; decide) (by rw [c10]; rfl) (by decide) ?_
          refine ei_aln hb dX5_count_120 (pc' := 121) rfl rfl ?_
          refine ei_gr hb dX5_count_121 (pc' := 124) (x := some ((4, 0, 0) : qz_N)) hcn qz_f_5_10 rfl rfl rfl rfl ?_
          obtain ⟨x11, e12, h⟩ := Option.bind_eq_some_iff.mp h
          refine ei_cv hb dX5_count_124 (pc' := 127) (M1 := (qz_mk f p)) (as := []) (rest := []) (st' := [.inl x11]) hcn qz_c_5_92 qz_k_26 (qz_q_65_26) (Nat.le_of_ble_eq_true rfl) (Nat.le_of_ble_eq_true rfl) rfl rfl rfl rfl (vW_waitingCount F f p _ e12) rfl rfl ?_
          have h := Option.some.inj h
          subst h
          exact ei_reti hb dX5_count_127 rfl
        · rw [if_neg c10] at h
          by_cases c13 : a0 = 4
          · rw [if_pos c13] at h
            refine ei_tbI hb dX5_count_1 (pc' := 128) (off := 127) (by rw [c13]; decide) (by rw [c13]; rfl) (by decide) ?_
            refine ei_aln hb dX5_count_128 (pc' := 129) rfl rfl ?_
            refine ei_gr hb dX5_count_129 (pc' := 132) (x := some ((4, 0, 0) : qz_N)) hcn qz_f_5_10 rfl rfl rfl rfl ?_
            obtain ⟨x14, e15, h⟩ := Option.bind_eq_some_iff.mp h
            refine ei_cv hb dX5_count_132 (pc' := 135) (M1 := (qz_mk f p)) (as := []) (rest := []) (st' := [.inl x14]) hcn qz_c_5_194 qz_k_34 (qz_q_65_34) (Nat.le_of_ble_eq_true rfl) (Nat.le_of_ble_eq_true rfl) rfl rfl rfl rfl (vW_pairCount F f p _ e15) rfl rfl ?_
            have h := Option.some.inj h
            subst h
            exact ei_reti hb dX5_count_135 rfl
          · rw [if_neg c13] at h
            by_cases c16 : a0 = 5
            · rw [if_pos c16] at h
              refine ei_tbI hb dX5_count_1 (pc' := 136) (off := 135) (by rw [c16]; decide) (by rw [c16]; rfl) (by decide) ?_
              refine ei_aln hb dX5_count_136 (pc' := 137) rfl rfl ?_
              refine ei_gr hb dX5_count_137 (pc' := 140) (x := some ((4, 0, 0) : qz_N)) hcn qz_f_5_10 rfl rfl rfl rfl ?_
              refine ei_gi hb dX5_count_140 (pc' := 143) (x := (f ((4, 0, 0) : qz_N) 6)) hcn qz_f_5_135 rfl rfl rfl rfl ?_
              have h := Option.some.inj h
              subst h
              exact ei_reti hb dX5_count_143 rfl
            · rw [if_neg c16] at h
              by_cases c17 : a0 = 6
              · rw [if_pos c17] at h
                refine ei_tbI hb dX5_count_1 (pc' := 144) (off := 143) (by rw [c17]; decide) (by rw [c17]; rfl) (by decide) ?_
                refine ei_aln hb dX5_count_144 (pc' := 145) rfl rfl ?_
                refine ei_gr hb dX5_count_145 (pc' := 148) (x := some ((4, 0, 0) : qz_N)) hcn qz_f_5_10 rfl rfl rfl rfl ?_
                refine ei_gi hb dX5_count_148 (pc' := 151) (x := (f ((4, 0, 0) : qz_N) 7)) hcn qz_f_5_197 rfl rfl rfl rfl ?_
                have h := Option.some.inj h
                subst h
                exact ei_reti hb dX5_count_151 rfl
              · rw [if_neg c17] at h
                by_cases c18 : a0 = 7
                · rw [if_pos c18] at h
                  refine ei_tbI hb dX5_count_1 (pc' := 152) (off := 151) (by rw [c18]; decide) (by rw [c18]; rfl) (by decide) ?_
                  refine ei_aln hb dX5_count_152 (pc' := 153) rfl rfl ?_
                  refine ei_gr hb dX5_count_153 (pc' := 156) (x := some ((4, 0, 0) : qz_N)) hcn qz_f_5_10 rfl rfl rfl rfl ?_
                  refine ei_gi hb dX5_count_156 (pc' := 159) (x := (f ((4, 0, 0) : qz_N) 8)) hcn qz_f_5_126 rfl rfl rfl rfl ?_
                  have h := Option.some.inj h
                  subst h
                  exact ei_reti hb dX5_count_159 rfl
                · rw [if_neg c18] at h
                  by_cases c19 : a0 = 8
                  · rw [if_pos c19] at h
                    refine ei_tbI hb dX5_count_1 (pc' := 160) (off := 159) (by rw [c19]; decide) (by rw [c19]; rfl) (by decide) ?_
                    refine ei_aln hb dX5_count_160 (pc' := 161) rfl rfl ?_
                    refine ei_gr hb dX5_count_161 (pc' := 164) (x := some ((4, 0, 0) : qz_N)) hcn qz_f_5_10 rfl rfl rfl rfl ?_
                    refine ei_gi hb dX5_count_164 (pc' := 167) (x := (f ((4, 0, 0) : qz_N) 9)) hcn qz_f_5_198 rfl rfl rfl rfl ?_
                    have h := Option.some.inj h
                    subst h
                    exact ei_reti hb dX5_count_167 rfl
                  · rw [if_neg c19] at h
                    by_cases c20 : a0 = 9
                    · rw [if_pos c20] at h
                      refine ei_tbI hb dX5_count_1 (pc' := 168) (off := 167) (by rw [c20]; decide) (by rw [c20]; rfl) (by decide) ?_
                      refine ei_aln hb dX5_count_168 (pc' := 169) rfl rfl ?_
                      refine ei_gr hb dX5_count_169 (pc' := 172) (x := some ((4, 0, 0) : qz_N)) hcn qz_f_5_10 rfl rfl rfl rfl ?_
                      refine ei_gi hb dX5_count_172 (pc' := 175) (x := (f ((4, 0, 0) : qz_N) 10)) hcn qz_f_5_199 rfl rfl rfl rfl ?_
                      have h := Option.some.inj h
                      subst h
                      exact ei_reti hb dX5_count_175 rfl
                    · rw [if_neg c20] at h
                      by_cases c21 : a0 = 10
                      · rw [if_pos c21] at h
                        refine ei_tbI hb dX5_count_1 (pc' := 176) (off := 175) (by rw [c21]; decide) (by rw [c21]; rfl) (by decide) ?_
                        refine ei_aln hb dX5_count_176 (pc' := 177) rfl rfl ?_
                        refine ei_gr hb dX5_count_177 (pc' := 180) (x := some ((4, 0, 0) : qz_N)) hcn qz_f_5_10 rfl rfl rfl rfl ?_
                        refine ei_gi hb dX5_count_180 (pc' := 183) (x := (f ((4, 0, 0) : qz_N) 11)) hcn qz_f_5_202 rfl rfl rfl rfl ?_
                        have h := Option.some.inj h
                        subst h
                        exact ei_reti hb dX5_count_183 rfl
                      · rw [if_neg c21] at h
                        by_cases c22 : a0 = 11
                        · rw [if_pos c22] at h
                          refine ei_tbI hb dX5_count_1 (pc' := 184) (off := 183) (by rw [c22]; decide) (by rw [c22]; rfl) (by decide) ?_
                          refine ei_aln hb dX5_count_184 (pc' := 185) rfl rfl ?_
                          refine ei_gr hb dX5_count_185 (pc' := 188) (x := some ((4, 0, 0) : qz_N)) hcn qz_f_5_10 rfl rfl rfl rfl ?_
                          refine ei_c hb dX5_count_188 (v := (0 : Int32)) (pc' := 189) (by decide) rfl ?_
                          obtain ⟨x23, e24, h⟩ := Option.bind_eq_some_iff.mp h
                          refine ei_cv hb dX5_count_189 (pc' := 192) (M1 := (qz_mk f p)) (as := [.inl (0 : Int32)]) (rest := []) (st' := [.inl x23]) hcn qz_c_5_119 qz_k_17 (qz_q_65_17) (Nat.le_of_ble_eq_true rfl) (Nat.le_of_ble_eq_true rfl) rfl rfl rfl rfl (vW_setting F f p (0 : Int32) _ e24) rfl rfl ?_
                          have h := Option.some.inj h
                          subst h
                          exact ei_reti hb dX5_count_192 rfl
                        · rw [if_neg c22] at h
                          by_cases c25 : a0 = 12
                          · rw [if_pos c25] at h
                            refine ei_tbI hb dX5_count_1 (pc' := 193) (off := 192) (by rw [c25]; decide) (by rw [c25]; rfl) (by decide) ?_
                            refine ei_aln hb dX5_count_193 (pc' := 194) rfl rfl ?_
                            refine ei_gr hb dX5_count_194 (pc' := 197) (x := some ((4, 0, 0) : qz_N)) hcn qz_f_5_10 rfl rfl rfl rfl ?_
                            refine ei_c hb dX5_count_197 (v := (1 : Int32)) (pc' := 198) (by decide) rfl ?_
                            obtain ⟨x26, e27, h⟩ := Option.bind_eq_some_iff.mp h
                            refine ei_cv hb dX5_count_198 (pc' := 201) (M1 := (qz_mk f p)) (as := [.inl (1 : Int32)]) (rest := []) (st' := [.inl x26]) hcn qz_c_5_119 qz_k_17 (qz_q_65_17) (Nat.le_of_ble_eq_true rfl) (Nat.le_of_ble_eq_true rfl) rfl rfl rfl rfl (vW_setting F f p (1 : Int32) _ e27) rfl rfl ?_
                            have h := Option.some.inj h
                            subst h
                            exact ei_reti hb dX5_count_201 rfl
                          · rw [if_neg c25] at h
                            by_cases c28 : a0 = 13
                            · rw [if_pos c28] at h
                              refine ei_tbI hb dX5_count_1 (pc' := 202) (off := 201) (by rw [c28]; decide) (by rw [c28]; rfl) (by decide) ?_
                              refine ei_aln hb dX5_count_202 (pc' := 203) rfl rfl ?_
                              refine ei_gr hb dX5_count_203 (pc' := 206) (x := some ((4, 0, 0) : qz_N)) hcn qz_f_5_10 rfl rfl rfl rfl ?_
                              refine ei_c hb dX5_count_206 (v := (2 : Int32)) (pc' := 207) (by decide) rfl ?_
                              obtain ⟨x29, e30, h⟩ := Option.bind_eq_some_iff.mp h
                              refine ei_cv hb dX5_count_207 (pc' := 210) (M1 := (qz_mk f p)) (as := [.inl (2 : Int32)]) (rest := []) (st' := [.inl x29]) hcn qz_c_5_119 qz_k_17 (qz_q_65_17) (Nat.le_of_ble_eq_true rfl) (Nat.le_of_ble_eq_true rfl) rfl rfl rfl rfl (vW_setting F f p (2 : Int32) _ e30) rfl rfl ?_
                              have h := Option.some.inj h
                              subst h
                              exact ei_reti hb dX5_count_210 rfl
                            · rw [if_neg c28] at h
                              by_cases c31 : a0 = 14
                              · rw [if_pos c31] at h
                                refine ei_tbI hb dX5_count_1 (pc' := 211) (off := 210) (by rw [c31]; decide) (by rw [c31]; rfl) (by decide) ?_
                                refine ei_aln hb dX5_count_211 (pc' := 212) rfl rfl ?_
                                refine ei_gr hb dX5_count_212 (pc' := 215) (x := some ((4, 0, 0) : qz_N)) hcn qz_f_5_10 rfl rfl rfl rfl ?_
                                refine ei_c hb dX5_count_215 (v := (3 : Int32)) (pc' := 216) (by decide) rfl ?_
                                obtain ⟨x32, e33, h⟩ := Option.bind_eq_some_iff.mp h
                                refine ei_cv hb dX5_count_216 (pc' := 219) (M1 := (qz_mk f p)) (as := [.inl (3 : Int32)]) (rest := []) (st' := [.inl x32]) hcn qz_c_5_119 qz_k_17 (qz_q_65_17) (Nat.le_of_ble_eq_true rfl) (Nat.le_of_ble_eq_true rfl) rfl rfl rfl rfl (vW_setting F f p (3 : Int32) _ e33) rfl rfl ?_
                                have h := Option.some.inj h
                                subst h
                                exact ei_reti hb dX5_count_219 rfl
                              · rw [if_neg c31] at h
                                by_cases c34 : a0 = 15
                                · rw [if_pos c34] at h
                                  refine ei_tbI hb dX5_count_1 (pc' := 220) (off := 219) (by rw [c34]; decide) (by rw [c34]; rfl) (by decide) ?_
                                  refine ei_aln hb dX5_count_220 (pc' := 221) rfl rfl ?_
                                  refine ei_gr hb dX5_count_221 (pc' := 224) (x := some ((4, 0, 0) : qz_N)) hcn qz_f_5_10 rfl rfl rfl rfl ?_
                                  refine ei_gi hb dX5_count_224 (pc' := 227) (x := (f ((4, 0, 0) : qz_N) 5)) hcn qz_f_5_205 rfl rfl rfl rfl ?_
                                  have h := Option.some.inj h
                                  subst h
                                  exact ei_reti hb dX5_count_227 rfl
                                · rw [if_neg c34] at h
                                  by_cases c35 : a0 = 16
                                  · rw [if_pos c35] at h
                                    refine ei_tbI hb dX5_count_1 (pc' := 228) (off := 227) (by rw [c35]; decide) (by rw [c35]; rfl) (by decide) ?_
                                    refine ei_aln hb dX5_count_228 (pc' := 229) rfl rfl ?_
                                    refine ei_gr hb dX5_count_229 (pc' := 232) (x := some ((2, 0, 0) : qz_N)) hcn qz_f_5_26 rfl rfl rfl rfl ?_
                                    refine ei_gi hb dX5_count_232 (pc' := 235) (x := (f ((2, 0, 0) : qz_N) 1)) hcn qz_f_5_145 rfl rfl rfl rfl ?_
                                    have h := Option.some.inj h
                                    subst h
                                    exact ei_reti hb dX5_count_235 rfl
                                  · rw [if_neg c35] at h
                                    by_cases c36 : a0 = 17
                                    · rw [if_pos c36] at h
                                      refine ei_tbI hb dX5_count_1 (pc' := 236) (off := 235) (by rw [c36]; decide) (by rw [c36]; rfl) (by decide) ?_
                                      refine ei_aln hb dX5_count_236 (pc' := 237) rfl rfl ?_
                                      refine ei_gr hb dX5_count_237 (pc' := 240) (x := some ((1, 0, 0) : qz_N)) hcn qz_f_5_19 rfl rfl rfl rfl ?_
                                      refine ei_gi hb dX5_count_240 (pc' := 243) (x := (f ((1, 0, 0) : qz_N) 1)) hcn qz_f_5_138 rfl rfl rfl rfl ?_
                                      have h := Option.some.inj h
                                      subst h
                                      exact ei_reti hb dX5_count_243 rfl
                                    · rw [if_neg c36] at h
                                      have tc1 := lv_neT c1 (show (0 : Int32).toInt = 0 by decide)
                                      have tc2 := lv_neT c2 (show (1 : Int32).toInt = 1 by decide)
                                      have tc5 := lv_neT c5 (show (2 : Int32).toInt = 2 by decide)
                                      have tc10 := lv_neT c10 (show (3 : Int32).toInt = 3 by decide)
                                      have tc13 := lv_neT c13 (show (4 : Int32).toInt = 4 by decide)
                                      have tc16 := lv_neT c16 (show (5 : Int32).toInt = 5 by decide)
                                      have tc17 := lv_neT c17 (show (6 : Int32).toInt = 6 by decide)
                                      have tc18 := lv_neT c18 (show (7 : Int32).toInt = 7 by decide)
                                      have tc19 := lv_neT c19 (show (8 : Int32).toInt = 8 by decide)
                                      have tc20 := lv_neT c20 (show (9 : Int32).toInt = 9 by decide)
                                      have tc21 := lv_neT c21 (show (10 : Int32).toInt = 10 by decide)
                                      have tc22 := lv_neT c22 (show (11 : Int32).toInt = 11 by decide)
                                      have tc25 := lv_neT c25 (show (12 : Int32).toInt = 12 by decide)
                                      have tc28 := lv_neT c28 (show (13 : Int32).toInt = 13 by decide)
                                      have tc31 := lv_neT c31 (show (14 : Int32).toInt = 14 by decide)
                                      have tc34 := lv_neT c34 (show (15 : Int32).toInt = 15 by decide)
                                      have tc35 := lv_neT c35 (show (16 : Int32).toInt = 16 by decide)
                                      have tc36 := lv_neT c36 (show (17 : Int32).toInt = 17 by decide)
                                      refine ei_tbO hb dX5_count_1 (pc' := 244) (by omega) (by decide) ?_
                                      refine ei_b hb dX5_count_244 (v := (-2 : Int32)) (pc' := 246) (by decide) rfl ?_
                                      have h := Option.some.inj h
                                      subst h
                                      exact ei_reti hb dX5_count_246 rfl
