def gB_isLive (f : qz_F) (i : Nat) : Int32 :=
  if (f ((0, 0, i) : qz_N) 0) = (-1 : Int32) then (0 : Int32) else (1 : Int32)
set_option maxHeartbeats 4000000 in
theorem vB_isLive (f : qz_F) (p : Nat → Nat) (i : Nat) : qz_E 1 0 (qz_in0 1 [.inr (.inl (some ((0, 0, i) : qz_N)))]) [] (qz_mk f p) (some (.inl (gB_isLive f i))) (qz_mk f p) := by
  have hb : qz_b 1 = cX0_isLive := rfl
  have hcn : qz_cn 1 = 0 := rfl
  have hml : qz_ml 1 = 1 := rfl
  obtain ⟨r, h⟩ : ∃ r, (gB_isLive f i) = r := ⟨_, rfl⟩
  rw [h]
  show qz_E 1 0 [some (.inr (.inl (some ((0, 0, i) : qz_N))))] [] _ _ _
  rw [gB_isLive] at h
  refine ei_aln hb dX0_isLive_0 (pc' := 1) rfl rfl ?_
  refine ei_gi hb dX0_isLive_1 (pc' := 4) (x := (f ((0, 0, i) : qz_N) 0)) hcn qz_f_0_9 rfl rfl rfl rfl ?_
  refine ei_c hb dX0_isLive_4 (v := (-1 : Int32)) (pc' := 5) (by decide) rfl ?_
  by_cases c1 : (f ((0, 0, i) : qz_N) 0) = (-1 : Int32)
  · rw [if_pos c1] at h
    refine ei_icT hb dX0_isLive_5 (pc' := 12) (decide_eq_true c1) (by decide) ?_
    refine ei_c hb dX0_isLive_12 (v := (0 : Int32)) (pc' := 13) (by decide) rfl ?_
    subst h
    exact ei_retz hb dX0_isLive_13 rfl (by decide)
  · rw [if_neg c1] at h
    refine ei_icF hb dX0_isLive_5 (pc' := 8) (t := 12) (decide_eq_false c1) (by decide) rfl ?_
    refine ei_c hb dX0_isLive_8 (v := (1 : Int32)) (pc' := 9) (by decide) rfl ?_
    refine ei_go hb dX0_isLive_9 (pc' := 13) (by decide) ?_
    subst h
    exact ei_retz hb dX0_isLive_13 rfl (by decide)
def gB_isWaiting (f : qz_F) (i : Nat) : Int32 :=
  if (gB_isLive f i) = 0 then (0 : Int32) else (if (f ((0, 0, i) : qz_N) 4) = 0 then (1 : Int32) else (0 : Int32))
set_option maxHeartbeats 4000000 in
theorem vB_isWaiting (f : qz_F) (p : Nat → Nat) (i : Nat) : qz_E 2 0 (qz_in0 2 [.inr (.inl (some ((0, 0, i) : qz_N)))]) [] (qz_mk f p) (some (.inl (gB_isWaiting f i))) (qz_mk f p) := by
  have hb : qz_b 2 = cX0_isWaiting := rfl
  have hcn : qz_cn 2 = 0 := rfl
  have hml : qz_ml 2 = 1 := rfl
  obtain ⟨r, h⟩ : ∃ r, (gB_isWaiting f i) = r := ⟨_, rfl⟩
  rw [h]
  show qz_E 2 0 [some (.inr (.inl (some ((0, 0, i) : qz_N))))] [] _ _ _
  rw [gB_isWaiting] at h
  refine ei_aln hb dX0_isWaiting_0 (pc' := 1) rfl rfl ?_
  refine ei_cv hb dX0_isWaiting_1 (pc' := 4) (M1 := (qz_mk f p)) (as := []) (rest := []) (st' := [.inl (gB_isLive f i)]) hcn qz_c_0_35 qz_k_1 (qz_q_2_1) (Nat.le_of_ble_eq_true rfl) (Nat.le_of_ble_eq_true rfl) rfl rfl rfl rfl (vB_isLive f p i) rfl rfl ?_
  by_cases c1 : (gB_isLive f i) = 0
  · rw [if_pos c1] at h
    refine ei_ifT hb dX0_isWaiting_4 (pc' := 18) (decide_eq_true c1) (by decide) ?_
    refine ei_c hb dX0_isWaiting_18 (v := (0 : Int32)) (pc' := 19) (by decide) rfl ?_
    subst h
    exact ei_retz hb dX0_isWaiting_19 rfl (by decide)
  · rw [if_neg c1] at h
    refine ei_ifF hb dX0_isWaiting_4 (pc' := 7) (t := 18) (decide_eq_false c1) (by decide) rfl ?_
    refine ei_aln hb dX0_isWaiting_7 (pc' := 8) rfl rfl ?_
    refine ei_gi hb dX0_isWaiting_8 (pc' := 11) (x := (f ((0, 0, i) : qz_N) 4)) hcn qz_f_0_22 rfl rfl rfl rfl ?_
    by_cases c2 : (f ((0, 0, i) : qz_N) 4) = 0
    · rw [if_pos c2] at h
      refine ei_ifF hb dX0_isWaiting_11 (pc' := 14) (t := 18) (decide_eq_false (fun q => q c2)) (by decide) rfl ?_
      refine ei_c hb dX0_isWaiting_14 (v := (1 : Int32)) (pc' := 15) (by decide) rfl ?_
      refine ei_go hb dX0_isWaiting_15 (pc' := 19) (by decide) ?_
      subst h
      exact ei_retz hb dX0_isWaiting_19 rfl (by decide)
    · rw [if_neg c2] at h
      refine ei_ifT hb dX0_isWaiting_11 (pc' := 18) (decide_eq_true c2) (by decide) ?_
      refine ei_c hb dX0_isWaiting_18 (v := (0 : Int32)) (pc' := 19) (by decide) rfl ?_
      subst h
      exact ei_retz hb dX0_isWaiting_19 rfl (by decide)
def gB_isRider (f : qz_F) (i : Nat) : Int32 :=
  if (gB_isLive f i) = 0 then (0 : Int32) else (if (f ((0, 0, i) : qz_N) 4) = 0 then (0 : Int32) else (1 : Int32))
set_option maxHeartbeats 4000000 in
theorem vB_isRider (f : qz_F) (p : Nat → Nat) (i : Nat) : qz_E 3 0 (qz_in0 3 [.inr (.inl (some ((0, 0, i) : qz_N)))]) [] (qz_mk f p) (some (.inl (gB_isRider f i))) (qz_mk f p) := by
  have hb : qz_b 3 = cX0_isRider := rfl
  have hcn : qz_cn 3 = 0 := rfl
  have hml : qz_ml 3 = 1 := rfl
  obtain ⟨r, h⟩ : ∃ r, (gB_isRider f i) = r := ⟨_, rfl⟩
  rw [h]
  show qz_E 3 0 [some (.inr (.inl (some ((0, 0, i) : qz_N))))] [] _ _ _
  rw [gB_isRider] at h
  refine ei_aln hb dX0_isRider_0 (pc' := 1) rfl rfl ?_
  refine ei_cv hb dX0_isRider_1 (pc' := 4) (M1 := (qz_mk f p)) (as := []) (rest := []) (st' := [.inl (gB_isLive f i)]) hcn qz_c_0_35 qz_k_1 (qz_q_3_1) (Nat.le_of_ble_eq_true rfl) (Nat.le_of_ble_eq_true rfl) rfl rfl rfl rfl (vB_isLive f p i) rfl rfl ?_
  by_cases c1 : (gB_isLive f i) = 0
  · rw [if_pos c1] at h
    refine ei_ifT hb dX0_isRider_4 (pc' := 18) (decide_eq_true c1) (by decide) ?_
    refine ei_c hb dX0_isRider_18 (v := (0 : Int32)) (pc' := 19) (by decide) rfl ?_
    subst h
    exact ei_retz hb dX0_isRider_19 rfl (by decide)
  · rw [if_neg c1] at h
    refine ei_ifF hb dX0_isRider_4 (pc' := 7) (t := 18) (decide_eq_false c1) (by decide) rfl ?_
    refine ei_aln hb dX0_isRider_7 (pc' := 8) rfl rfl ?_
    refine ei_gi hb dX0_isRider_8 (pc' := 11) (x := (f ((0, 0, i) : qz_N) 4)) hcn qz_f_0_22 rfl rfl rfl rfl ?_
    by_cases c2 : (f ((0, 0, i) : qz_N) 4) = 0
    · rw [if_pos c2] at h
      refine ei_ifT hb dX0_isRider_11 (pc' := 18) (decide_eq_true c2) (by decide) ?_
      refine ei_c hb dX0_isRider_18 (v := (0 : Int32)) (pc' := 19) (by decide) rfl ?_
      subst h
      exact ei_retz hb dX0_isRider_19 rfl (by decide)
    · rw [if_neg c2] at h
      refine ei_ifF hb dX0_isRider_11 (pc' := 14) (t := 18) (decide_eq_false c2) (by decide) rfl ?_
      refine ei_c hb dX0_isRider_14 (v := (1 : Int32)) (pc' := 15) (by decide) rfl ?_
      refine ei_go hb dX0_isRider_15 (pc' := 19) (by decide) ?_
      subst h
      exact ei_retz hb dX0_isRider_19 rfl (by decide)
def gB_isOfBus (f : qz_F) (i : Nat) (a0 : Int32) (a1 : Int32) (a2 : Int32) : Int32 :=
  if (gB_isLive f i) = 0 then (0 : Int32) else (if (f ((0, 0, i) : qz_N) 2) = a0 then (if (f ((0, 0, i) : qz_N) 1) = a1 then (1 : Int32) else (if (f ((0, 0, i) : qz_N) 1) = a2 then (1 : Int32) else (0 : Int32))) else (0 : Int32))
set_option maxHeartbeats 4000000 in
theorem vB_isOfBus (f : qz_F) (p : Nat → Nat) (i : Nat) (a0 : Int32) (a1 : Int32) (a2 : Int32) : qz_E 4 0 (qz_in0 4 [.inr (.inl (some ((0, 0, i) : qz_N))), .inl a0, .inl a1, .inl a2]) [] (qz_mk f p) (some (.inl (gB_isOfBus f i a0 a1 a2))) (qz_mk f p) := by
  have hb : qz_b 4 = cX0_isOfBus := rfl
  have hcn : qz_cn 4 = 0 := rfl
  have hml : qz_ml 4 = 4 := rfl
  obtain ⟨r, h⟩ : ∃ r, (gB_isOfBus f i a0 a1 a2) = r := ⟨_, rfl⟩
  rw [h]
  show qz_E 4 0 [some (.inr (.inl (some ((0, 0, i) : qz_N)))), some (.inl a0), some (.inl a1), some (.inl a2)] [] _ _ _
  rw [gB_isOfBus] at h
  refine ei_aln hb dX0_isOfBus_0 (pc' := 1) rfl rfl ?_
  refine ei_cv hb dX0_isOfBus_1 (pc' := 4) (M1 := (qz_mk f p)) (as := []) (rest := []) (st' := [.inl (gB_isLive f i)]) hcn qz_c_0_35 qz_k_1 (qz_q_4_1) (Nat.le_of_ble_eq_true rfl) (Nat.le_of_ble_eq_true rfl) rfl rfl rfl rfl (vB_isLive f p i) rfl rfl ?_
  by_cases c1 : (gB_isLive f i) = 0
  · rw [if_pos c1] at h
    refine ei_ifT hb dX0_isOfBus_4 (pc' := 35) (decide_eq_true c1) (by decide) ?_
    refine ei_c hb dX0_isOfBus_35 (v := (0 : Int32)) (pc' := 36) (by decide) rfl ?_
    subst h
    exact ei_retz hb dX0_isOfBus_36 rfl (by decide)
  · rw [if_neg c1] at h
    refine ei_ifF hb dX0_isOfBus_4 (pc' := 7) (t := 35) (decide_eq_false c1) (by decide) rfl ?_
    refine ei_aln hb dX0_isOfBus_7 (pc' := 8) rfl rfl ?_
    refine ei_gi hb dX0_isOfBus_8 (pc' := 11) (x := (f ((0, 0, i) : qz_N) 2)) hcn qz_f_0_16 rfl rfl rfl rfl ?_
    refine ei_iln hb dX0_isOfBus_11 (pc' := 12) rfl rfl ?_
    by_cases c2 : (f ((0, 0, i) : qz_N) 2) = a0
    · rw [if_pos c2] at h
      refine ei_icF hb dX0_isOfBus_12 (pc' := 15) (t := 35) (decide_eq_false (fun q => q c2)) (by decide) rfl ?_
      refine ei_aln hb dX0_isOfBus_15 (pc' := 16) rfl rfl ?_
      refine ei_gi hb dX0_isOfBus_16 (pc' := 19) (x := (f ((0, 0, i) : qz_N) 1)) hcn qz_f_0_13 rfl rfl rfl rfl ?_
      refine ei_iln hb dX0_isOfBus_19 (pc' := 20) rfl rfl ?_
      by_cases c3 : (f ((0, 0, i) : qz_N) 1) = a1
      · rw [if_pos c3] at h
        refine ei_icT hb dX0_isOfBus_20 (pc' := 31) (decide_eq_true c3) (by decide) ?_
        refine ei_c hb dX0_isOfBus_31 (v := (1 : Int32)) (pc' := 32) (by decide) rfl ?_
        refine ei_go hb dX0_isOfBus_32 (pc' := 36) (by decide) ?_
        subst h
        exact ei_retz hb dX0_isOfBus_36 rfl (by decide)
      · rw [if_neg c3] at h
        refine ei_icF hb dX0_isOfBus_20 (pc' := 23) (t := 31) (decide_eq_false c3) (by decide) rfl ?_
        refine ei_aln hb dX0_isOfBus_23 (pc' := 24) rfl rfl ?_
        refine ei_gi hb dX0_isOfBus_24 (pc' := 27) (x := (f ((0, 0, i) : qz_N) 1)) hcn qz_f_0_13 rfl rfl rfl rfl ?_
        refine ei_iln hb dX0_isOfBus_27 (pc' := 28) rfl rfl ?_
        by_cases c4 : (f ((0, 0, i) : qz_N) 1) = a2
        · rw [if_pos c4] at h
          refine ei_icF hb dX0_isOfBus_28 (pc' := 31) (t := 35) (decide_eq_false (fun q => q c4)) (by decide) rfl ?_
          refine ei_c hb dX0_isOfBus_31 (v := (1 : Int32)) (pc' := 32) (by decide) rfl ?_
          refine ei_go hb dX0_isOfBus_32 (pc' := 36) (by decide) ?_
          subst h
          exact ei_retz hb dX0_isOfBus_36 rfl (by decide)
        · rw [if_neg c4] at h
          refine ei_icT hb dX0_isOfBus_28 (pc' := 35) (decide_eq_true c4) (by decide) ?_
          refine ei_c hb dX0_isOfBus_35 (v := (0 : Int32)) (pc' := 36) (by decide) rfl ?_
          subst h
          exact ei_retz hb dX0_isOfBus_36 rfl (by decide)
    · rw [if_neg c2] at h
      refine ei_icT hb dX0_isOfBus_12 (pc' := 35) (decide_eq_true c2) (by decide) ?_
      refine ei_c hb dX0_isOfBus_35 (v := (0 : Int32)) (pc' := 36) (by decide) rfl ?_
      subst h
      exact ei_retz hb dX0_isOfBus_36 rfl (by decide)
def gB_getsSeatAheadOf (f : qz_F) (i : Nat) (b0 : Nat) : Int32 :=
  if (f ((0, 0, i) : qz_N) 3) = (f ((0, 0, b0) : qz_N) 3) then (if (f ((0, 0, b0) : qz_N) 0) ≤ (f ((0, 0, i) : qz_N) 0) then (0 : Int32) else (1 : Int32)) else (if (f ((0, 0, i) : qz_N) 3) ≤ (f ((0, 0, b0) : qz_N) 3) then (0 : Int32) else (1 : Int32))
set_option maxHeartbeats 4000000 in
theorem vB_getsSeatAheadOf (f : qz_F) (p : Nat → Nat) (i : Nat) (b0 : Nat) : qz_E 5 0 (qz_in0 5 [.inr (.inl (some ((0, 0, i) : qz_N))), .inr (.inl (some ((0, 0, b0) : qz_N)))]) [] (qz_mk f p) (some (.inl (gB_getsSeatAheadOf f i b0))) (qz_mk f p) := by
  have hb : qz_b 5 = cX0_getsSeatAheadOf := rfl
  have hcn : qz_cn 5 = 0 := rfl
  have hml : qz_ml 5 = 2 := rfl
  obtain ⟨r, h⟩ : ∃ r, (gB_getsSeatAheadOf f i b0) = r := ⟨_, rfl⟩
  rw [h]
  show qz_E 5 0 [some (.inr (.inl (some ((0, 0, i) : qz_N)))), some (.inr (.inl (some ((0, 0, b0) : qz_N))))] [] _ _ _
  rw [gB_getsSeatAheadOf] at h
  refine ei_aln hb dX0_getsSeatAheadOf_0 (pc' := 1) rfl rfl ?_
  refine ei_gi hb dX0_getsSeatAheadOf_1 (pc' := 4) (x := (f ((0, 0, i) : qz_N) 3)) hcn qz_f_0_19 rfl rfl rfl rfl ?_
  refine ei_aln hb dX0_getsSeatAheadOf_4 (pc' := 5) rfl rfl ?_
  refine ei_gi hb dX0_getsSeatAheadOf_5 (pc' := 8) (x := (f ((0, 0, b0) : qz_N) 3)) hcn qz_f_0_19 rfl rfl rfl rfl ?_
  by_cases c1 : (f ((0, 0, i) : qz_N) 3) = (f ((0, 0, b0) : qz_N) 3)
  · rw [if_pos c1] at h
    refine ei_icT hb dX0_getsSeatAheadOf_8 (pc' := 30) (decide_eq_true c1) (by decide) ?_
    refine ei_aln hb dX0_getsSeatAheadOf_30 (pc' := 31) rfl rfl ?_
    refine ei_gi hb dX0_getsSeatAheadOf_31 (pc' := 34) (x := (f ((0, 0, i) : qz_N) 0)) hcn qz_f_0_9 rfl rfl rfl rfl ?_
    refine ei_aln hb dX0_getsSeatAheadOf_34 (pc' := 35) rfl rfl ?_
    refine ei_gi hb dX0_getsSeatAheadOf_35 (pc' := 38) (x := (f ((0, 0, b0) : qz_N) 0)) hcn qz_f_0_9 rfl rfl rfl rfl ?_
    by_cases c2 : (f ((0, 0, b0) : qz_N) 0) ≤ (f ((0, 0, i) : qz_N) 0)
    · rw [if_pos c2] at h
      refine ei_icT hb dX0_getsSeatAheadOf_38 (pc' := 45) (decide_eq_true c2) (by decide) ?_
      refine ei_c hb dX0_getsSeatAheadOf_45 (v := (0 : Int32)) (pc' := 46) (by decide) rfl ?_
      subst h
      exact ei_retz hb dX0_getsSeatAheadOf_46 rfl (by decide)
    · rw [if_neg c2] at h
      refine ei_icF hb dX0_getsSeatAheadOf_38 (pc' := 41) (t := 45) (decide_eq_false c2) (by decide) rfl ?_
      refine ei_c hb dX0_getsSeatAheadOf_41 (v := (1 : Int32)) (pc' := 42) (by decide) rfl ?_
      refine ei_go hb dX0_getsSeatAheadOf_42 (pc' := 46) (by decide) ?_
      subst h
      exact ei_retz hb dX0_getsSeatAheadOf_46 rfl (by decide)
  · rw [if_neg c1] at h
    refine ei_icF hb dX0_getsSeatAheadOf_8 (pc' := 11) (t := 30) (decide_eq_false c1) (by decide) rfl ?_
    refine ei_aln hb dX0_getsSeatAheadOf_11 (pc' := 12) rfl rfl ?_
    refine ei_gi hb dX0_getsSeatAheadOf_12 (pc' := 15) (x := (f ((0, 0, i) : qz_N) 3)) hcn qz_f_0_19 rfl rfl rfl rfl ?_
    refine ei_aln hb dX0_getsSeatAheadOf_15 (pc' := 16) rfl rfl ?_
    refine ei_gi hb dX0_getsSeatAheadOf_16 (pc' := 19) (x := (f ((0, 0, b0) : qz_N) 3)) hcn qz_f_0_19 rfl rfl rfl rfl ?_
    by_cases c3 : (f ((0, 0, i) : qz_N) 3) ≤ (f ((0, 0, b0) : qz_N) 3)
    · rw [if_pos c3] at h
      refine ei_icT hb dX0_getsSeatAheadOf_19 (pc' := 26) (decide_eq_true c3) (by decide) ?_
      refine ei_c hb dX0_getsSeatAheadOf_26 (v := (0 : Int32)) (pc' := 27) (by decide) rfl ?_
      refine ei_go hb dX0_getsSeatAheadOf_27 (pc' := 46) (by decide) ?_
      subst h
      exact ei_retz hb dX0_getsSeatAheadOf_46 rfl (by decide)
    · rw [if_neg c3] at h
      refine ei_icF hb dX0_getsSeatAheadOf_19 (pc' := 22) (t := 26) (decide_eq_false c3) (by decide) rfl ?_
      refine ei_c hb dX0_getsSeatAheadOf_22 (v := (1 : Int32)) (pc' := 23) (by decide) rfl ?_
      refine ei_go hb dX0_getsSeatAheadOf_23 (pc' := 46) (by decide) ?_
      subst h
      exact ei_retz hb dX0_getsSeatAheadOf_46 rfl (by decide)
def gB_clear (F : Nat) (S : qz_S) (i : Nat) : Option (qz_S) :=
  qz_let (qz_wr S ((0, 0, i) : qz_N) 0 (-1 : Int32)) fun S1 => qz_let (qz_wr S1 ((0, 0, i) : qz_N) 1 (0 : Int32)) fun S2 => qz_let (qz_wr S2 ((0, 0, i) : qz_N) 2 (0 : Int32)) fun S3 => qz_let (qz_wr S3 ((0, 0, i) : qz_N) 3 (0 : Int32)) fun S4 => qz_let (qz_wr S4 ((0, 0, i) : qz_N) 4 (0 : Int32)) fun S5 => qz_let (qz_wr S5 ((0, 0, i) : qz_N) 5 (0 : Int32)) fun S6 => qz_let (qz_wr S6 ((0, 0, i) : qz_N) 6 (0 : Int32)) fun S7 => qz_let (qz_wr S7 ((0, 0, i) : qz_N) 7 (0 : Int32)) fun S8 => some S8
set_option maxHeartbeats 4000000 in
theorem vB_clear (F : Nat) (S : qz_S) (i : Nat) (r : qz_S) (h : (gB_clear F S i) = some r) : qz_E 6 0 (qz_in0 6 [.inr (.inl (some ((0, 0, i) : qz_N)))]) [] (qz_mk S.1 S.2) none (qz_mk r.1 r.2) := by
  have hb : qz_b 6 = cX0_clear := rfl
  have hcn : qz_cn 6 = 0 := rfl
  have hml : qz_ml 6 = 1 := rfl
  show qz_E 6 0 [some (.inr (.inl (some ((0, 0, i) : qz_N))))] [] _ _ _
  rw [gB_clear] at h
  refine ei_aln hb dX0_clear_0 (pc' := 1) rfl rfl ?_
  refine ei_c hb dX0_clear_1 (v := (-1 : Int32)) (pc' := 2) (by decide) rfl ?_
  obtain ⟨S1, eS1⟩ : ∃ q, q = qz_wr S ((0, 0, i) : qz_N) 0 (-1 : Int32) := ⟨_, rfl⟩
  rw [qz_let, ← eS1] at h
  refine ei_pi hb dX0_clear_2 (pc' := 5) (M1 := (qz_mk S1.1 S1.2)) hcn qz_f_0_9 rfl rfl (fun q => by cases q) rfl (by rw [eS1]; rfl) rfl ?_
  refine ei_aln hb dX0_clear_5 (pc' := 6) rfl rfl ?_
  refine ei_c hb dX0_clear_6 (v := (0 : Int32)) (pc' := 7) (by decide) rfl ?_
  obtain ⟨S2, eS2⟩ : ∃ q, q = qz_wr S1 ((0, 0, i) : qz_N) 1 (0 : Int32) := ⟨_, rfl⟩
  rw [qz_let, ← eS2] at h
  refine ei_pi hb dX0_clear_7 (pc' := 10) (M1 := (qz_mk S2.1 S2.2)) hcn qz_f_0_13 rfl rfl (fun q => by cases q) rfl (by rw [eS2]; rfl) rfl ?_
  refine ei_aln hb dX0_clear_10 (pc' := 11) rfl rfl ?_
  refine ei_c hb dX0_clear_11 (v := (0 : Int32)) (pc' := 12) (by decide) rfl ?_
  obtain ⟨S3, eS3⟩ : ∃ q, q = qz_wr S2 ((0, 0, i) : qz_N) 2 (0 : Int32) := ⟨_, rfl⟩
  rw [qz_let, ← eS3] at h
  refine ei_pi hb dX0_clear_12 (pc' := 15) (M1 := (qz_mk S3.1 S3.2)) hcn qz_f_0_16 rfl rfl (fun q => by cases q) rfl (by rw [eS3]; rfl) rfl ?_
  refine ei_aln hb dX0_clear_15 (pc' := 16) rfl rfl ?_
  refine ei_c hb dX0_clear_16 (v := (0 : Int32)) (pc' := 17) (by decide) rfl ?_
  obtain ⟨S4, eS4⟩ : ∃ q, q = qz_wr S3 ((0, 0, i) : qz_N) 3 (0 : Int32) := ⟨_, rfl⟩
  rw [qz_let, ← eS4] at h
  refine ei_pi hb dX0_clear_17 (pc' := 20) (M1 := (qz_mk S4.1 S4.2)) hcn qz_f_0_19 rfl rfl (fun q => by cases q) rfl (by rw [eS4]; rfl) rfl ?_
  refine ei_aln hb dX0_clear_20 (pc' := 21) rfl rfl ?_
  refine ei_c hb dX0_clear_21 (v := (0 : Int32)) (pc' := 22) (by decide) rfl ?_
  obtain ⟨S5, eS5⟩ : ∃ q, q = qz_wr S4 ((0, 0, i) : qz_N) 4 (0 : Int32) := ⟨_, rfl⟩
  rw [qz_let, ← eS5] at h
  refine ei_pi hb dX0_clear_22 (pc' := 25) (M1 := (qz_mk S5.1 S5.2)) hcn qz_f_0_22 rfl rfl (fun _ => by decide) rfl (by rw [eS5]; rfl) rfl ?_
  refine ei_aln hb dX0_clear_25 (pc' := 26) rfl rfl ?_
  refine ei_c hb dX0_clear_26 (v := (0 : Int32)) (pc' := 27) (by decide) rfl ?_
  obtain ⟨S6, eS6⟩ : ∃ q, q = qz_wr S5 ((0, 0, i) : qz_N) 5 (0 : Int32) := ⟨_, rfl⟩
  rw [qz_let, ← eS6] at h
  refine ei_pi hb dX0_clear_27 (pc' := 30) (M1 := (qz_mk S6.1 S6.2)) hcn qz_f_0_26 rfl rfl (fun q => by cases q) rfl (by rw [eS6]; rfl) rfl ?_
  refine ei_aln hb dX0_clear_30 (pc' := 31) rfl rfl ?_
  refine ei_c hb dX0_clear_31 (v := (0 : Int32)) (pc' := 32) (by decide) rfl ?_
  obtain ⟨S7, eS7⟩ : ∃ q, q = qz_wr S6 ((0, 0, i) : qz_N) 6 (0 : Int32) := ⟨_, rfl⟩
  rw [qz_let, ← eS7] at h
  refine ei_pi hb dX0_clear_32 (pc' := 35) (M1 := (qz_mk S7.1 S7.2)) hcn qz_f_0_29 rfl rfl (fun q => by cases q) rfl (by rw [eS7]; rfl) rfl ?_
  refine ei_aln hb dX0_clear_35 (pc' := 36) rfl rfl ?_
  refine ei_c hb dX0_clear_36 (v := (0 : Int32)) (pc' := 37) (by decide) rfl ?_
  obtain ⟨S8, eS8⟩ : ∃ q, q = qz_wr S7 ((0, 0, i) : qz_N) 7 (0 : Int32) := ⟨_, rfl⟩
  rw [qz_let, ← eS8] at h
  refine ei_pi hb dX0_clear_37 (pc' := 40) (M1 := (qz_mk S8.1 S8.2)) hcn qz_f_0_32 rfl rfl (fun q => by cases q) rfl (by rw [eS8]; rfl) rfl ?_
  have h := Option.some.inj h
  subst h
  exact ei_retv hb dX0_clear_40 rfl
def gB_copyFrom (F : Nat) (S : qz_S) (w : Nat) (i : Nat) (w2 : Nat) (i2 : Nat) : Option (qz_S) :=
  qz_let (qz_wr S ((0, w, i) : qz_N) 0 (S.1 ((0, w2, i2) : qz_N) 0)) fun S1 => qz_let (qz_wr S1 ((0, w, i) : qz_N) 1 (S1.1 ((0, w2, i2) : qz_N) 1)) fun S2 => qz_let (qz_wr S2 ((0, w, i) : qz_N) 2 (S2.1 ((0, w2, i2) : qz_N) 2)) fun S3 => qz_let (qz_wr S3 ((0, w, i) : qz_N) 3 (S3.1 ((0, w2, i2) : qz_N) 3)) fun S4 => if (S4.1 ((0, w2, i2) : qz_N) 4) = 0 ∨ (S4.1 ((0, w2, i2) : qz_N) 4) = 1 then (qz_let (qz_wr S4 ((0, w, i) : qz_N) 4 (S4.1 ((0, w2, i2) : qz_N) 4)) fun S5 => qz_let (qz_wr S5 ((0, w, i) : qz_N) 5 (S5.1 ((0, w2, i2) : qz_N) 5)) fun S7 => qz_let (qz_wr S7 ((0, w, i) : qz_N) 6 (S7.1 ((0, w2, i2) : qz_N) 6)) fun S8 => qz_let (qz_wr S8 ((0, w, i) : qz_N) 7 (S8.1 ((0, w2, i2) : qz_N) 7)) fun S9 => some S9) else none
set_option maxHeartbeats 4000000 in
theorem vB_copyFrom (F : Nat) (S : qz_S) (w : Nat) (i : Nat) (w2 : Nat) (i2 : Nat) (r : qz_S) (h : (gB_copyFrom F S w i w2 i2) = some r) : qz_E 7 0 (qz_in0 7 [.inr (.inl (some ((0, w, i) : qz_N))), .inr (.inl (some ((0, w2, i2) : qz_N)))]) [] (qz_mk S.1 S.2) none (qz_mk r.1 r.2) := by
  have hb : qz_b 7 = cX0_copyFrom := rfl
  have hcn : qz_cn 7 = 0 := rfl
  have hml : qz_ml 7 = 2 := rfl
  show qz_E 7 0 [some (.inr (.inl (some ((0, w, i) : qz_N)))), some (.inr (.inl (some ((0, w2, i2) : qz_N))))] [] _ _ _
  rw [gB_copyFrom] at h
  refine ei_aln hb dX0_copyFrom_0 (pc' := 1) rfl rfl ?_
  refine ei_aln hb dX0_copyFrom_1 (pc' := 2) rfl rfl ?_
  refine ei_gi hb dX0_copyFrom_2 (pc' := 5) (x := (S.1 ((0, w2, i2) : qz_N) 0)) hcn qz_f_0_9 rfl rfl rfl rfl ?_
  obtain ⟨S1, eS1⟩ : ∃ q, q = qz_wr S ((0, w, i) : qz_N) 0 (S.1 ((0, w2, i2) : qz_N) 0) := ⟨_, rfl⟩
  rw [qz_let, ← eS1] at h
  refine ei_pi hb dX0_copyFrom_5 (pc' := 8) (M1 := (qz_mk S1.1 S1.2)) hcn qz_f_0_9 rfl rfl (fun q => by cases q) rfl (by rw [eS1]; rfl) rfl ?_
  refine ei_aln hb dX0_copyFrom_8 (pc' := 9) rfl rfl ?_
  refine ei_aln hb dX0_copyFrom_9 (pc' := 10) rfl rfl ?_
  refine ei_gi hb dX0_copyFrom_10 (pc' := 13) (x := (S1.1 ((0, w2, i2) : qz_N) 1)) hcn qz_f_0_13 rfl rfl rfl rfl ?_
  obtain ⟨S2, eS2⟩ : ∃ q, q = qz_wr S1 ((0, w, i) : qz_N) 1 (S1.1 ((0, w2, i2) : qz_N) 1) := ⟨_, rfl⟩
  rw [qz_let, ← eS2] at h
  refine ei_pi hb dX0_copyFrom_13 (pc' := 16) (M1 := (qz_mk S2.1 S2.2)) hcn qz_f_0_13 rfl rfl (fun q => by cases q) rfl (by rw [eS2]; rfl) rfl ?_
  refine ei_aln hb dX0_copyFrom_16 (pc' := 17) rfl rfl ?_
  refine ei_aln hb dX0_copyFrom_17 (pc' := 18) rfl rfl ?_
  refine ei_gi hb dX0_copyFrom_18 (pc' := 21) (x := (S2.1 ((0, w2, i2) : qz_N) 2)) hcn qz_f_0_16 rfl rfl rfl rfl ?_
  obtain ⟨S3, eS3⟩ : ∃ q, q = qz_wr S2 ((0, w, i) : qz_N) 2 (S2.1 ((0, w2, i2) : qz_N) 2) := ⟨_, rfl⟩
  rw [qz_let, ← eS3] at h
  refine ei_pi hb dX0_copyFrom_21 (pc' := 24) (M1 := (qz_mk S3.1 S3.2)) hcn qz_f_0_16 rfl rfl (fun q => by cases q) rfl (by rw [eS3]; rfl) rfl ?_
  refine ei_aln hb dX0_copyFrom_24 (pc' := 25) rfl rfl ?_
  refine ei_aln hb dX0_copyFrom_25 (pc' := 26) rfl rfl ?_
  refine ei_gi hb dX0_copyFrom_26 (pc' := 29) (x := (S3.1 ((0, w2, i2) : qz_N) 3)) hcn qz_f_0_19 rfl rfl rfl rfl ?_
  obtain ⟨S4, eS4⟩ : ∃ q, q = qz_wr S3 ((0, w, i) : qz_N) 3 (S3.1 ((0, w2, i2) : qz_N) 3) := ⟨_, rfl⟩
  rw [qz_let, ← eS4] at h
  refine ei_pi hb dX0_copyFrom_29 (pc' := 32) (M1 := (qz_mk S4.1 S4.2)) hcn qz_f_0_19 rfl rfl (fun q => by cases q) rfl (by rw [eS4]; rfl) rfl ?_
  refine ei_aln hb dX0_copyFrom_32 (pc' := 33) rfl rfl ?_
  refine ei_aln hb dX0_copyFrom_33 (pc' := 34) rfl rfl ?_
  refine ei_gi hb dX0_copyFrom_34 (pc' := 37) (x := (S4.1 ((0, w2, i2) : qz_N) 4)) hcn qz_f_0_22 rfl rfl rfl rfl ?_
  by_cases c6 : (S4.1 ((0, w2, i2) : qz_N) 4) = 0 ∨ (S4.1 ((0, w2, i2) : qz_N) 4) = 1
  · rw [if_pos c6] at h
    obtain ⟨S5, eS5⟩ : ∃ q, q = qz_wr S4 ((0, w, i) : qz_N) 4 (S4.1 ((0, w2, i2) : qz_N) 4) := ⟨_, rfl⟩
    rw [qz_let, ← eS5] at h
    refine ei_pi hb dX0_copyFrom_37 (pc' := 40) (M1 := (qz_mk S5.1 S5.2)) hcn qz_f_0_22 rfl rfl (fun _ => c6) rfl (by rw [eS5]; rfl) rfl ?_
    refine ei_aln hb dX0_copyFrom_40 (pc' := 41) rfl rfl ?_
    refine ei_aln hb dX0_copyFrom_41 (pc' := 42) rfl rfl ?_
    refine ei_gi hb dX0_copyFrom_42 (pc' := 45) (x := (S5.1 ((0, w2, i2) : qz_N) 5)) hcn qz_f_0_26 rfl rfl rfl rfl ?_
    obtain ⟨S7, eS7⟩ : ∃ q, q = qz_wr S5 ((0, w, i) : qz_N) 5 (S5.1 ((0, w2, i2) : qz_N) 5) := ⟨_, rfl⟩
    rw [qz_let, ← eS7] at h
    refine ei_pi hb dX0_copyFrom_45 (pc' := 48) (M1 := (qz_mk S7.1 S7.2)) hcn qz_f_0_26 rfl rfl (fun q => by cases q) rfl (by rw [eS7]; rfl) rfl ?_
    refine ei_aln hb dX0_copyFrom_48 (pc' := 49) rfl rfl ?_
    refine ei_aln hb dX0_copyFrom_49 (pc' := 50) rfl rfl ?_
    refine ei_gi hb dX0_copyFrom_50 (pc' := 53) (x := (S7.1 ((0, w2, i2) : qz_N) 6)) hcn qz_f_0_29 rfl rfl rfl rfl ?_
    obtain ⟨S8, eS8⟩ : ∃ q, q = qz_wr S7 ((0, w, i) : qz_N) 6 (S7.1 ((0, w2, i2) : qz_N) 6) := ⟨_, rfl⟩
    rw [qz_let, ← eS8] at h
    refine ei_pi hb dX0_copyFrom_53 (pc' := 56) (M1 := (qz_mk S8.1 S8.2)) hcn qz_f_0_29 rfl rfl (fun q => by cases q) rfl (by rw [eS8]; rfl) rfl ?_
    refine ei_aln hb dX0_copyFrom_56 (pc' := 57) rfl rfl ?_
    refine ei_aln hb dX0_copyFrom_57 (pc' := 58) rfl rfl ?_
    refine ei_gi hb dX0_copyFrom_58 (pc' := 61) (x := (S8.1 ((0, w2, i2) : qz_N) 7)) hcn qz_f_0_32 rfl rfl rfl rfl ?_
    obtain ⟨S9, eS9⟩ : ∃ q, q = qz_wr S8 ((0, w, i) : qz_N) 7 (S8.1 ((0, w2, i2) : qz_N) 7) := ⟨_, rfl⟩
    rw [qz_let, ← eS9] at h
    refine ei_pi hb dX0_copyFrom_61 (pc' := 64) (M1 := (qz_mk S9.1 S9.2)) hcn qz_f_0_32 rfl rfl (fun q => by cases q) rfl (by rw [eS9]; rfl) rfl ?_
    have h := Option.some.inj h
    subst h
    exact ei_retv hb dX0_copyFrom_64 rfl
  · rw [if_neg c6] at h
    cases h
def gH_dropOldest_L2 (F : Nat)  (K : (Int32 → qz_S → Option (qz_S))) : Nat → Int32 → qz_S → Option (qz_S)
  | 0, _, _ => none
  | n + 1, y1, T => if (4 : Int32) ≤ y1 then (K y1 T) else (if qz_xi (y1 - (1 : Int32)) 4 = true then (if qz_xi y1 4 = true then (qz_let (qz_wp T ((y1 - (1 : Int32))).toNatClampNeg (T.2 (y1).toNatClampNeg)) fun S4 => qz_let (qz_wp S4 (y1).toNatClampNeg (T.2 ((y1 - (1 : Int32))).toNatClampNeg)) fun S5 => (gH_dropOldest_L2 F K) n (y1 + 1) S5) else none) else none)
def gH_dropOldest (F : Nat) (S : qz_S)  : Option (qz_S) :=
  gH_dropOldest_L2 F (fun y16 T7 => qz_let (qz_wr T7 ((2, 0, 0) : qz_N) 1 ((4 : Int32) - (1 : Int32))) fun S9 => some S9) F (1 : Int32) S
set_option maxHeartbeats 4000000 in
theorem vH_dropOldest_L2 (F : Nat)  (K : (Int32 → qz_S → Option (qz_S))) (hK : ∀ (y1 : Int32) (T : qz_S) (r : qz_S), K y1 T = some r → ∀ (d2 : Option qz_V), qz_E 11 47 [some (.inr (.inl (some ((2, 0, 0) : qz_N)))), some (.inl y1), d2] [] (qz_mk T.1 T.2) none (qz_mk r.1 r.2)) : ∀ (n : Nat) (y1 : Int32) (T : qz_S) (r : qz_S), gH_dropOldest_L2 F K n y1 T = some r → ∀ (d2 : Option qz_V), qz_E 11 2 [some (.inr (.inl (some ((2, 0, 0) : qz_N)))), some (.inl y1), d2] [] (qz_mk T.1 T.2) none (qz_mk r.1 r.2) := by
  have hb : qz_b 11 = cX2_dropOldest := rfl
  have hcn : qz_cn 11 = 2 := rfl
  have hml : qz_ml 11 = 3 := rfl
  intro n
  induction n with
  | zero =>
    intro y1 T r h
    cases h
  | succ n ih =>
    intro y1 T r h d2
    rw [gH_dropOldest_L2] at h
    refine ei_iln hb dX2_dropOldest_2 (pc' := 3) rfl rfl ?_
    refine ei_aln hb dX2_dropOldest_3 (pc' := 4) rfl rfl ?_
    refine ei_gr hb dX2_dropOldest_4 (pc' := 7) (x := some ((16, 0, 0) : qz_N)) hcn qz_f_2_11 rfl rfl rfl rfl ?_
    refine ei_len hb dX2_dropOldest_7 (pc' := 8) (x := (4 : Int32)) (show ¬ qz_at 16 = 0 by decide) rfl rfl ?_
    by_cases c1 : (4 : Int32) ≤ y1
    · rw [if_pos c1] at h
      refine ei_icT hb dX2_dropOldest_8 (pc' := 47) (decide_eq_true c1) (by decide) ?_
      exact hK y1 T _ h _
    · rw [if_neg c1] at h
      refine ei_icF hb dX2_dropOldest_8 (pc' := 11) (t := 47) (decide_eq_false c1) (by decide) rfl ?_
      refine ei_aln hb dX2_dropOldest_11 (pc' := 12) rfl rfl ?_
      refine ei_gr hb dX2_dropOldest_12 (pc' := 15) (x := some ((16, 0, 0) : qz_N)) hcn qz_f_2_11 rfl rfl rfl rfl ?_
      refine ei_iln hb dX2_dropOldest_15 (pc' := 16) rfl rfl ?_
      refine ei_c hb dX2_dropOldest_16 (v := (1 : Int32)) (pc' := 17) (by decide) rfl ?_
      refine ei_sub hb dX2_dropOldest_17 (pc' := 18) rfl ?_
      by_cases c2 : qz_xi (y1 - (1 : Int32)) 4 = true
      · rw [if_pos c2] at h
        refine ei_aa hb dX2_dropOldest_18 (pc' := 19) (x := some ((4, (T.2 ((y1 - (1 : Int32))).toNatClampNeg), 0) : qz_N)) (show 4 ≤ qz_at 16 by decide) c2 (qz_fr_16 c2) rfl ?_
        refine ei_asn hb dX2_dropOldest_19 (pc' := 20) (ls' := [some (.inr (.inl (some ((2, 0, 0) : qz_N)))), some (.inl y1), some (.inr (.inl (some ((4, (T.2 ((y1 - (1 : Int32))).toNatClampNeg), 0) : qz_N))))]) hml (Nat.le_of_ble_eq_true rfl) rfl rfl rfl ?_
        refine ei_aln hb dX2_dropOldest_20 (pc' := 21) rfl rfl ?_
        refine ei_gr hb dX2_dropOldest_21 (pc' := 24) (x := some ((16, 0, 0) : qz_N)) hcn qz_f_2_11 rfl rfl rfl rfl ?_
        refine ei_iln hb dX2_dropOldest_24 (pc' := 25) rfl rfl ?_
        refine ei_c hb dX2_dropOldest_25 (v := (1 : Int32)) (pc' := 26) (by decide) rfl ?_
        refine ei_sub hb dX2_dropOldest_26 (pc' := 27) rfl ?_
        refine ei_aln hb dX2_dropOldest_27 (pc' := 28) rfl rfl ?_
        refine ei_gr hb dX2_dropOldest_28 (pc' := 31) (x := some ((16, 0, 0) : qz_N)) hcn qz_f_2_11 rfl rfl rfl rfl ?_
        refine ei_iln hb dX2_dropOldest_31 (pc' := 32) rfl rfl ?_
        by_cases c3 : qz_xi y1 4 = true
        · rw [if_pos c3] at h
          refine ei_aa hb dX2_dropOldest_32 (pc' := 33) (x := some ((4, (T.2 (y1).toNatClampNeg), 0) : qz_N)) (show 4 ≤ qz_at 16 by decide) c3 (qz_fr_16 c3) rfl ?_
          obtain ⟨S4, eS4⟩ : ∃ q, q = qz_wp T ((y1 - (1 : Int32))).toNatClampNeg (T.2 (y1).toNatClampNeg) := ⟨_, rfl⟩
          rw [qz_let, ← eS4] at h
          refine ei_aas hb dX2_dropOldest_33 (pc' := 34) (M1 := (qz_mk S4.1 S4.2)) (show 4 ≤ qz_at 16 by decide) rfl c2 (by rw [eS4]; exact qz_ur_wp c2) rfl ?_
          refine ei_aln hb dX2_dropOldest_34 (pc' := 35) rfl rfl ?_
          refine ei_gr hb dX2_dropOldest_35 (pc' := 38) (x := some ((16, 0, 0) : qz_N)) hcn qz_f_2_11 rfl rfl rfl rfl ?_
          refine ei_iln hb dX2_dropOldest_38 (pc' := 39) rfl rfl ?_
          refine ei_aln hb dX2_dropOldest_39 (pc' := 40) rfl rfl ?_
          obtain ⟨S5, eS5⟩ : ∃ q, q = qz_wp S4 (y1).toNatClampNeg (T.2 ((y1 - (1 : Int32))).toNatClampNeg) := ⟨_, rfl⟩
          rw [qz_let, ← eS5] at h
          refine ei_aas hb dX2_dropOldest_40 (pc' := 41) (M1 := (qz_mk S5.1 S5.2)) (show 4 ≤ qz_at 16 by decide) rfl c3 (by rw [eS5]; exact qz_ur_wp c3) rfl ?_
          refine ei_inc hb dX2_dropOldest_41 (v := (y1 + 1)) (pc' := 44) (ls' := [some (.inr (.inl (some ((2, 0, 0) : qz_N)))), some (.inl (y1 + 1)), some (.inr (.inl (some ((4, (T.2 ((y1 - (1 : Int32))).toNatClampNeg), 0) : qz_N))))]) rfl hml (Nat.le_of_ble_eq_true rfl) rfl rfl rfl rfl ?_
          refine ei_go hb dX2_dropOldest_44 (pc' := 2) (by decide) ?_
          exact ih (y1 + 1) S5 _ h _
        · rw [if_neg c3] at h
          cases h
      · rw [if_neg c2] at h
        cases h
set_option maxHeartbeats 4000000 in
theorem vH_dropOldest (F : Nat) (S : qz_S)  (r : qz_S) (h : (gH_dropOldest F S) = some r) : qz_E 11 0 (qz_in0 11 [.inr (.inl (some ((2, 0, 0) : qz_N)))]) [] (qz_mk S.1 S.2) none (qz_mk r.1 r.2) := by
  have hb : qz_b 11 = cX2_dropOldest := rfl
  have hcn : qz_cn 11 = 2 := rfl
  have hml : qz_ml 11 = 3 := rfl
  show qz_E 11 0 [some (.inr (.inl (some ((2, 0, 0) : qz_N)))), none, none] [] _ _ _
  rw [gH_dropOldest] at h
  refine ei_c hb dX2_dropOldest_0 (v := (1 : Int32)) (pc' := 1) (by decide) rfl ?_
  refine ei_isn hb dX2_dropOldest_1 (pc' := 2) (ls' := [some (.inr (.inl (some ((2, 0, 0) : qz_N)))), some (.inl (1 : Int32)), none]) hml (Nat.le_of_ble_eq_true rfl) rfl rfl rfl ?_
  refine vH_dropOldest_L2 F _ ?_ F (1 : Int32) S _ h _
  intro y16 T7 r h d8
  refine ei_aln hb dX2_dropOldest_47 (pc' := 48) rfl rfl ?_
  refine ei_aln hb dX2_dropOldest_48 (pc' := 49) rfl rfl ?_
  refine ei_gr hb dX2_dropOldest_49 (pc' := 52) (x := some ((16, 0, 0) : qz_N)) hcn qz_f_2_11 rfl rfl rfl rfl ?_
  refine ei_len hb dX2_dropOldest_52 (pc' := 53) (x := (4 : Int32)) (show ¬ qz_at 16 = 0 by decide) rfl rfl ?_
  refine ei_c hb dX2_dropOldest_53 (v := (1 : Int32)) (pc' := 54) (by decide) rfl ?_
  refine ei_sub hb dX2_dropOldest_54 (pc' := 55) rfl ?_
  obtain ⟨S9, eS9⟩ : ∃ q, q = qz_wr T7 ((2, 0, 0) : qz_N) 1 ((4 : Int32) - (1 : Int32)) := ⟨_, rfl⟩
  rw [qz_let, ← eS9] at h
  refine ei_pi hb dX2_dropOldest_55 (pc' := 58) (M1 := (qz_mk S9.1 S9.2)) hcn qz_f_2_17 rfl rfl (fun q => by cases q) rfl (by rw [eS9]; rfl) rfl ?_
  have h := Option.some.inj h
  subst h
  exact ei_retv hb dX2_dropOldest_58 rfl
def gW_copyRow_10_L2 (F : Nat) (w2 : Nat) (w : Nat) (K : (Int32 → qz_S → Option (qz_S))) : Nat → Int32 → qz_S → Option (qz_S)
  | 0, _, _ => none
  | n + 1, y2, T => if (10 : Int32) ≤ y2 then (K y2 T) else (if qz_xi y2 10 = true then (qz_let (qz_wr T ((10, w, 0) : qz_N) (y2).toNatClampNeg (T.1 ((10, w2, 0) : qz_N) (y2).toNatClampNeg)) fun S3 => (gW_copyRow_10_L2 F w2 w K) n (y2 + 1) S3) else none)
def gW_copyRow_10 (F : Nat) (S : qz_S) (w2 : Nat) (w : Nat) : Option (qz_S) :=
  gW_copyRow_10_L2 F w2 w (fun y24 T5 => some T5) F (0 : Int32) S
set_option maxHeartbeats 4000000 in
theorem vW_copyRow_10_L2 (F : Nat) (w2 : Nat) (w : Nat) (K : (Int32 → qz_S → Option (qz_S))) (hK : ∀ (y2 : Int32) (T : qz_S) (r : qz_S), K y2 T = some r → qz_E 16 26 [some (.inr (.inl (some ((10, w2, 0) : qz_N)))), some (.inr (.inl (some ((10, w, 0) : qz_N)))), some (.inl y2)] [] (qz_mk T.1 T.2) none (qz_mk r.1 r.2)) : ∀ (n : Nat) (y2 : Int32) (T : qz_S) (r : qz_S), gW_copyRow_10_L2 F w2 w K n y2 T = some r → qz_E 16 2 [some (.inr (.inl (some ((10, w2, 0) : qz_N)))), some (.inr (.inl (some ((10, w, 0) : qz_N)))), some (.inl y2)] [] (qz_mk T.1 T.2) none (qz_mk r.1 r.2) := by
  have hb : qz_b 16 = cX4_copyRow := rfl
  have hcn : qz_cn 16 = 4 := rfl
  have hml : qz_ml 16 = 3 := rfl
  intro n
  induction n with
  | zero =>
    intro y2 T r h
    cases h
  | succ n ih =>
    intro y2 T r h
    rw [gW_copyRow_10_L2] at h
    refine ei_iln hb dX4_copyRow_2 (pc' := 3) rfl rfl ?_
    refine ei_aln hb dX4_copyRow_3 (pc' := 4) rfl rfl ?_
    refine ei_len hb dX4_copyRow_4 (pc' := 5) (x := (10 : Int32)) (show ¬ qz_at 10 = 0 by decide) rfl rfl ?_
    by_cases c1 : (10 : Int32) ≤ y2
    · rw [if_pos c1] at h
      refine ei_icT hb dX4_copyRow_5 (pc' := 26) (decide_eq_true c1) (by decide) ?_
      exact hK y2 T _ h
    · rw [if_neg c1] at h
      refine ei_icF hb dX4_copyRow_5 (pc' := 8) (t := 26) (decide_eq_false c1) (by decide) rfl ?_
      refine ei_iln hb dX4_copyRow_8 (pc' := 9) rfl rfl ?_
      refine ei_aln hb dX4_copyRow_9 (pc' := 10) rfl rfl ?_
      refine ei_len hb dX4_copyRow_10 (pc' := 11) (x := (10 : Int32)) (show ¬ qz_at 10 = 0 by decide) rfl rfl ?_
      refine ei_icF hb dX4_copyRow_11 (pc' := 14) (t := 26) (decide_eq_false c1) (by decide) rfl ?_
      refine ei_aln hb dX4_copyRow_14 (pc' := 15) rfl rfl ?_
      refine ei_iln hb dX4_copyRow_15 (pc' := 16) rfl rfl ?_
      refine ei_aln hb dX4_copyRow_16 (pc' := 17) rfl rfl ?_
      refine ei_iln hb dX4_copyRow_17 (pc' := 18) rfl rfl ?_
      by_cases c2 : qz_xi y2 10 = true
      · rw [if_pos c2] at h
        refine ei_ia hb dX4_copyRow_18 (pc' := 19) (x := (T.1 ((10, w2, 0) : qz_N) (y2).toNatClampNeg)) rfl c2 rfl rfl ?_
        obtain ⟨S3, eS3⟩ : ∃ q, q = qz_wr T ((10, w, 0) : qz_N) (y2).toNatClampNeg (T.1 ((10, w2, 0) : qz_N) (y2).toNatClampNeg) := ⟨_, rfl⟩
        rw [qz_let, ← eS3] at h
        refine ei_ist hb dX4_copyRow_19 (pc' := 20) (M1 := (qz_mk S3.1 S3.2)) rfl (Nat.le_of_ble_eq_true rfl) c2 (by rw [eS3]; rfl) rfl ?_
        refine ei_inc hb dX4_copyRow_20 (v := (y2 + 1)) (pc' := 23) (ls' := [some (.inr (.inl (some ((10, w2, 0) : qz_N)))), some (.inr (.inl (some ((10, w, 0) : qz_N)))), some (.inl (y2 + 1))]) rfl hml (Nat.le_of_ble_eq_true rfl) rfl rfl rfl rfl ?_
        refine ei_go hb dX4_copyRow_23 (pc' := 2) (by decide) ?_
        exact ih (y2 + 1) S3 _ h
      · rw [if_neg c2] at h
        cases h
set_option maxHeartbeats 4000000 in
theorem vW_copyRow_10 (F : Nat) (S : qz_S) (w2 : Nat) (w : Nat) (r : qz_S) (h : (gW_copyRow_10 F S w2 w) = some r) : qz_E 16 0 (qz_in0 16 [.inr (.inl (some ((10, w2, 0) : qz_N))), .inr (.inl (some ((10, w, 0) : qz_N)))]) [] (qz_mk S.1 S.2) none (qz_mk r.1 r.2) := by
  have hb : qz_b 16 = cX4_copyRow := rfl
  have hcn : qz_cn 16 = 4 := rfl
  have hml : qz_ml 16 = 3 := rfl
  show qz_E 16 0 [some (.inr (.inl (some ((10, w2, 0) : qz_N)))), some (.inr (.inl (some ((10, w, 0) : qz_N)))), none] [] _ _ _
  rw [gW_copyRow_10] at h
  refine ei_c hb dX4_copyRow_0 (v := (0 : Int32)) (pc' := 1) (by decide) rfl ?_
  refine ei_isn hb dX4_copyRow_1 (pc' := 2) (ls' := [some (.inr (.inl (some ((10, w2, 0) : qz_N)))), some (.inr (.inl (some ((10, w, 0) : qz_N)))), some (.inl (0 : Int32))]) hml (Nat.le_of_ble_eq_true rfl) rfl rfl rfl ?_
  refine vW_copyRow_10_L2 F w2 w _ ?_ F (0 : Int32) S _ h
  intro y24 T5 r h
  have h := Option.some.inj h
  subst h
  exact ei_retv hb dX4_copyRow_26 rfl
def gW_copyRow_11_L2 (F : Nat) (w2 : Nat) (w : Nat) (K : (Int32 → qz_S → Option (qz_S))) : Nat → Int32 → qz_S → Option (qz_S)
  | 0, _, _ => none
  | n + 1, y2, T => if (20 : Int32) ≤ y2 then (K y2 T) else (if qz_xi y2 20 = true then (qz_let (qz_wr T ((11, w, 0) : qz_N) (y2).toNatClampNeg (T.1 ((11, w2, 0) : qz_N) (y2).toNatClampNeg)) fun S3 => (gW_copyRow_11_L2 F w2 w K) n (y2 + 1) S3) else none)
def gW_copyRow_11 (F : Nat) (S : qz_S) (w2 : Nat) (w : Nat) : Option (qz_S) :=
  gW_copyRow_11_L2 F w2 w (fun y24 T5 => some T5) F (0 : Int32) S
set_option maxHeartbeats 4000000 in
theorem vW_copyRow_11_L2 (F : Nat) (w2 : Nat) (w : Nat) (K : (Int32 → qz_S → Option (qz_S))) (hK : ∀ (y2 : Int32) (T : qz_S) (r : qz_S), K y2 T = some r → qz_E 16 26 [some (.inr (.inl (some ((11, w2, 0) : qz_N)))), some (.inr (.inl (some ((11, w, 0) : qz_N)))), some (.inl y2)] [] (qz_mk T.1 T.2) none (qz_mk r.1 r.2)) : ∀ (n : Nat) (y2 : Int32) (T : qz_S) (r : qz_S), gW_copyRow_11_L2 F w2 w K n y2 T = some r → qz_E 16 2 [some (.inr (.inl (some ((11, w2, 0) : qz_N)))), some (.inr (.inl (some ((11, w, 0) : qz_N)))), some (.inl y2)] [] (qz_mk T.1 T.2) none (qz_mk r.1 r.2) := by
  have hb : qz_b 16 = cX4_copyRow := rfl
  have hcn : qz_cn 16 = 4 := rfl
  have hml : qz_ml 16 = 3 := rfl
  intro n
  induction n with
  | zero =>
    intro y2 T r h
    cases h
  | succ n ih =>
    intro y2 T r h
    rw [gW_copyRow_11_L2] at h
    refine ei_iln hb dX4_copyRow_2 (pc' := 3) rfl rfl ?_
    refine ei_aln hb dX4_copyRow_3 (pc' := 4) rfl rfl ?_
    refine ei_len hb dX4_copyRow_4 (pc' := 5) (x := (20 : Int32)) (show ¬ qz_at 11 = 0 by decide) rfl rfl ?_
    by_cases c1 : (20 : Int32) ≤ y2
    · rw [if_pos c1] at h
      refine ei_icT hb dX4_copyRow_5 (pc' := 26) (decide_eq_true c1) (by decide) ?_
      exact hK y2 T _ h
    · rw [if_neg c1] at h
      refine ei_icF hb dX4_copyRow_5 (pc' := 8) (t := 26) (decide_eq_false c1) (by decide) rfl ?_
      refine ei_iln hb dX4_copyRow_8 (pc' := 9) rfl rfl ?_
      refine ei_aln hb dX4_copyRow_9 (pc' := 10) rfl rfl ?_
      refine ei_len hb dX4_copyRow_10 (pc' := 11) (x := (20 : Int32)) (show ¬ qz_at 11 = 0 by decide) rfl rfl ?_
      refine ei_icF hb dX4_copyRow_11 (pc' := 14) (t := 26) (decide_eq_false c1) (by decide) rfl ?_
      refine ei_aln hb dX4_copyRow_14 (pc' := 15) rfl rfl ?_
      refine ei_iln hb dX4_copyRow_15 (pc' := 16) rfl rfl ?_
      refine ei_aln hb dX4_copyRow_16 (pc' := 17) rfl rfl ?_
      refine ei_iln hb dX4_copyRow_17 (pc' := 18) rfl rfl ?_
      by_cases c2 : qz_xi y2 20 = true
      · rw [if_pos c2] at h
        refine ei_ia hb dX4_copyRow_18 (pc' := 19) (x := (T.1 ((11, w2, 0) : qz_N) (y2).toNatClampNeg)) rfl c2 rfl rfl ?_
        obtain ⟨S3, eS3⟩ : ∃ q, q = qz_wr T ((11, w, 0) : qz_N) (y2).toNatClampNeg (T.1 ((11, w2, 0) : qz_N) (y2).toNatClampNeg) := ⟨_, rfl⟩
        rw [qz_let, ← eS3] at h
        refine ei_ist hb dX4_copyRow_19 (pc' := 20) (M1 := (qz_mk S3.1 S3.2)) rfl (Nat.le_of_ble_eq_true rfl) c2 (by rw [eS3]; rfl) rfl ?_
        refine ei_inc hb dX4_copyRow_20 (v := (y2 + 1)) (pc' := 23) (ls' := [some (.inr (.inl (some ((11, w2, 0) : qz_N)))), some (.inr (.inl (some ((11, w, 0) : qz_N)))), some (.inl (y2 + 1))]) rfl hml (Nat.le_of_ble_eq_true rfl) rfl rfl rfl rfl ?_
        refine ei_go hb dX4_copyRow_23 (pc' := 2) (by decide) ?_
        exact ih (y2 + 1) S3 _ h
      · rw [if_neg c2] at h
        cases h
set_option maxHeartbeats 4000000 in
theorem vW_copyRow_11 (F : Nat) (S : qz_S) (w2 : Nat) (w : Nat) (r : qz_S) (h : (gW_copyRow_11 F S w2 w) = some r) : qz_E 16 0 (qz_in0 16 [.inr (.inl (some ((11, w2, 0) : qz_N))), .inr (.inl (some ((11, w, 0) : qz_N)))]) [] (qz_mk S.1 S.2) none (qz_mk r.1 r.2) := by
  have hb : qz_b 16 = cX4_copyRow := rfl
  have hcn : qz_cn 16 = 4 := rfl
  have hml : qz_ml 16 = 3 := rfl
  show qz_E 16 0 [some (.inr (.inl (some ((11, w2, 0) : qz_N)))), some (.inr (.inl (some ((11, w, 0) : qz_N)))), none] [] _ _ _
  rw [gW_copyRow_11] at h
  refine ei_c hb dX4_copyRow_0 (v := (0 : Int32)) (pc' := 1) (by decide) rfl ?_
  refine ei_isn hb dX4_copyRow_1 (pc' := 2) (ls' := [some (.inr (.inl (some ((11, w2, 0) : qz_N)))), some (.inr (.inl (some ((11, w, 0) : qz_N)))), some (.inl (0 : Int32))]) hml (Nat.le_of_ble_eq_true rfl) rfl rfl rfl ?_
  refine vW_copyRow_11_L2 F w2 w _ ?_ F (0 : Int32) S _ h
  intro y24 T5 r h
  have h := Option.some.inj h
  subst h
  exact ei_retv hb dX4_copyRow_26 rfl
def gW_copyRow_12_L2 (F : Nat) (w2 : Nat) (w : Nat) (K : (Int32 → qz_S → Option (qz_S))) : Nat → Int32 → qz_S → Option (qz_S)
  | 0, _, _ => none
  | n + 1, y2, T => if (4 : Int32) ≤ y2 then (K y2 T) else (if qz_xi y2 4 = true then (qz_let (qz_wr T ((12, w, 0) : qz_N) (y2).toNatClampNeg (T.1 ((12, w2, 0) : qz_N) (y2).toNatClampNeg)) fun S3 => (gW_copyRow_12_L2 F w2 w K) n (y2 + 1) S3) else none)
def gW_copyRow_12 (F : Nat) (S : qz_S) (w2 : Nat) (w : Nat) : Option (qz_S) :=
  gW_copyRow_12_L2 F w2 w (fun y24 T5 => some T5) F (0 : Int32) S
set_option maxHeartbeats 4000000 in
theorem vW_copyRow_12_L2 (F : Nat) (w2 : Nat) (w : Nat) (K : (Int32 → qz_S → Option (qz_S))) (hK : ∀ (y2 : Int32) (T : qz_S) (r : qz_S), K y2 T = some r → qz_E 16 26 [some (.inr (.inl (some ((12, w2, 0) : qz_N)))), some (.inr (.inl (some ((12, w, 0) : qz_N)))), some (.inl y2)] [] (qz_mk T.1 T.2) none (qz_mk r.1 r.2)) : ∀ (n : Nat) (y2 : Int32) (T : qz_S) (r : qz_S), gW_copyRow_12_L2 F w2 w K n y2 T = some r → qz_E 16 2 [some (.inr (.inl (some ((12, w2, 0) : qz_N)))), some (.inr (.inl (some ((12, w, 0) : qz_N)))), some (.inl y2)] [] (qz_mk T.1 T.2) none (qz_mk r.1 r.2) := by
  have hb : qz_b 16 = cX4_copyRow := rfl
  have hcn : qz_cn 16 = 4 := rfl
  have hml : qz_ml 16 = 3 := rfl
  intro n
  induction n with
  | zero =>
    intro y2 T r h
    cases h
  | succ n ih =>
    intro y2 T r h
    rw [gW_copyRow_12_L2] at h
    refine ei_iln hb dX4_copyRow_2 (pc' := 3) rfl rfl ?_
    refine ei_aln hb dX4_copyRow_3 (pc' := 4) rfl rfl ?_
    refine ei_len hb dX4_copyRow_4 (pc' := 5) (x := (4 : Int32)) (show ¬ qz_at 12 = 0 by decide) rfl rfl ?_
    by_cases c1 : (4 : Int32) ≤ y2
    · rw [if_pos c1] at h
      refine ei_icT hb dX4_copyRow_5 (pc' := 26) (decide_eq_true c1) (by decide) ?_
      exact hK y2 T _ h
    · rw [if_neg c1] at h
      refine ei_icF hb dX4_copyRow_5 (pc' := 8) (t := 26) (decide_eq_false c1) (by decide) rfl ?_
      refine ei_iln hb dX4_copyRow_8 (pc' := 9) rfl rfl ?_
      refine ei_aln hb dX4_copyRow_9 (pc' := 10) rfl rfl ?_
      refine ei_len hb dX4_copyRow_10 (pc' := 11) (x := (4 : Int32)) (show ¬ qz_at 12 = 0 by decide) rfl rfl ?_
      refine ei_icF hb dX4_copyRow_11 (pc' := 14) (t := 26) (decide_eq_false c1) (by decide) rfl ?_
      refine ei_aln hb dX4_copyRow_14 (pc' := 15) rfl rfl ?_
      refine ei_iln hb dX4_copyRow_15 (pc' := 16) rfl rfl ?_
      refine ei_aln hb dX4_copyRow_16 (pc' := 17) rfl rfl ?_
      refine ei_iln hb dX4_copyRow_17 (pc' := 18) rfl rfl ?_
      by_cases c2 : qz_xi y2 4 = true
      · rw [if_pos c2] at h
        refine ei_ia hb dX4_copyRow_18 (pc' := 19) (x := (T.1 ((12, w2, 0) : qz_N) (y2).toNatClampNeg)) rfl c2 rfl rfl ?_
        obtain ⟨S3, eS3⟩ : ∃ q, q = qz_wr T ((12, w, 0) : qz_N) (y2).toNatClampNeg (T.1 ((12, w2, 0) : qz_N) (y2).toNatClampNeg) := ⟨_, rfl⟩
        rw [qz_let, ← eS3] at h
        refine ei_ist hb dX4_copyRow_19 (pc' := 20) (M1 := (qz_mk S3.1 S3.2)) rfl (Nat.le_of_ble_eq_true rfl) c2 (by rw [eS3]; rfl) rfl ?_
        refine ei_inc hb dX4_copyRow_20 (v := (y2 + 1)) (pc' := 23) (ls' := [some (.inr (.inl (some ((12, w2, 0) : qz_N)))), some (.inr (.inl (some ((12, w, 0) : qz_N)))), some (.inl (y2 + 1))]) rfl hml (Nat.le_of_ble_eq_true rfl) rfl rfl rfl rfl ?_
        refine ei_go hb dX4_copyRow_23 (pc' := 2) (by decide) ?_
        exact ih (y2 + 1) S3 _ h
      · rw [if_neg c2] at h
        cases h
set_option maxHeartbeats 4000000 in
theorem vW_copyRow_12 (F : Nat) (S : qz_S) (w2 : Nat) (w : Nat) (r : qz_S) (h : (gW_copyRow_12 F S w2 w) = some r) : qz_E 16 0 (qz_in0 16 [.inr (.inl (some ((12, w2, 0) : qz_N))), .inr (.inl (some ((12, w, 0) : qz_N)))]) [] (qz_mk S.1 S.2) none (qz_mk r.1 r.2) := by
  have hb : qz_b 16 = cX4_copyRow := rfl
  have hcn : qz_cn 16 = 4 := rfl
  have hml : qz_ml 16 = 3 := rfl
  show qz_E 16 0 [some (.inr (.inl (some ((12, w2, 0) : qz_N)))), some (.inr (.inl (some ((12, w, 0) : qz_N)))), none] [] _ _ _
  rw [gW_copyRow_12] at h
  refine ei_c hb dX4_copyRow_0 (v := (0 : Int32)) (pc' := 1) (by decide) rfl ?_
  refine ei_isn hb dX4_copyRow_1 (pc' := 2) (ls' := [some (.inr (.inl (some ((12, w2, 0) : qz_N)))), some (.inr (.inl (some ((12, w, 0) : qz_N)))), some (.inl (0 : Int32))]) hml (Nat.le_of_ble_eq_true rfl) rfl rfl rfl ?_
  refine vW_copyRow_12_L2 F w2 w _ ?_ F (0 : Int32) S _ h
  intro y24 T5 r h
  have h := Option.some.inj h
  subst h
  exact ei_retv hb dX4_copyRow_26 rfl
def gW_copyFrom_L43 (F : Nat) (w : Nat) (w2 : Nat) (K : (Int32 → qz_S → Option (qz_S))) : Nat → Int32 → qz_S → Option (qz_S)
  | 0, _, _ => none
  | n + 1, y2, T => if (30 : Int32) ≤ y2 then (K y2 T) else (if qz_xi y2 30 = true then (Option.bind (gB_copyFrom F T w ((y2).toNatClampNeg) w2 ((y2).toNatClampNeg)) fun R10 => (gW_copyFrom_L43 F w w2 K) n (y2 + 1) R10) else none)
def gW_copyFrom (F : Nat) (S : qz_S) (w : Nat) (w2 : Nat) : Option (qz_S) :=
  if w < 6 ∧ w2 < 6 then (qz_let (qz_wr S ((4, w, 0) : qz_N) 0 (S.1 ((4, w2, 0) : qz_N) 0)) fun S1 => Option.bind (gW_copyRow_10 F S1 w2 w) fun R2 => Option.bind (gW_copyRow_11 F R2 w2 w) fun R4 => Option.bind (gW_copyRow_12 F R4 w2 w) fun R6 => gW_copyFrom_L43 F w w2 (fun y212 T13 => qz_let (qz_wr T13 ((4, w, 0) : qz_N) 5 (T13.1 ((4, w2, 0) : qz_N) 5)) fun S14 => qz_let (qz_wr S14 ((4, w, 0) : qz_N) 6 (S14.1 ((4, w2, 0) : qz_N) 6)) fun S15 => qz_let (qz_wr S15 ((4, w, 0) : qz_N) 7 (S15.1 ((4, w2, 0) : qz_N) 7)) fun S16 => qz_let (qz_wr S16 ((4, w, 0) : qz_N) 8 (S16.1 ((4, w2, 0) : qz_N) 8)) fun S17 => qz_let (qz_wr S17 ((4, w, 0) : qz_N) 9 (S17.1 ((4, w2, 0) : qz_N) 9)) fun S18 => qz_let (qz_wr S18 ((4, w, 0) : qz_N) 10 (S18.1 ((4, w2, 0) : qz_N) 10)) fun S19 => qz_let (qz_wr S19 ((4, w, 0) : qz_N) 11 (S19.1 ((4, w2, 0) : qz_N) 11)) fun S20 => some S20) F (0 : Int32) R6) else none
set_option maxHeartbeats 4000000 in
theorem vW_copyFrom_L43 (F : Nat) (w : Nat) (w2 : Nat) (hww : w < 6) (hww2 : w2 < 6) (K : (Int32 → qz_S → Option (qz_S))) (hK : ∀ (y2 : Int32) (T : qz_S) (r : qz_S), K y2 T = some r → qz_E 15 82 [some (.inr (.inl (some ((4, w, 0) : qz_N)))), some (.inr (.inl (some ((4, w2, 0) : qz_N)))), some (.inl y2)] [] (qz_mk T.1 T.2) none (qz_mk r.1 r.2)) : ∀ (n : Nat) (y2 : Int32) (T : qz_S) (r : qz_S), gW_copyFrom_L43 F w w2 K n y2 T = some r → qz_E 15 43 [some (.inr (.inl (some ((4, w, 0) : qz_N)))), some (.inr (.inl (some ((4, w2, 0) : qz_N)))), some (.inl y2)] [] (qz_mk T.1 T.2) none (qz_mk r.1 r.2) := by
  have hb : qz_b 15 = cX4_copyFrom := rfl
  have hcn : qz_cn 15 = 4 := rfl
  have hml : qz_ml 15 = 3 := rfl
  intro n
  induction n with
  | zero =>
    intro y2 T r h
    cases h
  | succ n ih =>
    intro y2 T r h
    rw [gW_copyFrom_L43] at h
    refine ei_iln hb dX4_copyFrom_43 (pc' := 44) rfl rfl ?_
    refine ei_aln hb dX4_copyFrom_44 (pc' := 45) rfl rfl ?_
    refine ei_gr hb dX4_copyFrom_45 (pc' := 48) (x := some ((13, w, 0) : qz_N)) hcn qz_f_4_30 rfl rfl (qz_fr_4 (p := T.2) hww (by decide)) rfl ?_
    refine ei_len hb dX4_copyFrom_48 (pc' := 49) (x := (30 : Int32)) (show ¬ qz_at 13 = 0 by decide) rfl rfl ?_
    by_cases c8 : (30 : Int32) ≤ y2
    · rw [if_pos c8] at h
      refine ei_icT hb dX4_copyFrom_49 (pc' := 82) (decide_eq_true c8) (by decide) ?_
      exact hK y2 T _ h
    · rw [if_neg c8] at h
      refine ei_icF hb dX4_copyFrom_49 (pc' := 52) (t := 82) (decide_eq_false c8) (by decide) rfl ?_
      refine ei_iln hb dX4_copyFrom_52 (pc' := 53) rfl rfl ?_
      refine ei_aln hb dX4_copyFrom_53 (pc' := 54) rfl rfl ?_
      refine ei_gr hb dX4_copyFrom_54 (pc' := 57) (x := some ((13, w2, 0) : qz_N)) hcn qz_f_4_30 rfl rfl (qz_fr_4 (p := T.2) hww2 (by decide)) rfl ?_
      refine ei_len hb dX4_copyFrom_57 (pc' := 58) (x := (30 : Int32)) (show ¬ qz_at 13 = 0 by decide) rfl rfl ?_
      refine ei_icF hb dX4_copyFrom_58 (pc' := 61) (t := 82) (decide_eq_false c8) (by decide) rfl ?_
      refine ei_aln hb dX4_copyFrom_61 (pc' := 62) rfl rfl ?_
      refine ei_gr hb dX4_copyFrom_62 (pc' := 65) (x := some ((13, w, 0) : qz_N)) hcn qz_f_4_30 rfl rfl (qz_fr_4 (p := T.2) hww (by decide)) rfl ?_
      refine ei_iln hb dX4_copyFrom_65 (pc' := 66) rfl rfl ?_
      by_cases c9 : qz_xi y2 30 = true
      · rw [if_pos c9] at h
        refine ei_aa hb dX4_copyFrom_66 (pc' := 67) (x := some ((0, w, (y2).toNatClampNeg) : qz_N)) (show 4 ≤ qz_at 13 by decide) c9 (qz_fr_13 hww c9) rfl ?_
        refine ei_aln hb dX4_copyFrom_67 (pc' := 68) rfl rfl ?_
        refine ei_gr hb dX4_copyFrom_68 (pc' := 71) (x := some ((13, w2, 0) : qz_N)) hcn qz_f_4_30 rfl rfl (qz_fr_4 (p := T.2) hww2 (by decide)) rfl ?_
        refine ei_iln hb dX4_copyFrom_71 (pc' := 72) rfl rfl ?_
        refine ei_aa hb dX4_copyFrom_72 (pc' := 73) (x := some ((0, w2, (y2).toNatClampNeg) : qz_N)) (show 4 ≤ qz_at 13 by decide) c9 (qz_fr_13 hww2 c9) rfl ?_
        obtain ⟨R10, e11, h⟩ := Option.bind_eq_some_iff.mp h
        refine ei_cv hb dX4_copyFrom_73 (pc' := 76) (M1 := (qz_mk R10.1 R10.2)) (as := [.inr (.inl (some ((0, w2, (y2).toNatClampNeg) : qz_N)))]) (rest := []) (st' := []) hcn qz_c_4_60 qz_k_7 (qz_q_15_7) (Nat.le_of_ble_eq_true rfl) (Nat.le_of_ble_eq_true rfl) rfl rfl rfl rfl (vB_copyFrom F T w ((y2).toNatClampNeg) w2 ((y2).toNatClampNeg) _ e11) rfl rfl ?_
        refine ei_inc hb dX4_copyFrom_76 (v := (y2 + 1)) (pc' := 79) (ls' := [some (.inr (.inl (some ((4, w, 0) : qz_N)))), some (.inr (.inl (some ((4, w2, 0) : qz_N)))), some (.inl (y2 + 1))]) rfl hml (Nat.le_of_ble_eq_true rfl) rfl rfl rfl rfl ?_
        refine ei_go hb dX4_copyFrom_79 (pc' := 43) (by decide) ?_
        exact ih (y2 + 1) R10 _ h
      · rw [if_neg c9] at h
        cases h
set_option maxHeartbeats 4000000 in
theorem vW_copyFrom (F : Nat) (S : qz_S) (w : Nat) (w2 : Nat) (r : qz_S) (h : (gW_copyFrom F S w w2) = some r) : qz_E 15 0 (qz_in0 15 [.inr (.inl (some ((4, w, 0) : qz_N))), .inr (.inl (some ((4, w2, 0) : qz_N)))]) [] (qz_mk S.1 S.2) none (qz_mk r.1 r.2) := by
  have hb : qz_b 15 = cX4_copyFrom := rfl
  have hcn : qz_cn 15 = 4 := rfl
  have hml : qz_ml 15 = 3 := rfl
  show qz_E 15 0 [some (.inr (.inl (some ((4, w, 0) : qz_N)))), some (.inr (.inl (some ((4, w2, 0) : qz_N)))), none] [] _ _ _
  rw [gW_copyFrom] at h
  by_cases hww0 : w < 6 ∧ w2 < 6
  · rw [if_pos hww0] at h
    obtain ⟨hww, hww2⟩ := hww0
    refine ei_aln hb dX4_copyFrom_0 (pc' := 1) rfl rfl ?_
    refine ei_aln hb dX4_copyFrom_1 (pc' := 2) rfl rfl ?_
    refine ei_gi hb dX4_copyFrom_2 (pc' := 5) (x := (S.1 ((4, w2, 0) : qz_N) 0)) hcn qz_f_4_9 rfl rfl rfl rfl ?_
    obtain ⟨S1, eS1⟩ : ∃ q, q = qz_wr S ((4, w, 0) : qz_N) 0 (S.1 ((4, w2, 0) : qz_N) 0) := ⟨_, rfl⟩
    rw [qz_let, ← eS1] at h
    refine ei_pi hb dX4_copyFrom_5 (pc' := 8) (M1 := (qz_mk S1.1 S1.2)) hcn qz_f_4_9 rfl rfl (fun q => by cases q) rfl (by rw [eS1]; rfl) rfl ?_
    refine ei_aln hb dX4_copyFrom_8 (pc' := 9) rfl rfl ?_
    refine ei_gr hb dX4_copyFrom_9 (pc' := 12) (x := some ((10, w2, 0) : qz_N)) hcn qz_f_4_15 rfl rfl (qz_fr_4 (p := S1.2) hww2 (by decide)) rfl ?_
    refine ei_aln hb dX4_copyFrom_12 (pc' := 13) rfl rfl ?_
    refine ei_gr hb dX4_copyFrom_13 (pc' := 16) (x := some ((10, w, 0) : qz_N)) hcn qz_f_4_15 rfl rfl (qz_fr_4 (p := S1.2) hww (by decide)) rfl ?_
    obtain ⟨R2, e3, h⟩ := Option.bind_eq_some_iff.mp h
    refine ei_cs hb dX4_copyFrom_16 (pc' := 19) (M1 := (qz_mk R2.1 R2.2)) (as := [.inr (.inl (some ((10, w2, 0) : qz_N))), .inr (.inl (some ((10, w, 0) : qz_N)))]) (rest := []) (st' := []) hcn qz_c_4_56 rfl qz_k_16 (qz_q_15_16) (Nat.le_of_ble_eq_true rfl) (Nat.le_of_ble_eq_true rfl) rfl rfl rfl (vW_copyRow_10 F S1 w2 w _ e3) rfl rfl ?_
    refine ei_aln hb dX4_copyFrom_19 (pc' := 20) rfl rfl ?_
    refine ei_gr hb dX4_copyFrom_20 (pc' := 23) (x := some ((11, w2, 0) : qz_N)) hcn qz_f_4_19 rfl rfl (qz_fr_4 (p := R2.2) hww2 (by decide)) rfl ?_
    refine ei_aln hb dX4_copyFrom_23 (pc' := 24) rfl rfl ?_
    refine ei_gr hb dX4_copyFrom_24 (pc' := 27) (x := some ((11, w, 0) : qz_N)) hcn qz_f_4_19 rfl rfl (qz_fr_4 (p := R2.2) hww (by decide)) rfl ?_
    obtain ⟨R4, e5, h⟩ := Option.bind_eq_some_iff.mp h
    refine ei_cs hb dX4_copyFrom_27 (pc' := 30) (M1 := (qz_mk R4.1 R4.2)) (as := [.inr (.inl (some ((11, w2, 0) : qz_N))), .inr (.inl (some ((11, w, 0) : qz_N)))]) (rest := []) (st' := []) hcn qz_c_4_56 rfl qz_k_16 (qz_q_15_16) (Nat.le_of_ble_eq_true rfl) (Nat.le_of_ble_eq_true rfl) rfl rfl rfl (vW_copyRow_11 F R2 w2 w _ e5) rfl rfl ?_
    refine ei_aln hb dX4_copyFrom_30 (pc' := 31) rfl rfl ?_
    refine ei_gr hb dX4_copyFrom_31 (pc' := 34) (x := some ((12, w2, 0) : qz_N)) hcn qz_f_4_25 rfl rfl (qz_fr_4 (p := R4.2) hww2 (by decide)) rfl ?_
    refine ei_aln hb dX4_copyFrom_34 (pc' := 35) rfl rfl ?_
    refine ei_gr hb dX4_copyFrom_35 (pc' := 38) (x := some ((12, w, 0) : qz_N)) hcn qz_f_4_25 rfl rfl (qz_fr_4 (p := R4.2) hww (by decide)) rfl ?_
    obtain ⟨R6, e7, h⟩ := Option.bind_eq_some_iff.mp h
    refine ei_cs hb dX4_copyFrom_38 (pc' := 41) (M1 := (qz_mk R6.1 R6.2)) (as := [.inr (.inl (some ((12, w2, 0) : qz_N))), .inr (.inl (some ((12, w, 0) : qz_N)))]) (rest := []) (st' := []) hcn qz_c_4_56 rfl qz_k_16 (qz_q_15_16) (Nat.le_of_ble_eq_true rfl) (Nat.le_of_ble_eq_true rfl) rfl rfl rfl (vW_copyRow_12 F R4 w2 w _ e7) rfl rfl ?_
    refine ei_c hb dX4_copyFrom_41 (v := (0 : Int32)) (pc' := 42) (by decide) rfl ?_
    refine ei_isn hb dX4_copyFrom_42 (pc' := 43) (ls' := [some (.inr (.inl (some ((4, w, 0) : qz_N)))), some (.inr (.inl (some ((4, w2, 0) : qz_N)))), some (.inl (0 : Int32))]) hml (Nat.le_of_ble_eq_true rfl) rfl rfl rfl ?_
    refine vW_copyFrom_L43 F w w2 hww hww2 _ ?_ F (0 : Int32) R6 _ h
    intro y212 T13 r h
    refine ei_aln hb dX4_copyFrom_82 (pc' := 83) rfl rfl ?_
    refine ei_aln hb dX4_copyFrom_83 (pc' := 84) rfl rfl ?_
    refine ei_gi hb dX4_copyFrom_84 (pc' := 87) (x := (T13.1 ((4, w2, 0) : qz_N) 5)) hcn qz_f_4_34 rfl rfl rfl rfl ?_
    obtain ⟨S14, eS14⟩ : ∃ q, q = qz_wr T13 ((4, w, 0) : qz_N) 5 (T13.1 ((4, w2, 0) : qz_N) 5) := ⟨_, rfl⟩
    rw [qz_let, ← eS14] at h
    refine ei_pi hb dX4_copyFrom_87 (pc' := 90) (M1 := (qz_mk S14.1 S14.2)) hcn qz_f_4_34 rfl rfl (fun q => by cases q) rfl (by rw [eS14]; rfl) rfl ?_
    refine ei_aln hb dX4_copyFrom_90 (pc' := 91) rfl rfl ?_
    refine ei_aln hb dX4_copyFrom_91 (pc' := 92) rfl rfl ?_
    refine ei_gi hb dX4_copyFrom_92 (pc' := 95) (x := (S14.1 ((4, w2, 0) : qz_N) 6)) hcn qz_f_4_37 rfl rfl rfl rfl ?_
    obtain ⟨S15, eS15⟩ : ∃ q, q = qz_wr S14 ((4, w, 0) : qz_N) 6 (S14.1 ((4, w2, 0) : qz_N) 6) := ⟨_, rfl⟩
    rw [qz_let, ← eS15] at h
    refine ei_pi hb dX4_copyFrom_95 (pc' := 98) (M1 := (qz_mk S15.1 S15.2)) hcn qz_f_4_37 rfl rfl (fun q => by cases q) rfl (by rw [eS15]; rfl) rfl ?_
    refine ei_aln hb dX4_copyFrom_98 (pc' := 99) rfl rfl ?_
    refine ei_aln hb dX4_copyFrom_99 (pc' := 100) rfl rfl ?_
    refine ei_gi hb dX4_copyFrom_100 (pc' := 103) (x := (S15.1 ((4, w2, 0) : qz_N) 7)) hcn qz_f_4_40 rfl rfl rfl rfl ?_
    obtain ⟨S16, eS16⟩ : ∃ q, q = qz_wr S15 ((4, w, 0) : qz_N) 7 (S15.1 ((4, w2, 0) : qz_N) 7) := ⟨_, rfl⟩
    rw [qz_let, ← eS16] at h
    refine ei_pi hb dX4_copyFrom_103 (pc' := 106) (M1 := (qz_mk S16.1 S16.2)) hcn qz_f_4_40 rfl rfl (fun q => by cases q) rfl (by rw [eS16]; rfl) rfl ?_
    refine ei_aln hb dX4_copyFrom_106 (pc' := 107) rfl rfl ?_
    refine ei_aln hb dX4_copyFrom_107 (pc' := 108) rfl rfl ?_
    refine ei_gi hb dX4_copyFrom_108 (pc' := 111) (x := (S16.1 ((4, w2, 0) : qz_N) 8)) hcn qz_f_4_43 rfl rfl rfl rfl ?_
    obtain ⟨S17, eS17⟩ : ∃ q, q = qz_wr S16 ((4, w, 0) : qz_N) 8 (S16.1 ((4, w2, 0) : qz_N) 8) := ⟨_, rfl⟩
    rw [qz_let, ← eS17] at h
    refine ei_pi hb dX4_copyFrom_111 (pc' := 114) (M1 := (qz_mk S17.1 S17.2)) hcn qz_f_4_43 rfl rfl (fun q => by cases q) rfl (by rw [eS17]; rfl) rfl ?_
    refine ei_aln hb dX4_copyFrom_114 (pc' := 115) rfl rfl ?_
    refine ei_aln hb dX4_copyFrom_115 (pc' := 116) rfl rfl ?_
    refine ei_gi hb dX4_copyFrom_116 (pc' := 119) (x := (S17.1 ((4, w2, 0) : qz_N) 9)) hcn qz_f_4_46 rfl rfl rfl rfl ?_
    obtain ⟨S18, eS18⟩ : ∃ q, q = qz_wr S17 ((4, w, 0) : qz_N) 9 (S17.1 ((4, w2, 0) : qz_N) 9) := ⟨_, rfl⟩
    rw [qz_let, ← eS18] at h
    refine ei_pi hb dX4_copyFrom_119 (pc' := 122) (M1 := (qz_mk S18.1 S18.2)) hcn qz_f_4_46 rfl rfl (fun q => by cases q) rfl (by rw [eS18]; rfl) rfl ?_
    refine ei_aln hb dX4_copyFrom_122 (pc' := 123) rfl rfl ?_
    refine ei_aln hb dX4_copyFrom_123 (pc' := 124) rfl rfl ?_
    refine ei_gi hb dX4_copyFrom_124 (pc' := 127) (x := (S18.1 ((4, w2, 0) : qz_N) 10)) hcn qz_f_4_49 rfl rfl rfl rfl ?_
    obtain ⟨S19, eS19⟩ : ∃ q, q = qz_wr S18 ((4, w, 0) : qz_N) 10 (S18.1 ((4, w2, 0) : qz_N) 10) := ⟨_, rfl⟩
    rw [qz_let, ← eS19] at h
    refine ei_pi hb dX4_copyFrom_127 (pc' := 130) (M1 := (qz_mk S19.1 S19.2)) hcn qz_f_4_49 rfl rfl (fun q => by cases q) rfl (by rw [eS19]; rfl) rfl ?_
    refine ei_aln hb dX4_copyFrom_130 (pc' := 131) rfl rfl ?_
    refine ei_aln hb dX4_copyFrom_131 (pc' := 132) rfl rfl ?_
    refine ei_gi hb dX4_copyFrom_132 (pc' := 135) (x := (S19.1 ((4, w2, 0) : qz_N) 11)) hcn qz_f_4_52 rfl rfl rfl rfl ?_
    obtain ⟨S20, eS20⟩ : ∃ q, q = qz_wr S19 ((4, w, 0) : qz_N) 11 (S19.1 ((4, w2, 0) : qz_N) 11) := ⟨_, rfl⟩
    rw [qz_let, ← eS20] at h
    refine ei_pi hb dX4_copyFrom_135 (pc' := 138) (M1 := (qz_mk S20.1 S20.2)) hcn qz_f_4_52 rfl rfl (fun q => by cases q) rfl (by rw [eS20]; rfl) rfl ?_
    have h := Option.some.inj h
    subst h
    exact ei_retv hb dX4_copyFrom_138 rfl
  · rw [if_neg hww0] at h
    cases h
def gH_remember (F : Nat) (S : qz_S)  : Option (qz_S) :=
  if (S.1 ((2, 0, 0) : qz_N) 1) < (4 : Int32) then (if (S.1 ((2, 0, 0) : qz_N) 1) < 0 then (some S) else (if (4 : Int32) ≤ (S.1 ((2, 0, 0) : qz_N) 1) then (some S) else (if qz_xi (S.1 ((2, 0, 0) : qz_N) 1) 4 = true then (Option.bind (gW_copyFrom F S (S.2 ((S.1 ((2, 0, 0) : qz_N) 1)).toNatClampNeg) 0) fun R5 => qz_let (qz_wr R5 ((2, 0, 0) : qz_N) 1 ((R5.1 ((2, 0, 0) : qz_N) 1) + (1 : Int32))) fun S7 => some S7) else none))) else (Option.bind (gH_dropOldest F S) fun R8 => if (R8.1 ((2, 0, 0) : qz_N) 1) < 0 then (some R8) else (if (4 : Int32) ≤ (R8.1 ((2, 0, 0) : qz_N) 1) then (some R8) else (if qz_xi (R8.1 ((2, 0, 0) : qz_N) 1) 4 = true then (Option.bind (gW_copyFrom F R8 (R8.2 ((R8.1 ((2, 0, 0) : qz_N) 1)).toNatClampNeg) 0) fun R13 => qz_let (qz_wr R13 ((2, 0, 0) : qz_N) 1 ((R13.1 ((2, 0, 0) : qz_N) 1) + (1 : Int32))) fun S15 => some S15) else none)))
set_option maxHeartbeats 4000000 in
theorem vH_remember (F : Nat) (S : qz_S)  (r : qz_S) (h : (gH_remember F S) = some r) : qz_E 10 0 (qz_in0 10 [.inr (.inl (some ((2, 0, 0) : qz_N))), .inr (.inl (some ((4, 0, 0) : qz_N)))]) [] (qz_mk S.1 S.2) none (qz_mk r.1 r.2) := by
  have hb : qz_b 10 = cX2_remember := rfl
  have hcn : qz_cn 10 = 2 := rfl
  have hml : qz_ml 10 = 2 := rfl
  show qz_E 10 0 [some (.inr (.inl (some ((2, 0, 0) : qz_N)))), some (.inr (.inl (some ((4, 0, 0) : qz_N))))] [] _ _ _
  rw [gH_remember] at h
  refine ei_aln hb dX2_remember_0 (pc' := 1) rfl rfl ?_
  refine ei_gi hb dX2_remember_1 (pc' := 4) (x := (S.1 ((2, 0, 0) : qz_N) 1)) hcn qz_f_2_17 rfl rfl rfl rfl ?_
  refine ei_aln hb dX2_remember_4 (pc' := 5) rfl rfl ?_
  refine ei_gr hb dX2_remember_5 (pc' := 8) (x := some ((16, 0, 0) : qz_N)) hcn qz_f_2_11 rfl rfl rfl rfl ?_
  refine ei_len hb dX2_remember_8 (pc' := 9) (x := (4 : Int32)) (show ¬ qz_at 16 = 0 by decide) rfl rfl ?_
  by_cases c1 : (S.1 ((2, 0, 0) : qz_N) 1) < (4 : Int32)
  · rw [if_pos c1] at h
    refine ei_icT hb dX2_remember_9 (pc' := 16) (decide_eq_true c1) (by decide) ?_
    refine ei_aln hb dX2_remember_16 (pc' := 17) rfl rfl ?_
    refine ei_gi hb dX2_remember_17 (pc' := 20) (x := (S.1 ((2, 0, 0) : qz_N) 1)) hcn qz_f_2_17 rfl rfl rfl rfl ?_
    by_cases c2 : (S.1 ((2, 0, 0) : qz_N) 1) < 0
    · rw [if_pos c2] at h
      refine ei_ifT hb dX2_remember_20 (pc' := 58) (decide_eq_true c2) (by decide) ?_
      have h := Option.some.inj h
      subst h
      exact ei_retv hb dX2_remember_58 rfl
    · rw [if_neg c2] at h
      refine ei_ifF hb dX2_remember_20 (pc' := 23) (t := 58) (decide_eq_false c2) (by decide) rfl ?_
      refine ei_aln hb dX2_remember_23 (pc' := 24) rfl rfl ?_
      refine ei_gi hb dX2_remember_24 (pc' := 27) (x := (S.1 ((2, 0, 0) : qz_N) 1)) hcn qz_f_2_17 rfl rfl rfl rfl ?_
      refine ei_aln hb dX2_remember_27 (pc' := 28) rfl rfl ?_
      refine ei_gr hb dX2_remember_28 (pc' := 31) (x := some ((16, 0, 0) : qz_N)) hcn qz_f_2_11 rfl rfl rfl rfl ?_
      refine ei_len hb dX2_remember_31 (pc' := 32) (x := (4 : Int32)) (show ¬ qz_at 16 = 0 by decide) rfl rfl ?_
      by_cases c3 : (4 : Int32) ≤ (S.1 ((2, 0, 0) : qz_N) 1)
      · rw [if_pos c3] at h
        refine ei_icT hb dX2_remember_32 (pc' := 58) (decide_eq_true c3) (by decide) ?_
        have h := Option.some.inj h
        subst h
        exact ei_retv hb dX2_remember_58 rfl
      · rw [if_neg c3] at h
        refine ei_icF hb dX2_remember_32 (pc' := 35) (t := 58) (decide_eq_false c3) (by decide) rfl ?_
        refine ei_aln hb dX2_remember_35 (pc' := 36) rfl rfl ?_
        refine ei_gr hb dX2_remember_36 (pc' := 39) (x := some ((16, 0, 0) : qz_N)) hcn qz_f_2_11 rfl rfl rfl rfl ?_
        refine ei_aln hb dX2_remember_39 (pc' := 40) rfl rfl ?_
        refine ei_gi hb dX2_remember_40 (pc' := 43) (x := (S.1 ((2, 0, 0) : qz_N) 1)) hcn qz_f_2_17 rfl rfl rfl rfl ?_
        by_cases c4 : qz_xi (S.1 ((2, 0, 0) : qz_N) 1) 4 = true
        · rw [if_pos c4] at h
          refine ei_aa hb dX2_remember_43 (pc' := 44) (x := some ((4, (S.2 ((S.1 ((2, 0, 0) : qz_N) 1)).toNatClampNeg), 0) : qz_N)) (show 4 ≤ qz_at 16 by decide) c4 (qz_fr_16 c4) rfl ?_
          refine ei_aln hb dX2_remember_44 (pc' := 45) rfl rfl ?_
          obtain ⟨R5, e6, h⟩ := Option.bind_eq_some_iff.mp h
          refine ei_cv hb dX2_remember_45 (pc' := 48) (M1 := (qz_mk R5.1 R5.2)) (as := [.inr (.inl (some ((4, 0, 0) : qz_N)))]) (rest := []) (st' := []) hcn qz_c_2_25 qz_k_15 (qz_q_10_15) (Nat.le_of_ble_eq_true rfl) (Nat.le_of_ble_eq_true rfl) rfl rfl rfl rfl (vW_copyFrom F S (S.2 ((S.1 ((2, 0, 0) : qz_N) 1)).toNatClampNeg) 0 _ e6) rfl rfl ?_
          refine ei_aln hb dX2_remember_48 (pc' := 49) rfl rfl ?_
          refine ei_dup hb dX2_remember_49 (pc' := 50) rfl rfl ?_
          refine ei_gi hb dX2_remember_50 (pc' := 53) (x := (R5.1 ((2, 0, 0) : qz_N) 1)) hcn qz_f_2_17 rfl rfl rfl rfl ?_
          refine ei_c hb dX2_remember_53 (v := (1 : Int32)) (pc' := 54) (by decide) rfl ?_
          refine ei_add hb dX2_remember_54 (pc' := 55) rfl ?_
          obtain ⟨S7, eS7⟩ : ∃ q, q = qz_wr R5 ((2, 0, 0) : qz_N) 1 ((R5.1 ((2, 0, 0) : qz_N) 1) + (1 : Int32)) := ⟨_, rfl⟩
          rw [qz_let, ← eS7] at h
          refine ei_pi hb dX2_remember_55 (pc' := 58) (M1 := (qz_mk S7.1 S7.2)) hcn qz_f_2_17 rfl rfl (fun q => by cases q) rfl (by rw [eS7]; rfl) rfl ?_
          have h := Option.some.inj h
          subst h
          exact ei_retv hb dX2_remember_58 rfl
        · rw [if_neg c4] at h
          cases h
  · rw [if_neg c1] at h
    refine ei_icF hb dX2_remember_9 (pc' := 12) (t := 16) (decide_eq_false c1) (by decide) rfl ?_
    refine ei_aln hb dX2_remember_12 (pc' := 13) rfl rfl ?_
    obtain ⟨R8, e9, h⟩ := Option.bind_eq_some_iff.mp h
    refine ei_cv hb dX2_remember_13 (pc' := 16) (M1 := (qz_mk R8.1 R8.2)) (as := []) (rest := []) (st' := []) hcn qz_c_2_22 qz_k_11 (qz_q_10_11) (Nat.le_of_ble_eq_true rfl) (Nat.le_of_ble_eq_true rfl) rfl rfl rfl rfl (vH_dropOldest F S _ e9) rfl rfl ?_
    refine ei_aln hb dX2_remember_16 (pc' := 17) rfl rfl ?_
    refine ei_gi hb dX2_remember_17 (pc' := 20) (x := (R8.1 ((2, 0, 0) : qz_N) 1)) hcn qz_f_2_17 rfl rfl rfl rfl ?_
    by_cases c10 : (R8.1 ((2, 0, 0) : qz_N) 1) < 0
    · rw [if_pos c10] at h
      refine ei_ifT hb dX2_remember_20 (pc' := 58) (decide_eq_true c10) (by decide) ?_
      have h := Option.some.inj h
      subst h
      exact ei_retv hb dX2_remember_58 rfl
    · rw [if_neg c10] at h
      refine ei_ifF hb dX2_remember_20 (pc' := 23) (t := 58) (decide_eq_false c10) (by decide) rfl ?_
      refine ei_aln hb dX2_remember_23 (pc' := 24) rfl rfl ?_
      refine ei_gi hb dX2_remember_24 (pc' := 27) (x := (R8.1 ((2, 0, 0) : qz_N) 1)) hcn qz_f_2_17 rfl rfl rfl rfl ?_
      refine ei_aln hb dX2_remember_27 (pc' := 28) rfl rfl ?_
      refine ei_gr hb dX2_remember_28 (pc' := 31) (x := some ((16, 0, 0) : qz_N)) hcn qz_f_2_11 rfl rfl rfl rfl ?_
      refine ei_len hb dX2_remember_31 (pc' := 32) (x := (4 : Int32)) (show ¬ qz_at 16 = 0 by decide) rfl rfl ?_
      by_cases c11 : (4 : Int32) ≤ (R8.1 ((2, 0, 0) : qz_N) 1)
      · rw [if_pos c11] at h
        refine ei_icT hb dX2_remember_32 (pc' := 58) (decide_eq_true c11) (by decide) ?_
        have h := Option.some.inj h
        subst h
        exact ei_retv hb dX2_remember_58 rfl
      · rw [if_neg c11] at h
        refine ei_icF hb dX2_remember_32 (pc' := 35) (t := 58) (decide_eq_false c11) (by decide) rfl ?_
        refine ei_aln hb dX2_remember_35 (pc' := 36) rfl rfl ?_
        refine ei_gr hb dX2_remember_36 (pc' := 39) (x := some ((16, 0, 0) : qz_N)) hcn qz_f_2_11 rfl rfl rfl rfl ?_
        refine ei_aln hb dX2_remember_39 (pc' := 40) rfl rfl ?_
        refine ei_gi hb dX2_remember_40 (pc' := 43) (x := (R8.1 ((2, 0, 0) : qz_N) 1)) hcn qz_f_2_17 rfl rfl rfl rfl ?_
        by_cases c12 : qz_xi (R8.1 ((2, 0, 0) : qz_N) 1) 4 = true
        · rw [if_pos c12] at h
          refine ei_aa hb dX2_remember_43 (pc' := 44) (x := some ((4, (R8.2 ((R8.1 ((2, 0, 0) : qz_N) 1)).toNatClampNeg), 0) : qz_N)) (show 4 ≤ qz_at 16 by decide) c12 (qz_fr_16 c12) rfl ?_
          refine ei_aln hb dX2_remember_44 (pc' := 45) rfl rfl ?_
          obtain ⟨R13, e14, h⟩ := Option.bind_eq_some_iff.mp h
          refine ei_cv hb dX2_remember_45 (pc' := 48) (M1 := (qz_mk R13.1 R13.2)) (as := [.inr (.inl (some ((4, 0, 0) : qz_N)))]) (rest := []) (st' := []) hcn qz_c_2_25 qz_k_15 (qz_q_10_15) (Nat.le_of_ble_eq_true rfl) (Nat.le_of_ble_eq_true rfl) rfl rfl rfl rfl (vW_copyFrom F R8 (R8.2 ((R8.1 ((2, 0, 0) : qz_N) 1)).toNatClampNeg) 0 _ e14) rfl rfl ?_
          refine ei_aln hb dX2_remember_48 (pc' := 49) rfl rfl ?_
          refine ei_dup hb dX2_remember_49 (pc' := 50) rfl rfl ?_
          refine ei_gi hb dX2_remember_50 (pc' := 53) (x := (R13.1 ((2, 0, 0) : qz_N) 1)) hcn qz_f_2_17 rfl rfl rfl rfl ?_
          refine ei_c hb dX2_remember_53 (v := (1 : Int32)) (pc' := 54) (by decide) rfl ?_
          refine ei_add hb dX2_remember_54 (pc' := 55) rfl ?_
          obtain ⟨S15, eS15⟩ : ∃ q, q = qz_wr R13 ((2, 0, 0) : qz_N) 1 ((R13.1 ((2, 0, 0) : qz_N) 1) + (1 : Int32)) := ⟨_, rfl⟩
          rw [qz_let, ← eS15] at h
          refine ei_pi hb dX2_remember_55 (pc' := 58) (M1 := (qz_mk S15.1 S15.2)) hcn qz_f_2_17 rfl rfl (fun q => by cases q) rfl (by rw [eS15]; rfl) rfl ?_
          have h := Option.some.inj h
          subst h
          exact ei_retv hb dX2_remember_58 rfl
        · rw [if_neg c12] at h
          cases h
def gH_takeLatestInto (F : Nat) (S : qz_S)  : Option (qz_S) :=
  if ((S.1 ((2, 0, 0) : qz_N) 1) - (1 : Int32)) < 0 then (some S) else (if (4 : Int32) ≤ ((S.1 ((2, 0, 0) : qz_N) 1) - (1 : Int32)) then (some S) else (if qz_xi ((S.1 ((2, 0, 0) : qz_N) 1) - (1 : Int32)) 4 = true then (Option.bind (gW_copyFrom F S 0 (S.2 (((S.1 ((2, 0, 0) : qz_N) 1) - (1 : Int32))).toNatClampNeg)) fun R4 => qz_let (qz_wr R4 ((2, 0, 0) : qz_N) 1 ((S.1 ((2, 0, 0) : qz_N) 1) - (1 : Int32))) fun S6 => some S6) else none))
set_option maxHeartbeats 4000000 in
theorem vH_takeLatestInto (F : Nat) (S : qz_S)  (r : qz_S) (h : (gH_takeLatestInto F S) = some r) : qz_E 12 0 (qz_in0 12 [.inr (.inl (some ((2, 0, 0) : qz_N))), .inr (.inl (some ((4, 0, 0) : qz_N)))]) [] (qz_mk S.1 S.2) none (qz_mk r.1 r.2) := by
  have hb : qz_b 12 = cX2_takeLatestInto := rfl
  have hcn : qz_cn 12 = 2 := rfl
  have hml : qz_ml 12 = 3 := rfl
  show qz_E 12 0 [some (.inr (.inl (some ((2, 0, 0) : qz_N)))), some (.inr (.inl (some ((4, 0, 0) : qz_N)))), none] [] _ _ _
  rw [gH_takeLatestInto] at h
  refine ei_aln hb dX2_takeLatestInto_0 (pc' := 1) rfl rfl ?_
  refine ei_gi hb dX2_takeLatestInto_1 (pc' := 4) (x := (S.1 ((2, 0, 0) : qz_N) 1)) hcn qz_f_2_17 rfl rfl rfl rfl ?_
  refine ei_c hb dX2_takeLatestInto_4 (v := (1 : Int32)) (pc' := 5) (by decide) rfl ?_
  refine ei_sub hb dX2_takeLatestInto_5 (pc' := 6) rfl ?_
  refine ei_isn hb dX2_takeLatestInto_6 (pc' := 7) (ls' := [some (.inr (.inl (some ((2, 0, 0) : qz_N)))), some (.inr (.inl (some ((4, 0, 0) : qz_N)))), some (.inl ((S.1 ((2, 0, 0) : qz_N) 1) - (1 : Int32)))]) hml (Nat.le_of_ble_eq_true rfl) rfl rfl rfl ?_
  refine ei_iln hb dX2_takeLatestInto_7 (pc' := 8) rfl rfl ?_
  by_cases c1 : ((S.1 ((2, 0, 0) : qz_N) 1) - (1 : Int32)) < 0
  · rw [if_pos c1] at h
    refine ei_ifT hb dX2_takeLatestInto_8 (pc' := 35) (decide_eq_true c1) (by decide) ?_
    have h := Option.some.inj h
    subst h
    exact ei_retv hb dX2_takeLatestInto_35 rfl
  · rw [if_neg c1] at h
    refine ei_ifF hb dX2_takeLatestInto_8 (pc' := 11) (t := 35) (decide_eq_false c1) (by decide) rfl ?_
    refine ei_iln hb dX2_takeLatestInto_11 (pc' := 12) rfl rfl ?_
    refine ei_aln hb dX2_takeLatestInto_12 (pc' := 13) rfl rfl ?_
    refine ei_gr hb dX2_takeLatestInto_13 (pc' := 16) (x := some ((16, 0, 0) : qz_N)) hcn qz_f_2_11 rfl rfl rfl rfl ?_
    refine ei_len hb dX2_takeLatestInto_16 (pc' := 17) (x := (4 : Int32)) (show ¬ qz_at 16 = 0 by decide) rfl rfl ?_
    by_cases c2 : (4 : Int32) ≤ ((S.1 ((2, 0, 0) : qz_N) 1) - (1 : Int32))
    · rw [if_pos c2] at h
      refine ei_icT hb dX2_takeLatestInto_17 (pc' := 35) (decide_eq_true c2) (by decide) ?_
      have h := Option.some.inj h
      subst h
      exact ei_retv hb dX2_takeLatestInto_35 rfl
    · rw [if_neg c2] at h
      refine ei_icF hb dX2_takeLatestInto_17 (pc' := 20) (t := 35) (decide_eq_false c2) (by decide) rfl ?_
      refine ei_aln hb dX2_takeLatestInto_20 (pc' := 21) rfl rfl ?_
      refine ei_aln hb dX2_takeLatestInto_21 (pc' := 22) rfl rfl ?_
      refine ei_gr hb dX2_takeLatestInto_22 (pc' := 25) (x := some ((16, 0, 0) : qz_N)) hcn qz_f_2_11 rfl rfl rfl rfl ?_
      refine ei_iln hb dX2_takeLatestInto_25 (pc' := 26) rfl rfl ?_
      by_cases c3 : qz_xi ((S.1 ((2, 0, 0) : qz_N) 1) - (1 : Int32)) 4 = true
      · rw [if_pos c3] at h
        refine ei_aa hb dX2_takeLatestInto_26 (pc' := 27) (x := some ((4, (S.2 (((S.1 ((2, 0, 0) : qz_N) 1) - (1 : Int32))).toNatClampNeg), 0) : qz_N)) (show 4 ≤ qz_at 16 by decide) c3 (qz_fr_16 c3) rfl ?_
        obtain ⟨R4, e5, h⟩ := Option.bind_eq_some_iff.mp h
        refine ei_cv hb dX2_takeLatestInto_27 (pc' := 30) (M1 := (qz_mk R4.1 R4.2)) (as := [.inr (.inl (some ((4, (S.2 (((S.1 ((2, 0, 0) : qz_N) 1) - (1 : Int32))).toNatClampNeg), 0) : qz_N)))]) (rest := []) (st' := []) hcn qz_c_2_25 qz_k_15 (qz_q_12_15) (Nat.le_of_ble_eq_true rfl) (Nat.le_of_ble_eq_true rfl) rfl rfl rfl rfl (vW_copyFrom F S 0 (S.2 (((S.1 ((2, 0, 0) : qz_N) 1) - (1 : Int32))).toNatClampNeg) _ e5) rfl rfl ?_
        refine ei_aln hb dX2_takeLatestInto_30 (pc' := 31) rfl rfl ?_
        refine ei_iln hb dX2_takeLatestInto_31 (pc' := 32) rfl rfl ?_
        obtain ⟨S6, eS6⟩ : ∃ q, q = qz_wr R4 ((2, 0, 0) : qz_N) 1 ((S.1 ((2, 0, 0) : qz_N) 1) - (1 : Int32)) := ⟨_, rfl⟩
        rw [qz_let, ← eS6] at h
        refine ei_pi hb dX2_takeLatestInto_32 (pc' := 35) (M1 := (qz_mk S6.1 S6.2)) hcn qz_f_2_17 rfl rfl (fun q => by cases q) rfl (by rw [eS6]; rfl) rfl ?_
        have h := Option.some.inj h
        subst h
        exact ei_retv hb dX2_takeLatestInto_35 rfl
      · rw [if_neg c3] at h
        cases h
def gW_setting (F : Nat) (f : qz_F) (a0 : Int32) : Option (Int32) :=
  if a0 < 0 then (some (0 : Int32)) else (if (4 : Int32) ≤ a0 then (some (0 : Int32)) else (if qz_xi a0 4 = true then (some (f ((12, 0, 0) : qz_N) (a0).toNatClampNeg)) else none))
set_option maxHeartbeats 4000000 in
theorem vW_setting (F : Nat) (f : qz_F) (p : Nat → Nat) (a0 : Int32) (r : Int32) (h : (gW_setting F f a0) = some r) : qz_E 17 0 (qz_in0 17 [.inr (.inl (some ((4, 0, 0) : qz_N))), .inl a0]) [] (qz_mk f p) (some (.inl r)) (qz_mk f p) := by
  have hb : qz_b 17 = cX4_setting := rfl
  have hcn : qz_cn 17 = 4 := rfl
  have hml : qz_ml 17 = 2 := rfl
  show qz_E 17 0 [some (.inr (.inl (some ((4, 0, 0) : qz_N)))), some (.inl a0)] [] _ _ _
  rw [gW_setting] at h
  refine ei_iln hb dX4_setting_0 (pc' := 1) rfl rfl ?_
  by_cases c1 : a0 < 0
  · rw [if_pos c1] at h
    refine ei_ifT hb dX4_setting_1 (pc' := 22) (decide_eq_true c1) (by decide) ?_
    refine ei_c hb dX4_setting_22 (v := (0 : Int32)) (pc' := 23) (by decide) rfl ?_
    have h := Option.some.inj h
    subst h
    exact ei_reti hb dX4_setting_23 rfl
  · rw [if_neg c1] at h
    refine ei_ifF hb dX4_setting_1 (pc' := 4) (t := 22) (decide_eq_false c1) (by decide) rfl ?_
    refine ei_iln hb dX4_setting_4 (pc' := 5) rfl rfl ?_
    refine ei_aln hb dX4_setting_5 (pc' := 6) rfl rfl ?_
    refine ei_gr hb dX4_setting_6 (pc' := 9) (x := some ((12, 0, 0) : qz_N)) hcn qz_f_4_25 rfl rfl rfl rfl ?_
    refine ei_len hb dX4_setting_9 (pc' := 10) (x := (4 : Int32)) (show ¬ qz_at 12 = 0 by decide) rfl rfl ?_
    by_cases c2 : (4 : Int32) ≤ a0
    · rw [if_pos c2] at h
      refine ei_icT hb dX4_setting_10 (pc' := 22) (decide_eq_true c2) (by decide) ?_
      refine ei_c hb dX4_setting_22 (v := (0 : Int32)) (pc' := 23) (by decide) rfl ?_
      have h := Option.some.inj h
      subst h
      exact ei_reti hb dX4_setting_23 rfl
    · rw [if_neg c2] at h
      refine ei_icF hb dX4_setting_10 (pc' := 13) (t := 22) (decide_eq_false c2) (by decide) rfl ?_
      refine ei_aln hb dX4_setting_13 (pc' := 14) rfl rfl ?_
      refine ei_gr hb dX4_setting_14 (pc' := 17) (x := some ((12, 0, 0) : qz_N)) hcn qz_f_4_25 rfl rfl rfl rfl ?_
      refine ei_iln hb dX4_setting_17 (pc' := 18) rfl rfl ?_
      by_cases c3 : qz_xi a0 4 = true
      · rw [if_pos c3] at h
        refine ei_ia hb dX4_setting_18 (pc' := 19) (x := (f ((12, 0, 0) : qz_N) (a0).toNatClampNeg)) rfl c3 rfl rfl ?_
        refine ei_go hb dX4_setting_19 (pc' := 23) (by decide) ?_
        have h := Option.some.inj h
        subst h
        exact ei_reti hb dX4_setting_23 rfl
      · rw [if_neg c3] at h
        cases h
def gW_changeSetting (F : Nat) (S : qz_S) (a0 : Int32) (a1 : Int32) : Option (qz_S) :=
  if a0 < 0 then (some S) else (if (4 : Int32) ≤ a0 then (some S) else (if qz_xi a0 4 = true then (qz_let (qz_wr S ((12, 0, 0) : qz_N) (a0).toNatClampNeg a1) fun S4 => some S4) else none))
set_option maxHeartbeats 4000000 in
theorem vW_changeSetting (F : Nat) (S : qz_S) (a0 : Int32) (a1 : Int32) (r : qz_S) (h : (gW_changeSetting F S a0 a1) = some r) : qz_E 18 0 (qz_in0 18 [.inr (.inl (some ((4, 0, 0) : qz_N))), .inl a0, .inl a1]) [] (qz_mk S.1 S.2) none (qz_mk r.1 r.2) := by
  have hb : qz_b 18 = cX4_changeSetting := rfl
  have hcn : qz_cn 18 = 4 := rfl
  have hml : qz_ml 18 = 3 := rfl
  show qz_E 18 0 [some (.inr (.inl (some ((4, 0, 0) : qz_N)))), some (.inl a0), some (.inl a1)] [] _ _ _
  rw [gW_changeSetting] at h
  refine ei_iln hb dX4_changeSetting_0 (pc' := 1) rfl rfl ?_
  by_cases c1 : a0 < 0
  · rw [if_pos c1] at h
    refine ei_ifT hb dX4_changeSetting_1 (pc' := 20) (decide_eq_true c1) (by decide) ?_
    have h := Option.some.inj h
    subst h
    exact ei_retv hb dX4_changeSetting_20 rfl
  · rw [if_neg c1] at h
    refine ei_ifF hb dX4_changeSetting_1 (pc' := 4) (t := 20) (decide_eq_false c1) (by decide) rfl ?_
    refine ei_iln hb dX4_changeSetting_4 (pc' := 5) rfl rfl ?_
    refine ei_aln hb dX4_changeSetting_5 (pc' := 6) rfl rfl ?_
    refine ei_gr hb dX4_changeSetting_6 (pc' := 9) (x := some ((12, 0, 0) : qz_N)) hcn qz_f_4_25 rfl rfl rfl rfl ?_
    refine ei_len hb dX4_changeSetting_9 (pc' := 10) (x := (4 : Int32)) (show ¬ qz_at 12 = 0 by decide) rfl rfl ?_
    by_cases c2 : (4 : Int32) ≤ a0
    · rw [if_pos c2] at h
      refine ei_icT hb dX4_changeSetting_10 (pc' := 20) (decide_eq_true c2) (by decide) ?_
      have h := Option.some.inj h
      subst h
      exact ei_retv hb dX4_changeSetting_20 rfl
    · rw [if_neg c2] at h
      refine ei_icF hb dX4_changeSetting_10 (pc' := 13) (t := 20) (decide_eq_false c2) (by decide) rfl ?_
      refine ei_aln hb dX4_changeSetting_13 (pc' := 14) rfl rfl ?_
      refine ei_gr hb dX4_changeSetting_14 (pc' := 17) (x := some ((12, 0, 0) : qz_N)) hcn qz_f_4_25 rfl rfl rfl rfl ?_
      refine ei_iln hb dX4_changeSetting_17 (pc' := 18) rfl rfl ?_
      refine ei_iln hb dX4_changeSetting_18 (pc' := 19) rfl rfl ?_
      by_cases c3 : qz_xi a0 4 = true
      · rw [if_pos c3] at h
        obtain ⟨S4, eS4⟩ : ∃ q, q = qz_wr S ((12, 0, 0) : qz_N) (a0).toNatClampNeg a1 := ⟨_, rfl⟩
        rw [qz_let, ← eS4] at h
        refine ei_ist hb dX4_changeSetting_19 (pc' := 20) (M1 := (qz_mk S4.1 S4.2)) rfl (Nat.le_of_ble_eq_true rfl) c3 (by rw [eS4]; rfl) rfl ?_
        have h := Option.some.inj h
        subst h
        exact ei_retv hb dX4_changeSetting_20 rfl
      · rw [if_neg c3] at h
        cases h
def gW_hasEnd (f : qz_F) (a0 : Int32) : Int32 :=
  if a0 < 0 then (0 : Int32) else (if (f ((4, 0, 0) : qz_N) 0) ≤ a0 then (0 : Int32) else (1 : Int32))
set_option maxHeartbeats 4000000 in
theorem vW_hasEnd (f : qz_F) (p : Nat → Nat) (a0 : Int32) : qz_E 19 0 (qz_in0 19 [.inr (.inl (some ((4, 0, 0) : qz_N))), .inl a0]) [] (qz_mk f p) (some (.inl (gW_hasEnd f a0))) (qz_mk f p) := by
  have hb : qz_b 19 = cX4_hasEnd := rfl
  have hcn : qz_cn 19 = 4 := rfl
  have hml : qz_ml 19 = 2 := rfl
  obtain ⟨r, h⟩ : ∃ r, (gW_hasEnd f a0) = r := ⟨_, rfl⟩
  rw [h]
  show qz_E 19 0 [some (.inr (.inl (some ((4, 0, 0) : qz_N)))), some (.inl a0)] [] _ _ _
  rw [gW_hasEnd] at h
  refine ei_iln hb dX4_hasEnd_0 (pc' := 1) rfl rfl ?_
  by_cases c1 : a0 < 0
  · rw [if_pos c1] at h
    refine ei_ifT hb dX4_hasEnd_1 (pc' := 16) (decide_eq_true c1) (by decide) ?_
    refine ei_c hb dX4_hasEnd_16 (v := (0 : Int32)) (pc' := 17) (by decide) rfl ?_
    subst h
    exact ei_retz hb dX4_hasEnd_17 rfl (by decide)
  · rw [if_neg c1] at h
    refine ei_ifF hb dX4_hasEnd_1 (pc' := 4) (t := 16) (decide_eq_false c1) (by decide) rfl ?_
    refine ei_iln hb dX4_hasEnd_4 (pc' := 5) rfl rfl ?_
    refine ei_aln hb dX4_hasEnd_5 (pc' := 6) rfl rfl ?_
    refine ei_gi hb dX4_hasEnd_6 (pc' := 9) (x := (f ((4, 0, 0) : qz_N) 0)) hcn qz_f_4_9 rfl rfl rfl rfl ?_
    by_cases c2 : (f ((4, 0, 0) : qz_N) 0) ≤ a0
    · rw [if_pos c2] at h
      refine ei_icT hb dX4_hasEnd_9 (pc' := 16) (decide_eq_true c2) (by decide) ?_
      refine ei_c hb dX4_hasEnd_16 (v := (0 : Int32)) (pc' := 17) (by decide) rfl ?_
      subst h
      exact ei_retz hb dX4_hasEnd_17 rfl (by decide)
    · rw [if_neg c2] at h
      refine ei_icF hb dX4_hasEnd_9 (pc' := 12) (t := 16) (decide_eq_false c2) (by decide) rfl ?_
      refine ei_c hb dX4_hasEnd_12 (v := (1 : Int32)) (pc' := 13) (by decide) rfl ?_
      refine ei_go hb dX4_hasEnd_13 (pc' := 17) (by decide) ?_
      subst h
      exact ei_retz hb dX4_hasEnd_17 rfl (by decide)
def gW_openEnd (F : Nat) (S : qz_S) (a0 : Int32) : Option (Int32 × qz_S) :=
  if (S.1 ((4, 0, 0) : qz_N) 0) < 0 then (some ((-3 : Int32), S)) else (if (S.1 ((4, 0, 0) : qz_N) 0) < (10 : Int32) then (if qz_xi (S.1 ((4, 0, 0) : qz_N) 0) 10 = true then (qz_let (qz_wr S ((10, 0, 0) : qz_N) ((S.1 ((4, 0, 0) : qz_N) 0)).toNatClampNeg a0) fun S4 => qz_let (qz_wr S4 ((4, 0, 0) : qz_N) 0 ((S.1 ((4, 0, 0) : qz_N) 0) + (1 : Int32))) fun S5 => some ((S.1 ((4, 0, 0) : qz_N) 0), S5)) else none) else (some ((-3 : Int32), S)))
set_option maxHeartbeats 4000000 in
theorem vW_openEnd (F : Nat) (S : qz_S) (a0 : Int32) (r : Int32 × qz_S) (h : (gW_openEnd F S a0) = some r) : qz_E 20 0 (qz_in0 20 [.inr (.inl (some ((4, 0, 0) : qz_N))), .inl a0]) [] (qz_mk S.1 S.2) (some (.inl r.1)) (qz_mk r.2.1 r.2.2) := by
  have hb : qz_b 20 = cX4_openEnd := rfl
  have hcn : qz_cn 20 = 4 := rfl
  have hml : qz_ml 20 = 3 := rfl
  show qz_E 20 0 [some (.inr (.inl (some ((4, 0, 0) : qz_N)))), some (.inl a0), none] [] _ _ _
  rw [gW_openEnd] at h
  refine ei_aln hb dX4_openEnd_0 (pc' := 1) rfl rfl ?_
  refine ei_gi hb dX4_openEnd_1 (pc' := 4) (x := (S.1 ((4, 0, 0) : qz_N) 0)) hcn qz_f_4_9 rfl rfl rfl rfl ?_
  refine ei_isn hb dX4_openEnd_4 (pc' := 5) (ls' := [some (.inr (.inl (some ((4, 0, 0) : qz_N)))), some (.inl a0), some (.inl (S.1 ((4, 0, 0) : qz_N) 0))]) hml (Nat.le_of_ble_eq_true rfl) rfl rfl rfl ?_
  refine ei_iln hb dX4_openEnd_5 (pc' := 6) rfl rfl ?_
  by_cases c1 : (S.1 ((4, 0, 0) : qz_N) 0) < 0
  · rw [if_pos c1] at h
    refine ei_ifT hb dX4_openEnd_6 (pc' := 18) (decide_eq_true c1) (by decide) ?_
    refine ei_b hb dX4_openEnd_18 (v := (-3 : Int32)) (pc' := 20) (by decide) rfl ?_
    have h := Option.some.inj h
    subst h
    exact ei_reti hb dX4_openEnd_20 rfl
  · rw [if_neg c1] at h
    refine ei_ifF hb dX4_openEnd_6 (pc' := 9) (t := 18) (decide_eq_false c1) (by decide) rfl ?_
    refine ei_iln hb dX4_openEnd_9 (pc' := 10) rfl rfl ?_
    refine ei_aln hb dX4_openEnd_10 (pc' := 11) rfl rfl ?_
    refine ei_gr hb dX4_openEnd_11 (pc' := 14) (x := some ((10, 0, 0) : qz_N)) hcn qz_f_4_15 rfl rfl rfl rfl ?_
    refine ei_len hb dX4_openEnd_14 (pc' := 15) (x := (10 : Int32)) (show ¬ qz_at 10 = 0 by decide) rfl rfl ?_
    by_cases c2 : (S.1 ((4, 0, 0) : qz_N) 0) < (10 : Int32)
    · rw [if_pos c2] at h
      refine ei_icT hb dX4_openEnd_15 (pc' := 21) (decide_eq_true c2) (by decide) ?_
      refine ei_aln hb dX4_openEnd_21 (pc' := 22) rfl rfl ?_
      refine ei_gr hb dX4_openEnd_22 (pc' := 25) (x := some ((10, 0, 0) : qz_N)) hcn qz_f_4_15 rfl rfl rfl rfl ?_
      refine ei_iln hb dX4_openEnd_25 (pc' := 26) rfl rfl ?_
      refine ei_iln hb dX4_openEnd_26 (pc' := 27) rfl rfl ?_
      by_cases c3 : qz_xi (S.1 ((4, 0, 0) : qz_N) 0) 10 = true
      · rw [if_pos c3] at h
        obtain ⟨S4, eS4⟩ : ∃ q, q = qz_wr S ((10, 0, 0) : qz_N) ((S.1 ((4, 0, 0) : qz_N) 0)).toNatClampNeg a0 := ⟨_, rfl⟩
        rw [qz_let, ← eS4] at h
        refine ei_ist hb dX4_openEnd_27 (pc' := 28) (M1 := (qz_mk S4.1 S4.2)) rfl (Nat.le_of_ble_eq_true rfl) c3 (by rw [eS4]; rfl) rfl ?_
        refine ei_aln hb dX4_openEnd_28 (pc' := 29) rfl rfl ?_
        refine ei_iln hb dX4_openEnd_29 (pc' := 30) rfl rfl ?_
        refine ei_c hb dX4_openEnd_30 (v := (1 : Int32)) (pc' := 31) (by decide) rfl ?_
        refine ei_add hb dX4_openEnd_31 (pc' := 32) rfl ?_
        obtain ⟨S5, eS5⟩ : ∃ q, q = qz_wr S4 ((4, 0, 0) : qz_N) 0 ((S.1 ((4, 0, 0) : qz_N) 0) + (1 : Int32)) := ⟨_, rfl⟩
        rw [qz_let, ← eS5] at h
        refine ei_pi hb dX4_openEnd_32 (pc' := 35) (M1 := (qz_mk S5.1 S5.2)) hcn qz_f_4_9 rfl rfl (fun q => by cases q) rfl (by rw [eS5]; rfl) rfl ?_
        refine ei_iln hb dX4_openEnd_35 (pc' := 36) rfl rfl ?_
        have h := Option.some.inj h
        subst h
        exact ei_reti hb dX4_openEnd_36 rfl
      · rw [if_neg c3] at h
        cases h
    · rw [if_neg c2] at h
      refine ei_icF hb dX4_openEnd_15 (pc' := 18) (t := 21) (decide_eq_false c2) (by decide) rfl ?_
      refine ei_b hb dX4_openEnd_18 (v := (-3 : Int32)) (pc' := 20) (by decide) rfl ?_
      have h := Option.some.inj h
      subst h
      exact ei_reti hb dX4_openEnd_20 rfl
def gW_minuteOf (F : Nat) (f : qz_F) (a0 : Int32) : Option (Int32) :=
  if a0 < 0 then (some (0 : Int32)) else (if (10 : Int32) ≤ a0 then (some (0 : Int32)) else (if qz_xi a0 10 = true then (some (f ((10, 0, 0) : qz_N) (a0).toNatClampNeg)) else none))
set_option maxHeartbeats 4000000 in
theorem vW_minuteOf (F : Nat) (f : qz_F) (p : Nat → Nat) (a0 : Int32) (r : Int32) (h : (gW_minuteOf F f a0) = some r) : qz_E 21 0 (qz_in0 21 [.inr (.inl (some ((4, 0, 0) : qz_N))), .inl a0]) [] (qz_mk f p) (some (.inl r)) (qz_mk f p) := by
  have hb : qz_b 21 = cX4_minuteOf := rfl
  have hcn : qz_cn 21 = 4 := rfl
  have hml : qz_ml 21 = 2 := rfl
  show qz_E 21 0 [some (.inr (.inl (some ((4, 0, 0) : qz_N)))), some (.inl a0)] [] _ _ _
  rw [gW_minuteOf] at h
  refine ei_iln hb dX4_minuteOf_0 (pc' := 1) rfl rfl ?_
  by_cases c1 : a0 < 0
  · rw [if_pos c1] at h
    refine ei_ifT hb dX4_minuteOf_1 (pc' := 22) (decide_eq_true c1) (by decide) ?_
    refine ei_c hb dX4_minuteOf_22 (v := (0 : Int32)) (pc' := 23) (by decide) rfl ?_
    have h := Option.some.inj h
    subst h
    exact ei_reti hb dX4_minuteOf_23 rfl
  · rw [if_neg c1] at h
    refine ei_ifF hb dX4_minuteOf_1 (pc' := 4) (t := 22) (decide_eq_false c1) (by decide) rfl ?_
    refine ei_iln hb dX4_minuteOf_4 (pc' := 5) rfl rfl ?_
    refine ei_aln hb dX4_minuteOf_5 (pc' := 6) rfl rfl ?_
    refine ei_gr hb dX4_minuteOf_6 (pc' := 9) (x := some ((10, 0, 0) : qz_N)) hcn qz_f_4_15 rfl rfl rfl rfl ?_
    refine ei_len hb dX4_minuteOf_9 (pc' := 10) (x := (10 : Int32)) (show ¬ qz_at 10 = 0 by decide) rfl rfl ?_
    by_cases c2 : (10 : Int32) ≤ a0
    · rw [if_pos c2] at h
      refine ei_icT hb dX4_minuteOf_10 (pc' := 22) (decide_eq_true c2) (by decide) ?_
      refine ei_c hb dX4_minuteOf_22 (v := (0 : Int32)) (pc' := 23) (by decide) rfl ?_
      have h := Option.some.inj h
      subst h
      exact ei_reti hb dX4_minuteOf_23 rfl
    · rw [if_neg c2] at h
      refine ei_icF hb dX4_minuteOf_10 (pc' := 13) (t := 22) (decide_eq_false c2) (by decide) rfl ?_
      refine ei_aln hb dX4_minuteOf_13 (pc' := 14) rfl rfl ?_
      refine ei_gr hb dX4_minuteOf_14 (pc' := 17) (x := some ((10, 0, 0) : qz_N)) hcn qz_f_4_15 rfl rfl rfl rfl ?_
      refine ei_iln hb dX4_minuteOf_17 (pc' := 18) rfl rfl ?_
      by_cases c3 : qz_xi a0 10 = true
      · rw [if_pos c3] at h
        refine ei_ia hb dX4_minuteOf_18 (pc' := 19) (x := (f ((10, 0, 0) : qz_N) (a0).toNatClampNeg)) rfl c3 rfl rfl ?_
        refine ei_go hb dX4_minuteOf_19 (pc' := 23) (by decide) ?_
        have h := Option.some.inj h
        subst h
        exact ei_reti hb dX4_minuteOf_23 rfl
      · rw [if_neg c3] at h
        cases h
def gW_isEarlier (F : Nat) (f : qz_F) (a0 : Int32) (a1 : Int32) : Option (Int32) :=
  Option.bind (gW_minuteOf F f a0) fun x1 => Option.bind (gW_minuteOf F f a1) fun x3 => if (x1 - x3) = 0 then (if a1 ≤ a0 then (some (0 : Int32)) else (some (1 : Int32))) else (if 0 ≤ (x1 - x3) then (some (0 : Int32)) else (some (1 : Int32)))
set_option maxHeartbeats 4000000 in
theorem vW_isEarlier (F : Nat) (f : qz_F) (p : Nat → Nat) (a0 : Int32) (a1 : Int32) (r : Int32) (h : (gW_isEarlier F f a0 a1) = some r) : qz_E 22 0 (qz_in0 22 [.inr (.inl (some ((4, 0, 0) : qz_N))), .inl a0, .inl a1]) [] (qz_mk f p) (some (.inl r)) (qz_mk f p) := by
  have hb : qz_b 22 = cX4_isEarlier := rfl
  have hcn : qz_cn 22 = 4 := rfl
  have hml : qz_ml 22 = 4 := rfl
  show qz_E 22 0 [some (.inr (.inl (some ((4, 0, 0) : qz_N)))), some (.inl a0), some (.inl a1), none] [] _ _ _
  rw [gW_isEarlier] at h
  refine ei_aln hb dX4_isEarlier_0 (pc' := 1) rfl rfl ?_
  refine ei_iln hb dX4_isEarlier_1 (pc' := 2) rfl rfl ?_
  obtain ⟨x1, e2, h⟩ := Option.bind_eq_some_iff.mp h
  refine ei_cv hb dX4_isEarlier_2 (pc' := 5) (M1 := (qz_mk f p)) (as := [.inl a0]) (rest := []) (st' := [.inl x1]) hcn qz_c_4_64 qz_k_21 (qz_q_22_21) (Nat.le_of_ble_eq_true rfl) (Nat.le_of_ble_eq_true rfl) rfl rfl rfl rfl (vW_minuteOf F f p a0 _ e2) rfl rfl ?_
  refine ei_aln hb dX4_isEarlier_5 (pc' := 6) rfl rfl ?_
  refine ei_iln hb dX4_isEarlier_6 (pc' := 7) rfl rfl ?_
  obtain ⟨x3, e4, h⟩ := Option.bind_eq_some_iff.mp h
  refine ei_cv hb dX4_isEarlier_7 (pc' := 10) (M1 := (qz_mk f p)) (as := [.inl a1]) (rest := [.inl x1]) (st' := [.inl x3, .inl x1]) hcn qz_c_4_64 qz_k_21 (qz_q_22_21) (Nat.le_of_ble_eq_true rfl) (Nat.le_of_ble_eq_true rfl) rfl rfl rfl rfl (vW_minuteOf F f p a1 _ e4) rfl rfl ?_
  refine ei_sub hb dX4_isEarlier_10 (pc' := 11) rfl ?_
  refine ei_isn hb dX4_isEarlier_11 (pc' := 12) (ls' := [some (.inr (.inl (some ((4, 0, 0) : qz_N)))), some (.inl a0), some (.inl a1), some (.inl (x1 - x3))]) hml (Nat.le_of_ble_eq_true rfl) rfl rfl rfl ?_
  refine ei_iln hb dX4_isEarlier_12 (pc' := 13) rfl rfl ?_
  by_cases c5 : (x1 - x3) = 0
  · rw [if_pos c5] at h
    refine ei_ifT hb dX4_isEarlier_13 (pc' := 28) (decide_eq_true c5) (by decide) ?_
    refine ei_iln hb dX4_isEarlier_28 (pc' := 29) rfl rfl ?_
    refine ei_iln hb dX4_isEarlier_29 (pc' := 30) rfl rfl ?_
    by_cases c6 : a1 ≤ a0
    · rw [if_pos c6] at h
      refine ei_icT hb dX4_isEarlier_30 (pc' := 37) (decide_eq_true c6) (by decide) ?_
      refine ei_c hb dX4_isEarlier_37 (v := (0 : Int32)) (pc' := 38) (by decide) rfl ?_
      have h := Option.some.inj h
      subst h
      exact ei_retz hb dX4_isEarlier_38 rfl (by decide)
    · rw [if_neg c6] at h
      refine ei_icF hb dX4_isEarlier_30 (pc' := 33) (t := 37) (decide_eq_false c6) (by decide) rfl ?_
      refine ei_c hb dX4_isEarlier_33 (v := (1 : Int32)) (pc' := 34) (by decide) rfl ?_
      refine ei_go hb dX4_isEarlier_34 (pc' := 38) (by decide) ?_
      have h := Option.some.inj h
      subst h
      exact ei_retz hb dX4_isEarlier_38 rfl (by decide)
  · rw [if_neg c5] at h
    refine ei_ifF hb dX4_isEarlier_13 (pc' := 16) (t := 28) (decide_eq_false c5) (by decide) rfl ?_
    refine ei_iln hb dX4_isEarlier_16 (pc' := 17) rfl rfl ?_
    by_cases c7 : 0 ≤ (x1 - x3)
    · rw [if_pos c7] at h
      refine ei_ifT hb dX4_isEarlier_17 (pc' := 24) (decide_eq_true c7) (by decide) ?_
      refine ei_c hb dX4_isEarlier_24 (v := (0 : Int32)) (pc' := 25) (by decide) rfl ?_
      refine ei_go hb dX4_isEarlier_25 (pc' := 38) (by decide) ?_
      have h := Option.some.inj h
      subst h
      exact ei_retz hb dX4_isEarlier_38 rfl (by decide)
    · rw [if_neg c7] at h
      refine ei_ifF hb dX4_isEarlier_17 (pc' := 20) (t := 24) (decide_eq_false c7) (by decide) rfl ?_
      refine ei_c hb dX4_isEarlier_20 (v := (1 : Int32)) (pc' := 21) (by decide) rfl ?_
      refine ei_go hb dX4_isEarlier_21 (pc' := 38) (by decide) ?_
      have h := Option.some.inj h
      subst h
      exact ei_retz hb dX4_isEarlier_38 rfl (by decide)
theorem zW_isEarlier {F : Nat} {f : qz_F} {a0 : Int32} {a1 : Int32} {r : Int32} (h : (gW_isEarlier F f a0 a1) = some r) : r = 0 ∨ r = 1 := by
  unfold gW_isEarlier at h
  simp only [Option.bind_eq_some_iff] at h
  obtain ⟨x, -, y, -, h⟩ := h
  repeat' split at h
  all_goals first
    | (cases h; exact Or.inl rfl)
    | (cases h; exact Or.inr rfl)
def gW_bookingOf_L11 (F : Nat) (f : qz_F) (a0 : Int32) (K : (Int32 → Option (Option Nat))) : Nat → Int32 → Option (Option Nat)
  | 0, _ => none
  | n + 1, y4 => if (30 : Int32) ≤ y4 then (K y4) else (if qz_xi y4 30 = true then (if (gB_isLive f ((y4).toNatClampNeg)) = 0 then ((gW_bookingOf_L11 F f a0 K) n (y4 + 1)) else (if (f ((0, 0, (y4).toNatClampNeg) : qz_N) 0) = a0 then (some (some ((y4).toNatClampNeg))) else ((gW_bookingOf_L11 F f a0 K) n (y4 + 1)))) else none)
def gW_bookingOf (F : Nat) (f : qz_F) (a0 : Int32) : Option (Option Nat) :=
  gW_bookingOf_L11 F f a0 (fun y45 => some none) F (0 : Int32)
set_option maxHeartbeats 4000000 in
theorem vW_bookingOf_L11 (F : Nat) (f : qz_F) (p : Nat → Nat) (a0 : Int32) (K : (Int32 → Option (Option Nat))) (hK : ∀ (y4 : Int32) (r : Option Nat), K y4 = some r → ∀ (d0 : Option qz_V) (d5 : Option qz_V), qz_E 23 49 [d0, some (.inl a0), some (.inr (.inl (some ((13, 0, 0) : qz_N)))), some (.inl (30 : Int32)), some (.inl y4), d5] [] (qz_mk f p) (some (.inr (.inl (qz_bo r)))) (qz_mk f p)) : ∀ (n : Nat) (y4 : Int32) (r : Option Nat), gW_bookingOf_L11 F f a0 K n y4 = some r → ∀ (d0 : Option qz_V) (d5 : Option qz_V), qz_E 23 11 [d0, some (.inl a0), some (.inr (.inl (some ((13, 0, 0) : qz_N)))), some (.inl (30 : Int32)), some (.inl y4), d5] [] (qz_mk f p) (some (.inr (.inl (qz_bo r)))) (qz_mk f p) := by
  have hb : qz_b 23 = cX4_bookingOf := rfl
  have hcn : qz_cn 23 = 4 := rfl
  have hml : qz_ml 23 = 6 := rfl
  intro n
  induction n with
  | zero =>
    intro y4 r h
    cases h
  | succ n ih =>
    intro y4 r h d0 d5
    rw [gW_bookingOf_L11] at h
    refine ei_il hb dX4_bookingOf_11 (pc' := 13) rfl rfl ?_
    refine ei_iln hb dX4_bookingOf_13 (pc' := 14) rfl rfl ?_
    by_cases c1 : (30 : Int32) ≤ y4
    · rw [if_pos c1] at h
      refine ei_icT hb dX4_bookingOf_14 (pc' := 49) (decide_eq_true c1) (by decide) ?_
      exact hK y4 _ h _ _
    · rw [if_neg c1] at h
      refine ei_icF hb dX4_bookingOf_14 (pc' := 17) (t := 49) (decide_eq_false c1) (by decide) rfl ?_
      refine ei_aln hb dX4_bookingOf_17 (pc' := 18) rfl rfl ?_
      refine ei_il hb dX4_bookingOf_18 (pc' := 20) rfl rfl ?_
      by_cases c2 : qz_xi y4 30 = true
      · rw [if_pos c2] at h
        refine ei_aa hb dX4_bookingOf_20 (pc' := 21) (x := some ((0, 0, (y4).toNatClampNeg) : qz_N)) (show 4 ≤ qz_at 13 by decide) c2 (qz_fr_13 (by decide) c2) rfl ?_
        refine ei_as hb dX4_bookingOf_21 (pc' := 23) (ls' := [d0, some (.inl a0), some (.inr (.inl (some ((13, 0, 0) : qz_N)))), some (.inl (30 : Int32)), some (.inl y4), some (.inr (.inl (some ((0, 0, (y4).toNatClampNeg) : qz_N))))]) hml (Nat.le_of_ble_eq_true rfl) rfl rfl rfl ?_
        refine ei_al hb dX4_bookingOf_23 (pc' := 25) rfl rfl ?_
        refine ei_cv hb dX4_bookingOf_25 (pc' := 28) (M1 := (qz_mk f p)) (as := []) (rest := []) (st' := [.inl (gB_isLive f ((y4).toNatClampNeg))]) hcn qz_c_4_75 qz_k_1 (qz_q_23_1) (Nat.le_of_ble_eq_true rfl) (Nat.le_of_ble_eq_true rfl) rfl rfl rfl rfl (vB_isLive f p ((y4).toNatClampNeg)) rfl rfl ?_
        by_cases c3 : (gB_isLive f ((y4).toNatClampNeg)) = 0
        · rw [if_pos c3] at h
          refine ei_ifT hb dX4_bookingOf_28 (pc' := 43) (decide_eq_true c3) (by decide) ?_
          refine ei_inc hb dX4_bookingOf_43 (v := (y4 + 1)) (pc' := 46) (ls' := [d0, some (.inl a0), some (.inr (.inl (some ((13, 0, 0) : qz_N)))), some (.inl (30 : Int32)), some (.inl (y4 + 1)), some (.inr (.inl (some ((0, 0, (y4).toNatClampNeg) : qz_N))))]) rfl hml (Nat.le_of_ble_eq_true rfl) rfl rfl rfl rfl ?_
          refine ei_go hb dX4_bookingOf_46 (pc' := 11) (by decide) ?_
          exact ih (y4 + 1) _ h _ _
        · rw [if_neg c3] at h
          refine ei_ifF hb dX4_bookingOf_28 (pc' := 31) (t := 43) (decide_eq_false c3) (by decide) rfl ?_
          refine ei_al hb dX4_bookingOf_31 (pc' := 33) rfl rfl ?_
          refine ei_gi hb dX4_bookingOf_33 (pc' := 36) (x := (f ((0, 0, (y4).toNatClampNeg) : qz_N) 0)) hcn qz_f_4_79 rfl rfl rfl rfl ?_
          refine ei_iln hb dX4_bookingOf_36 (pc' := 37) rfl rfl ?_
          by_cases c4 : (f ((0, 0, (y4).toNatClampNeg) : qz_N) 0) = a0
          · rw [if_pos c4] at h
            refine ei_icF hb dX4_bookingOf_37 (pc' := 40) (t := 43) (decide_eq_false (fun q => q c4)) (by decide) rfl ?_
            refine ei_al hb dX4_bookingOf_40 (pc' := 42) rfl rfl ?_
            have h := Option.some.inj h
            subst h
            exact ei_reta hb dX4_bookingOf_42 rfl
          · rw [if_neg c4] at h
            refine ei_icT hb dX4_bookingOf_37 (pc' := 43) (decide_eq_true c4) (by decide) ?_
            refine ei_inc hb dX4_bookingOf_43 (v := (y4 + 1)) (pc' := 46) (ls' := [d0, some (.inl a0), some (.inr (.inl (some ((13, 0, 0) : qz_N)))), some (.inl (30 : Int32)), some (.inl (y4 + 1)), some (.inr (.inl (some ((0, 0, (y4).toNatClampNeg) : qz_N))))]) rfl hml (Nat.le_of_ble_eq_true rfl) rfl rfl rfl rfl ?_
            refine ei_go hb dX4_bookingOf_46 (pc' := 11) (by decide) ?_
            exact ih (y4 + 1) _ h _ _
      · rw [if_neg c2] at h
        cases h
set_option maxHeartbeats 4000000 in
theorem vW_bookingOf (F : Nat) (f : qz_F) (p : Nat → Nat) (a0 : Int32) (r : Option Nat) (h : (gW_bookingOf F f a0) = some r) : qz_E 23 0 (qz_in0 23 [.inr (.inl (some ((4, 0, 0) : qz_N))), .inl a0]) [] (qz_mk f p) (some (.inr (.inl (qz_bo r)))) (qz_mk f p) := by
  have hb : qz_b 23 = cX4_bookingOf := rfl
  have hcn : qz_cn 23 = 4 := rfl
  have hml : qz_ml 23 = 6 := rfl
  show qz_E 23 0 [some (.inr (.inl (some ((4, 0, 0) : qz_N)))), some (.inl a0), none, none, none, none] [] _ _ _
  rw [gW_bookingOf] at h
  refine ei_aln hb dX4_bookingOf_0 (pc' := 1) rfl rfl ?_
  refine ei_gr hb dX4_bookingOf_1 (pc' := 4) (x := some ((13, 0, 0) : qz_N)) hcn qz_f_4_30 rfl rfl rfl rfl ?_
  refine ei_asn hb dX4_bookingOf_4 (pc' := 5) (ls' := [some (.inr (.inl (some ((4, 0, 0) : qz_N)))), some (.inl a0), some (.inr (.inl (some ((13, 0, 0) : qz_N)))), none, none, none]) hml (Nat.le_of_ble_eq_true rfl) rfl rfl rfl ?_
  refine ei_aln hb dX4_bookingOf_5 (pc' := 6) rfl rfl ?_
  refine ei_len hb dX4_bookingOf_6 (pc' := 7) (x := (30 : Int32)) (show ¬ qz_at 13 = 0 by decide) rfl rfl ?_
  refine ei_isn hb dX4_bookingOf_7 (pc' := 8) (ls' := [some (.inr (.inl (some ((4, 0, 0) : qz_N)))), some (.inl a0), some (.inr (.inl (some ((13, 0, 0) : qz_N)))), some (.inl (30 : Int32)), none, none]) hml (Nat.le_of_ble_eq_true rfl) rfl rfl rfl ?_
  refine ei_c hb dX4_bookingOf_8 (v := (0 : Int32)) (pc' := 9) (by decide) rfl ?_
  refine ei_is hb dX4_bookingOf_9 (pc' := 11) (ls' := [some (.inr (.inl (some ((4, 0, 0) : qz_N)))), some (.inl a0), some (.inr (.inl (some ((13, 0, 0) : qz_N)))), some (.inl (30 : Int32)), some (.inl (0 : Int32)), none]) hml (Nat.le_of_ble_eq_true rfl) rfl rfl rfl ?_
  refine vW_bookingOf_L11 F f p a0 _ ?_ F (0 : Int32) _ h _ _
  intro y45 r h d6 d7
  refine ei_null hb dX4_bookingOf_49 (pc' := 50) rfl ?_
  have h := Option.some.inj h
  subst h
  exact ei_reta hb dX4_bookingOf_50 rfl
def gW_minutesBehind (F : Nat) (f : qz_F) (a0 : Int32) (a1 : Int32) (a2 : Int32) : Option (Int32) :=
  Option.bind (gW_minuteOf F f a0) fun x1 => Option.bind (gW_setting F f (0 : Int32)) fun x3 => some ((a2 - x1) + (a1 * x3))
set_option maxHeartbeats 4000000 in
theorem vW_minutesBehind (F : Nat) (f : qz_F) (p : Nat → Nat) (a0 : Int32) (a1 : Int32) (a2 : Int32) (r : Int32) (h : (gW_minutesBehind F f a0 a1 a2) = some r) : qz_E 37 0 (qz_in0 37 [.inr (.inl (some ((4, 0, 0) : qz_N))), .inl a0, .inl a1, .inl a2]) [] (qz_mk f p) (some (.inl r)) (qz_mk f p) := by
  have hb : qz_b 37 = cX4_minutesBehind := rfl
  have hcn : qz_cn 37 = 4 := rfl
  have hml : qz_ml 37 = 4 := rfl
  show qz_E 37 0 [some (.inr (.inl (some ((4, 0, 0) : qz_N)))), some (.inl a0), some (.inl a1), some (.inl a2)] [] _ _ _
  rw [gW_minutesBehind] at h
  refine ei_iln hb dX4_minutesBehind_0 (pc' := 1) rfl rfl ?_
  refine ei_aln hb dX4_minutesBehind_1 (pc' := 2) rfl rfl ?_
  refine ei_iln hb dX4_minutesBehind_2 (pc' := 3) rfl rfl ?_
  obtain ⟨x1, e2, h⟩ := Option.bind_eq_some_iff.mp h
  refine ei_cv hb dX4_minutesBehind_3 (pc' := 6) (M1 := (qz_mk f p)) (as := [.inl a0]) (rest := [.inl a2]) (st' := [.inl x1, .inl a2]) hcn qz_c_4_64 qz_k_21 (qz_q_37_21) (Nat.le_of_ble_eq_true rfl) (Nat.le_of_ble_eq_true rfl) rfl rfl rfl rfl (vW_minuteOf F f p a0 _ e2) rfl rfl ?_
  refine ei_sub hb dX4_minutesBehind_6 (pc' := 7) rfl ?_
  refine ei_iln hb dX4_minutesBehind_7 (pc' := 8) rfl rfl ?_
  refine ei_aln hb dX4_minutesBehind_8 (pc' := 9) rfl rfl ?_
  refine ei_c hb dX4_minutesBehind_9 (v := (0 : Int32)) (pc' := 10) (by decide) rfl ?_
  obtain ⟨x3, e4, h⟩ := Option.bind_eq_some_iff.mp h
  refine ei_cv hb dX4_minutesBehind_10 (pc' := 13) (M1 := (qz_mk f p)) (as := [.inl (0 : Int32)]) (rest := [.inl a1, .inl (a2 - x1)]) (st' := [.inl x3, .inl a1, .inl (a2 - x1)]) hcn qz_c_4_114 qz_k_17 (qz_q_37_17) (Nat.le_of_ble_eq_true rfl) (Nat.le_of_ble_eq_true rfl) rfl rfl rfl rfl (vW_setting F f p (0 : Int32) _ e4) rfl rfl ?_
  refine ei_mul hb dX4_minutesBehind_13 (pc' := 14) rfl ?_
  refine ei_add hb dX4_minutesBehind_14 (pc' := 15) rfl ?_
  have h := Option.some.inj h
  subst h
  exact ei_reti hb dX4_minutesBehind_15 rfl
def gW_isInTime (F : Nat) (f : qz_F) (a0 : Int32) (a1 : Int32) (a2 : Int32) : Option (Int32) :=
  Option.bind (gW_minutesBehind F f a0 a1 a2) fun x1 => Option.bind (gW_setting F f (3 : Int32)) fun x3 => if x3 < x1 then (some (0 : Int32)) else (some (1 : Int32))
set_option maxHeartbeats 4000000 in
theorem vW_isInTime (F : Nat) (f : qz_F) (p : Nat → Nat) (a0 : Int32) (a1 : Int32) (a2 : Int32) (r : Int32) (h : (gW_isInTime F f a0 a1 a2) = some r) : qz_E 38 0 (qz_in0 38 [.inr (.inl (some ((4, 0, 0) : qz_N))), .inl a0, .inl a1, .inl a2]) [] (qz_mk f p) (some (.inl r)) (qz_mk f p) := by
  have hb : qz_b 38 = cX4_isInTime := rfl
  have hcn : qz_cn 38 = 4 := rfl
  have hml : qz_ml 38 = 4 := rfl
  show qz_E 38 0 [some (.inr (.inl (some ((4, 0, 0) : qz_N)))), some (.inl a0), some (.inl a1), some (.inl a2)] [] _ _ _
  rw [gW_isInTime] at h
  refine ei_aln hb dX4_isInTime_0 (pc' := 1) rfl rfl ?_
  refine ei_iln hb dX4_isInTime_1 (pc' := 2) rfl rfl ?_
  refine ei_iln hb dX4_isInTime_2 (pc' := 3) rfl rfl ?_
  refine ei_iln hb dX4_isInTime_3 (pc' := 4) rfl rfl ?_
  obtain ⟨x1, e2, h⟩ := Option.bind_eq_some_iff.mp h
  refine ei_cv hb dX4_isInTime_4 (pc' := 7) (M1 := (qz_mk f p)) (as := [.inl a0, .inl a1, .inl a2]) (rest := []) (st' := [.inl x1]) hcn qz_c_4_143 qz_k_37 (qz_q_38_37) (Nat.le_of_ble_eq_true rfl) (Nat.le_of_ble_eq_true rfl) rfl rfl rfl rfl (vW_minutesBehind F f p a0 a1 a2 _ e2) rfl rfl ?_
  refine ei_aln hb dX4_isInTime_7 (pc' := 8) rfl rfl ?_
  refine ei_c hb dX4_isInTime_8 (v := (3 : Int32)) (pc' := 9) (by decide) rfl ?_
  obtain ⟨x3, e4, h⟩ := Option.bind_eq_some_iff.mp h
  refine ei_cv hb dX4_isInTime_9 (pc' := 12) (M1 := (qz_mk f p)) (as := [.inl (3 : Int32)]) (rest := [.inl x1]) (st' := [.inl x3, .inl x1]) hcn qz_c_4_114 qz_k_17 (qz_q_38_17) (Nat.le_of_ble_eq_true rfl) (Nat.le_of_ble_eq_true rfl) rfl rfl rfl rfl (vW_setting F f p (3 : Int32) _ e4) rfl rfl ?_
  by_cases c5 : x3 < x1
  · rw [if_pos c5] at h
    refine ei_icT hb dX4_isInTime_12 (pc' := 19) (decide_eq_true c5) (by decide) ?_
    refine ei_c hb dX4_isInTime_19 (v := (0 : Int32)) (pc' := 20) (by decide) rfl ?_
    have h := Option.some.inj h
    subst h
    exact ei_retz hb dX4_isInTime_20 rfl (by decide)
  · rw [if_neg c5] at h
    refine ei_icF hb dX4_isInTime_12 (pc' := 15) (t := 19) (decide_eq_false c5) (by decide) rfl ?_
    refine ei_c hb dX4_isInTime_15 (v := (1 : Int32)) (pc' := 16) (by decide) rfl ?_
    refine ei_go hb dX4_isInTime_16 (pc' := 20) (by decide) ?_
    have h := Option.some.inj h
    subst h
    exact ei_retz hb dX4_isInTime_20 rfl (by decide)
def gX_isLine (f : qz_F) (a0 : Int32) : Int32 :=
  if a0 < 0 then (0 : Int32) else (if (2 : Int32) ≤ a0 then (0 : Int32) else (1 : Int32))
set_option maxHeartbeats 4000000 in
theorem vX_isLine (f : qz_F) (p : Nat → Nat) (a0 : Int32) : qz_E 66 0 (qz_in0 66 [.inl a0]) [] (qz_mk f p) (some (.inl (gX_isLine f a0))) (qz_mk f p) := by
  have hb : qz_b 66 = cX5_isLine := rfl
  have hcn : qz_cn 66 = 5 := rfl
  have hml : qz_ml 66 = 1 := rfl
  obtain ⟨r, h⟩ : ∃ r, (gX_isLine f a0) = r := ⟨_, rfl⟩
  rw [h]
  show qz_E 66 0 [some (.inl a0)] [] _ _ _
  rw [gX_isLine] at h
  refine ei_iln hb dX5_isLine_0 (pc' := 1) rfl rfl ?_
  by_cases c1 : a0 < 0
  · rw [if_pos c1] at h
    refine ei_ifT hb dX5_isLine_1 (pc' := 13) (decide_eq_true c1) (by decide) ?_
    refine ei_c hb dX5_isLine_13 (v := (0 : Int32)) (pc' := 14) (by decide) rfl ?_
    subst h
    exact ei_retz hb dX5_isLine_14 rfl (by decide)
  · rw [if_neg c1] at h
    refine ei_ifF hb dX5_isLine_1 (pc' := 4) (t := 13) (decide_eq_false c1) (by decide) rfl ?_
    refine ei_iln hb dX5_isLine_4 (pc' := 5) rfl rfl ?_
    refine ei_c hb dX5_isLine_5 (v := (2 : Int32)) (pc' := 6) (by decide) rfl ?_
    by_cases c2 : (2 : Int32) ≤ a0
    · rw [if_pos c2] at h
      refine ei_icT hb dX5_isLine_6 (pc' := 13) (decide_eq_true c2) (by decide) ?_
      refine ei_c hb dX5_isLine_13 (v := (0 : Int32)) (pc' := 14) (by decide) rfl ?_
      subst h
      exact ei_retz hb dX5_isLine_14 rfl (by decide)
    · rw [if_neg c2] at h
      refine ei_icF hb dX5_isLine_6 (pc' := 9) (t := 13) (decide_eq_false c2) (by decide) rfl ?_
      refine ei_c hb dX5_isLine_9 (v := (1 : Int32)) (pc' := 10) (by decide) rfl ?_
      refine ei_go hb dX5_isLine_10 (pc' := 14) (by decide) ?_
      subst h
      exact ei_retz hb dX5_isLine_14 rfl (by decide)
def gW_busIndex (f : qz_F) (a0 : Int32) (a1 : Int32) : Int32 :=
  if (gX_isLine f a0) = 0 then (-1 : Int32) else (if a1 < 0 then (-1 : Int32) else (if (10 : Int32) ≤ a1 then (-1 : Int32) else ((a0 * (10 : Int32)) + a1)))
set_option maxHeartbeats 4000000 in
theorem vW_busIndex (f : qz_F) (p : Nat → Nat) (a0 : Int32) (a1 : Int32) : qz_E 31 0 (qz_in0 31 [.inl a0, .inl a1]) [] (qz_mk f p) (some (.inl (gW_busIndex f a0 a1))) (qz_mk f p) := by
  have hb : qz_b 31 = cX4_busIndex := rfl
  have hcn : qz_cn 31 = 4 := rfl
  have hml : qz_ml 31 = 2 := rfl
  obtain ⟨r, h⟩ : ∃ r, (gW_busIndex f a0 a1) = r := ⟨_, rfl⟩
  rw [h]
  show qz_E 31 0 [some (.inl a0), some (.inl a1)] [] _ _ _
  rw [gW_busIndex] at h
  refine ei_iln hb dX4_busIndex_0 (pc' := 1) rfl rfl ?_
  refine ei_cs hb dX4_busIndex_1 (pc' := 4) (M1 := (qz_mk f p)) (as := [.inl a0]) (rest := []) (st' := [.inl (gX_isLine f a0)]) hcn qz_c_4_132 rfl qz_k_66 (qz_q_31_66) (Nat.le_of_ble_eq_true rfl) (Nat.le_of_ble_eq_true rfl) rfl rfl rfl (vX_isLine f p a0) rfl rfl ?_
  by_cases c1 : (gX_isLine f a0) = 0
  · rw [if_pos c1] at h
    refine ei_ifT hb dX4_busIndex_4 (pc' := 26) (decide_eq_true c1) (by decide) ?_
    refine ei_c hb dX4_busIndex_26 (v := (-1 : Int32)) (pc' := 27) (by decide) rfl ?_
    subst h
    exact ei_reti hb dX4_busIndex_27 rfl
  · rw [if_neg c1] at h
    refine ei_ifF hb dX4_busIndex_4 (pc' := 7) (t := 26) (decide_eq_false c1) (by decide) rfl ?_
    refine ei_iln hb dX4_busIndex_7 (pc' := 8) rfl rfl ?_
    by_cases c2 : a1 < 0
    · rw [if_pos c2] at h
      refine ei_ifT hb dX4_busIndex_8 (pc' := 26) (decide_eq_true c2) (by decide) ?_
      refine ei_c hb dX4_busIndex_26 (v := (-1 : Int32)) (pc' := 27) (by decide) rfl ?_
      subst h
      exact ei_reti hb dX4_busIndex_27 rfl
    · rw [if_neg c2] at h
      refine ei_ifF hb dX4_busIndex_8 (pc' := 11) (t := 26) (decide_eq_false c2) (by decide) rfl ?_
      refine ei_iln hb dX4_busIndex_11 (pc' := 12) rfl rfl ?_
      refine ei_b hb dX4_busIndex_12 (v := (10 : Int32)) (pc' := 14) (by decide) rfl ?_
      by_cases c3 : (10 : Int32) ≤ a1
      · rw [if_pos c3] at h
        refine ei_icT hb dX4_busIndex_14 (pc' := 26) (decide_eq_true c3) (by decide) ?_
        refine ei_c hb dX4_busIndex_26 (v := (-1 : Int32)) (pc' := 27) (by decide) rfl ?_
        subst h
        exact ei_reti hb dX4_busIndex_27 rfl
      · rw [if_neg c3] at h
        refine ei_icF hb dX4_busIndex_14 (pc' := 17) (t := 26) (decide_eq_false c3) (by decide) rfl ?_
        refine ei_iln hb dX4_busIndex_17 (pc' := 18) rfl rfl ?_
        refine ei_b hb dX4_busIndex_18 (v := (10 : Int32)) (pc' := 20) (by decide) rfl ?_
        refine ei_mul hb dX4_busIndex_20 (pc' := 21) rfl ?_
        refine ei_iln hb dX4_busIndex_21 (pc' := 22) rfl rfl ?_
        refine ei_add hb dX4_busIndex_22 (pc' := 23) rfl ?_
        refine ei_go hb dX4_busIndex_23 (pc' := 27) (by decide) ?_
        subst h
        exact ei_reti hb dX4_busIndex_27 rfl
def gW_partnerOf (F : Nat) (f : qz_F) (a0 : Int32) (a1 : Int32) : Option (Int32) :=
  if (gW_busIndex f a0 a1) < 0 then (some (-5 : Int32)) else (if (20 : Int32) ≤ (gW_busIndex f a0 a1) then (some (-5 : Int32)) else (if qz_xi (gW_busIndex f a0 a1) 20 = true then (some (f ((11, 0, 0) : qz_N) ((gW_busIndex f a0 a1)).toNatClampNeg)) else none))
set_option maxHeartbeats 4000000 in
theorem vW_partnerOf (F : Nat) (f : qz_F) (p : Nat → Nat) (a0 : Int32) (a1 : Int32) (r : Int32) (h : (gW_partnerOf F f a0 a1) = some r) : qz_E 32 0 (qz_in0 32 [.inr (.inl (some ((4, 0, 0) : qz_N))), .inl a0, .inl a1]) [] (qz_mk f p) (some (.inl r)) (qz_mk f p) := by
  have hb : qz_b 32 = cX4_partnerOf := rfl
  have hcn : qz_cn 32 = 4 := rfl
  have hml : qz_ml 32 = 4 := rfl
  show qz_E 32 0 [some (.inr (.inl (some ((4, 0, 0) : qz_N)))), some (.inl a0), some (.inl a1), none] [] _ _ _
  rw [gW_partnerOf] at h
  refine ei_iln hb dX4_partnerOf_0 (pc' := 1) rfl rfl ?_
  refine ei_iln hb dX4_partnerOf_1 (pc' := 2) rfl rfl ?_
  refine ei_cs hb dX4_partnerOf_2 (pc' := 5) (M1 := (qz_mk f p)) (as := [.inl a0, .inl a1]) (rest := []) (st' := [.inl (gW_busIndex f a0 a1)]) hcn qz_c_4_135 rfl qz_k_31 (qz_q_32_31) (Nat.le_of_ble_eq_true rfl) (Nat.le_of_ble_eq_true rfl) rfl rfl rfl (vW_busIndex f p a0 a1) rfl rfl ?_
  refine ei_isn hb dX4_partnerOf_5 (pc' := 6) (ls' := [some (.inr (.inl (some ((4, 0, 0) : qz_N)))), some (.inl a0), some (.inl a1), some (.inl (gW_busIndex f a0 a1))]) hml (Nat.le_of_ble_eq_true rfl) rfl rfl rfl ?_
  refine ei_iln hb dX4_partnerOf_6 (pc' := 7) rfl rfl ?_
  by_cases c1 : (gW_busIndex f a0 a1) < 0
  · rw [if_pos c1] at h
    refine ei_ifT hb dX4_partnerOf_7 (pc' := 28) (decide_eq_true c1) (by decide) ?_
    refine ei_b hb dX4_partnerOf_28 (v := (-5 : Int32)) (pc' := 30) (by decide) rfl ?_
    have h := Option.some.inj h
    subst h
    exact ei_reti hb dX4_partnerOf_30 rfl
  · rw [if_neg c1] at h
    refine ei_ifF hb dX4_partnerOf_7 (pc' := 10) (t := 28) (decide_eq_false c1) (by decide) rfl ?_
    refine ei_iln hb dX4_partnerOf_10 (pc' := 11) rfl rfl ?_
    refine ei_aln hb dX4_partnerOf_11 (pc' := 12) rfl rfl ?_
    refine ei_gr hb dX4_partnerOf_12 (pc' := 15) (x := some ((11, 0, 0) : qz_N)) hcn qz_f_4_19 rfl rfl rfl rfl ?_
    refine ei_len hb dX4_partnerOf_15 (pc' := 16) (x := (20 : Int32)) (show ¬ qz_at 11 = 0 by decide) rfl rfl ?_
    by_cases c2 : (20 : Int32) ≤ (gW_busIndex f a0 a1)
    · rw [if_pos c2] at h
      refine ei_icT hb dX4_partnerOf_16 (pc' := 28) (decide_eq_true c2) (by decide) ?_
      refine ei_b hb dX4_partnerOf_28 (v := (-5 : Int32)) (pc' := 30) (by decide) rfl ?_
      have h := Option.some.inj h
      subst h
      exact ei_reti hb dX4_partnerOf_30 rfl
    · rw [if_neg c2] at h
      refine ei_icF hb dX4_partnerOf_16 (pc' := 19) (t := 28) (decide_eq_false c2) (by decide) rfl ?_
      refine ei_aln hb dX4_partnerOf_19 (pc' := 20) rfl rfl ?_
      refine ei_gr hb dX4_partnerOf_20 (pc' := 23) (x := some ((11, 0, 0) : qz_N)) hcn qz_f_4_19 rfl rfl rfl rfl ?_
      refine ei_iln hb dX4_partnerOf_23 (pc' := 24) rfl rfl ?_
      by_cases c3 : qz_xi (gW_busIndex f a0 a1) 20 = true
      · rw [if_pos c3] at h
        refine ei_ia hb dX4_partnerOf_24 (pc' := 25) (x := (f ((11, 0, 0) : qz_N) ((gW_busIndex f a0 a1)).toNatClampNeg)) rfl c3 rfl rfl ?_
        refine ei_go hb dX4_partnerOf_25 (pc' := 30) (by decide) ?_
        have h := Option.some.inj h
        subst h
        exact ei_reti hb dX4_partnerOf_30 rfl
      · rw [if_neg c3] at h
        cases h
def gW_startOf (F : Nat) (f : qz_F) (a0 : Int32) (a1 : Int32) : Option (Int32) :=
  if (gW_hasEnd f a1) = 0 then (Option.bind (gW_minuteOf F f a0) fun x2 => some x2) else (Option.bind (gW_minuteOf F f a0) fun x4 => Option.bind (gW_minuteOf F f a1) fun x6 => some (if x4 < x6 then x6 else x4))
set_option maxHeartbeats 4000000 in
theorem vW_startOf (F : Nat) (f : qz_F) (p : Nat → Nat) (a0 : Int32) (a1 : Int32) (r : Int32) (h : (gW_startOf F f a0 a1) = some r) : qz_E 35 0 (qz_in0 35 [.inr (.inl (some ((4, 0, 0) : qz_N))), .inl a0, .inl a1]) [] (qz_mk f p) (some (.inl r)) (qz_mk f p) := by
  have hb : qz_b 35 = cX4_startOf := rfl
  have hcn : qz_cn 35 = 4 := rfl
  have hml : qz_ml 35 = 3 := rfl
  show qz_E 35 0 [some (.inr (.inl (some ((4, 0, 0) : qz_N)))), some (.inl a0), some (.inl a1)] [] _ _ _
  rw [gW_startOf] at h
  refine ei_aln hb dX4_startOf_0 (pc' := 1) rfl rfl ?_
  refine ei_iln hb dX4_startOf_1 (pc' := 2) rfl rfl ?_
  refine ei_cv hb dX4_startOf_2 (pc' := 5) (M1 := (qz_mk f p)) (as := [.inl a1]) (rest := []) (st' := [.inl (gW_hasEnd f a1)]) hcn qz_c_4_102 qz_k_19 (qz_q_35_19) (Nat.le_of_ble_eq_true rfl) (Nat.le_of_ble_eq_true rfl) rfl rfl rfl rfl (vW_hasEnd f p a1) rfl rfl ?_
  by_cases c1 : (gW_hasEnd f a1) = 0
  · rw [if_pos c1] at h
    refine ei_ifT hb dX4_startOf_5 (pc' := 24) (decide_eq_true c1) (by decide) ?_
    refine ei_aln hb dX4_startOf_24 (pc' := 25) rfl rfl ?_
    refine ei_iln hb dX4_startOf_25 (pc' := 26) rfl rfl ?_
    obtain ⟨x2, e3, h⟩ := Option.bind_eq_some_iff.mp h
    refine ei_cv hb dX4_startOf_26 (pc' := 29) (M1 := (qz_mk f p)) (as := [.inl a0]) (rest := []) (st' := [.inl x2]) hcn qz_c_4_64 qz_k_21 (qz_q_35_21) (Nat.le_of_ble_eq_true rfl) (Nat.le_of_ble_eq_true rfl) rfl rfl rfl rfl (vW_minuteOf F f p a0 _ e3) rfl rfl ?_
    have h := Option.some.inj h
    subst h
    exact ei_reti hb dX4_startOf_29 rfl
  · rw [if_neg c1] at h
    refine ei_ifF hb dX4_startOf_5 (pc' := 8) (t := 24) (decide_eq_false c1) (by decide) rfl ?_
    refine ei_aln hb dX4_startOf_8 (pc' := 9) rfl rfl ?_
    refine ei_iln hb dX4_startOf_9 (pc' := 10) rfl rfl ?_
    obtain ⟨x4, e5, h⟩ := Option.bind_eq_some_iff.mp h
    refine ei_cv hb dX4_startOf_10 (pc' := 13) (M1 := (qz_mk f p)) (as := [.inl a0]) (rest := []) (st' := [.inl x4]) hcn qz_c_4_64 qz_k_21 (qz_q_35_21) (Nat.le_of_ble_eq_true rfl) (Nat.le_of_ble_eq_true rfl) rfl rfl rfl rfl (vW_minuteOf F f p a0 _ e5) rfl rfl ?_
    refine ei_aln hb dX4_startOf_13 (pc' := 14) rfl rfl ?_
    refine ei_iln hb dX4_startOf_14 (pc' := 15) rfl rfl ?_
    obtain ⟨x6, e7, h⟩ := Option.bind_eq_some_iff.mp h
    refine ei_cv hb dX4_startOf_15 (pc' := 18) (M1 := (qz_mk f p)) (as := [.inl a1]) (rest := [.inl x4]) (st' := [.inl x6, .inl x4]) hcn qz_c_4_64 qz_k_21 (qz_q_35_21) (Nat.le_of_ble_eq_true rfl) (Nat.le_of_ble_eq_true rfl) rfl rfl rfl rfl (vW_minuteOf F f p a1 _ e7) rfl rfl ?_
    refine ei_max hb dX4_startOf_18 (pc' := 21) hcn qz_m_4_138 (Nat.le_of_ble_eq_true rfl) (by decide +kernel) rfl ?_
    refine ei_go hb dX4_startOf_21 (pc' := 29) (by decide) ?_
    have h := Option.some.inj h
    subst h
    exact ei_reti hb dX4_startOf_29 rfl
def gW_takenSeats_L17 (F : Nat) (f : qz_F) (a0 : Int32) (a1 : Int32) (a2 : Int32) (a3 : Int32) (o4 : Option Nat) (K : (Int32 → Int32 → Option (Int32))) : Nat → Int32 → Int32 → Option (Int32)
  | 0, _, _ => none
  | n + 1, y6, y9 => if (30 : Int32) ≤ y9 then (K y6 y9) else (if qz_xi y9 30 = true then (if (gB_isRider f ((y9).toNatClampNeg)) = 0 then ((gW_takenSeats_L17 F f a0 a1 a2 a3 o4 K) n y6 (y9 + 1)) else (if (gB_isOfBus f ((y9).toNatClampNeg) a0 a1 a2) = 0 then ((gW_takenSeats_L17 F f a0 a1 a2 a3 o4 K) n y6 (y9 + 1)) else (if (f ((0, 0, (y9).toNatClampNeg) : qz_N) 3) < a3 then ((gW_takenSeats_L17 F f a0 a1 a2 a3 o4 K) n y6 (y9 + 1)) else (if o4 = some ((y9).toNatClampNeg) then ((gW_takenSeats_L17 F f a0 a1 a2 a3 o4 K) n y6 (y9 + 1)) else ((gW_takenSeats_L17 F f a0 a1 a2 a3 o4 K) n (y6 + 1) (y9 + 1)))))) else none)
def gW_takenSeats (F : Nat) (f : qz_F) (a0 : Int32) (a1 : Int32) (a2 : Int32) (a3 : Int32) (o4 : Option Nat) : Option (Int32) :=
  gW_takenSeats_L17 F f a0 a1 a2 a3 o4 (fun y67 y98 => some y67) F (0 : Int32) (0 : Int32)
set_option maxHeartbeats 4000000 in
theorem vW_takenSeats_L17 (F : Nat) (f : qz_F) (p : Nat → Nat) (a0 : Int32) (a1 : Int32) (a2 : Int32) (a3 : Int32) (o4 : Option Nat) (K : (Int32 → Int32 → Option (Int32))) (hK : ∀ (y6 : Int32) (y9 : Int32) (r : Int32), K y6 y9 = some r → ∀ (d0 : Option qz_V) (d10 : Option qz_V), qz_E 39 76 [d0, some (.inl a0), some (.inl a1), some (.inl a2), some (.inl a3), some (.inr (.inl (qz_bo o4))), some (.inl y6), some (.inr (.inl (some ((13, 0, 0) : qz_N)))), some (.inl (30 : Int32)), some (.inl y9), d10] [] (qz_mk f p) (some (.inl r)) (qz_mk f p)) : ∀ (n : Nat) (y6 : Int32) (y9 : Int32) (r : Int32), gW_takenSeats_L17 F f a0 a1 a2 a3 o4 K n y6 y9 = some r → ∀ (d0 : Option qz_V) (d10 : Option qz_V), qz_E 39 17 [d0, some (.inl a0), some (.inl a1), some (.inl a2), some (.inl a3), some (.inr (.inl (qz_bo o4))), some (.inl y6), some (.inr (.inl (some ((13, 0, 0) : qz_N)))), some (.inl (30 : Int32)), some (.inl y9), d10] [] (qz_mk f p) (some (.inl r)) (qz_mk f p) := by
  have hb : qz_b 39 = cX4_takenSeats := rfl
  have hcn : qz_cn 39 = 4 := rfl
  have hml : qz_ml 39 = 11 := rfl
  intro n
  induction n with
  | zero =>
    intro y6 y9 r h
    cases h
  | succ n ih =>
    intro y6 y9 r h d0 d10
    rw [gW_takenSeats_L17] at h
    refine ei_il hb dX4_takenSeats_17 (pc' := 19) rfl rfl ?_
    refine ei_il hb dX4_takenSeats_19 (pc' := 21) rfl rfl ?_
    by_cases c1 : (30 : Int32) ≤ y9
    · rw [if_pos c1] at h
      refine ei_icT hb dX4_takenSeats_21 (pc' := 76) (decide_eq_true c1) (by decide) ?_
      exact hK y6 y9 _ h _ _
    · rw [if_neg c1] at h
      refine ei_icF hb dX4_takenSeats_21 (pc' := 24) (t := 76) (decide_eq_false c1) (by decide) rfl ?_
      refine ei_al hb dX4_takenSeats_24 (pc' := 26) rfl rfl ?_
      refine ei_il hb dX4_takenSeats_26 (pc' := 28) rfl rfl ?_
      by_cases c2 : qz_xi y9 30 = true
      · rw [if_pos c2] at h
        refine ei_aa hb dX4_takenSeats_28 (pc' := 29) (x := some ((0, 0, (y9).toNatClampNeg) : qz_N)) (show 4 ≤ qz_at 13 by decide) c2 (qz_fr_13 (by decide) c2) rfl ?_
        refine ei_as hb dX4_takenSeats_29 (pc' := 31) (ls' := [d0, some (.inl a0), some (.inl a1), some (.inl a2), some (.inl a3), some (.inr (.inl (qz_bo o4))), some (.inl y6), some (.inr (.inl (some ((13, 0, 0) : qz_N)))), some (.inl (30 : Int32)), some (.inl y9), some (.inr (.inl (some ((0, 0, (y9).toNatClampNeg) : qz_N))))]) hml (Nat.le_of_ble_eq_true rfl) rfl rfl rfl ?_
        refine ei_al hb dX4_takenSeats_31 (pc' := 33) rfl rfl ?_
        refine ei_cv hb dX4_takenSeats_33 (pc' := 36) (M1 := (qz_mk f p)) (as := []) (rest := []) (st' := [.inl (gB_isRider f ((y9).toNatClampNeg))]) hcn qz_c_4_147 qz_k_3 (qz_q_39_3) (Nat.le_of_ble_eq_true rfl) (Nat.le_of_ble_eq_true rfl) rfl rfl rfl rfl (vB_isRider f p ((y9).toNatClampNeg)) rfl rfl ?_
        by_cases c3 : (gB_isRider f ((y9).toNatClampNeg)) = 0
        · rw [if_pos c3] at h
          refine ei_ifT hb dX4_takenSeats_36 (pc' := 70) (decide_eq_true c3) (by decide) ?_
          refine ei_inc hb dX4_takenSeats_70 (v := (y9 + 1)) (pc' := 73) (ls' := [d0, some (.inl a0), some (.inl a1), some (.inl a2), some (.inl a3), some (.inr (.inl (qz_bo o4))), some (.inl y6), some (.inr (.inl (some ((13, 0, 0) : qz_N)))), some (.inl (30 : Int32)), some (.inl (y9 + 1)), some (.inr (.inl (some ((0, 0, (y9).toNatClampNeg) : qz_N))))]) rfl hml (Nat.le_of_ble_eq_true rfl) rfl rfl rfl rfl ?_
          refine ei_go hb dX4_takenSeats_73 (pc' := 17) (by decide) ?_
          exact ih y6 (y9 + 1) _ h _ _
        · rw [if_neg c3] at h
          refine ei_ifF hb dX4_takenSeats_36 (pc' := 39) (t := 70) (decide_eq_false c3) (by decide) rfl ?_
          refine ei_al hb dX4_takenSeats_39 (pc' := 41) rfl rfl ?_
          refine ei_iln hb dX4_takenSeats_41 (pc' := 42) rfl rfl ?_
          refine ei_iln hb dX4_takenSeats_42 (pc' := 43) rfl rfl ?_
          refine ei_iln hb dX4_takenSeats_43 (pc' := 44) rfl rfl ?_
          refine ei_cv hb dX4_takenSeats_44 (pc' := 47) (M1 := (qz_mk f p)) (as := [.inl a0, .inl a1, .inl a2]) (rest := []) (st' := [.inl (gB_isOfBus f ((y9).toNatClampNeg) a0 a1 a2)]) hcn qz_c_4_150 qz_k_4 (qz_q_39_4) (Nat.le_of_ble_eq_true rfl) (Nat.le_of_ble_eq_true rfl) rfl rfl rfl rfl (vB_isOfBus f p ((y9).toNatClampNeg) a0 a1 a2) rfl rfl ?_
          by_cases c4 : (gB_isOfBus f ((y9).toNatClampNeg) a0 a1 a2) = 0
          · rw [if_pos c4] at h
            refine ei_ifT hb dX4_takenSeats_47 (pc' := 70) (decide_eq_true c4) (by decide) ?_
            refine ei_inc hb dX4_takenSeats_70 (v := (y9 + 1)) (pc' := 73) (ls' := [d0, some (.inl a0), some (.inl a1), some (.inl a2), some (.inl a3), some (.inr (.inl (qz_bo o4))), some (.inl y6), some (.inr (.inl (some ((13, 0, 0) : qz_N)))), some (.inl (30 : Int32)), some (.inl (y9 + 1)), some (.inr (.inl (some ((0, 0, (y9).toNatClampNeg) : qz_N))))]) rfl hml (Nat.le_of_ble_eq_true rfl) rfl rfl rfl rfl ?_
            refine ei_go hb dX4_takenSeats_73 (pc' := 17) (by decide) ?_
            exact ih y6 (y9 + 1) _ h _ _
          · rw [if_neg c4] at h
            refine ei_ifF hb dX4_takenSeats_47 (pc' := 50) (t := 70) (decide_eq_false c4) (by decide) rfl ?_
            refine ei_al hb dX4_takenSeats_50 (pc' := 52) rfl rfl ?_
            refine ei_gi hb dX4_takenSeats_52 (pc' := 55) (x := (f ((0, 0, (y9).toNatClampNeg) : qz_N) 3)) hcn qz_f_4_92 rfl rfl rfl rfl ?_
            refine ei_il hb dX4_takenSeats_55 (pc' := 57) rfl rfl ?_
            by_cases c5 : (f ((0, 0, (y9).toNatClampNeg) : qz_N) 3) < a3
            · rw [if_pos c5] at h
              refine ei_icT hb dX4_takenSeats_57 (pc' := 70) (decide_eq_true c5) (by decide) ?_
              refine ei_inc hb dX4_takenSeats_70 (v := (y9 + 1)) (pc' := 73) (ls' := [d0, some (.inl a0), some (.inl a1), some (.inl a2), some (.inl a3), some (.inr (.inl (qz_bo o4))), some (.inl y6), some (.inr (.inl (some ((13, 0, 0) : qz_N)))), some (.inl (30 : Int32)), some (.inl (y9 + 1)), some (.inr (.inl (some ((0, 0, (y9).toNatClampNeg) : qz_N))))]) rfl hml (Nat.le_of_ble_eq_true rfl) rfl rfl rfl rfl ?_
              refine ei_go hb dX4_takenSeats_73 (pc' := 17) (by decide) ?_
              exact ih y6 (y9 + 1) _ h _ _
            · rw [if_neg c5] at h
              refine ei_icF hb dX4_takenSeats_57 (pc' := 60) (t := 70) (decide_eq_false c5) (by decide) rfl ?_
              refine ei_al hb dX4_takenSeats_60 (pc' := 62) rfl rfl ?_
              refine ei_al hb dX4_takenSeats_62 (pc' := 64) rfl rfl ?_
              by_cases c6 : o4 = some ((y9).toNatClampNeg)
              · rw [if_pos c6] at h
                refine ei_acT hb dX4_takenSeats_64 (pc' := 70) rfl qz_dy_bo (qz_bo_eq.mpr c6) (by decide) ?_
                refine ei_inc hb dX4_takenSeats_70 (v := (y9 + 1)) (pc' := 73) (ls' := [d0, some (.inl a0), some (.inl a1), some (.inl a2), some (.inl a3), some (.inr (.inl (qz_bo o4))), some (.inl y6), some (.inr (.inl (some ((13, 0, 0) : qz_N)))), some (.inl (30 : Int32)), some (.inl (y9 + 1)), some (.inr (.inl (some ((0, 0, (y9).toNatClampNeg) : qz_N))))]) rfl hml (Nat.le_of_ble_eq_true rfl) rfl rfl rfl rfl ?_
                refine ei_go hb dX4_takenSeats_73 (pc' := 17) (by decide) ?_
                exact ih y6 (y9 + 1) _ h _ _
              · rw [if_neg c6] at h
                refine ei_acF hb dX4_takenSeats_64 (pc' := 67) (t := 70) rfl qz_dy_bo (fun q => c6 (qz_bo_eq.mp q)) (by decide) rfl ?_
                refine ei_inc hb dX4_takenSeats_67 (v := (y6 + 1)) (pc' := 70) (ls' := [d0, some (.inl a0), some (.inl a1), some (.inl a2), some (.inl a3), some (.inr (.inl (qz_bo o4))), some (.inl (y6 + 1)), some (.inr (.inl (some ((13, 0, 0) : qz_N)))), some (.inl (30 : Int32)), some (.inl y9), some (.inr (.inl (some ((0, 0, (y9).toNatClampNeg) : qz_N))))]) rfl hml (Nat.le_of_ble_eq_true rfl) rfl rfl rfl rfl ?_
                refine ei_inc hb dX4_takenSeats_70 (v := (y9 + 1)) (pc' := 73) (ls' := [d0, some (.inl a0), some (.inl a1), some (.inl a2), some (.inl a3), some (.inr (.inl (qz_bo o4))), some (.inl (y6 + 1)), some (.inr (.inl (some ((13, 0, 0) : qz_N)))), some (.inl (30 : Int32)), some (.inl (y9 + 1)), some (.inr (.inl (some ((0, 0, (y9).toNatClampNeg) : qz_N))))]) rfl hml (Nat.le_of_ble_eq_true rfl) rfl rfl rfl rfl ?_
                refine ei_go hb dX4_takenSeats_73 (pc' := 17) (by decide) ?_
                exact ih (y6 + 1) (y9 + 1) _ h _ _
      · rw [if_neg c2] at h
        cases h
set_option maxHeartbeats 4000000 in
theorem vW_takenSeats (F : Nat) (f : qz_F) (p : Nat → Nat) (a0 : Int32) (a1 : Int32) (a2 : Int32) (a3 : Int32) (o4 : Option Nat) (r : Int32) (h : (gW_takenSeats F f a0 a1 a2 a3 o4) = some r) : qz_E 39 0 (qz_in0 39 [.inr (.inl (some ((4, 0, 0) : qz_N))), .inl a0, .inl a1, .inl a2, .inl a3, .inr (.inl (qz_bo o4))]) [] (qz_mk f p) (some (.inl r)) (qz_mk f p) := by
  have hb : qz_b 39 = cX4_takenSeats := rfl
  have hcn : qz_cn 39 = 4 := rfl
  have hml : qz_ml 39 = 11 := rfl
  show qz_E 39 0 [some (.inr (.inl (some ((4, 0, 0) : qz_N)))), some (.inl a0), some (.inl a1), some (.inl a2), some (.inl a3), some (.inr (.inl (qz_bo o4))), none, none, none, none, none] [] _ _ _
  rw [gW_takenSeats] at h
  refine ei_c hb dX4_takenSeats_0 (v := (0 : Int32)) (pc' := 1) (by decide) rfl ?_
  refine ei_is hb dX4_takenSeats_1 (pc' := 3) (ls' := [some (.inr (.inl (some ((4, 0, 0) : qz_N)))), some (.inl a0), some (.inl a1), some (.inl a2), some (.inl a3), some (.inr (.inl (qz_bo o4))), some (.inl (0 : Int32)), none, none, none, none]) hml (Nat.le_of_ble_eq_true rfl) rfl rfl rfl ?_
  refine ei_aln hb dX4_takenSeats_3 (pc' := 4) rfl rfl ?_
  refine ei_gr hb dX4_takenSeats_4 (pc' := 7) (x := some ((13, 0, 0) : qz_N)) hcn qz_f_4_30 rfl rfl rfl rfl ?_
  refine ei_as hb dX4_takenSeats_7 (pc' := 9) (ls' := [some (.inr (.inl (some ((4, 0, 0) : qz_N)))), some (.inl a0), some (.inl a1), some (.inl a2), some (.inl a3), some (.inr (.inl (qz_bo o4))), some (.inl (0 : Int32)), some (.inr (.inl (some ((13, 0, 0) : qz_N)))), none, none, none]) hml (Nat.le_of_ble_eq_true rfl) rfl rfl rfl ?_
  refine ei_al hb dX4_takenSeats_9 (pc' := 11) rfl rfl ?_
  refine ei_len hb dX4_takenSeats_11 (pc' := 12) (x := (30 : Int32)) (show ¬ qz_at 13 = 0 by decide) rfl rfl ?_
  refine ei_is hb dX4_takenSeats_12 (pc' := 14) (ls' := [some (.inr (.inl (some ((4, 0, 0) : qz_N)))), some (.inl a0), some (.inl a1), some (.inl a2), some (.inl a3), some (.inr (.inl (qz_bo o4))), some (.inl (0 : Int32)), some (.inr (.inl (some ((13, 0, 0) : qz_N)))), some (.inl (30 : Int32)), none, none]) hml (Nat.le_of_ble_eq_true rfl) rfl rfl rfl ?_
  refine ei_c hb dX4_takenSeats_14 (v := (0 : Int32)) (pc' := 15) (by decide) rfl ?_
  refine ei_is hb dX4_takenSeats_15 (pc' := 17) (ls' := [some (.inr (.inl (some ((4, 0, 0) : qz_N)))), some (.inl a0), some (.inl a1), some (.inl a2), some (.inl a3), some (.inr (.inl (qz_bo o4))), some (.inl (0 : Int32)), some (.inr (.inl (some ((13, 0, 0) : qz_N)))), some (.inl (30 : Int32)), some (.inl (0 : Int32)), none]) hml (Nat.le_of_ble_eq_true rfl) rfl rfl rfl ?_
  refine vW_takenSeats_L17 F f p a0 a1 a2 a3 o4 _ ?_ F (0 : Int32) (0 : Int32) _ h _ _
  intro y67 y98 r h d9 d10
  refine ei_il hb dX4_takenSeats_76 (pc' := 78) rfl rfl ?_
  have h := Option.some.inj h
  subst h
  exact ei_reti hb dX4_takenSeats_78 rfl
def gW_reason (F : Nat) (f : qz_F) (a0 : Int32) (a1 : Int32) (a2 : Int32) (o3 : Option Nat) : Option (Int32) :=
  if (gW_hasEnd f a1) = 0 then (some (1 : Int32)) else (Option.bind (gW_partnerOf F f a0 a1) fun x2 => Option.bind (gW_takenSeats F f a0 a1 x2 (1 : Int32) o3) fun x4 => Option.bind (gW_setting F f (1 : Int32)) fun x6 => if x4 < x6 then (Option.bind (gW_startOf F f a1 x2) fun x9 => Option.bind (gW_isInTime F f a1 a2 x9) fun x11 => if x11 = 0 then (some (3 : Int32)) else (some (0 : Int32))) else (some (2 : Int32)))
set_option maxHeartbeats 4000000 in
theorem vW_reason (F : Nat) (f : qz_F) (p : Nat → Nat) (a0 : Int32) (a1 : Int32) (a2 : Int32) (o3 : Option Nat) (r : Int32) (h : (gW_reason F f a0 a1 a2 o3) = some r) : qz_E 27 0 (qz_in0 27 [.inr (.inl (some ((4, 0, 0) : qz_N))), .inl a0, .inl a1, .inl a2, .inr (.inl (qz_bo o3))]) [] (qz_mk f p) (some (.inl r)) (qz_mk f p) := by
  have hb : qz_b 27 = cX4_reason := rfl
  have hcn : qz_cn 27 = 4 := rfl
  have hml : qz_ml 27 = 6 := rfl
  show qz_E 27 0 [some (.inr (.inl (some ((4, 0, 0) : qz_N)))), some (.inl a0), some (.inl a1), some (.inl a2), some (.inr (.inl (qz_bo o3))), none] [] _ _ _
  rw [gW_reason] at h
  refine ei_aln hb dX4_reason_0 (pc' := 1) rfl rfl ?_
  refine ei_iln hb dX4_reason_1 (pc' := 2) rfl rfl ?_
  refine ei_cv hb dX4_reason_2 (pc' := 5) (M1 := (qz_mk f p)) (as := [.inl a1]) (rest := []) (st' := [.inl (gW_hasEnd f a1)]) hcn qz_c_4_102 qz_k_19 (qz_q_27_19) (Nat.le_of_ble_eq_true rfl) (Nat.le_of_ble_eq_true rfl) rfl rfl rfl rfl (vW_hasEnd f p a1) rfl rfl ?_
  by_cases c1 : (gW_hasEnd f a1) = 0
  · rw [if_pos c1] at h
    refine ei_ifF hb dX4_reason_5 (pc' := 8) (t := 10) (decide_eq_false (fun q => q c1)) (by decide) rfl ?_
    refine ei_c hb dX4_reason_8 (v := (1 : Int32)) (pc' := 9) (by decide) rfl ?_
    have h := Option.some.inj h
    subst h
    exact ei_reti hb dX4_reason_9 rfl
  · rw [if_neg c1] at h
    refine ei_ifT hb dX4_reason_5 (pc' := 10) (decide_eq_true c1) (by decide) ?_
    refine ei_aln hb dX4_reason_10 (pc' := 11) rfl rfl ?_
    refine ei_iln hb dX4_reason_11 (pc' := 12) rfl rfl ?_
    refine ei_iln hb dX4_reason_12 (pc' := 13) rfl rfl ?_
    obtain ⟨x2, e3, h⟩ := Option.bind_eq_some_iff.mp h
    refine ei_cv hb dX4_reason_13 (pc' := 16) (M1 := (qz_mk f p)) (as := [.inl a0, .inl a1]) (rest := []) (st' := [.inl x2]) hcn qz_c_4_106 qz_k_32 (qz_q_27_32) (Nat.le_of_ble_eq_true rfl) (Nat.le_of_ble_eq_true rfl) rfl rfl rfl rfl (vW_partnerOf F f p a0 a1 _ e3) rfl rfl ?_
    refine ei_is hb dX4_reason_16 (pc' := 18) (ls' := [some (.inr (.inl (some ((4, 0, 0) : qz_N)))), some (.inl a0), some (.inl a1), some (.inl a2), some (.inr (.inl (qz_bo o3))), some (.inl x2)]) hml (Nat.le_of_ble_eq_true rfl) rfl rfl rfl ?_
    refine ei_aln hb dX4_reason_18 (pc' := 19) rfl rfl ?_
    refine ei_iln hb dX4_reason_19 (pc' := 20) rfl rfl ?_
    refine ei_iln hb dX4_reason_20 (pc' := 21) rfl rfl ?_
    refine ei_il hb dX4_reason_21 (pc' := 23) rfl rfl ?_
    refine ei_c hb dX4_reason_23 (v := (1 : Int32)) (pc' := 24) (by decide) rfl ?_
    refine ei_al hb dX4_reason_24 (pc' := 26) rfl rfl ?_
    obtain ⟨x4, e5, h⟩ := Option.bind_eq_some_iff.mp h
    refine ei_cv hb dX4_reason_26 (pc' := 29) (M1 := (qz_mk f p)) (as := [.inl a0, .inl a1, .inl x2, .inl (1 : Int32), .inr (.inl (qz_bo o3))]) (rest := []) (st' := [.inl x4]) hcn qz_c_4_110 qz_k_39 (qz_q_27_39) (Nat.le_of_ble_eq_true rfl) (Nat.le_of_ble_eq_true rfl) rfl rfl rfl rfl (vW_takenSeats F f p a0 a1 x2 (1 : Int32) o3 _ e5) rfl rfl ?_
    refine ei_aln hb dX4_reason_29 (pc' := 30) rfl rfl ?_
    refine ei_c hb dX4_reason_30 (v := (1 : Int32)) (pc' := 31) (by decide) rfl ?_
    obtain ⟨x6, e7, h⟩ := Option.bind_eq_some_iff.mp h
    refine ei_cv hb dX4_reason_31 (pc' := 34) (M1 := (qz_mk f p)) (as := [.inl (1 : Int32)]) (rest := [.inl x4]) (st' := [.inl x6, .inl x4]) hcn qz_c_4_114 qz_k_17 (qz_q_27_17) (Nat.le_of_ble_eq_true rfl) (Nat.le_of_ble_eq_true rfl) rfl rfl rfl rfl (vW_setting F f p (1 : Int32) _ e7) rfl rfl ?_
    by_cases c8 : x4 < x6
    · rw [if_pos c8] at h
      refine ei_icT hb dX4_reason_34 (pc' := 39) (decide_eq_true c8) (by decide) ?_
      refine ei_aln hb dX4_reason_39 (pc' := 40) rfl rfl ?_
      refine ei_iln hb dX4_reason_40 (pc' := 41) rfl rfl ?_
      refine ei_iln hb dX4_reason_41 (pc' := 42) rfl rfl ?_
      refine ei_aln hb dX4_reason_42 (pc' := 43) rfl rfl ?_
      refine ei_iln hb dX4_reason_43 (pc' := 44) rfl rfl ?_
      refine ei_il hb dX4_reason_44 (pc' := 46) rfl rfl ?_
      obtain ⟨x9, e10, h⟩ := Option.bind_eq_some_iff.mp h
      refine ei_cv hb dX4_reason_46 (pc' := 49) (M1 := (qz_mk f p)) (as := [.inl a1, .inl x2]) (rest := [.inl a2, .inl a1, .inr (.inl (some ((4, 0, 0) : qz_N)))]) (st' := [.inl x9, .inl a2, .inl a1, .inr (.inl (some ((4, 0, 0) : qz_N)))]) hcn qz_c_4_117 qz_k_35 (qz_q_27_35) (Nat.le_of_ble_eq_true rfl) (Nat.le_of_ble_eq_true rfl) rfl rfl rfl rfl (vW_startOf F f p a1 x2 _ e10) rfl rfl ?_
      obtain ⟨x11, e12, h⟩ := Option.bind_eq_some_iff.mp h
      refine ei_cv hb dX4_reason_49 (pc' := 52) (M1 := (qz_mk f p)) (as := [.inl a1, .inl a2, .inl x9]) (rest := []) (st' := [.inl x11]) hcn qz_c_4_120 qz_k_38 (qz_q_27_38) (Nat.le_of_ble_eq_true rfl) (Nat.le_of_ble_eq_true rfl) rfl rfl rfl rfl (vW_isInTime F f p a1 a2 x9 _ e12) rfl rfl ?_
      by_cases c13 : x11 = 0
      · rw [if_pos c13] at h
        refine ei_ifT hb dX4_reason_52 (pc' := 59) (decide_eq_true c13) (by decide) ?_
        refine ei_c hb dX4_reason_59 (v := (3 : Int32)) (pc' := 60) (by decide) rfl ?_
        have h := Option.some.inj h
        subst h
        exact ei_reti hb dX4_reason_60 rfl
      · rw [if_neg c13] at h
        refine ei_ifF hb dX4_reason_52 (pc' := 55) (t := 59) (decide_eq_false c13) (by decide) rfl ?_
        refine ei_c hb dX4_reason_55 (v := (0 : Int32)) (pc' := 56) (by decide) rfl ?_
        refine ei_go hb dX4_reason_56 (pc' := 60) (by decide) ?_
        have h := Option.some.inj h
        subst h
        exact ei_reti hb dX4_reason_60 rfl
    · rw [if_neg c8] at h
      refine ei_icF hb dX4_reason_34 (pc' := 37) (t := 39) (decide_eq_false c8) (by decide) rfl ?_
      refine ei_c hb dX4_reason_37 (v := (2 : Int32)) (pc' := 38) (by decide) rfl ?_
      have h := Option.some.inj h
      subst h
      exact ei_reti hb dX4_reason_38 rfl
def gW_enter_L32 (F : Nat) (a0 : Int32) (a1 : Int32) (a2 : Int32) (K : (Int32 → qz_S → Option (Int32 × qz_S))) : Nat → Int32 → qz_S → Option (Int32 × qz_S)
  | 0, _, _ => none
  | n + 1, y7, T => if (30 : Int32) ≤ y7 then (K y7 T) else (if qz_xi y7 30 = true then (if (gB_isLive T.1 ((y7).toNatClampNeg)) = 0 then (qz_let (qz_wr T ((0, 0, (y7).toNatClampNeg) : qz_N) 0 (T.1 ((4, 0, 0) : qz_N) 5)) fun S7 => qz_let (qz_wr S7 ((0, 0, (y7).toNatClampNeg) : qz_N) 1 a0) fun S8 => qz_let (qz_wr S8 ((0, 0, (y7).toNatClampNeg) : qz_N) 2 a1) fun S9 => qz_let (qz_wr S9 ((0, 0, (y7).toNatClampNeg) : qz_N) 3 a2) fun S10 => qz_let (qz_wr S10 ((0, 0, (y7).toNatClampNeg) : qz_N) 4 (1 : Int32)) fun S11 => qz_let (qz_wr S11 ((4, 0, 0) : qz_N) 5 ((S11.1 ((4, 0, 0) : qz_N) 5) + (1 : Int32))) fun S12 => some ((S12.1 ((0, 0, (y7).toNatClampNeg) : qz_N) 0), S12)) else ((gW_enter_L32 F a0 a1 a2 K) n (y7 + 1) T)) else none)
def gW_enter_L32b (F : Nat) (a0 : Int32) (a1 : Int32) (a2 : Int32) (K : (Int32 → qz_S → Option (Int32 × qz_S))) : Nat → Int32 → qz_S → Option (Int32 × qz_S)
  | 0, _, _ => none
  | n + 1, y7, T => if (30 : Int32) ≤ y7 then (K y7 T) else (if qz_xi y7 30 = true then (if (gB_isLive T.1 ((y7).toNatClampNeg)) = 0 then (qz_let (qz_wr T ((0, 0, (y7).toNatClampNeg) : qz_N) 0 (T.1 ((4, 0, 0) : qz_N) 5)) fun S19 => qz_let (qz_wr S19 ((0, 0, (y7).toNatClampNeg) : qz_N) 1 a0) fun S20 => qz_let (qz_wr S20 ((0, 0, (y7).toNatClampNeg) : qz_N) 2 a1) fun S21 => qz_let (qz_wr S21 ((0, 0, (y7).toNatClampNeg) : qz_N) 3 a2) fun S22 => qz_let (qz_wr S22 ((0, 0, (y7).toNatClampNeg) : qz_N) 4 (0 : Int32)) fun S23 => qz_let (qz_wr S23 ((4, 0, 0) : qz_N) 5 ((S23.1 ((4, 0, 0) : qz_N) 5) + (1 : Int32))) fun S24 => some ((S24.1 ((0, 0, (y7).toNatClampNeg) : qz_N) 0), S24)) else ((gW_enter_L32b F a0 a1 a2 K) n (y7 + 1) T)) else none)
def gW_enter (F : Nat) (S : qz_S) (a0 : Int32) (a1 : Int32) (a2 : Int32) : Option (Int32 × qz_S) :=
  Option.bind (gW_reason F S.1 a1 a0 a2 none) fun x1 => if x1 = 0 then (gW_enter_L32 F a0 a1 a2 (fun y713 T14 => some ((-3 : Int32), T14)) F (0 : Int32) S) else (gW_enter_L32b F a0 a1 a2 (fun y725 T26 => some ((-3 : Int32), T26)) F (0 : Int32) S)
set_option maxHeartbeats 4000000 in
theorem vW_enter_L32 (F : Nat) (a0 : Int32) (a1 : Int32) (a2 : Int32) (K : (Int32 → qz_S → Option (Int32 × qz_S))) (hK : ∀ (y7 : Int32) (T : qz_S) (r : Int32 × qz_S), K y7 T = some r → ∀ (d8 : Option qz_V), qz_E 24 110 [some (.inr (.inl (some ((4, 0, 0) : qz_N)))), some (.inl a0), some (.inl a1), some (.inl a2), some (.inl (1 : Int32)), some (.inr (.inl (some ((13, 0, 0) : qz_N)))), some (.inl (30 : Int32)), some (.inl y7), d8] [] (qz_mk T.1 T.2) (some (.inl r.1)) (qz_mk r.2.1 r.2.2)) : ∀ (n : Nat) (y7 : Int32) (T : qz_S) (r : Int32 × qz_S), gW_enter_L32 F a0 a1 a2 K n y7 T = some r → ∀ (d8 : Option qz_V), qz_E 24 32 [some (.inr (.inl (some ((4, 0, 0) : qz_N)))), some (.inl a0), some (.inl a1), some (.inl a2), some (.inl (1 : Int32)), some (.inr (.inl (some ((13, 0, 0) : qz_N)))), some (.inl (30 : Int32)), some (.inl y7), d8] [] (qz_mk T.1 T.2) (some (.inl r.1)) (qz_mk r.2.1 r.2.2) := by
  have hb : qz_b 24 = cX4_enter := rfl
  have hcn : qz_cn 24 = 4 := rfl
  have hml : qz_ml 24 = 9 := rfl
  intro n
  induction n with
  | zero =>
    intro y7 T r h
    cases h
  | succ n ih =>
    intro y7 T r h d8
    rw [gW_enter_L32] at h
    refine ei_il hb dX4_enter_32 (pc' := 34) rfl rfl ?_
    refine ei_il hb dX4_enter_34 (pc' := 36) rfl rfl ?_
    by_cases c4 : (30 : Int32) ≤ y7
    · rw [if_pos c4] at h
      refine ei_icT hb dX4_enter_36 (pc' := 110) (decide_eq_true c4) (by decide) ?_
      exact hK y7 T _ h _
    · rw [if_neg c4] at h
      refine ei_icF hb dX4_enter_36 (pc' := 39) (t := 110) (decide_eq_false c4) (by decide) rfl ?_
      refine ei_al hb dX4_enter_39 (pc' := 41) rfl rfl ?_
      refine ei_il hb dX4_enter_41 (pc' := 43) rfl rfl ?_
      by_cases c5 : qz_xi y7 30 = true
      · rw [if_pos c5] at h
        refine ei_aa hb dX4_enter_43 (pc' := 44) (x := some ((0, 0, (y7).toNatClampNeg) : qz_N)) (show 4 ≤ qz_at 13 by decide) c5 (qz_fr_13 (by decide) c5) rfl ?_
        refine ei_as hb dX4_enter_44 (pc' := 46) (ls' := [some (.inr (.inl (some ((4, 0, 0) : qz_N)))), some (.inl a0), some (.inl a1), some (.inl a2), some (.inl (1 : Int32)), some (.inr (.inl (some ((13, 0, 0) : qz_N)))), some (.inl (30 : Int32)), some (.inl y7), some (.inr (.inl (some ((0, 0, (y7).toNatClampNeg) : qz_N))))]) hml (Nat.le_of_ble_eq_true rfl) rfl rfl rfl ?_
        refine ei_al hb dX4_enter_46 (pc' := 48) rfl rfl ?_
        refine ei_cv hb dX4_enter_48 (pc' := 51) (M1 := (qz_mk T.1 T.2)) (as := []) (rest := []) (st' := [.inl (gB_isLive T.1 ((y7).toNatClampNeg))]) hcn qz_c_4_75 qz_k_1 (qz_q_24_1) (Nat.le_of_ble_eq_true rfl) (Nat.le_of_ble_eq_true rfl) rfl rfl rfl rfl (vB_isLive T.1 T.2 ((y7).toNatClampNeg)) rfl rfl ?_
        by_cases c6 : (gB_isLive T.1 ((y7).toNatClampNeg)) = 0
        · rw [if_pos c6] at h
          refine ei_ifF hb dX4_enter_51 (pc' := 54) (t := 104) (decide_eq_false (fun q => q c6)) (by decide) rfl ?_
          refine ei_al hb dX4_enter_54 (pc' := 56) rfl rfl ?_
          refine ei_aln hb dX4_enter_56 (pc' := 57) rfl rfl ?_
          refine ei_gi hb dX4_enter_57 (pc' := 60) (x := (T.1 ((4, 0, 0) : qz_N) 5)) hcn qz_f_4_34 rfl rfl rfl rfl ?_
          obtain ⟨S7, eS7⟩ : ∃ q, q = qz_wr T ((0, 0, (y7).toNatClampNeg) : qz_N) 0 (T.1 ((4, 0, 0) : qz_N) 5) := ⟨_, rfl⟩
          rw [qz_let, ← eS7] at h
          refine ei_pi hb dX4_enter_60 (pc' := 63) (M1 := (qz_mk S7.1 S7.2)) hcn qz_f_4_79 rfl rfl (fun q => by cases q) rfl (by rw [eS7]; rfl) rfl ?_
          refine ei_al hb dX4_enter_63 (pc' := 65) rfl rfl ?_
          refine ei_iln hb dX4_enter_65 (pc' := 66) rfl rfl ?_
          obtain ⟨S8, eS8⟩ : ∃ q, q = qz_wr S7 ((0, 0, (y7).toNatClampNeg) : qz_N) 1 a0 := ⟨_, rfl⟩
          rw [qz_let, ← eS8] at h
          refine ei_pi hb dX4_enter_66 (pc' := 69) (M1 := (qz_mk S8.1 S8.2)) hcn qz_f_4_86 rfl rfl (fun q => by cases q) rfl (by rw [eS8]; rfl) rfl ?_
          refine ei_al hb dX4_enter_69 (pc' := 71) rfl rfl ?_
          refine ei_iln hb dX4_enter_71 (pc' := 72) rfl rfl ?_
          obtain ⟨S9, eS9⟩ : ∃ q, q = qz_wr S8 ((0, 0, (y7).toNatClampNeg) : qz_N) 2 a1 := ⟨_, rfl⟩
          rw [qz_let, ← eS9] at h
          refine ei_pi hb dX4_enter_72 (pc' := 75) (M1 := (qz_mk S9.1 S9.2)) hcn qz_f_4_89 rfl rfl (fun q => by cases q) rfl (by rw [eS9]; rfl) rfl ?_
          refine ei_al hb dX4_enter_75 (pc' := 77) rfl rfl ?_
          refine ei_iln hb dX4_enter_77 (pc' := 78) rfl rfl ?_
          obtain ⟨S10, eS10⟩ : ∃ q, q = qz_wr S9 ((0, 0, (y7).toNatClampNeg) : qz_N) 3 a2 := ⟨_, rfl⟩
          rw [qz_let, ← eS10] at h
          refine ei_pi hb dX4_enter_78 (pc' := 81) (M1 := (qz_mk S10.1 S10.2)) hcn qz_f_4_92 rfl rfl (fun q => by cases q) rfl (by rw [eS10]; rfl) rfl ?_
          refine ei_al hb dX4_enter_81 (pc' := 83) rfl rfl ?_
          refine ei_il hb dX4_enter_83 (pc' := 85) rfl rfl ?_
          obtain ⟨S11, eS11⟩ : ∃ q, q = qz_wr S10 ((0, 0, (y7).toNatClampNeg) : qz_N) 4 (1 : Int32) := ⟨_, rfl⟩
          rw [qz_let, ← eS11] at h
          refine ei_pi hb dX4_enter_85 (pc' := 88) (M1 := (qz_mk S11.1 S11.2)) hcn qz_f_4_95 rfl rfl (fun _ => by decide) rfl (by rw [eS11]; rfl) rfl ?_
          refine ei_aln hb dX4_enter_88 (pc' := 89) rfl rfl ?_
          refine ei_dup hb dX4_enter_89 (pc' := 90) rfl rfl ?_
          refine ei_gi hb dX4_enter_90 (pc' := 93) (x := (S11.1 ((4, 0, 0) : qz_N) 5)) hcn qz_f_4_34 rfl rfl rfl rfl ?_
          refine ei_c hb dX4_enter_93 (v := (1 : Int32)) (pc' := 94) (by decide) rfl ?_
          refine ei_add hb dX4_enter_94 (pc' := 95) rfl ?_
          obtain ⟨S12, eS12⟩ : ∃ q, q = qz_wr S11 ((4, 0, 0) : qz_N) 5 ((S11.1 ((4, 0, 0) : qz_N) 5) + (1 : Int32)) := ⟨_, rfl⟩
          rw [qz_let, ← eS12] at h
          refine ei_pi hb dX4_enter_95 (pc' := 98) (M1 := (qz_mk S12.1 S12.2)) hcn qz_f_4_34 rfl rfl (fun q => by cases q) rfl (by rw [eS12]; rfl) rfl ?_
          refine ei_al hb dX4_enter_98 (pc' := 100) rfl rfl ?_
          refine ei_gi hb dX4_enter_100 (pc' := 103) (x := (S12.1 ((0, 0, (y7).toNatClampNeg) : qz_N) 0)) hcn qz_f_4_79 rfl rfl rfl rfl ?_
          have h := Option.some.inj h
          subst h
          exact ei_reti hb dX4_enter_103 rfl
        · rw [if_neg c6] at h
          refine ei_ifT hb dX4_enter_51 (pc' := 104) (decide_eq_true c6) (by decide) ?_
          refine ei_inc hb dX4_enter_104 (v := (y7 + 1)) (pc' := 107) (ls' := [some (.inr (.inl (some ((4, 0, 0) : qz_N)))), some (.inl a0), some (.inl a1), some (.inl a2), some (.inl (1 : Int32)), some (.inr (.inl (some ((13, 0, 0) : qz_N)))), some (.inl (30 : Int32)), some (.inl (y7 + 1)), some (.inr (.inl (some ((0, 0, (y7).toNatClampNeg) : qz_N))))]) rfl hml (Nat.le_of_ble_eq_true rfl) rfl rfl rfl rfl ?_
          refine ei_go hb dX4_enter_107 (pc' := 32) (by decide) ?_
          exact ih (y7 + 1) T _ h _
      · rw [if_neg c5] at h
        cases h
set_option maxHeartbeats 4000000 in
theorem vW_enter_L32b (F : Nat) (a0 : Int32) (a1 : Int32) (a2 : Int32) (K : (Int32 → qz_S → Option (Int32 × qz_S))) (hK : ∀ (y7 : Int32) (T : qz_S) (r : Int32 × qz_S), K y7 T = some r → ∀ (d8 : Option qz_V), qz_E 24 110 [some (.inr (.inl (some ((4, 0, 0) : qz_N)))), some (.inl a0), some (.inl a1), some (.inl a2), some (.inl (0 : Int32)), some (.inr (.inl (some ((13, 0, 0) : qz_N)))), some (.inl (30 : Int32)), some (.inl y7), d8] [] (qz_mk T.1 T.2) (some (.inl r.1)) (qz_mk r.2.1 r.2.2)) : ∀ (n : Nat) (y7 : Int32) (T : qz_S) (r : Int32 × qz_S), gW_enter_L32b F a0 a1 a2 K n y7 T = some r → ∀ (d8 : Option qz_V), qz_E 24 32 [some (.inr (.inl (some ((4, 0, 0) : qz_N)))), some (.inl a0), some (.inl a1), some (.inl a2), some (.inl (0 : Int32)), some (.inr (.inl (some ((13, 0, 0) : qz_N)))), some (.inl (30 : Int32)), some (.inl y7), d8] [] (qz_mk T.1 T.2) (some (.inl r.1)) (qz_mk r.2.1 r.2.2) := by
  have hb : qz_b 24 = cX4_enter := rfl
  have hcn : qz_cn 24 = 4 := rfl
  have hml : qz_ml 24 = 9 := rfl
  intro n
  induction n with
  | zero =>
    intro y7 T r h
    cases h
  | succ n ih =>
    intro y7 T r h d8
    rw [gW_enter_L32b] at h
    refine ei_il hb dX4_enter_32 (pc' := 34) rfl rfl ?_
    refine ei_il hb dX4_enter_34 (pc' := 36) rfl rfl ?_
    by_cases c16 : (30 : Int32) ≤ y7
    · rw [if_pos c16] at h
      refine ei_icT hb dX4_enter_36 (pc' := 110) (decide_eq_true c16) (by decide) ?_
      exact hK y7 T _ h _
    · rw [if_neg c16] at h
      refine ei_icF hb dX4_enter_36 (pc' := 39) (t := 110) (decide_eq_false c16) (by decide) rfl ?_
      refine ei_al hb dX4_enter_39 (pc' := 41) rfl rfl ?_
      refine ei_il hb dX4_enter_41 (pc' := 43) rfl rfl ?_
      by_cases c17 : qz_xi y7 30 = true
      · rw [if_pos c17] at h
        refine ei_aa hb dX4_enter_43 (pc' := 44) (x := some ((0, 0, (y7).toNatClampNeg) : qz_N)) (show 4 ≤ qz_at 13 by decide) c17 (qz_fr_13 (by decide) c17) rfl ?_
        refine ei_as hb dX4_enter_44 (pc' := 46) (ls' := [some (.inr (.inl (some ((4, 0, 0) : qz_N)))), some (.inl a0), some (.inl a1), some (.inl a2), some (.inl (0 : Int32)), some (.inr (.inl (some ((13, 0, 0) : qz_N)))), some (.inl (30 : Int32)), some (.inl y7), some (.inr (.inl (some ((0, 0, (y7).toNatClampNeg) : qz_N))))]) hml (Nat.le_of_ble_eq_true rfl) rfl rfl rfl ?_
        refine ei_al hb dX4_enter_46 (pc' := 48) rfl rfl ?_
        refine ei_cv hb dX4_enter_48 (pc' := 51) (M1 := (qz_mk T.1 T.2)) (as := []) (rest := []) (st' := [.inl (gB_isLive T.1 ((y7).toNatClampNeg))]) hcn qz_c_4_75 qz_k_1 (qz_q_24_1) (Nat.le_of_ble_eq_true rfl) (Nat.le_of_ble_eq_true rfl) rfl rfl rfl rfl (vB_isLive T.1 T.2 ((y7).toNatClampNeg)) rfl rfl ?_
        by_cases c18 : (gB_isLive T.1 ((y7).toNatClampNeg)) = 0
        · rw [if_pos c18] at h
          refine ei_ifF hb dX4_enter_51 (pc' := 54) (t := 104) (decide_eq_false (fun q => q c18)) (by decide) rfl ?_
          refine ei_al hb dX4_enter_54 (pc' := 56) rfl rfl ?_
          refine ei_aln hb dX4_enter_56 (pc' := 57) rfl rfl ?_
          refine ei_gi hb dX4_enter_57 (pc' := 60) (x := (T.1 ((4, 0, 0) : qz_N) 5)) hcn qz_f_4_34 rfl rfl rfl rfl ?_
          obtain ⟨S19, eS19⟩ : ∃ q, q = qz_wr T ((0, 0, (y7).toNatClampNeg) : qz_N) 0 (T.1 ((4, 0, 0) : qz_N) 5) := ⟨_, rfl⟩
          rw [qz_let, ← eS19] at h
          refine ei_pi hb dX4_enter_60 (pc' := 63) (M1 := (qz_mk S19.1 S19.2)) hcn qz_f_4_79 rfl rfl (fun q => by cases q) rfl (by rw [eS19]; rfl) rfl ?_
          refine ei_al hb dX4_enter_63 (pc' := 65) rfl rfl ?_
          refine ei_iln hb dX4_enter_65 (pc' := 66) rfl rfl ?_
          obtain ⟨S20, eS20⟩ : ∃ q, q = qz_wr S19 ((0, 0, (y7).toNatClampNeg) : qz_N) 1 a0 := ⟨_, rfl⟩
          rw [qz_let, ← eS20] at h
          refine ei_pi hb dX4_enter_66 (pc' := 69) (M1 := (qz_mk S20.1 S20.2)) hcn qz_f_4_86 rfl rfl (fun q => by cases q) rfl (by rw [eS20]; rfl) rfl ?_
          refine ei_al hb dX4_enter_69 (pc' := 71) rfl rfl ?_
          refine ei_iln hb dX4_enter_71 (pc' := 72) rfl rfl ?_
          obtain ⟨S21, eS21⟩ : ∃ q, q = qz_wr S20 ((0, 0, (y7).toNatClampNeg) : qz_N) 2 a1 := ⟨_, rfl⟩
          rw [qz_let, ← eS21] at h
          refine ei_pi hb dX4_enter_72 (pc' := 75) (M1 := (qz_mk S21.1 S21.2)) hcn qz_f_4_89 rfl rfl (fun q => by cases q) rfl (by rw [eS21]; rfl) rfl ?_
          refine ei_al hb dX4_enter_75 (pc' := 77) rfl rfl ?_
          refine ei_iln hb dX4_enter_77 (pc' := 78) rfl rfl ?_
          obtain ⟨S22, eS22⟩ : ∃ q, q = qz_wr S21 ((0, 0, (y7).toNatClampNeg) : qz_N) 3 a2 := ⟨_, rfl⟩
          rw [qz_let, ← eS22] at h
          refine ei_pi hb dX4_enter_78 (pc' := 81) (M1 := (qz_mk S22.1 S22.2)) hcn qz_f_4_92 rfl rfl (fun q => by cases q) rfl (by rw [eS22]; rfl) rfl ?_
          refine ei_al hb dX4_enter_81 (pc' := 83) rfl rfl ?_
          refine ei_il hb dX4_enter_83 (pc' := 85) rfl rfl ?_
          obtain ⟨S23, eS23⟩ : ∃ q, q = qz_wr S22 ((0, 0, (y7).toNatClampNeg) : qz_N) 4 (0 : Int32) := ⟨_, rfl⟩
          rw [qz_let, ← eS23] at h
          refine ei_pi hb dX4_enter_85 (pc' := 88) (M1 := (qz_mk S23.1 S23.2)) hcn qz_f_4_95 rfl rfl (fun _ => by decide) rfl (by rw [eS23]; rfl) rfl ?_
          refine ei_aln hb dX4_enter_88 (pc' := 89) rfl rfl ?_
          refine ei_dup hb dX4_enter_89 (pc' := 90) rfl rfl ?_
          refine ei_gi hb dX4_enter_90 (pc' := 93) (x := (S23.1 ((4, 0, 0) : qz_N) 5)) hcn qz_f_4_34 rfl rfl rfl rfl ?_
          refine ei_c hb dX4_enter_93 (v := (1 : Int32)) (pc' := 94) (by decide) rfl ?_
          refine ei_add hb dX4_enter_94 (pc' := 95) rfl ?_
          obtain ⟨S24, eS24⟩ : ∃ q, q = qz_wr S23 ((4, 0, 0) : qz_N) 5 ((S23.1 ((4, 0, 0) : qz_N) 5) + (1 : Int32)) := ⟨_, rfl⟩
          rw [qz_let, ← eS24] at h
          refine ei_pi hb dX4_enter_95 (pc' := 98) (M1 := (qz_mk S24.1 S24.2)) hcn qz_f_4_34 rfl rfl (fun q => by cases q) rfl (by rw [eS24]; rfl) rfl ?_
          refine ei_al hb dX4_enter_98 (pc' := 100) rfl rfl ?_
          refine ei_gi hb dX4_enter_100 (pc' := 103) (x := (S24.1 ((0, 0, (y7).toNatClampNeg) : qz_N) 0)) hcn qz_f_4_79 rfl rfl rfl rfl ?_
          have h := Option.some.inj h
          subst h
          exact ei_reti hb dX4_enter_103 rfl
        · rw [if_neg c18] at h
          refine ei_ifT hb dX4_enter_51 (pc' := 104) (decide_eq_true c18) (by decide) ?_
          refine ei_inc hb dX4_enter_104 (v := (y7 + 1)) (pc' := 107) (ls' := [some (.inr (.inl (some ((4, 0, 0) : qz_N)))), some (.inl a0), some (.inl a1), some (.inl a2), some (.inl (0 : Int32)), some (.inr (.inl (some ((13, 0, 0) : qz_N)))), some (.inl (30 : Int32)), some (.inl (y7 + 1)), some (.inr (.inl (some ((0, 0, (y7).toNatClampNeg) : qz_N))))]) rfl hml (Nat.le_of_ble_eq_true rfl) rfl rfl rfl rfl ?_
          refine ei_go hb dX4_enter_107 (pc' := 32) (by decide) ?_
          exact ih (y7 + 1) T _ h _
      · rw [if_neg c17] at h
        cases h
set_option maxHeartbeats 4000000 in
theorem vW_enter (F : Nat) (S : qz_S) (a0 : Int32) (a1 : Int32) (a2 : Int32) (r : Int32 × qz_S) (h : (gW_enter F S a0 a1 a2) = some r) : qz_E 24 0 (qz_in0 24 [.inr (.inl (some ((4, 0, 0) : qz_N))), .inl a0, .inl a1, .inl a2]) [] (qz_mk S.1 S.2) (some (.inl r.1)) (qz_mk r.2.1 r.2.2) := by
  have hb : qz_b 24 = cX4_enter := rfl
  have hcn : qz_cn 24 = 4 := rfl
  have hml : qz_ml 24 = 9 := rfl
  show qz_E 24 0 [some (.inr (.inl (some ((4, 0, 0) : qz_N)))), some (.inl a0), some (.inl a1), some (.inl a2), none, none, none, none, none] [] _ _ _
  rw [gW_enter] at h
  refine ei_aln hb dX4_enter_0 (pc' := 1) rfl rfl ?_
  refine ei_iln hb dX4_enter_1 (pc' := 2) rfl rfl ?_
  refine ei_iln hb dX4_enter_2 (pc' := 3) rfl rfl ?_
  refine ei_iln hb dX4_enter_3 (pc' := 4) rfl rfl ?_
  refine ei_null hb dX4_enter_4 (pc' := 5) rfl ?_
  obtain ⟨x1, e2, h⟩ := Option.bind_eq_some_iff.mp h
  refine ei_cv hb dX4_enter_5 (pc' := 8) (M1 := (qz_mk S.1 S.2)) (as := [.inl a1, .inl a0, .inl a2, .inr (.inl none)]) (rest := []) (st' := [.inl x1]) hcn qz_c_4_82 qz_k_27 (qz_q_24_27) (Nat.le_of_ble_eq_true rfl) (Nat.le_of_ble_eq_true rfl) rfl rfl rfl rfl (vW_reason F S.1 S.2 a1 a0 a2 none _ e2) rfl rfl ?_
  by_cases c3 : x1 = 0
  · rw [if_pos c3] at h
    refine ei_ifF hb dX4_enter_8 (pc' := 11) (t := 15) (decide_eq_false (fun q => q c3)) (by decide) rfl ?_
    refine ei_c hb dX4_enter_11 (v := (1 : Int32)) (pc' := 12) (by decide) rfl ?_
    refine ei_go hb dX4_enter_12 (pc' := 16) (by decide) ?_
    refine ei_is hb dX4_enter_16 (pc' := 18) (ls' := [some (.inr (.inl (some ((4, 0, 0) : qz_N)))), some (.inl a0), some (.inl a1), some (.inl a2), some (.inl (1 : Int32)), none, none, none, none]) hml (Nat.le_of_ble_eq_true rfl) rfl rfl rfl ?_
    refine ei_aln hb dX4_enter_18 (pc' := 19) rfl rfl ?_
    refine ei_gr hb dX4_enter_19 (pc' := 22) (x := some ((13, 0, 0) : qz_N)) hcn qz_f_4_30 rfl rfl rfl rfl ?_
    refine ei_as hb dX4_enter_22 (pc' := 24) (ls' := [some (.inr (.inl (some ((4, 0, 0) : qz_N)))), some (.inl a0), some (.inl a1), some (.inl a2), some (.inl (1 : Int32)), some (.inr (.inl (some ((13, 0, 0) : qz_N)))), none, none, none]) hml (Nat.le_of_ble_eq_true rfl) rfl rfl rfl ?_
    refine ei_al hb dX4_enter_24 (pc' := 26) rfl rfl ?_
    refine ei_len hb dX4_enter_26 (pc' := 27) (x := (30 : Int32)) (show ¬ qz_at 13 = 0 by decide) rfl rfl ?_
    refine ei_is hb dX4_enter_27 (pc' := 29) (ls' := [some (.inr (.inl (some ((4, 0, 0) : qz_N)))), some (.inl a0), some (.inl a1), some (.inl a2), some (.inl (1 : Int32)), some (.inr (.inl (some ((13, 0, 0) : qz_N)))), some (.inl (30 : Int32)), none, none]) hml (Nat.le_of_ble_eq_true rfl) rfl rfl rfl ?_
    refine ei_c hb dX4_enter_29 (v := (0 : Int32)) (pc' := 30) (by decide) rfl ?_
    refine ei_is hb dX4_enter_30 (pc' := 32) (ls' := [some (.inr (.inl (some ((4, 0, 0) : qz_N)))), some (.inl a0), some (.inl a1), some (.inl a2), some (.inl (1 : Int32)), some (.inr (.inl (some ((13, 0, 0) : qz_N)))), some (.inl (30 : Int32)), some (.inl (0 : Int32)), none]) hml (Nat.le_of_ble_eq_true rfl) rfl rfl rfl ?_
    refine vW_enter_L32 F a0 a1 a2 _ ?_ F (0 : Int32) S _ h _
    intro y713 T14 r h d15
    refine ei_b hb dX4_enter_110 (v := (-3 : Int32)) (pc' := 112) (by decide) rfl ?_
    have h := Option.some.inj h
    subst h
    exact ei_reti hb dX4_enter_112 rfl
  · rw [if_neg c3] at h
    refine ei_ifT hb dX4_enter_8 (pc' := 15) (decide_eq_true c3) (by decide) ?_
    refine ei_c hb dX4_enter_15 (v := (0 : Int32)) (pc' := 16) (by decide) rfl ?_
    refine ei_is hb dX4_enter_16 (pc' := 18) (ls' := [some (.inr (.inl (some ((4, 0, 0) : qz_N)))), some (.inl a0), some (.inl a1), some (.inl a2), some (.inl (0 : Int32)), none, none, none, none]) hml (Nat.le_of_ble_eq_true rfl) rfl rfl rfl ?_
    refine ei_aln hb dX4_enter_18 (pc' := 19) rfl rfl ?_
    refine ei_gr hb dX4_enter_19 (pc' := 22) (x := some ((13, 0, 0) : qz_N)) hcn qz_f_4_30 rfl rfl rfl rfl ?_
    refine ei_as hb dX4_enter_22 (pc' := 24) (ls' := [some (.inr (.inl (some ((4, 0, 0) : qz_N)))), some (.inl a0), some (.inl a1), some (.inl a2), some (.inl (0 : Int32)), some (.inr (.inl (some ((13, 0, 0) : qz_N)))), none, none, none]) hml (Nat.le_of_ble_eq_true rfl) rfl rfl rfl ?_
    refine ei_al hb dX4_enter_24 (pc' := 26) rfl rfl ?_
    refine ei_len hb dX4_enter_26 (pc' := 27) (x := (30 : Int32)) (show ¬ qz_at 13 = 0 by decide) rfl rfl ?_
    refine ei_is hb dX4_enter_27 (pc' := 29) (ls' := [some (.inr (.inl (some ((4, 0, 0) : qz_N)))), some (.inl a0), some (.inl a1), some (.inl a2), some (.inl (0 : Int32)), some (.inr (.inl (some ((13, 0, 0) : qz_N)))), some (.inl (30 : Int32)), none, none]) hml (Nat.le_of_ble_eq_true rfl) rfl rfl rfl ?_
    refine ei_c hb dX4_enter_29 (v := (0 : Int32)) (pc' := 30) (by decide) rfl ?_
    refine ei_is hb dX4_enter_30 (pc' := 32) (ls' := [some (.inr (.inl (some ((4, 0, 0) : qz_N)))), some (.inl a0), some (.inl a1), some (.inl a2), some (.inl (0 : Int32)), some (.inr (.inl (some ((13, 0, 0) : qz_N)))), some (.inl (30 : Int32)), some (.inl (0 : Int32)), none]) hml (Nat.le_of_ble_eq_true rfl) rfl rfl rfl ?_
    refine vW_enter_L32b F a0 a1 a2 _ ?_ F (0 : Int32) S _ h _
    intro y725 T26 r h d27
    refine ei_b hb dX4_enter_110 (v := (-3 : Int32)) (pc' := 112) (by decide) rfl ?_
    have h := Option.some.inj h
    subst h
    exact ei_reti hb dX4_enter_112 rfl
def gW_workerCount_L13 (F : Nat) (f : qz_F)  (K : (Int32 → Int32 → Option (Int32))) : Nat → Int32 → Int32 → Option (Int32)
  | 0, _, _ => none
  | n + 1, y1, y4 => if (30 : Int32) ≤ y4 then (K y1 y4) else (if qz_xi y4 30 = true then (if (gB_isLive f ((y4).toNatClampNeg)) = 0 then ((gW_workerCount_L13 F f K) n y1 (y4 + 1)) else ((gW_workerCount_L13 F f K) n (y1 + 1) (y4 + 1))) else none)
def gW_workerCount (F : Nat) (f : qz_F)  : Option (Int32) :=
  gW_workerCount_L13 F f (fun y14 y45 => some y14) F (0 : Int32) (0 : Int32)
set_option maxHeartbeats 4000000 in
theorem vW_workerCount_L13 (F : Nat) (f : qz_F) (p : Nat → Nat)  (K : (Int32 → Int32 → Option (Int32))) (hK : ∀ (y1 : Int32) (y4 : Int32) (r : Int32), K y1 y4 = some r → ∀ (d0 : Option qz_V) (d5 : Option qz_V), qz_E 25 42 [d0, some (.inl y1), some (.inr (.inl (some ((13, 0, 0) : qz_N)))), some (.inl (30 : Int32)), some (.inl y4), d5] [] (qz_mk f p) (some (.inl r)) (qz_mk f p)) : ∀ (n : Nat) (y1 : Int32) (y4 : Int32) (r : Int32), gW_workerCount_L13 F f K n y1 y4 = some r → ∀ (d0 : Option qz_V) (d5 : Option qz_V), qz_E 25 13 [d0, some (.inl y1), some (.inr (.inl (some ((13, 0, 0) : qz_N)))), some (.inl (30 : Int32)), some (.inl y4), d5] [] (qz_mk f p) (some (.inl r)) (qz_mk f p) := by
  have hb : qz_b 25 = cX4_workerCount := rfl
  have hcn : qz_cn 25 = 4 := rfl
  have hml : qz_ml 25 = 6 := rfl
  intro n
  induction n with
  | zero =>
    intro y1 y4 r h
    cases h
  | succ n ih =>
    intro y1 y4 r h d0 d5
    rw [gW_workerCount_L13] at h
    refine ei_il hb dX4_workerCount_13 (pc' := 15) rfl rfl ?_
    refine ei_iln hb dX4_workerCount_15 (pc' := 16) rfl rfl ?_
    by_cases c1 : (30 : Int32) ≤ y4
    · rw [if_pos c1] at h
      refine ei_icT hb dX4_workerCount_16 (pc' := 42) (decide_eq_true c1) (by decide) ?_
      exact hK y1 y4 _ h _ _
    · rw [if_neg c1] at h
      refine ei_icF hb dX4_workerCount_16 (pc' := 19) (t := 42) (decide_eq_false c1) (by decide) rfl ?_
      refine ei_aln hb dX4_workerCount_19 (pc' := 20) rfl rfl ?_
      refine ei_il hb dX4_workerCount_20 (pc' := 22) rfl rfl ?_
      by_cases c2 : qz_xi y4 30 = true
      · rw [if_pos c2] at h
        refine ei_aa hb dX4_workerCount_22 (pc' := 23) (x := some ((0, 0, (y4).toNatClampNeg) : qz_N)) (show 4 ≤ qz_at 13 by decide) c2 (qz_fr_13 (by decide) c2) rfl ?_
        refine ei_as hb dX4_workerCount_23 (pc' := 25) (ls' := [d0, some (.inl y1), some (.inr (.inl (some ((13, 0, 0) : qz_N)))), some (.inl (30 : Int32)), some (.inl y4), some (.inr (.inl (some ((0, 0, (y4).toNatClampNeg) : qz_N))))]) hml (Nat.le_of_ble_eq_true rfl) rfl rfl rfl ?_
        refine ei_al hb dX4_workerCount_25 (pc' := 27) rfl rfl ?_
        refine ei_cv hb dX4_workerCount_27 (pc' := 30) (M1 := (qz_mk f p)) (as := []) (rest := []) (st' := [.inl (gB_isLive f ((y4).toNatClampNeg))]) hcn qz_c_4_75 qz_k_1 (qz_q_25_1) (Nat.le_of_ble_eq_true rfl) (Nat.le_of_ble_eq_true rfl) rfl rfl rfl rfl (vB_isLive f p ((y4).toNatClampNeg)) rfl rfl ?_
        by_cases c3 : (gB_isLive f ((y4).toNatClampNeg)) = 0
        · rw [if_pos c3] at h
          refine ei_ifT hb dX4_workerCount_30 (pc' := 36) (decide_eq_true c3) (by decide) ?_
          refine ei_inc hb dX4_workerCount_36 (v := (y4 + 1)) (pc' := 39) (ls' := [d0, some (.inl y1), some (.inr (.inl (some ((13, 0, 0) : qz_N)))), some (.inl (30 : Int32)), some (.inl (y4 + 1)), some (.inr (.inl (some ((0, 0, (y4).toNatClampNeg) : qz_N))))]) rfl hml (Nat.le_of_ble_eq_true rfl) rfl rfl rfl rfl ?_
          refine ei_go hb dX4_workerCount_39 (pc' := 13) (by decide) ?_
          exact ih y1 (y4 + 1) _ h _ _
        · rw [if_neg c3] at h
          refine ei_ifF hb dX4_workerCount_30 (pc' := 33) (t := 36) (decide_eq_false c3) (by decide) rfl ?_
          refine ei_inc hb dX4_workerCount_33 (v := (y1 + 1)) (pc' := 36) (ls' := [d0, some (.inl (y1 + 1)), some (.inr (.inl (some ((13, 0, 0) : qz_N)))), some (.inl (30 : Int32)), some (.inl y4), some (.inr (.inl (some ((0, 0, (y4).toNatClampNeg) : qz_N))))]) rfl hml (Nat.le_of_ble_eq_true rfl) rfl rfl rfl rfl ?_
          refine ei_inc hb dX4_workerCount_36 (v := (y4 + 1)) (pc' := 39) (ls' := [d0, some (.inl (y1 + 1)), some (.inr (.inl (some ((13, 0, 0) : qz_N)))), some (.inl (30 : Int32)), some (.inl (y4 + 1)), some (.inr (.inl (some ((0, 0, (y4).toNatClampNeg) : qz_N))))]) rfl hml (Nat.le_of_ble_eq_true rfl) rfl rfl rfl rfl ?_
          refine ei_go hb dX4_workerCount_39 (pc' := 13) (by decide) ?_
          exact ih (y1 + 1) (y4 + 1) _ h _ _
      · rw [if_neg c2] at h
        cases h
set_option maxHeartbeats 4000000 in
theorem vW_workerCount (F : Nat) (f : qz_F) (p : Nat → Nat)  (r : Int32) (h : (gW_workerCount F f) = some r) : qz_E 25 0 (qz_in0 25 [.inr (.inl (some ((4, 0, 0) : qz_N)))]) [] (qz_mk f p) (some (.inl r)) (qz_mk f p) := by
  have hb : qz_b 25 = cX4_workerCount := rfl
  have hcn : qz_cn 25 = 4 := rfl
  have hml : qz_ml 25 = 6 := rfl
  show qz_E 25 0 [some (.inr (.inl (some ((4, 0, 0) : qz_N)))), none, none, none, none, none] [] _ _ _
  rw [gW_workerCount] at h
  refine ei_c hb dX4_workerCount_0 (v := (0 : Int32)) (pc' := 1) (by decide) rfl ?_
  refine ei_isn hb dX4_workerCount_1 (pc' := 2) (ls' := [some (.inr (.inl (some ((4, 0, 0) : qz_N)))), some (.inl (0 : Int32)), none, none, none, none]) hml (Nat.le_of_ble_eq_true rfl) rfl rfl rfl ?_
  refine ei_aln hb dX4_workerCount_2 (pc' := 3) rfl rfl ?_
  refine ei_gr hb dX4_workerCount_3 (pc' := 6) (x := some ((13, 0, 0) : qz_N)) hcn qz_f_4_30 rfl rfl rfl rfl ?_
  refine ei_asn hb dX4_workerCount_6 (pc' := 7) (ls' := [some (.inr (.inl (some ((4, 0, 0) : qz_N)))), some (.inl (0 : Int32)), some (.inr (.inl (some ((13, 0, 0) : qz_N)))), none, none, none]) hml (Nat.le_of_ble_eq_true rfl) rfl rfl rfl ?_
  refine ei_aln hb dX4_workerCount_7 (pc' := 8) rfl rfl ?_
  refine ei_len hb dX4_workerCount_8 (pc' := 9) (x := (30 : Int32)) (show ¬ qz_at 13 = 0 by decide) rfl rfl ?_
  refine ei_isn hb dX4_workerCount_9 (pc' := 10) (ls' := [some (.inr (.inl (some ((4, 0, 0) : qz_N)))), some (.inl (0 : Int32)), some (.inr (.inl (some ((13, 0, 0) : qz_N)))), some (.inl (30 : Int32)), none, none]) hml (Nat.le_of_ble_eq_true rfl) rfl rfl rfl ?_
  refine ei_c hb dX4_workerCount_10 (v := (0 : Int32)) (pc' := 11) (by decide) rfl ?_
  refine ei_is hb dX4_workerCount_11 (pc' := 13) (ls' := [some (.inr (.inl (some ((4, 0, 0) : qz_N)))), some (.inl (0 : Int32)), some (.inr (.inl (some ((13, 0, 0) : qz_N)))), some (.inl (30 : Int32)), some (.inl (0 : Int32)), none]) hml (Nat.le_of_ble_eq_true rfl) rfl rfl rfl ?_
  refine vW_workerCount_L13 F f p _ ?_ F (0 : Int32) (0 : Int32) _ h _ _
  intro y14 y45 r h d6 d7
  refine ei_iln hb dX4_workerCount_42 (pc' := 43) rfl rfl ?_
  have h := Option.some.inj h
  subst h
  exact ei_reti hb dX4_workerCount_43 rfl
def gW_waitingCount_L13 (F : Nat) (f : qz_F)  (K : (Int32 → Int32 → Option (Int32))) : Nat → Int32 → Int32 → Option (Int32)
  | 0, _, _ => none
  | n + 1, y1, y4 => if (30 : Int32) ≤ y4 then (K y1 y4) else (if qz_xi y4 30 = true then (if (gB_isWaiting f ((y4).toNatClampNeg)) = 0 then ((gW_waitingCount_L13 F f K) n y1 (y4 + 1)) else ((gW_waitingCount_L13 F f K) n (y1 + 1) (y4 + 1))) else none)
def gW_waitingCount (F : Nat) (f : qz_F)  : Option (Int32) :=
  gW_waitingCount_L13 F f (fun y14 y45 => some y14) F (0 : Int32) (0 : Int32)
set_option maxHeartbeats 4000000 in
theorem vW_waitingCount_L13 (F : Nat) (f : qz_F) (p : Nat → Nat)  (K : (Int32 → Int32 → Option (Int32))) (hK : ∀ (y1 : Int32) (y4 : Int32) (r : Int32), K y1 y4 = some r → ∀ (d0 : Option qz_V) (d5 : Option qz_V), qz_E 26 42 [d0, some (.inl y1), some (.inr (.inl (some ((13, 0, 0) : qz_N)))), some (.inl (30 : Int32)), some (.inl y4), d5] [] (qz_mk f p) (some (.inl r)) (qz_mk f p)) : ∀ (n : Nat) (y1 : Int32) (y4 : Int32) (r : Int32), gW_waitingCount_L13 F f K n y1 y4 = some r → ∀ (d0 : Option qz_V) (d5 : Option qz_V), qz_E 26 13 [d0, some (.inl y1), some (.inr (.inl (some ((13, 0, 0) : qz_N)))), some (.inl (30 : Int32)), some (.inl y4), d5] [] (qz_mk f p) (some (.inl r)) (qz_mk f p) := by
  have hb : qz_b 26 = cX4_waitingCount := rfl
  have hcn : qz_cn 26 = 4 := rfl
  have hml : qz_ml 26 = 6 := rfl
  intro n
  induction n with
  | zero =>
    intro y1 y4 r h
    cases h
  | succ n ih =>
    intro y1 y4 r h d0 d5
    rw [gW_waitingCount_L13] at h
    refine ei_il hb dX4_waitingCount_13 (pc' := 15) rfl rfl ?_
    refine ei_iln hb dX4_waitingCount_15 (pc' := 16) rfl rfl ?_
    by_cases c1 : (30 : Int32) ≤ y4
    · rw [if_pos c1] at h
      refine ei_icT hb dX4_waitingCount_16 (pc' := 42) (decide_eq_true c1) (by decide) ?_
      exact hK y1 y4 _ h _ _
    · rw [if_neg c1] at h
      refine ei_icF hb dX4_waitingCount_16 (pc' := 19) (t := 42) (decide_eq_false c1) (by decide) rfl ?_
      refine ei_aln hb dX4_waitingCount_19 (pc' := 20) rfl rfl ?_
      refine ei_il hb dX4_waitingCount_20 (pc' := 22) rfl rfl ?_
      by_cases c2 : qz_xi y4 30 = true
      · rw [if_pos c2] at h
        refine ei_aa hb dX4_waitingCount_22 (pc' := 23) (x := some ((0, 0, (y4).toNatClampNeg) : qz_N)) (show 4 ≤ qz_at 13 by decide) c2 (qz_fr_13 (by decide) c2) rfl ?_
        refine ei_as hb dX4_waitingCount_23 (pc' := 25) (ls' := [d0, some (.inl y1), some (.inr (.inl (some ((13, 0, 0) : qz_N)))), some (.inl (30 : Int32)), some (.inl y4), some (.inr (.inl (some ((0, 0, (y4).toNatClampNeg) : qz_N))))]) hml (Nat.le_of_ble_eq_true rfl) rfl rfl rfl ?_
        refine ei_al hb dX4_waitingCount_25 (pc' := 27) rfl rfl ?_
        refine ei_cv hb dX4_waitingCount_27 (pc' := 30) (M1 := (qz_mk f p)) (as := []) (rest := []) (st' := [.inl (gB_isWaiting f ((y4).toNatClampNeg))]) hcn qz_c_4_99 qz_k_2 (qz_q_26_2) (Nat.le_of_ble_eq_true rfl) (Nat.le_of_ble_eq_true rfl) rfl rfl rfl rfl (vB_isWaiting f p ((y4).toNatClampNeg)) rfl rfl ?_
        by_cases c3 : (gB_isWaiting f ((y4).toNatClampNeg)) = 0
        · rw [if_pos c3] at h
          refine ei_ifT hb dX4_waitingCount_30 (pc' := 36) (decide_eq_true c3) (by decide) ?_
          refine ei_inc hb dX4_waitingCount_36 (v := (y4 + 1)) (pc' := 39) (ls' := [d0, some (.inl y1), some (.inr (.inl (some ((13, 0, 0) : qz_N)))), some (.inl (30 : Int32)), some (.inl (y4 + 1)), some (.inr (.inl (some ((0, 0, (y4).toNatClampNeg) : qz_N))))]) rfl hml (Nat.le_of_ble_eq_true rfl) rfl rfl rfl rfl ?_
          refine ei_go hb dX4_waitingCount_39 (pc' := 13) (by decide) ?_
          exact ih y1 (y4 + 1) _ h _ _
        · rw [if_neg c3] at h
          refine ei_ifF hb dX4_waitingCount_30 (pc' := 33) (t := 36) (decide_eq_false c3) (by decide) rfl ?_
          refine ei_inc hb dX4_waitingCount_33 (v := (y1 + 1)) (pc' := 36) (ls' := [d0, some (.inl (y1 + 1)), some (.inr (.inl (some ((13, 0, 0) : qz_N)))), some (.inl (30 : Int32)), some (.inl y4), some (.inr (.inl (some ((0, 0, (y4).toNatClampNeg) : qz_N))))]) rfl hml (Nat.le_of_ble_eq_true rfl) rfl rfl rfl rfl ?_
          refine ei_inc hb dX4_waitingCount_36 (v := (y4 + 1)) (pc' := 39) (ls' := [d0, some (.inl (y1 + 1)), some (.inr (.inl (some ((13, 0, 0) : qz_N)))), some (.inl (30 : Int32)), some (.inl (y4 + 1)), some (.inr (.inl (some ((0, 0, (y4).toNatClampNeg) : qz_N))))]) rfl hml (Nat.le_of_ble_eq_true rfl) rfl rfl rfl rfl ?_
          refine ei_go hb dX4_waitingCount_39 (pc' := 13) (by decide) ?_
          exact ih (y1 + 1) (y4 + 1) _ h _ _
      · rw [if_neg c2] at h
        cases h
set_option maxHeartbeats 4000000 in
theorem vW_waitingCount (F : Nat) (f : qz_F) (p : Nat → Nat)  (r : Int32) (h : (gW_waitingCount F f) = some r) : qz_E 26 0 (qz_in0 26 [.inr (.inl (some ((4, 0, 0) : qz_N)))]) [] (qz_mk f p) (some (.inl r)) (qz_mk f p) := by
  have hb : qz_b 26 = cX4_waitingCount := rfl
  have hcn : qz_cn 26 = 4 := rfl
  have hml : qz_ml 26 = 6 := rfl
  show qz_E 26 0 [some (.inr (.inl (some ((4, 0, 0) : qz_N)))), none, none, none, none, none] [] _ _ _
  rw [gW_waitingCount] at h
  refine ei_c hb dX4_waitingCount_0 (v := (0 : Int32)) (pc' := 1) (by decide) rfl ?_
  refine ei_isn hb dX4_waitingCount_1 (pc' := 2) (ls' := [some (.inr (.inl (some ((4, 0, 0) : qz_N)))), some (.inl (0 : Int32)), none, none, none, none]) hml (Nat.le_of_ble_eq_true rfl) rfl rfl rfl ?_
  refine ei_aln hb dX4_waitingCount_2 (pc' := 3) rfl rfl ?_
  refine ei_gr hb dX4_waitingCount_3 (pc' := 6) (x := some ((13, 0, 0) : qz_N)) hcn qz_f_4_30 rfl rfl rfl rfl ?_
  refine ei_asn hb dX4_waitingCount_6 (pc' := 7) (ls' := [some (.inr (.inl (some ((4, 0, 0) : qz_N)))), some (.inl (0 : Int32)), some (.inr (.inl (some ((13, 0, 0) : qz_N)))), none, none, none]) hml (Nat.le_of_ble_eq_true rfl) rfl rfl rfl ?_
  refine ei_aln hb dX4_waitingCount_7 (pc' := 8) rfl rfl ?_
  refine ei_len hb dX4_waitingCount_8 (pc' := 9) (x := (30 : Int32)) (show ¬ qz_at 13 = 0 by decide) rfl rfl ?_
  refine ei_isn hb dX4_waitingCount_9 (pc' := 10) (ls' := [some (.inr (.inl (some ((4, 0, 0) : qz_N)))), some (.inl (0 : Int32)), some (.inr (.inl (some ((13, 0, 0) : qz_N)))), some (.inl (30 : Int32)), none, none]) hml (Nat.le_of_ble_eq_true rfl) rfl rfl rfl ?_
  refine ei_c hb dX4_waitingCount_10 (v := (0 : Int32)) (pc' := 11) (by decide) rfl ?_
  refine ei_is hb dX4_waitingCount_11 (pc' := 13) (ls' := [some (.inr (.inl (some ((4, 0, 0) : qz_N)))), some (.inl (0 : Int32)), some (.inr (.inl (some ((13, 0, 0) : qz_N)))), some (.inl (30 : Int32)), some (.inl (0 : Int32)), none]) hml (Nat.le_of_ble_eq_true rfl) rfl rfl rfl ?_
  refine vW_waitingCount_L13 F f p _ ?_ F (0 : Int32) (0 : Int32) _ h _ _
  intro y14 y45 r h d6 d7
  refine ei_iln hb dX4_waitingCount_42 (pc' := 43) rfl rfl ?_
  have h := Option.some.inj h
  subst h
  exact ei_reti hb dX4_waitingCount_43 rfl
def gW_isLookedAtAheadOf (F : Nat) (f : qz_F) (b0 : Nat) (b1 : Nat) : Option (Int32) :=
  if (f ((0, 0, b0) : qz_N) 1) = (f ((0, 0, b1) : qz_N) 1) then (if (f ((0, 0, b0) : qz_N) 2) = (f ((0, 0, b1) : qz_N) 2) then (if (f ((0, 0, b0) : qz_N) 3) = (f ((0, 0, b1) : qz_N) 3) then (if (f ((0, 0, b1) : qz_N) 0) ≤ (f ((0, 0, b0) : qz_N) 0) then (some (0 : Int32)) else (some (1 : Int32))) else (if (f ((0, 0, b1) : qz_N) 3) ≤ (f ((0, 0, b0) : qz_N) 3) then (some (0 : Int32)) else (some (1 : Int32)))) else (if (f ((0, 0, b1) : qz_N) 2) ≤ (f ((0, 0, b0) : qz_N) 2) then (some (0 : Int32)) else (some (1 : Int32)))) else (Option.bind (gW_isEarlier F f (f ((0, 0, b0) : qz_N) 1) (f ((0, 0, b1) : qz_N) 1)) fun x7 => some x7)
set_option maxHeartbeats 4000000 in
theorem vW_isLookedAtAheadOf (F : Nat) (f : qz_F) (p : Nat → Nat) (b0 : Nat) (b1 : Nat) (r : Int32) (h : (gW_isLookedAtAheadOf F f b0 b1) = some r) : qz_E 30 0 (qz_in0 30 [.inr (.inl (some ((4, 0, 0) : qz_N))), .inr (.inl (some ((0, 0, b0) : qz_N))), .inr (.inl (some ((0, 0, b1) : qz_N)))]) [] (qz_mk f p) (some (.inl r)) (qz_mk f p) := by
  have hb : qz_b 30 = cX4_isLookedAtAheadOf := rfl
  have hcn : qz_cn 30 = 4 := rfl
  have hml : qz_ml 30 = 3 := rfl
  show qz_E 30 0 [some (.inr (.inl (some ((4, 0, 0) : qz_N)))), some (.inr (.inl (some ((0, 0, b0) : qz_N)))), some (.inr (.inl (some ((0, 0, b1) : qz_N))))] [] _ _ _
  rw [gW_isLookedAtAheadOf] at h
  refine ei_aln hb dX4_isLookedAtAheadOf_0 (pc' := 1) rfl rfl ?_
  refine ei_gi hb dX4_isLookedAtAheadOf_1 (pc' := 4) (x := (f ((0, 0, b0) : qz_N) 1)) hcn qz_f_4_86 rfl rfl rfl rfl ?_
  refine ei_aln hb dX4_isLookedAtAheadOf_4 (pc' := 5) rfl rfl ?_
  refine ei_gi hb dX4_isLookedAtAheadOf_5 (pc' := 8) (x := (f ((0, 0, b1) : qz_N) 1)) hcn qz_f_4_86 rfl rfl rfl rfl ?_
  by_cases c1 : (f ((0, 0, b0) : qz_N) 1) = (f ((0, 0, b1) : qz_N) 1)
  · rw [if_pos c1] at h
    refine ei_icT hb dX4_isLookedAtAheadOf_8 (pc' := 24) (decide_eq_true c1) (by decide) ?_
    refine ei_aln hb dX4_isLookedAtAheadOf_24 (pc' := 25) rfl rfl ?_
    refine ei_gi hb dX4_isLookedAtAheadOf_25 (pc' := 28) (x := (f ((0, 0, b0) : qz_N) 2)) hcn qz_f_4_89 rfl rfl rfl rfl ?_
    refine ei_aln hb dX4_isLookedAtAheadOf_28 (pc' := 29) rfl rfl ?_
    refine ei_gi hb dX4_isLookedAtAheadOf_29 (pc' := 32) (x := (f ((0, 0, b1) : qz_N) 2)) hcn qz_f_4_89 rfl rfl rfl rfl ?_
    by_cases c2 : (f ((0, 0, b0) : qz_N) 2) = (f ((0, 0, b1) : qz_N) 2)
    · rw [if_pos c2] at h
      refine ei_icT hb dX4_isLookedAtAheadOf_32 (pc' := 52) (decide_eq_true c2) (by decide) ?_
      refine ei_aln hb dX4_isLookedAtAheadOf_52 (pc' := 53) rfl rfl ?_
      refine ei_gi hb dX4_isLookedAtAheadOf_53 (pc' := 56) (x := (f ((0, 0, b0) : qz_N) 3)) hcn qz_f_4_92 rfl rfl rfl rfl ?_
      refine ei_aln hb dX4_isLookedAtAheadOf_56 (pc' := 57) rfl rfl ?_
      refine ei_gi hb dX4_isLookedAtAheadOf_57 (pc' := 60) (x := (f ((0, 0, b1) : qz_N) 3)) hcn qz_f_4_92 rfl rfl rfl rfl ?_
      by_cases c3 : (f ((0, 0, b0) : qz_N) 3) = (f ((0, 0, b1) : qz_N) 3)
      · rw [if_pos c3] at h
        refine ei_icT hb dX4_isLookedAtAheadOf_60 (pc' := 82) (decide_eq_true c3) (by decide) ?_
        refine ei_aln hb dX4_isLookedAtAheadOf_82 (pc' := 83) rfl rfl ?_
        refine ei_gi hb dX4_isLookedAtAheadOf_83 (pc' := 86) (x := (f ((0, 0, b0) : qz_N) 0)) hcn qz_f_4_79 rfl rfl rfl rfl ?_
        refine ei_aln hb dX4_isLookedAtAheadOf_86 (pc' := 87) rfl rfl ?_
        refine ei_gi hb dX4_isLookedAtAheadOf_87 (pc' := 90) (x := (f ((0, 0, b1) : qz_N) 0)) hcn qz_f_4_79 rfl rfl rfl rfl ?_
        by_cases c4 : (f ((0, 0, b1) : qz_N) 0) ≤ (f ((0, 0, b0) : qz_N) 0)
        · rw [if_pos c4] at h
          refine ei_icT hb dX4_isLookedAtAheadOf_90 (pc' := 97) (decide_eq_true c4) (by decide) ?_
          refine ei_c hb dX4_isLookedAtAheadOf_97 (v := (0 : Int32)) (pc' := 98) (by decide) rfl ?_
          have h := Option.some.inj h
          subst h
          exact ei_retz hb dX4_isLookedAtAheadOf_98 rfl (by decide)
        · rw [if_neg c4] at h
          refine ei_icF hb dX4_isLookedAtAheadOf_90 (pc' := 93) (t := 97) (decide_eq_false c4) (by decide) rfl ?_
          refine ei_c hb dX4_isLookedAtAheadOf_93 (v := (1 : Int32)) (pc' := 94) (by decide) rfl ?_
          refine ei_go hb dX4_isLookedAtAheadOf_94 (pc' := 98) (by decide) ?_
          have h := Option.some.inj h
          subst h
          exact ei_retz hb dX4_isLookedAtAheadOf_98 rfl (by decide)
      · rw [if_neg c3] at h
        refine ei_icF hb dX4_isLookedAtAheadOf_60 (pc' := 63) (t := 82) (decide_eq_false c3) (by decide) rfl ?_
        refine ei_aln hb dX4_isLookedAtAheadOf_63 (pc' := 64) rfl rfl ?_
        refine ei_gi hb dX4_isLookedAtAheadOf_64 (pc' := 67) (x := (f ((0, 0, b0) : qz_N) 3)) hcn qz_f_4_92 rfl rfl rfl rfl ?_
        refine ei_aln hb dX4_isLookedAtAheadOf_67 (pc' := 68) rfl rfl ?_
        refine ei_gi hb dX4_isLookedAtAheadOf_68 (pc' := 71) (x := (f ((0, 0, b1) : qz_N) 3)) hcn qz_f_4_92 rfl rfl rfl rfl ?_
        by_cases c5 : (f ((0, 0, b1) : qz_N) 3) ≤ (f ((0, 0, b0) : qz_N) 3)
        · rw [if_pos c5] at h
          refine ei_icT hb dX4_isLookedAtAheadOf_71 (pc' := 78) (decide_eq_true c5) (by decide) ?_
          refine ei_c hb dX4_isLookedAtAheadOf_78 (v := (0 : Int32)) (pc' := 79) (by decide) rfl ?_
          refine ei_go hb dX4_isLookedAtAheadOf_79 (pc' := 98) (by decide) ?_
          have h := Option.some.inj h
          subst h
          exact ei_retz hb dX4_isLookedAtAheadOf_98 rfl (by decide)
        · rw [if_neg c5] at h
          refine ei_icF hb dX4_isLookedAtAheadOf_71 (pc' := 74) (t := 78) (decide_eq_false c5) (by decide) rfl ?_
          refine ei_c hb dX4_isLookedAtAheadOf_74 (v := (1 : Int32)) (pc' := 75) (by decide) rfl ?_
          refine ei_go hb dX4_isLookedAtAheadOf_75 (pc' := 98) (by decide) ?_
          have h := Option.some.inj h
          subst h
          exact ei_retz hb dX4_isLookedAtAheadOf_98 rfl (by decide)
    · rw [if_neg c2] at h
      refine ei_icF hb dX4_isLookedAtAheadOf_32 (pc' := 35) (t := 52) (decide_eq_false c2) (by decide) rfl ?_
      refine ei_aln hb dX4_isLookedAtAheadOf_35 (pc' := 36) rfl rfl ?_
      refine ei_gi hb dX4_isLookedAtAheadOf_36 (pc' := 39) (x := (f ((0, 0, b0) : qz_N) 2)) hcn qz_f_4_89 rfl rfl rfl rfl ?_
      refine ei_aln hb dX4_isLookedAtAheadOf_39 (pc' := 40) rfl rfl ?_
      refine ei_gi hb dX4_isLookedAtAheadOf_40 (pc' := 43) (x := (f ((0, 0, b1) : qz_N) 2)) hcn qz_f_4_89 rfl rfl rfl rfl ?_
      by_cases c6 : (f ((0, 0, b1) : qz_N) 2) ≤ (f ((0, 0, b0) : qz_N) 2)
      · rw [if_pos c6] at h
        refine ei_icT hb dX4_isLookedAtAheadOf_43 (pc' := 50) (decide_eq_true c6) (by decide) ?_
        refine ei_c hb dX4_isLookedAtAheadOf_50 (v := (0 : Int32)) (pc' := 51) (by decide) rfl ?_
        have h := Option.some.inj h
        subst h
        exact ei_retz hb dX4_isLookedAtAheadOf_51 rfl (by decide)
      · rw [if_neg c6] at h
        refine ei_icF hb dX4_isLookedAtAheadOf_43 (pc' := 46) (t := 50) (decide_eq_false c6) (by decide) rfl ?_
        refine ei_c hb dX4_isLookedAtAheadOf_46 (v := (1 : Int32)) (pc' := 47) (by decide) rfl ?_
        refine ei_go hb dX4_isLookedAtAheadOf_47 (pc' := 51) (by decide) ?_
        have h := Option.some.inj h
        subst h
        exact ei_retz hb dX4_isLookedAtAheadOf_51 rfl (by decide)
  · rw [if_neg c1] at h
    refine ei_icF hb dX4_isLookedAtAheadOf_8 (pc' := 11) (t := 24) (decide_eq_false c1) (by decide) rfl ?_
    refine ei_aln hb dX4_isLookedAtAheadOf_11 (pc' := 12) rfl rfl ?_
    refine ei_aln hb dX4_isLookedAtAheadOf_12 (pc' := 13) rfl rfl ?_
    refine ei_gi hb dX4_isLookedAtAheadOf_13 (pc' := 16) (x := (f ((0, 0, b0) : qz_N) 1)) hcn qz_f_4_86 rfl rfl rfl rfl ?_
    refine ei_aln hb dX4_isLookedAtAheadOf_16 (pc' := 17) rfl rfl ?_
    refine ei_gi hb dX4_isLookedAtAheadOf_17 (pc' := 20) (x := (f ((0, 0, b1) : qz_N) 1)) hcn qz_f_4_86 rfl rfl rfl rfl ?_
    obtain ⟨x7, e8, h⟩ := Option.bind_eq_some_iff.mp h
    refine ei_cv hb dX4_isLookedAtAheadOf_20 (pc' := 23) (M1 := (qz_mk f p)) (as := [.inl (f ((0, 0, b0) : qz_N) 1), .inl (f ((0, 0, b1) : qz_N) 1)]) (rest := []) (st' := [.inl x7]) hcn qz_c_4_71 qz_k_22 (qz_q_30_22) (Nat.le_of_ble_eq_true rfl) (Nat.le_of_ble_eq_true rfl) rfl rfl rfl rfl (vW_isEarlier F f p (f ((0, 0, b0) : qz_N) 1) (f ((0, 0, b1) : qz_N) 1) _ e8) rfl rfl ?_
    have h := Option.some.inj h
    subst h
    exact ei_retz hb dX4_isLookedAtAheadOf_23 rfl (zW_isEarlier e8)
def gW_nextWaiting_L14 (F : Nat) (f : qz_F) (o0 : Option Nat) (K : (Option Nat → Int32 → Option (Option Nat))) : Nat → Option Nat → Int32 → Option (Option Nat)
  | 0, _, _ => none
  | n + 1, q2, y5 => if (30 : Int32) ≤ y5 then (K q2 y5) else (if qz_xi y5 30 = true then (if (gB_isWaiting f ((y5).toNatClampNeg)) = 0 then ((gW_nextWaiting_L14 F f o0 K) n q2 (y5 + 1)) else (Option.elim o0 (Option.elim q2 ((gW_nextWaiting_L14 F f o0 K) n (some ((y5).toNatClampNeg)) (y5 + 1)) (fun j5 => Option.bind (gW_isLookedAtAheadOf F f ((y5).toNatClampNeg) j5) fun x6 => if x6 = 0 then ((gW_nextWaiting_L14 F f o0 K) n (some j5) (y5 + 1)) else ((gW_nextWaiting_L14 F f o0 K) n (some ((y5).toNatClampNeg)) (y5 + 1)))) (fun j4 => Option.bind (gW_isLookedAtAheadOf F f j4 ((y5).toNatClampNeg)) fun x9 => if x9 = 0 then ((gW_nextWaiting_L14 F f o0 K) n q2 (y5 + 1)) else (Option.elim q2 ((gW_nextWaiting_L14 F f o0 K) n (some ((y5).toNatClampNeg)) (y5 + 1)) (fun j12 => Option.bind (gW_isLookedAtAheadOf F f ((y5).toNatClampNeg) j12) fun x13 => if x13 = 0 then ((gW_nextWaiting_L14 F f o0 K) n (some j12) (y5 + 1)) else ((gW_nextWaiting_L14 F f o0 K) n (some ((y5).toNatClampNeg)) (y5 + 1))))))) else none)
def gW_nextWaiting (F : Nat) (f : qz_F) (o0 : Option Nat) : Option (Option Nat) :=
  gW_nextWaiting_L14 F f o0 (fun q216 y517 => some q216) F none (0 : Int32)
set_option maxHeartbeats 4000000 in
theorem vW_nextWaiting_L14 (F : Nat) (f : qz_F) (p : Nat → Nat) (o0 : Option Nat) (K : (Option Nat → Int32 → Option (Option Nat))) (hK : ∀ (q2 : Option Nat) (y5 : Int32) (r : Option Nat), K q2 y5 = some r → ∀ (d6 : Option qz_V), qz_E 29 72 [some (.inr (.inl (some ((4, 0, 0) : qz_N)))), some (.inr (.inl (qz_bo o0))), some (.inr (.inl (qz_bo q2))), some (.inr (.inl (some ((13, 0, 0) : qz_N)))), some (.inl (30 : Int32)), some (.inl y5), d6] [] (qz_mk f p) (some (.inr (.inl (qz_bo r)))) (qz_mk f p)) : ∀ (n : Nat) (q2 : Option Nat) (y5 : Int32) (r : Option Nat), gW_nextWaiting_L14 F f o0 K n q2 y5 = some r → ∀ (d6 : Option qz_V), qz_E 29 14 [some (.inr (.inl (some ((4, 0, 0) : qz_N)))), some (.inr (.inl (qz_bo o0))), some (.inr (.inl (qz_bo q2))), some (.inr (.inl (some ((13, 0, 0) : qz_N)))), some (.inl (30 : Int32)), some (.inl y5), d6] [] (qz_mk f p) (some (.inr (.inl (qz_bo r)))) (qz_mk f p) := by
  have hb : qz_b 29 = cX4_nextWaiting := rfl
  have hcn : qz_cn 29 = 4 := rfl
  have hml : qz_ml 29 = 7 := rfl
  intro n
  induction n with
  | zero =>
    intro q2 y5 r h
    cases h
  | succ n ih =>
    intro q2 y5 r h d6
    rw [gW_nextWaiting_L14] at h
    refine ei_il hb dX4_nextWaiting_14 (pc' := 16) rfl rfl ?_
    refine ei_il hb dX4_nextWaiting_16 (pc' := 18) rfl rfl ?_
    by_cases c1 : (30 : Int32) ≤ y5
    · rw [if_pos c1] at h
      refine ei_icT hb dX4_nextWaiting_18 (pc' := 72) (decide_eq_true c1) (by decide) ?_
      exact hK q2 y5 _ h _
    · rw [if_neg c1] at h
      refine ei_icF hb dX4_nextWaiting_18 (pc' := 21) (t := 72) (decide_eq_false c1) (by decide) rfl ?_
      refine ei_aln hb dX4_nextWaiting_21 (pc' := 22) rfl rfl ?_
      refine ei_il hb dX4_nextWaiting_22 (pc' := 24) rfl rfl ?_
      by_cases c2 : qz_xi y5 30 = true
      · rw [if_pos c2] at h
        refine ei_aa hb dX4_nextWaiting_24 (pc' := 25) (x := some ((0, 0, (y5).toNatClampNeg) : qz_N)) (show 4 ≤ qz_at 13 by decide) c2 (qz_fr_13 (by decide) c2) rfl ?_
        refine ei_as hb dX4_nextWaiting_25 (pc' := 27) (ls' := [some (.inr (.inl (some ((4, 0, 0) : qz_N)))), some (.inr (.inl (qz_bo o0))), some (.inr (.inl (qz_bo q2))), some (.inr (.inl (some ((13, 0, 0) : qz_N)))), some (.inl (30 : Int32)), some (.inl y5), some (.inr (.inl (some ((0, 0, (y5).toNatClampNeg) : qz_N))))]) hml (Nat.le_of_ble_eq_true rfl) rfl rfl rfl ?_
        refine ei_al hb dX4_nextWaiting_27 (pc' := 29) rfl rfl ?_
        refine ei_cv hb dX4_nextWaiting_29 (pc' := 32) (M1 := (qz_mk f p)) (as := []) (rest := []) (st' := [.inl (gB_isWaiting f ((y5).toNatClampNeg))]) hcn qz_c_4_99 qz_k_2 (qz_q_29_2) (Nat.le_of_ble_eq_true rfl) (Nat.le_of_ble_eq_true rfl) rfl rfl rfl rfl (vB_isWaiting f p ((y5).toNatClampNeg)) rfl rfl ?_
        by_cases c3 : (gB_isWaiting f ((y5).toNatClampNeg)) = 0
        · rw [if_pos c3] at h
          refine ei_ifT hb dX4_nextWaiting_32 (pc' := 66) (decide_eq_true c3) (by decide) ?_
          refine ei_inc hb dX4_nextWaiting_66 (v := (y5 + 1)) (pc' := 69) (ls' := [some (.inr (.inl (some ((4, 0, 0) : qz_N)))), some (.inr (.inl (qz_bo o0))), some (.inr (.inl (qz_bo q2))), some (.inr (.inl (some ((13, 0, 0) : qz_N)))), some (.inl (30 : Int32)), some (.inl (y5 + 1)), some (.inr (.inl (some ((0, 0, (y5).toNatClampNeg) : qz_N))))]) rfl hml (Nat.le_of_ble_eq_true rfl) rfl rfl rfl rfl ?_
          refine ei_go hb dX4_nextWaiting_69 (pc' := 14) (by decide) ?_
          exact ih q2 (y5 + 1) _ h _
        · rw [if_neg c3] at h
          refine ei_ifF hb dX4_nextWaiting_32 (pc' := 35) (t := 66) (decide_eq_false c3) (by decide) rfl ?_
          refine ei_aln hb dX4_nextWaiting_35 (pc' := 36) rfl rfl ?_
          rcases o0 with _ | j4
          · rw [Option.elim_none] at h
            refine ei_nuT hb dX4_nextWaiting_36 (pc' := 49) (by decide) ?_
            refine ei_aln hb dX4_nextWaiting_49 (pc' := 50) rfl rfl ?_
            rcases q2 with _ | j5
            · rw [Option.elim_none] at h
              refine ei_nuT hb dX4_nextWaiting_50 (pc' := 63) (by decide) ?_
              refine ei_al hb dX4_nextWaiting_63 (pc' := 65) rfl rfl ?_
              refine ei_asn hb dX4_nextWaiting_65 (pc' := 66) (ls' := [some (.inr (.inl (some ((4, 0, 0) : qz_N)))), some (.inr (.inl none)), some (.inr (.inl (some ((0, 0, (y5).toNatClampNeg) : qz_N)))), some (.inr (.inl (some ((13, 0, 0) : qz_N)))), some (.inl (30 : Int32)), some (.inl y5), some (.inr (.inl (some ((0, 0, (y5).toNatClampNeg) : qz_N))))]) hml (Nat.le_of_ble_eq_true rfl) rfl rfl rfl ?_
              refine ei_inc hb dX4_nextWaiting_66 (v := (y5 + 1)) (pc' := 69) (ls' := [some (.inr (.inl (some ((4, 0, 0) : qz_N)))), some (.inr (.inl none)), some (.inr (.inl (some ((0, 0, (y5).toNatClampNeg) : qz_N)))), some (.inr (.inl (some ((13, 0, 0) : qz_N)))), some (.inl (30 : Int32)), some (.inl (y5 + 1)), some (.inr (.inl (some ((0, 0, (y5).toNatClampNeg) : qz_N))))]) rfl hml (Nat.le_of_ble_eq_true rfl) rfl rfl rfl rfl ?_
              refine ei_go hb dX4_nextWaiting_69 (pc' := 14) (by decide) ?_
              exact ih (some ((y5).toNatClampNeg)) (y5 + 1) _ h _
            · rw [Option.elim_some] at h
              refine ei_nuF hb dX4_nextWaiting_50 (pc' := 53) (t := 63) (by decide) rfl ?_
              refine ei_aln hb dX4_nextWaiting_53 (pc' := 54) rfl rfl ?_
              refine ei_al hb dX4_nextWaiting_54 (pc' := 56) rfl rfl ?_
              refine ei_aln hb dX4_nextWaiting_56 (pc' := 57) rfl rfl ?_
              obtain ⟨x6, e7, h⟩ := Option.bind_eq_some_iff.mp h
              refine ei_cv hb dX4_nextWaiting_57 (pc' := 60) (M1 := (qz_mk f p)) (as := [.inr (.inl (some ((0, 0, (y5).toNatClampNeg) : qz_N))), .inr (.inl (some ((0, 0, j5) : qz_N)))]) (rest := []) (st' := [.inl x6]) hcn qz_c_4_128 qz_k_30 (qz_q_29_30) (Nat.le_of_ble_eq_true rfl) (Nat.le_of_ble_eq_true rfl) rfl rfl rfl rfl (vW_isLookedAtAheadOf F f p ((y5).toNatClampNeg) j5 _ e7) rfl rfl ?_
              by_cases c8 : x6 = 0
              · rw [if_pos c8] at h
                refine ei_ifT hb dX4_nextWaiting_60 (pc' := 66) (decide_eq_true c8) (by decide) ?_
                refine ei_inc hb dX4_nextWaiting_66 (v := (y5 + 1)) (pc' := 69) (ls' := [some (.inr (.inl (some ((4, 0, 0) : qz_N)))), some (.inr (.inl none)), some (.inr (.inl (some ((0, 0, j5) : qz_N)))), some (.inr (.inl (some ((13, 0, 0) : qz_N)))), some (.inl (30 : Int32)), some (.inl (y5 + 1)), some (.inr (.inl (some ((0, 0, (y5).toNatClampNeg) : qz_N))))]) rfl hml (Nat.le_of_ble_eq_true rfl) rfl rfl rfl rfl ?_
                refine ei_go hb dX4_nextWaiting_69 (pc' := 14) (by decide) ?_
                exact ih (some j5) (y5 + 1) _ h _
              · rw [if_neg c8] at h
                refine ei_ifF hb dX4_nextWaiting_60 (pc' := 63) (t := 66) (decide_eq_false c8) (by decide) rfl ?_
                refine ei_al hb dX4_nextWaiting_63 (pc' := 65) rfl rfl ?_
                refine ei_asn hb dX4_nextWaiting_65 (pc' := 66) (ls' := [some (.inr (.inl (some ((4, 0, 0) : qz_N)))), some (.inr (.inl none)), some (.inr (.inl (some ((0, 0, (y5).toNatClampNeg) : qz_N)))), some (.inr (.inl (some ((13, 0, 0) : qz_N)))), some (.inl (30 : Int32)), some (.inl y5), some (.inr (.inl (some ((0, 0, (y5).toNatClampNeg) : qz_N))))]) hml (Nat.le_of_ble_eq_true rfl) rfl rfl rfl ?_
                refine ei_inc hb dX4_nextWaiting_66 (v := (y5 + 1)) (pc' := 69) (ls' := [some (.inr (.inl (some ((4, 0, 0) : qz_N)))), some (.inr (.inl none)), some (.inr (.inl (some ((0, 0, (y5).toNatClampNeg) : qz_N)))), some (.inr (.inl (some ((13, 0, 0) : qz_N)))), some (.inl (30 : Int32)), some (.inl (y5 + 1)), some (.inr (.inl (some ((0, 0, (y5).toNatClampNeg) : qz_N))))]) rfl hml (Nat.le_of_ble_eq_true rfl) rfl rfl rfl rfl ?_
                refine ei_go hb dX4_nextWaiting_69 (pc' := 14) (by decide) ?_
                exact ih (some ((y5).toNatClampNeg)) (y5 + 1) _ h _
          · rw [Option.elim_some] at h
            refine ei_nuF hb dX4_nextWaiting_36 (pc' := 39) (t := 49) (by decide) rfl ?_
            refine ei_aln hb dX4_nextWaiting_39 (pc' := 40) rfl rfl ?_
            refine ei_aln hb dX4_nextWaiting_40 (pc' := 41) rfl rfl ?_
            refine ei_al hb dX4_nextWaiting_41 (pc' := 43) rfl rfl ?_
            obtain ⟨x9, e10, h⟩ := Option.bind_eq_some_iff.mp h
            refine ei_cv hb dX4_nextWaiting_43 (pc' := 46) (M1 := (qz_mk f p)) (as := [.inr (.inl (some ((0, 0, j4) : qz_N))), .inr (.inl (some ((0, 0, (y5).toNatClampNeg) : qz_N)))]) (rest := []) (st' := [.inl x9]) hcn qz_c_4_128 qz_k_30 (qz_q_29_30) (Nat.le_of_ble_eq_true rfl) (Nat.le_of_ble_eq_true rfl) rfl rfl rfl rfl (vW_isLookedAtAheadOf F f p j4 ((y5).toNatClampNeg) _ e10) rfl rfl ?_
            by_cases c11 : x9 = 0
            · rw [if_pos c11] at h
              refine ei_ifT hb dX4_nextWaiting_46 (pc' := 66) (decide_eq_true c11) (by decide) ?_
              refine ei_inc hb dX4_nextWaiting_66 (v := (y5 + 1)) (pc' := 69) (ls' := [some (.inr (.inl (some ((4, 0, 0) : qz_N)))), some (.inr (.inl (some ((0, 0, j4) : qz_N)))), some (.inr (.inl (qz_bo q2))), some (.inr (.inl (some ((13, 0, 0) : qz_N)))), some (.inl (30 : Int32)), some (.inl (y5 + 1)), some (.inr (.inl (some ((0, 0, (y5).toNatClampNeg) : qz_N))))]) rfl hml (Nat.le_of_ble_eq_true rfl) rfl rfl rfl rfl ?_
              refine ei_go hb dX4_nextWaiting_69 (pc' := 14) (by decide) ?_
              exact ih q2 (y5 + 1) _ h _
            · rw [if_neg c11] at h
              refine ei_ifF hb dX4_nextWaiting_46 (pc' := 49) (t := 66) (decide_eq_false c11) (by decide) rfl ?_
              refine ei_aln hb dX4_nextWaiting_49 (pc' := 50) rfl rfl ?_
              rcases q2 with _ | j12
              · rw [Option.elim_none] at h
                refine ei_nuT hb dX4_nextWaiting_50 (pc' := 63) (by decide) ?_
                refine ei_al hb dX4_nextWaiting_63 (pc' := 65) rfl rfl ?_
                refine ei_asn hb dX4_nextWaiting_65 (pc' := 66) (ls' := [some (.inr (.inl (some ((4, 0, 0) : qz_N)))), some (.inr (.inl (some ((0, 0, j4) : qz_N)))), some (.inr (.inl (some ((0, 0, (y5).toNatClampNeg) : qz_N)))), some (.inr (.inl (some ((13, 0, 0) : qz_N)))), some (.inl (30 : Int32)), some (.inl y5), some (.inr (.inl (some ((0, 0, (y5).toNatClampNeg) : qz_N))))]) hml (Nat.le_of_ble_eq_true rfl) rfl rfl rfl ?_
                refine ei_inc hb dX4_nextWaiting_66 (v := (y5 + 1)) (pc' := 69) (ls' := [some (.inr (.inl (some ((4, 0, 0) : qz_N)))), some (.inr (.inl (some ((0, 0, j4) : qz_N)))), some (.inr (.inl (some ((0, 0, (y5).toNatClampNeg) : qz_N)))), some (.inr (.inl (some ((13, 0, 0) : qz_N)))), some (.inl (30 : Int32)), some (.inl (y5 + 1)), some (.inr (.inl (some ((0, 0, (y5).toNatClampNeg) : qz_N))))]) rfl hml (Nat.le_of_ble_eq_true rfl) rfl rfl rfl rfl ?_
                refine ei_go hb dX4_nextWaiting_69 (pc' := 14) (by decide) ?_
                exact ih (some ((y5).toNatClampNeg)) (y5 + 1) _ h _
              · rw [Option.elim_some] at h
                refine ei_nuF hb dX4_nextWaiting_50 (pc' := 53) (t := 63) (by decide) rfl ?_
                refine ei_aln hb dX4_nextWaiting_53 (pc' := 54) rfl rfl ?_
                refine ei_al hb dX4_nextWaiting_54 (pc' := 56) rfl rfl ?_
                refine ei_aln hb dX4_nextWaiting_56 (pc' := 57) rfl rfl ?_
                obtain ⟨x13, e14, h⟩ := Option.bind_eq_some_iff.mp h
                refine ei_cv hb dX4_nextWaiting_57 (pc' := 60) (M1 := (qz_mk f p)) (as := [.inr (.inl (some ((0, 0, (y5).toNatClampNeg) : qz_N))), .inr (.inl (some ((0, 0, j12) : qz_N)))]) (rest := []) (st' := [.inl x13]) hcn qz_c_4_128 qz_k_30 (qz_q_29_30) (Nat.le_of_ble_eq_true rfl) (Nat.le_of_ble_eq_true rfl) rfl rfl rfl rfl (vW_isLookedAtAheadOf F f p ((y5).toNatClampNeg) j12 _ e14) rfl rfl ?_
                by_cases c15 : x13 = 0
                · rw [if_pos c15] at h
                  refine ei_ifT hb dX4_nextWaiting_60 (pc' := 66) (decide_eq_true c15) (by decide) ?_
                  refine ei_inc hb dX4_nextWaiting_66 (v := (y5 + 1)) (pc' := 69) (ls' := [some (.inr (.inl (some ((4, 0, 0) : qz_N)))), some (.inr (.inl (some ((0, 0, j4) : qz_N)))), some (.inr (.inl (some ((0, 0, j12) : qz_N)))), some (.inr (.inl (some ((13, 0, 0) : qz_N)))), some (.inl (30 : Int32)), some (.inl (y5 + 1)), some (.inr (.inl (some ((0, 0, (y5).toNatClampNeg) : qz_N))))]) rfl hml (Nat.le_of_ble_eq_true rfl) rfl rfl rfl rfl ?_
                  refine ei_go hb dX4_nextWaiting_69 (pc' := 14) (by decide) ?_
                  exact ih (some j12) (y5 + 1) _ h _
                · rw [if_neg c15] at h
                  refine ei_ifF hb dX4_nextWaiting_60 (pc' := 63) (t := 66) (decide_eq_false c15) (by decide) rfl ?_
                  refine ei_al hb dX4_nextWaiting_63 (pc' := 65) rfl rfl ?_
                  refine ei_asn hb dX4_nextWaiting_65 (pc' := 66) (ls' := [some (.inr (.inl (some ((4, 0, 0) : qz_N)))), some (.inr (.inl (some ((0, 0, j4) : qz_N)))), some (.inr (.inl (some ((0, 0, (y5).toNatClampNeg) : qz_N)))), some (.inr (.inl (some ((13, 0, 0) : qz_N)))), some (.inl (30 : Int32)), some (.inl y5), some (.inr (.inl (some ((0, 0, (y5).toNatClampNeg) : qz_N))))]) hml (Nat.le_of_ble_eq_true rfl) rfl rfl rfl ?_
                  refine ei_inc hb dX4_nextWaiting_66 (v := (y5 + 1)) (pc' := 69) (ls' := [some (.inr (.inl (some ((4, 0, 0) : qz_N)))), some (.inr (.inl (some ((0, 0, j4) : qz_N)))), some (.inr (.inl (some ((0, 0, (y5).toNatClampNeg) : qz_N)))), some (.inr (.inl (some ((13, 0, 0) : qz_N)))), some (.inl (30 : Int32)), some (.inl (y5 + 1)), some (.inr (.inl (some ((0, 0, (y5).toNatClampNeg) : qz_N))))]) rfl hml (Nat.le_of_ble_eq_true rfl) rfl rfl rfl rfl ?_
                  refine ei_go hb dX4_nextWaiting_69 (pc' := 14) (by decide) ?_
                  exact ih (some ((y5).toNatClampNeg)) (y5 + 1) _ h _
      · rw [if_neg c2] at h
        cases h
set_option maxHeartbeats 4000000 in
theorem vW_nextWaiting (F : Nat) (f : qz_F) (p : Nat → Nat) (o0 : Option Nat) (r : Option Nat) (h : (gW_nextWaiting F f o0) = some r) : qz_E 29 0 (qz_in0 29 [.inr (.inl (some ((4, 0, 0) : qz_N))), .inr (.inl (qz_bo o0))]) [] (qz_mk f p) (some (.inr (.inl (qz_bo r)))) (qz_mk f p) := by
  have hb : qz_b 29 = cX4_nextWaiting := rfl
  have hcn : qz_cn 29 = 4 := rfl
  have hml : qz_ml 29 = 7 := rfl
  show qz_E 29 0 [some (.inr (.inl (some ((4, 0, 0) : qz_N)))), some (.inr (.inl (qz_bo o0))), none, none, none, none, none] [] _ _ _
  rw [gW_nextWaiting] at h
  refine ei_null hb dX4_nextWaiting_0 (pc' := 1) rfl ?_
  refine ei_asn hb dX4_nextWaiting_1 (pc' := 2) (ls' := [some (.inr (.inl (some ((4, 0, 0) : qz_N)))), some (.inr (.inl (qz_bo o0))), some (.inr (.inl none)), none, none, none, none]) hml (Nat.le_of_ble_eq_true rfl) rfl rfl rfl ?_
  refine ei_aln hb dX4_nextWaiting_2 (pc' := 3) rfl rfl ?_
  refine ei_gr hb dX4_nextWaiting_3 (pc' := 6) (x := some ((13, 0, 0) : qz_N)) hcn qz_f_4_30 rfl rfl rfl rfl ?_
  refine ei_asn hb dX4_nextWaiting_6 (pc' := 7) (ls' := [some (.inr (.inl (some ((4, 0, 0) : qz_N)))), some (.inr (.inl (qz_bo o0))), some (.inr (.inl none)), some (.inr (.inl (some ((13, 0, 0) : qz_N)))), none, none, none]) hml (Nat.le_of_ble_eq_true rfl) rfl rfl rfl ?_
  refine ei_aln hb dX4_nextWaiting_7 (pc' := 8) rfl rfl ?_
  refine ei_len hb dX4_nextWaiting_8 (pc' := 9) (x := (30 : Int32)) (show ¬ qz_at 13 = 0 by decide) rfl rfl ?_
  refine ei_is hb dX4_nextWaiting_9 (pc' := 11) (ls' := [some (.inr (.inl (some ((4, 0, 0) : qz_N)))), some (.inr (.inl (qz_bo o0))), some (.inr (.inl none)), some (.inr (.inl (some ((13, 0, 0) : qz_N)))), some (.inl (30 : Int32)), none, none]) hml (Nat.le_of_ble_eq_true rfl) rfl rfl rfl ?_
  refine ei_c hb dX4_nextWaiting_11 (v := (0 : Int32)) (pc' := 12) (by decide) rfl ?_
  refine ei_is hb dX4_nextWaiting_12 (pc' := 14) (ls' := [some (.inr (.inl (some ((4, 0, 0) : qz_N)))), some (.inr (.inl (qz_bo o0))), some (.inr (.inl none)), some (.inr (.inl (some ((13, 0, 0) : qz_N)))), some (.inl (30 : Int32)), some (.inl (0 : Int32)), none]) hml (Nat.le_of_ble_eq_true rfl) rfl rfl rfl ?_
  refine vW_nextWaiting_L14 F f p o0 _ ?_ F none (0 : Int32) _ h _
  intro q216 y517 r h d18
  refine ei_aln hb dX4_nextWaiting_72 (pc' := 73) rfl rfl ?_
  have h := Option.some.inj h
  subst h
  exact ei_reta hb dX4_nextWaiting_73 rfl
def gW_lookAtWaiting_L4 (F : Nat)  (K : (Option Nat → Int32 → qz_S → Option (qz_S))) : Nat → Option Nat → Int32 → qz_S → Option (qz_S)
  | 0, _, _, _ => none
  | n + 1, q1, y2, T => if (30 : Int32) ≤ y2 then (K q1 y2 T) else (Option.bind (gW_nextWaiting F T.1 q1) fun o2 => Option.elim o2 (some T) (fun j4 => Option.bind (gW_reason F T.1 (T.1 ((0, 0, j4) : qz_N) 2) (T.1 ((0, 0, j4) : qz_N) 1) (T.1 ((0, 0, j4) : qz_N) 3) none) fun x5 => if x5 = 0 then (qz_let (qz_wr T ((0, 0, j4) : qz_N) 4 (1 : Int32)) fun S8 => (gW_lookAtWaiting_L4 F K) n (some j4) (y2 + 1) S8) else ((gW_lookAtWaiting_L4 F K) n (some j4) (y2 + 1) T)))
def gW_lookAtWaiting (F : Nat) (S : qz_S)  : Option (qz_S) :=
  gW_lookAtWaiting_L4 F (fun q19 y210 T11 => some T11) F none (0 : Int32) S
set_option maxHeartbeats 4000000 in
theorem vW_lookAtWaiting_L4 (F : Nat)  (K : (Option Nat → Int32 → qz_S → Option (qz_S))) (hK : ∀ (q1 : Option Nat) (y2 : Int32) (T : qz_S) (r : qz_S), K q1 y2 T = some r → ∀ (d3 : Option qz_V), qz_E 28 57 [some (.inr (.inl (some ((4, 0, 0) : qz_N)))), some (.inr (.inl (qz_bo q1))), some (.inl y2), d3] [] (qz_mk T.1 T.2) none (qz_mk r.1 r.2)) : ∀ (n : Nat) (q1 : Option Nat) (y2 : Int32) (T : qz_S) (r : qz_S), gW_lookAtWaiting_L4 F K n q1 y2 T = some r → ∀ (d3 : Option qz_V), qz_E 28 4 [some (.inr (.inl (some ((4, 0, 0) : qz_N)))), some (.inr (.inl (qz_bo q1))), some (.inl y2), d3] [] (qz_mk T.1 T.2) none (qz_mk r.1 r.2) := by
  have hb : qz_b 28 = cX4_lookAtWaiting := rfl
  have hcn : qz_cn 28 = 4 := rfl
  have hml : qz_ml 28 = 4 := rfl
  intro n
  induction n with
  | zero =>
    intro q1 y2 T r h
    cases h
  | succ n ih =>
    intro q1 y2 T r h d3
    rw [gW_lookAtWaiting_L4] at h
    refine ei_iln hb dX4_lookAtWaiting_4 (pc' := 5) rfl rfl ?_
    refine ei_aln hb dX4_lookAtWaiting_5 (pc' := 6) rfl rfl ?_
    refine ei_gr hb dX4_lookAtWaiting_6 (pc' := 9) (x := some ((13, 0, 0) : qz_N)) hcn qz_f_4_30 rfl rfl rfl rfl ?_
    refine ei_len hb dX4_lookAtWaiting_9 (pc' := 10) (x := (30 : Int32)) (show ¬ qz_at 13 = 0 by decide) rfl rfl ?_
    by_cases c1 : (30 : Int32) ≤ y2
    · rw [if_pos c1] at h
      refine ei_icT hb dX4_lookAtWaiting_10 (pc' := 57) (decide_eq_true c1) (by decide) ?_
      exact hK q1 y2 T _ h _
    · rw [if_neg c1] at h
      refine ei_icF hb dX4_lookAtWaiting_10 (pc' := 13) (t := 57) (decide_eq_false c1) (by decide) rfl ?_
      refine ei_aln hb dX4_lookAtWaiting_13 (pc' := 14) rfl rfl ?_
      refine ei_aln hb dX4_lookAtWaiting_14 (pc' := 15) rfl rfl ?_
      obtain ⟨o2, e3, h⟩ := Option.bind_eq_some_iff.mp h
      refine ei_cv hb dX4_lookAtWaiting_15 (pc' := 18) (M1 := (qz_mk T.1 T.2)) (as := [.inr (.inl (qz_bo q1))]) (rest := []) (st' := [.inr (.inl (qz_bo o2))]) hcn qz_c_4_124 qz_k_29 (qz_q_28_29) (Nat.le_of_ble_eq_true rfl) (Nat.le_of_ble_eq_true rfl) rfl rfl rfl rfl (vW_nextWaiting F T.1 T.2 q1 _ e3) rfl rfl ?_
      refine ei_asn hb dX4_lookAtWaiting_18 (pc' := 19) (ls' := [some (.inr (.inl (some ((4, 0, 0) : qz_N)))), some (.inr (.inl (qz_bo q1))), some (.inl y2), some (.inr (.inl (qz_bo o2)))]) hml (Nat.le_of_ble_eq_true rfl) rfl rfl rfl ?_
      refine ei_aln hb dX4_lookAtWaiting_19 (pc' := 20) rfl rfl ?_
      rcases o2 with _ | j4
      · rw [Option.elim_none] at h
        refine ei_nnF hb dX4_lookAtWaiting_20 (pc' := 23) (t := 24) (by decide) rfl ?_
        have h := Option.some.inj h
        subst h
        exact ei_retv hb dX4_lookAtWaiting_23 rfl
      · rw [Option.elim_some] at h
        refine ei_nnT hb dX4_lookAtWaiting_20 (pc' := 24) (by decide) ?_
        refine ei_aln hb dX4_lookAtWaiting_24 (pc' := 25) rfl rfl ?_
        refine ei_aln hb dX4_lookAtWaiting_25 (pc' := 26) rfl rfl ?_
        refine ei_gi hb dX4_lookAtWaiting_26 (pc' := 29) (x := (T.1 ((0, 0, j4) : qz_N) 2)) hcn qz_f_4_89 rfl rfl rfl rfl ?_
        refine ei_aln hb dX4_lookAtWaiting_29 (pc' := 30) rfl rfl ?_
        refine ei_gi hb dX4_lookAtWaiting_30 (pc' := 33) (x := (T.1 ((0, 0, j4) : qz_N) 1)) hcn qz_f_4_86 rfl rfl rfl rfl ?_
        refine ei_aln hb dX4_lookAtWaiting_33 (pc' := 34) rfl rfl ?_
        refine ei_gi hb dX4_lookAtWaiting_34 (pc' := 37) (x := (T.1 ((0, 0, j4) : qz_N) 3)) hcn qz_f_4_92 rfl rfl rfl rfl ?_
        refine ei_null hb dX4_lookAtWaiting_37 (pc' := 38) rfl ?_
        obtain ⟨x5, e6, h⟩ := Option.bind_eq_some_iff.mp h
        refine ei_cv hb dX4_lookAtWaiting_38 (pc' := 41) (M1 := (qz_mk T.1 T.2)) (as := [.inl (T.1 ((0, 0, j4) : qz_N) 2), .inl (T.1 ((0, 0, j4) : qz_N) 1), .inl (T.1 ((0, 0, j4) : qz_N) 3), .inr (.inl none)]) (rest := []) (st' := [.inl x5]) hcn qz_c_4_82 qz_k_27 (qz_q_28_27) (Nat.le_of_ble_eq_true rfl) (Nat.le_of_ble_eq_true rfl) rfl rfl rfl rfl (vW_reason F T.1 T.2 (T.1 ((0, 0, j4) : qz_N) 2) (T.1 ((0, 0, j4) : qz_N) 1) (T.1 ((0, 0, j4) : qz_N) 3) none _ e6) rfl rfl ?_
        by_cases c7 : x5 = 0
        · rw [if_pos c7] at h
          refine ei_ifF hb dX4_lookAtWaiting_41 (pc' := 44) (t := 49) (decide_eq_false (fun q => q c7)) (by decide) rfl ?_
          refine ei_aln hb dX4_lookAtWaiting_44 (pc' := 45) rfl rfl ?_
          refine ei_c hb dX4_lookAtWaiting_45 (v := (1 : Int32)) (pc' := 46) (by decide) rfl ?_
          obtain ⟨S8, eS8⟩ : ∃ q, q = qz_wr T ((0, 0, j4) : qz_N) 4 (1 : Int32) := ⟨_, rfl⟩
          rw [qz_let, ← eS8] at h
          refine ei_pi hb dX4_lookAtWaiting_46 (pc' := 49) (M1 := (qz_mk S8.1 S8.2)) hcn qz_f_4_95 rfl rfl (fun _ => by decide) rfl (by rw [eS8]; rfl) rfl ?_
          refine ei_aln hb dX4_lookAtWaiting_49 (pc' := 50) rfl rfl ?_
          refine ei_asn hb dX4_lookAtWaiting_50 (pc' := 51) (ls' := [some (.inr (.inl (some ((4, 0, 0) : qz_N)))), some (.inr (.inl (some ((0, 0, j4) : qz_N)))), some (.inl y2), some (.inr (.inl (some ((0, 0, j4) : qz_N))))]) hml (Nat.le_of_ble_eq_true rfl) rfl rfl rfl ?_
          refine ei_inc hb dX4_lookAtWaiting_51 (v := (y2 + 1)) (pc' := 54) (ls' := [some (.inr (.inl (some ((4, 0, 0) : qz_N)))), some (.inr (.inl (some ((0, 0, j4) : qz_N)))), some (.inl (y2 + 1)), some (.inr (.inl (some ((0, 0, j4) : qz_N))))]) rfl hml (Nat.le_of_ble_eq_true rfl) rfl rfl rfl rfl ?_
          refine ei_go hb dX4_lookAtWaiting_54 (pc' := 4) (by decide) ?_
          exact ih (some j4) (y2 + 1) S8 _ h _
        · rw [if_neg c7] at h
          refine ei_ifT hb dX4_lookAtWaiting_41 (pc' := 49) (decide_eq_true c7) (by decide) ?_
          refine ei_aln hb dX4_lookAtWaiting_49 (pc' := 50) rfl rfl ?_
          refine ei_asn hb dX4_lookAtWaiting_50 (pc' := 51) (ls' := [some (.inr (.inl (some ((4, 0, 0) : qz_N)))), some (.inr (.inl (some ((0, 0, j4) : qz_N)))), some (.inl y2), some (.inr (.inl (some ((0, 0, j4) : qz_N))))]) hml (Nat.le_of_ble_eq_true rfl) rfl rfl rfl ?_
          refine ei_inc hb dX4_lookAtWaiting_51 (v := (y2 + 1)) (pc' := 54) (ls' := [some (.inr (.inl (some ((4, 0, 0) : qz_N)))), some (.inr (.inl (some ((0, 0, j4) : qz_N)))), some (.inl (y2 + 1)), some (.inr (.inl (some ((0, 0, j4) : qz_N))))]) rfl hml (Nat.le_of_ble_eq_true rfl) rfl rfl rfl rfl ?_
          refine ei_go hb dX4_lookAtWaiting_54 (pc' := 4) (by decide) ?_
          exact ih (some j4) (y2 + 1) T _ h _
set_option maxHeartbeats 4000000 in
theorem vW_lookAtWaiting (F : Nat) (S : qz_S)  (r : qz_S) (h : (gW_lookAtWaiting F S) = some r) : qz_E 28 0 (qz_in0 28 [.inr (.inl (some ((4, 0, 0) : qz_N)))]) [] (qz_mk S.1 S.2) none (qz_mk r.1 r.2) := by
  have hb : qz_b 28 = cX4_lookAtWaiting := rfl
  have hcn : qz_cn 28 = 4 := rfl
  have hml : qz_ml 28 = 4 := rfl
  show qz_E 28 0 [some (.inr (.inl (some ((4, 0, 0) : qz_N)))), none, none, none] [] _ _ _
  rw [gW_lookAtWaiting] at h
  refine ei_null hb dX4_lookAtWaiting_0 (pc' := 1) rfl ?_
  refine ei_asn hb dX4_lookAtWaiting_1 (pc' := 2) (ls' := [some (.inr (.inl (some ((4, 0, 0) : qz_N)))), some (.inr (.inl none)), none, none]) hml (Nat.le_of_ble_eq_true rfl) rfl rfl rfl ?_
  refine ei_c hb dX4_lookAtWaiting_2 (v := (0 : Int32)) (pc' := 3) (by decide) rfl ?_
  refine ei_isn hb dX4_lookAtWaiting_3 (pc' := 4) (ls' := [some (.inr (.inl (some ((4, 0, 0) : qz_N)))), some (.inr (.inl none)), some (.inl (0 : Int32)), none]) hml (Nat.le_of_ble_eq_true rfl) rfl rfl rfl ?_
  refine vW_lookAtWaiting_L4 F _ ?_ F none (0 : Int32) S _ h _
  intro q19 y210 T11 r h d12
  have h := Option.some.inj h
  subst h
  exact ei_retv hb dX4_lookAtWaiting_57 rfl
def gW_tie (F : Nat) (S : qz_S) (a0 : Int32) (a1 : Int32) (a2 : Int32) : Option (qz_S) :=
  if (gW_busIndex S.1 a0 a1) < 0 then (some S) else (if (20 : Int32) ≤ (gW_busIndex S.1 a0 a1) then (some S) else (if qz_xi (gW_busIndex S.1 a0 a1) 20 = true then (qz_let (qz_wr S ((11, 0, 0) : qz_N) ((gW_busIndex S.1 a0 a1)).toNatClampNeg a2) fun S4 => some S4) else none))
set_option maxHeartbeats 4000000 in
theorem vW_tie (F : Nat) (S : qz_S) (a0 : Int32) (a1 : Int32) (a2 : Int32) (r : qz_S) (h : (gW_tie F S a0 a1 a2) = some r) : qz_E 33 0 (qz_in0 33 [.inr (.inl (some ((4, 0, 0) : qz_N))), .inl a0, .inl a1, .inl a2]) [] (qz_mk S.1 S.2) none (qz_mk r.1 r.2) := by
  have hb : qz_b 33 = cX4_tie := rfl
  have hcn : qz_cn 33 = 4 := rfl
  have hml : qz_ml 33 = 5 := rfl
  show qz_E 33 0 [some (.inr (.inl (some ((4, 0, 0) : qz_N)))), some (.inl a0), some (.inl a1), some (.inl a2), none] [] _ _ _
  rw [gW_tie] at h
  refine ei_iln hb dX4_tie_0 (pc' := 1) rfl rfl ?_
  refine ei_iln hb dX4_tie_1 (pc' := 2) rfl rfl ?_
  refine ei_cs hb dX4_tie_2 (pc' := 5) (M1 := (qz_mk S.1 S.2)) (as := [.inl a0, .inl a1]) (rest := []) (st' := [.inl (gW_busIndex S.1 a0 a1)]) hcn qz_c_4_135 rfl qz_k_31 (qz_q_33_31) (Nat.le_of_ble_eq_true rfl) (Nat.le_of_ble_eq_true rfl) rfl rfl rfl (vW_busIndex S.1 S.2 a0 a1) rfl rfl ?_
  refine ei_is hb dX4_tie_5 (pc' := 7) (ls' := [some (.inr (.inl (some ((4, 0, 0) : qz_N)))), some (.inl a0), some (.inl a1), some (.inl a2), some (.inl (gW_busIndex S.1 a0 a1))]) hml (Nat.le_of_ble_eq_true rfl) rfl rfl rfl ?_
  refine ei_il hb dX4_tie_7 (pc' := 9) rfl rfl ?_
  by_cases c1 : (gW_busIndex S.1 a0 a1) < 0
  · rw [if_pos c1] at h
    refine ei_ifT hb dX4_tie_9 (pc' := 30) (decide_eq_true c1) (by decide) ?_
    have h := Option.some.inj h
    subst h
    exact ei_retv hb dX4_tie_30 rfl
  · rw [if_neg c1] at h
    refine ei_ifF hb dX4_tie_9 (pc' := 12) (t := 30) (decide_eq_false c1) (by decide) rfl ?_
    refine ei_il hb dX4_tie_12 (pc' := 14) rfl rfl ?_
    refine ei_aln hb dX4_tie_14 (pc' := 15) rfl rfl ?_
    refine ei_gr hb dX4_tie_15 (pc' := 18) (x := some ((11, 0, 0) : qz_N)) hcn qz_f_4_19 rfl rfl rfl rfl ?_
    refine ei_len hb dX4_tie_18 (pc' := 19) (x := (20 : Int32)) (show ¬ qz_at 11 = 0 by decide) rfl rfl ?_
    by_cases c2 : (20 : Int32) ≤ (gW_busIndex S.1 a0 a1)
    · rw [if_pos c2] at h
      refine ei_icT hb dX4_tie_19 (pc' := 30) (decide_eq_true c2) (by decide) ?_
      have h := Option.some.inj h
      subst h
      exact ei_retv hb dX4_tie_30 rfl
    · rw [if_neg c2] at h
      refine ei_icF hb dX4_tie_19 (pc' := 22) (t := 30) (decide_eq_false c2) (by decide) rfl ?_
      refine ei_aln hb dX4_tie_22 (pc' := 23) rfl rfl ?_
      refine ei_gr hb dX4_tie_23 (pc' := 26) (x := some ((11, 0, 0) : qz_N)) hcn qz_f_4_19 rfl rfl rfl rfl ?_
      refine ei_il hb dX4_tie_26 (pc' := 28) rfl rfl ?_
      refine ei_iln hb dX4_tie_28 (pc' := 29) rfl rfl ?_
      by_cases c3 : qz_xi (gW_busIndex S.1 a0 a1) 20 = true
      · rw [if_pos c3] at h
        obtain ⟨S4, eS4⟩ : ∃ q, q = qz_wr S ((11, 0, 0) : qz_N) ((gW_busIndex S.1 a0 a1)).toNatClampNeg a2 := ⟨_, rfl⟩
        rw [qz_let, ← eS4] at h
        refine ei_ist hb dX4_tie_29 (pc' := 30) (M1 := (qz_mk S4.1 S4.2)) rfl (Nat.le_of_ble_eq_true rfl) c3 (by rw [eS4]; rfl) rfl ?_
        have h := Option.some.inj h
        subst h
        exact ei_retv hb dX4_tie_30 rfl
      · rw [if_neg c3] at h
        cases h
def gW_pairCount_L13 (F : Nat) (f : qz_F)  (K : (Int32 → Int32 → Option (Int32))) : Nat → Int32 → Int32 → Option (Int32)
  | 0, _, _ => none
  | n + 1, y1, y4 => if (20 : Int32) ≤ y4 then (K y1 y4) else (if qz_xi y4 20 = true then (if (f ((11, 0, 0) : qz_N) (y4).toNatClampNeg) = (-5 : Int32) then ((gW_pairCount_L13 F f K) n y1 (y4 + 1)) else ((gW_pairCount_L13 F f K) n (y1 + 1) (y4 + 1))) else none)
def gW_pairCount (F : Nat) (f : qz_F)  : Option (Int32) :=
  gW_pairCount_L13 F f (fun y14 y45 => some (y14 / (2 : Int32))) F (0 : Int32) (0 : Int32)
set_option maxHeartbeats 4000000 in
theorem vW_pairCount_L13 (F : Nat) (f : qz_F) (p : Nat → Nat)  (K : (Int32 → Int32 → Option (Int32))) (hK : ∀ (y1 : Int32) (y4 : Int32) (r : Int32), K y1 y4 = some r → ∀ (d0 : Option qz_V) (d5 : Option qz_V), qz_E 34 41 [d0, some (.inl y1), some (.inr (.inl (some ((11, 0, 0) : qz_N)))), some (.inl (20 : Int32)), some (.inl y4), d5] [] (qz_mk f p) (some (.inl r)) (qz_mk f p)) : ∀ (n : Nat) (y1 : Int32) (y4 : Int32) (r : Int32), gW_pairCount_L13 F f K n y1 y4 = some r → ∀ (d0 : Option qz_V) (d5 : Option qz_V), qz_E 34 13 [d0, some (.inl y1), some (.inr (.inl (some ((11, 0, 0) : qz_N)))), some (.inl (20 : Int32)), some (.inl y4), d5] [] (qz_mk f p) (some (.inl r)) (qz_mk f p) := by
  have hb : qz_b 34 = cX4_pairCount := rfl
  have hcn : qz_cn 34 = 4 := rfl
  have hml : qz_ml 34 = 6 := rfl
  intro n
  induction n with
  | zero =>
    intro y1 y4 r h
    cases h
  | succ n ih =>
    intro y1 y4 r h d0 d5
    rw [gW_pairCount_L13] at h
    refine ei_il hb dX4_pairCount_13 (pc' := 15) rfl rfl ?_
    refine ei_iln hb dX4_pairCount_15 (pc' := 16) rfl rfl ?_
    by_cases c1 : (20 : Int32) ≤ y4
    · rw [if_pos c1] at h
      refine ei_icT hb dX4_pairCount_16 (pc' := 41) (decide_eq_true c1) (by decide) ?_
      exact hK y1 y4 _ h _ _
    · rw [if_neg c1] at h
      refine ei_icF hb dX4_pairCount_16 (pc' := 19) (t := 41) (decide_eq_false c1) (by decide) rfl ?_
      refine ei_aln hb dX4_pairCount_19 (pc' := 20) rfl rfl ?_
      refine ei_il hb dX4_pairCount_20 (pc' := 22) rfl rfl ?_
      by_cases c2 : qz_xi y4 20 = true
      · rw [if_pos c2] at h
        refine ei_ia hb dX4_pairCount_22 (pc' := 23) (x := (f ((11, 0, 0) : qz_N) (y4).toNatClampNeg)) rfl c2 rfl rfl ?_
        refine ei_is hb dX4_pairCount_23 (pc' := 25) (ls' := [d0, some (.inl y1), some (.inr (.inl (some ((11, 0, 0) : qz_N)))), some (.inl (20 : Int32)), some (.inl y4), some (.inl (f ((11, 0, 0) : qz_N) (y4).toNatClampNeg))]) hml (Nat.le_of_ble_eq_true rfl) rfl rfl rfl ?_
        refine ei_il hb dX4_pairCount_25 (pc' := 27) rfl rfl ?_
        refine ei_b hb dX4_pairCount_27 (v := (-5 : Int32)) (pc' := 29) (by decide) rfl ?_
        by_cases c3 : (f ((11, 0, 0) : qz_N) (y4).toNatClampNeg) = (-5 : Int32)
        · rw [if_pos c3] at h
          refine ei_icT hb dX4_pairCount_29 (pc' := 35) (decide_eq_true c3) (by decide) ?_
          refine ei_inc hb dX4_pairCount_35 (v := (y4 + 1)) (pc' := 38) (ls' := [d0, some (.inl y1), some (.inr (.inl (some ((11, 0, 0) : qz_N)))), some (.inl (20 : Int32)), some (.inl (y4 + 1)), some (.inl (f ((11, 0, 0) : qz_N) (y4).toNatClampNeg))]) rfl hml (Nat.le_of_ble_eq_true rfl) rfl rfl rfl rfl ?_
          refine ei_go hb dX4_pairCount_38 (pc' := 13) (by decide) ?_
          exact ih y1 (y4 + 1) _ h _ _
        · rw [if_neg c3] at h
          refine ei_icF hb dX4_pairCount_29 (pc' := 32) (t := 35) (decide_eq_false c3) (by decide) rfl ?_
          refine ei_inc hb dX4_pairCount_32 (v := (y1 + 1)) (pc' := 35) (ls' := [d0, some (.inl (y1 + 1)), some (.inr (.inl (some ((11, 0, 0) : qz_N)))), some (.inl (20 : Int32)), some (.inl y4), some (.inl (f ((11, 0, 0) : qz_N) (y4).toNatClampNeg))]) rfl hml (Nat.le_of_ble_eq_true rfl) rfl rfl rfl rfl ?_
          refine ei_inc hb dX4_pairCount_35 (v := (y4 + 1)) (pc' := 38) (ls' := [d0, some (.inl (y1 + 1)), some (.inr (.inl (some ((11, 0, 0) : qz_N)))), some (.inl (20 : Int32)), some (.inl (y4 + 1)), some (.inl (f ((11, 0, 0) : qz_N) (y4).toNatClampNeg))]) rfl hml (Nat.le_of_ble_eq_true rfl) rfl rfl rfl rfl ?_
          refine ei_go hb dX4_pairCount_38 (pc' := 13) (by decide) ?_
          exact ih (y1 + 1) (y4 + 1) _ h _ _
      · rw [if_neg c2] at h
        cases h
set_option maxHeartbeats 4000000 in
theorem vW_pairCount (F : Nat) (f : qz_F) (p : Nat → Nat)  (r : Int32) (h : (gW_pairCount F f) = some r) : qz_E 34 0 (qz_in0 34 [.inr (.inl (some ((4, 0, 0) : qz_N)))]) [] (qz_mk f p) (some (.inl r)) (qz_mk f p) := by
  have hb : qz_b 34 = cX4_pairCount := rfl
  have hcn : qz_cn 34 = 4 := rfl
  have hml : qz_ml 34 = 6 := rfl
  show qz_E 34 0 [some (.inr (.inl (some ((4, 0, 0) : qz_N)))), none, none, none, none, none] [] _ _ _
  rw [gW_pairCount] at h
  refine ei_c hb dX4_pairCount_0 (v := (0 : Int32)) (pc' := 1) (by decide) rfl ?_
  refine ei_isn hb dX4_pairCount_1 (pc' := 2) (ls' := [some (.inr (.inl (some ((4, 0, 0) : qz_N)))), some (.inl (0 : Int32)), none, none, none, none]) hml (Nat.le_of_ble_eq_true rfl) rfl rfl rfl ?_
  refine ei_aln hb dX4_pairCount_2 (pc' := 3) rfl rfl ?_
  refine ei_gr hb dX4_pairCount_3 (pc' := 6) (x := some ((11, 0, 0) : qz_N)) hcn qz_f_4_19 rfl rfl rfl rfl ?_
  refine ei_asn hb dX4_pairCount_6 (pc' := 7) (ls' := [some (.inr (.inl (some ((4, 0, 0) : qz_N)))), some (.inl (0 : Int32)), some (.inr (.inl (some ((11, 0, 0) : qz_N)))), none, none, none]) hml (Nat.le_of_ble_eq_true rfl) rfl rfl rfl ?_
  refine ei_aln hb dX4_pairCount_7 (pc' := 8) rfl rfl ?_
  refine ei_len hb dX4_pairCount_8 (pc' := 9) (x := (20 : Int32)) (show ¬ qz_at 11 = 0 by decide) rfl rfl ?_
  refine ei_isn hb dX4_pairCount_9 (pc' := 10) (ls' := [some (.inr (.inl (some ((4, 0, 0) : qz_N)))), some (.inl (0 : Int32)), some (.inr (.inl (some ((11, 0, 0) : qz_N)))), some (.inl (20 : Int32)), none, none]) hml (Nat.le_of_ble_eq_true rfl) rfl rfl rfl ?_
  refine ei_c hb dX4_pairCount_10 (v := (0 : Int32)) (pc' := 11) (by decide) rfl ?_
  refine ei_is hb dX4_pairCount_11 (pc' := 13) (ls' := [some (.inr (.inl (some ((4, 0, 0) : qz_N)))), some (.inl (0 : Int32)), some (.inr (.inl (some ((11, 0, 0) : qz_N)))), some (.inl (20 : Int32)), some (.inl (0 : Int32)), none]) hml (Nat.le_of_ble_eq_true rfl) rfl rfl rfl ?_
  refine vW_pairCount_L13 F f p _ ?_ F (0 : Int32) (0 : Int32) _ h _ _
  intro y14 y45 r h d6 d7
  refine ei_iln hb dX4_pairCount_41 (pc' := 42) rfl rfl ?_
  refine ei_c hb dX4_pairCount_42 (v := (2 : Int32)) (pc' := 43) (by decide) rfl ?_
  refine ei_div hb dX4_pairCount_43 (pc' := 44) (by decide) rfl ?_
  have h := Option.some.inj h
  subst h
  exact ei_reti hb dX4_pairCount_44 rfl
def gW_startOfBusOf (F : Nat) (f : qz_F) (b0 : Nat) : Option (Int32) :=
  Option.bind (gW_partnerOf F f (f ((0, 0, b0) : qz_N) 2) (f ((0, 0, b0) : qz_N) 1)) fun x1 => Option.bind (gW_startOf F f (f ((0, 0, b0) : qz_N) 1) x1) fun x3 => some x3
set_option maxHeartbeats 4000000 in
theorem vW_startOfBusOf (F : Nat) (f : qz_F) (p : Nat → Nat) (b0 : Nat) (r : Int32) (h : (gW_startOfBusOf F f b0) = some r) : qz_E 36 0 (qz_in0 36 [.inr (.inl (some ((4, 0, 0) : qz_N))), .inr (.inl (some ((0, 0, b0) : qz_N)))]) [] (qz_mk f p) (some (.inl r)) (qz_mk f p) := by
  have hb : qz_b 36 = cX4_startOfBusOf := rfl
  have hcn : qz_cn 36 = 4 := rfl
  have hml : qz_ml 36 = 2 := rfl
  show qz_E 36 0 [some (.inr (.inl (some ((4, 0, 0) : qz_N)))), some (.inr (.inl (some ((0, 0, b0) : qz_N))))] [] _ _ _
  rw [gW_startOfBusOf] at h
  refine ei_aln hb dX4_startOfBusOf_0 (pc' := 1) rfl rfl ?_
  refine ei_aln hb dX4_startOfBusOf_1 (pc' := 2) rfl rfl ?_
  refine ei_gi hb dX4_startOfBusOf_2 (pc' := 5) (x := (f ((0, 0, b0) : qz_N) 1)) hcn qz_f_4_86 rfl rfl rfl rfl ?_
  refine ei_aln hb dX4_startOfBusOf_5 (pc' := 6) rfl rfl ?_
  refine ei_aln hb dX4_startOfBusOf_6 (pc' := 7) rfl rfl ?_
  refine ei_gi hb dX4_startOfBusOf_7 (pc' := 10) (x := (f ((0, 0, b0) : qz_N) 2)) hcn qz_f_4_89 rfl rfl rfl rfl ?_
  refine ei_aln hb dX4_startOfBusOf_10 (pc' := 11) rfl rfl ?_
  refine ei_gi hb dX4_startOfBusOf_11 (pc' := 14) (x := (f ((0, 0, b0) : qz_N) 1)) hcn qz_f_4_86 rfl rfl rfl rfl ?_
  obtain ⟨x1, e2, h⟩ := Option.bind_eq_some_iff.mp h
  refine ei_cv hb dX4_startOfBusOf_14 (pc' := 17) (M1 := (qz_mk f p)) (as := [.inl (f ((0, 0, b0) : qz_N) 2), .inl (f ((0, 0, b0) : qz_N) 1)]) (rest := [.inl (f ((0, 0, b0) : qz_N) 1), .inr (.inl (some ((4, 0, 0) : qz_N)))]) (st' := [.inl x1, .inl (f ((0, 0, b0) : qz_N) 1), .inr (.inl (some ((4, 0, 0) : qz_N)))]) hcn qz_c_4_106 qz_k_32 (qz_q_36_32) (Nat.le_of_ble_eq_true rfl) (Nat.le_of_ble_eq_true rfl) rfl rfl rfl rfl (vW_partnerOf F f p (f ((0, 0, b0) : qz_N) 2) (f ((0, 0, b0) : qz_N) 1) _ e2) rfl rfl ?_
  obtain ⟨x3, e4, h⟩ := Option.bind_eq_some_iff.mp h
  refine ei_cv hb dX4_startOfBusOf_17 (pc' := 20) (M1 := (qz_mk f p)) (as := [.inl (f ((0, 0, b0) : qz_N) 1), .inl x1]) (rest := []) (st' := [.inl x3]) hcn qz_c_4_117 qz_k_35 (qz_q_36_35) (Nat.le_of_ble_eq_true rfl) (Nat.le_of_ble_eq_true rfl) rfl rfl rfl rfl (vW_startOf F f p (f ((0, 0, b0) : qz_N) 1) x1 _ e4) rfl rfl ?_
  have h := Option.some.inj h
  subst h
  exact ei_reti hb dX4_startOfBusOf_20 rfl
def gW_waitingFor_L17 (F : Nat) (f : qz_F) (a0 : Int32) (a1 : Int32) (a2 : Int32) (K : (Int32 → Int32 → Option (Int32))) : Nat → Int32 → Int32 → Option (Int32)
  | 0, _, _ => none
  | n + 1, y4, y7 => if (30 : Int32) ≤ y7 then (K y4 y7) else (if qz_xi y7 30 = true then (if (gB_isWaiting f ((y7).toNatClampNeg)) = 0 then ((gW_waitingFor_L17 F f a0 a1 a2 K) n y4 (y7 + 1)) else (if (gB_isOfBus f ((y7).toNatClampNeg) a0 a1 a2) = 0 then ((gW_waitingFor_L17 F f a0 a1 a2 K) n y4 (y7 + 1)) else ((gW_waitingFor_L17 F f a0 a1 a2 K) n (y4 + 1) (y7 + 1)))) else none)
def gW_waitingFor (F : Nat) (f : qz_F) (a0 : Int32) (a1 : Int32) (a2 : Int32) : Option (Int32) :=
  gW_waitingFor_L17 F f a0 a1 a2 (fun y45 y76 => some y45) F (0 : Int32) (0 : Int32)
set_option maxHeartbeats 4000000 in
theorem vW_waitingFor_L17 (F : Nat) (f : qz_F) (p : Nat → Nat) (a0 : Int32) (a1 : Int32) (a2 : Int32) (K : (Int32 → Int32 → Option (Int32))) (hK : ∀ (y4 : Int32) (y7 : Int32) (r : Int32), K y4 y7 = some r → ∀ (d0 : Option qz_V) (d8 : Option qz_V), qz_E 40 59 [d0, some (.inl a0), some (.inl a1), some (.inl a2), some (.inl y4), some (.inr (.inl (some ((13, 0, 0) : qz_N)))), some (.inl (30 : Int32)), some (.inl y7), d8] [] (qz_mk f p) (some (.inl r)) (qz_mk f p)) : ∀ (n : Nat) (y4 : Int32) (y7 : Int32) (r : Int32), gW_waitingFor_L17 F f a0 a1 a2 K n y4 y7 = some r → ∀ (d0 : Option qz_V) (d8 : Option qz_V), qz_E 40 17 [d0, some (.inl a0), some (.inl a1), some (.inl a2), some (.inl y4), some (.inr (.inl (some ((13, 0, 0) : qz_N)))), some (.inl (30 : Int32)), some (.inl y7), d8] [] (qz_mk f p) (some (.inl r)) (qz_mk f p) := by
  have hb : qz_b 40 = cX4_waitingFor := rfl
  have hcn : qz_cn 40 = 4 := rfl
  have hml : qz_ml 40 = 9 := rfl
  intro n
  induction n with
  | zero =>
    intro y4 y7 r h
    cases h
  | succ n ih =>
    intro y4 y7 r h d0 d8
    rw [gW_waitingFor_L17] at h
    refine ei_il hb dX4_waitingFor_17 (pc' := 19) rfl rfl ?_
    refine ei_il hb dX4_waitingFor_19 (pc' := 21) rfl rfl ?_
    by_cases c1 : (30 : Int32) ≤ y7
    · rw [if_pos c1] at h
      refine ei_icT hb dX4_waitingFor_21 (pc' := 59) (decide_eq_true c1) (by decide) ?_
      exact hK y4 y7 _ h _ _
    · rw [if_neg c1] at h
      refine ei_icF hb dX4_waitingFor_21 (pc' := 24) (t := 59) (decide_eq_false c1) (by decide) rfl ?_
      refine ei_al hb dX4_waitingFor_24 (pc' := 26) rfl rfl ?_
      refine ei_il hb dX4_waitingFor_26 (pc' := 28) rfl rfl ?_
      by_cases c2 : qz_xi y7 30 = true
      · rw [if_pos c2] at h
        refine ei_aa hb dX4_waitingFor_28 (pc' := 29) (x := some ((0, 0, (y7).toNatClampNeg) : qz_N)) (show 4 ≤ qz_at 13 by decide) c2 (qz_fr_13 (by decide) c2) rfl ?_
        refine ei_as hb dX4_waitingFor_29 (pc' := 31) (ls' := [d0, some (.inl a0), some (.inl a1), some (.inl a2), some (.inl y4), some (.inr (.inl (some ((13, 0, 0) : qz_N)))), some (.inl (30 : Int32)), some (.inl y7), some (.inr (.inl (some ((0, 0, (y7).toNatClampNeg) : qz_N))))]) hml (Nat.le_of_ble_eq_true rfl) rfl rfl rfl ?_
        refine ei_al hb dX4_waitingFor_31 (pc' := 33) rfl rfl ?_
        refine ei_cv hb dX4_waitingFor_33 (pc' := 36) (M1 := (qz_mk f p)) (as := []) (rest := []) (st' := [.inl (gB_isWaiting f ((y7).toNatClampNeg))]) hcn qz_c_4_99 qz_k_2 (qz_q_40_2) (Nat.le_of_ble_eq_true rfl) (Nat.le_of_ble_eq_true rfl) rfl rfl rfl rfl (vB_isWaiting f p ((y7).toNatClampNeg)) rfl rfl ?_
        by_cases c3 : (gB_isWaiting f ((y7).toNatClampNeg)) = 0
        · rw [if_pos c3] at h
          refine ei_ifT hb dX4_waitingFor_36 (pc' := 53) (decide_eq_true c3) (by decide) ?_
          refine ei_inc hb dX4_waitingFor_53 (v := (y7 + 1)) (pc' := 56) (ls' := [d0, some (.inl a0), some (.inl a1), some (.inl a2), some (.inl y4), some (.inr (.inl (some ((13, 0, 0) : qz_N)))), some (.inl (30 : Int32)), some (.inl (y7 + 1)), some (.inr (.inl (some ((0, 0, (y7).toNatClampNeg) : qz_N))))]) rfl hml (Nat.le_of_ble_eq_true rfl) rfl rfl rfl rfl ?_
          refine ei_go hb dX4_waitingFor_56 (pc' := 17) (by decide) ?_
          exact ih y4 (y7 + 1) _ h _ _
        · rw [if_neg c3] at h
          refine ei_ifF hb dX4_waitingFor_36 (pc' := 39) (t := 53) (decide_eq_false c3) (by decide) rfl ?_
          refine ei_al hb dX4_waitingFor_39 (pc' := 41) rfl rfl ?_
          refine ei_iln hb dX4_waitingFor_41 (pc' := 42) rfl rfl ?_
          refine ei_iln hb dX4_waitingFor_42 (pc' := 43) rfl rfl ?_
          refine ei_iln hb dX4_waitingFor_43 (pc' := 44) rfl rfl ?_
          refine ei_cv hb dX4_waitingFor_44 (pc' := 47) (M1 := (qz_mk f p)) (as := [.inl a0, .inl a1, .inl a2]) (rest := []) (st' := [.inl (gB_isOfBus f ((y7).toNatClampNeg) a0 a1 a2)]) hcn qz_c_4_150 qz_k_4 (qz_q_40_4) (Nat.le_of_ble_eq_true rfl) (Nat.le_of_ble_eq_true rfl) rfl rfl rfl rfl (vB_isOfBus f p ((y7).toNatClampNeg) a0 a1 a2) rfl rfl ?_
          by_cases c4 : (gB_isOfBus f ((y7).toNatClampNeg) a0 a1 a2) = 0
          · rw [if_pos c4] at h
            refine ei_ifT hb dX4_waitingFor_47 (pc' := 53) (decide_eq_true c4) (by decide) ?_
            refine ei_inc hb dX4_waitingFor_53 (v := (y7 + 1)) (pc' := 56) (ls' := [d0, some (.inl a0), some (.inl a1), some (.inl a2), some (.inl y4), some (.inr (.inl (some ((13, 0, 0) : qz_N)))), some (.inl (30 : Int32)), some (.inl (y7 + 1)), some (.inr (.inl (some ((0, 0, (y7).toNatClampNeg) : qz_N))))]) rfl hml (Nat.le_of_ble_eq_true rfl) rfl rfl rfl rfl ?_
            refine ei_go hb dX4_waitingFor_56 (pc' := 17) (by decide) ?_
            exact ih y4 (y7 + 1) _ h _ _
          · rw [if_neg c4] at h
            refine ei_ifF hb dX4_waitingFor_47 (pc' := 50) (t := 53) (decide_eq_false c4) (by decide) rfl ?_
            refine ei_inc hb dX4_waitingFor_50 (v := (y4 + 1)) (pc' := 53) (ls' := [d0, some (.inl a0), some (.inl a1), some (.inl a2), some (.inl (y4 + 1)), some (.inr (.inl (some ((13, 0, 0) : qz_N)))), some (.inl (30 : Int32)), some (.inl y7), some (.inr (.inl (some ((0, 0, (y7).toNatClampNeg) : qz_N))))]) rfl hml (Nat.le_of_ble_eq_true rfl) rfl rfl rfl rfl ?_
            refine ei_inc hb dX4_waitingFor_53 (v := (y7 + 1)) (pc' := 56) (ls' := [d0, some (.inl a0), some (.inl a1), some (.inl a2), some (.inl (y4 + 1)), some (.inr (.inl (some ((13, 0, 0) : qz_N)))), some (.inl (30 : Int32)), some (.inl (y7 + 1)), some (.inr (.inl (some ((0, 0, (y7).toNatClampNeg) : qz_N))))]) rfl hml (Nat.le_of_ble_eq_true rfl) rfl rfl rfl rfl ?_
            refine ei_go hb dX4_waitingFor_56 (pc' := 17) (by decide) ?_
            exact ih (y4 + 1) (y7 + 1) _ h _ _
      · rw [if_neg c2] at h
        cases h
set_option maxHeartbeats 4000000 in
theorem vW_waitingFor (F : Nat) (f : qz_F) (p : Nat → Nat) (a0 : Int32) (a1 : Int32) (a2 : Int32) (r : Int32) (h : (gW_waitingFor F f a0 a1 a2) = some r) : qz_E 40 0 (qz_in0 40 [.inr (.inl (some ((4, 0, 0) : qz_N))), .inl a0, .inl a1, .inl a2]) [] (qz_mk f p) (some (.inl r)) (qz_mk f p) := by
  have hb : qz_b 40 = cX4_waitingFor := rfl
  have hcn : qz_cn 40 = 4 := rfl
  have hml : qz_ml 40 = 9 := rfl
  show qz_E 40 0 [some (.inr (.inl (some ((4, 0, 0) : qz_N)))), some (.inl a0), some (.inl a1), some (.inl a2), none, none, none, none, none] [] _ _ _
  rw [gW_waitingFor] at h
  refine ei_c hb dX4_waitingFor_0 (v := (0 : Int32)) (pc' := 1) (by decide) rfl ?_
  refine ei_is hb dX4_waitingFor_1 (pc' := 3) (ls' := [some (.inr (.inl (some ((4, 0, 0) : qz_N)))), some (.inl a0), some (.inl a1), some (.inl a2), some (.inl (0 : Int32)), none, none, none, none]) hml (Nat.le_of_ble_eq_true rfl) rfl rfl rfl ?_
  refine ei_aln hb dX4_waitingFor_3 (pc' := 4) rfl rfl ?_
  refine ei_gr hb dX4_waitingFor_4 (pc' := 7) (x := some ((13, 0, 0) : qz_N)) hcn qz_f_4_30 rfl rfl rfl rfl ?_
  refine ei_as hb dX4_waitingFor_7 (pc' := 9) (ls' := [some (.inr (.inl (some ((4, 0, 0) : qz_N)))), some (.inl a0), some (.inl a1), some (.inl a2), some (.inl (0 : Int32)), some (.inr (.inl (some ((13, 0, 0) : qz_N)))), none, none, none]) hml (Nat.le_of_ble_eq_true rfl) rfl rfl rfl ?_
  refine ei_al hb dX4_waitingFor_9 (pc' := 11) rfl rfl ?_
  refine ei_len hb dX4_waitingFor_11 (pc' := 12) (x := (30 : Int32)) (show ¬ qz_at 13 = 0 by decide) rfl rfl ?_
  refine ei_is hb dX4_waitingFor_12 (pc' := 14) (ls' := [some (.inr (.inl (some ((4, 0, 0) : qz_N)))), some (.inl a0), some (.inl a1), some (.inl a2), some (.inl (0 : Int32)), some (.inr (.inl (some ((13, 0, 0) : qz_N)))), some (.inl (30 : Int32)), none, none]) hml (Nat.le_of_ble_eq_true rfl) rfl rfl rfl ?_
  refine ei_c hb dX4_waitingFor_14 (v := (0 : Int32)) (pc' := 15) (by decide) rfl ?_
  refine ei_is hb dX4_waitingFor_15 (pc' := 17) (ls' := [some (.inr (.inl (some ((4, 0, 0) : qz_N)))), some (.inl a0), some (.inl a1), some (.inl a2), some (.inl (0 : Int32)), some (.inr (.inl (some ((13, 0, 0) : qz_N)))), some (.inl (30 : Int32)), some (.inl (0 : Int32)), none]) hml (Nat.le_of_ble_eq_true rfl) rfl rfl rfl ?_
  refine vW_waitingFor_L17 F f p a0 a1 a2 _ ?_ F (0 : Int32) (0 : Int32) _ h _ _
  intro y45 y76 r h d7 d8
  refine ei_il hb dX4_waitingFor_59 (pc' := 61) rfl rfl ?_
  have h := Option.some.inj h
  subst h
  exact ei_reti hb dX4_waitingFor_61 rfl
def gW_farthestPromised_L17 (F : Nat) (f : qz_F) (a0 : Int32) (a1 : Int32) (a2 : Int32) (K : (Int32 → Int32 → Option (Int32))) : Nat → Int32 → Int32 → Option (Int32)
  | 0, _, _ => none
  | n + 1, y4, y7 => if (30 : Int32) ≤ y7 then (K y4 y7) else (if qz_xi y7 30 = true then (if (gB_isRider f ((y7).toNatClampNeg)) = 0 then ((gW_farthestPromised_L17 F f a0 a1 a2 K) n y4 (y7 + 1)) else (if (gB_isOfBus f ((y7).toNatClampNeg) a0 a1 a2) = 0 then ((gW_farthestPromised_L17 F f a0 a1 a2 K) n y4 (y7 + 1)) else ((gW_farthestPromised_L17 F f a0 a1 a2 K) n (if y4 < (f ((0, 0, (y7).toNatClampNeg) : qz_N) 3) then (f ((0, 0, (y7).toNatClampNeg) : qz_N) 3) else y4) (y7 + 1)))) else none)
def gW_farthestPromised (F : Nat) (f : qz_F) (a0 : Int32) (a1 : Int32) (a2 : Int32) : Option (Int32) :=
  gW_farthestPromised_L17 F f a0 a1 a2 (fun y45 y76 => some y45) F (0 : Int32) (0 : Int32)
set_option maxHeartbeats 4000000 in
theorem vW_farthestPromised_L17 (F : Nat) (f : qz_F) (p : Nat → Nat) (a0 : Int32) (a1 : Int32) (a2 : Int32) (K : (Int32 → Int32 → Option (Int32))) (hK : ∀ (y4 : Int32) (y7 : Int32) (r : Int32), K y4 y7 = some r → ∀ (d0 : Option qz_V) (d8 : Option qz_V), qz_E 41 68 [d0, some (.inl a0), some (.inl a1), some (.inl a2), some (.inl y4), some (.inr (.inl (some ((13, 0, 0) : qz_N)))), some (.inl (30 : Int32)), some (.inl y7), d8] [] (qz_mk f p) (some (.inl r)) (qz_mk f p)) : ∀ (n : Nat) (y4 : Int32) (y7 : Int32) (r : Int32), gW_farthestPromised_L17 F f a0 a1 a2 K n y4 y7 = some r → ∀ (d0 : Option qz_V) (d8 : Option qz_V), qz_E 41 17 [d0, some (.inl a0), some (.inl a1), some (.inl a2), some (.inl y4), some (.inr (.inl (some ((13, 0, 0) : qz_N)))), some (.inl (30 : Int32)), some (.inl y7), d8] [] (qz_mk f p) (some (.inl r)) (qz_mk f p) := by
  have hb : qz_b 41 = cX4_farthestPromised := rfl
  have hcn : qz_cn 41 = 4 := rfl
  have hml : qz_ml 41 = 9 := rfl
  intro n
  induction n with
  | zero =>
    intro y4 y7 r h
    cases h
  | succ n ih =>
    intro y4 y7 r h d0 d8
    rw [gW_farthestPromised_L17] at h
    refine ei_il hb dX4_farthestPromised_17 (pc' := 19) rfl rfl ?_
    refine ei_il hb dX4_farthestPromised_19 (pc' := 21) rfl rfl ?_
    by_cases c1 : (30 : Int32) ≤ y7
    · rw [if_pos c1] at h
      refine ei_icT hb dX4_farthestPromised_21 (pc' := 68) (decide_eq_true c1) (by decide) ?_
      exact hK y4 y7 _ h _ _
    · rw [if_neg c1] at h
      refine ei_icF hb dX4_farthestPromised_21 (pc' := 24) (t := 68) (decide_eq_false c1) (by decide) rfl ?_
      refine ei_al hb dX4_farthestPromised_24 (pc' := 26) rfl rfl ?_
      refine ei_il hb dX4_farthestPromised_26 (pc' := 28) rfl rfl ?_
      by_cases c2 : qz_xi y7 30 = true
      · rw [if_pos c2] at h
        refine ei_aa hb dX4_farthestPromised_28 (pc' := 29) (x := some ((0, 0, (y7).toNatClampNeg) : qz_N)) (show 4 ≤ qz_at 13 by decide) c2 (qz_fr_13 (by decide) c2) rfl ?_
        refine ei_as hb dX4_farthestPromised_29 (pc' := 31) (ls' := [d0, some (.inl a0), some (.inl a1), some (.inl a2), some (.inl y4), some (.inr (.inl (some ((13, 0, 0) : qz_N)))), some (.inl (30 : Int32)), some (.inl y7), some (.inr (.inl (some ((0, 0, (y7).toNatClampNeg) : qz_N))))]) hml (Nat.le_of_ble_eq_true rfl) rfl rfl rfl ?_
        refine ei_al hb dX4_farthestPromised_31 (pc' := 33) rfl rfl ?_
        refine ei_cv hb dX4_farthestPromised_33 (pc' := 36) (M1 := (qz_mk f p)) (as := []) (rest := []) (st' := [.inl (gB_isRider f ((y7).toNatClampNeg))]) hcn qz_c_4_147 qz_k_3 (qz_q_41_3) (Nat.le_of_ble_eq_true rfl) (Nat.le_of_ble_eq_true rfl) rfl rfl rfl rfl (vB_isRider f p ((y7).toNatClampNeg)) rfl rfl ?_
        by_cases c3 : (gB_isRider f ((y7).toNatClampNeg)) = 0
        · rw [if_pos c3] at h
          refine ei_ifT hb dX4_farthestPromised_36 (pc' := 62) (decide_eq_true c3) (by decide) ?_
          refine ei_inc hb dX4_farthestPromised_62 (v := (y7 + 1)) (pc' := 65) (ls' := [d0, some (.inl a0), some (.inl a1), some (.inl a2), some (.inl y4), some (.inr (.inl (some ((13, 0, 0) : qz_N)))), some (.inl (30 : Int32)), some (.inl (y7 + 1)), some (.inr (.inl (some ((0, 0, (y7).toNatClampNeg) : qz_N))))]) rfl hml (Nat.le_of_ble_eq_true rfl) rfl rfl rfl rfl ?_
          refine ei_go hb dX4_farthestPromised_65 (pc' := 17) (by decide) ?_
          exact ih y4 (y7 + 1) _ h _ _
        · rw [if_neg c3] at h
          refine ei_ifF hb dX4_farthestPromised_36 (pc' := 39) (t := 62) (decide_eq_false c3) (by decide) rfl ?_
          refine ei_al hb dX4_farthestPromised_39 (pc' := 41) rfl rfl ?_
          refine ei_iln hb dX4_farthestPromised_41 (pc' := 42) rfl rfl ?_
          refine ei_iln hb dX4_farthestPromised_42 (pc' := 43) rfl rfl ?_
          refine ei_iln hb dX4_farthestPromised_43 (pc' := 44) rfl rfl ?_
          refine ei_cv hb dX4_farthestPromised_44 (pc' := 47) (M1 := (qz_mk f p)) (as := [.inl a0, .inl a1, .inl a2]) (rest := []) (st' := [.inl (gB_isOfBus f ((y7).toNatClampNeg) a0 a1 a2)]) hcn qz_c_4_150 qz_k_4 (qz_q_41_4) (Nat.le_of_ble_eq_true rfl) (Nat.le_of_ble_eq_true rfl) rfl rfl rfl rfl (vB_isOfBus f p ((y7).toNatClampNeg) a0 a1 a2) rfl rfl ?_
          by_cases c4 : (gB_isOfBus f ((y7).toNatClampNeg) a0 a1 a2) = 0
          · rw [if_pos c4] at h
            refine ei_ifT hb dX4_farthestPromised_47 (pc' := 62) (decide_eq_true c4) (by decide) ?_
            refine ei_inc hb dX4_farthestPromised_62 (v := (y7 + 1)) (pc' := 65) (ls' := [d0, some (.inl a0), some (.inl a1), some (.inl a2), some (.inl y4), some (.inr (.inl (some ((13, 0, 0) : qz_N)))), some (.inl (30 : Int32)), some (.inl (y7 + 1)), some (.inr (.inl (some ((0, 0, (y7).toNatClampNeg) : qz_N))))]) rfl hml (Nat.le_of_ble_eq_true rfl) rfl rfl rfl rfl ?_
            refine ei_go hb dX4_farthestPromised_65 (pc' := 17) (by decide) ?_
            exact ih y4 (y7 + 1) _ h _ _
          · rw [if_neg c4] at h
            refine ei_ifF hb dX4_farthestPromised_47 (pc' := 50) (t := 62) (decide_eq_false c4) (by decide) rfl ?_
            refine ei_il hb dX4_farthestPromised_50 (pc' := 52) rfl rfl ?_
            refine ei_al hb dX4_farthestPromised_52 (pc' := 54) rfl rfl ?_
            refine ei_gi hb dX4_farthestPromised_54 (pc' := 57) (x := (f ((0, 0, (y7).toNatClampNeg) : qz_N) 3)) hcn qz_f_4_92 rfl rfl rfl rfl ?_
            refine ei_max hb dX4_farthestPromised_57 (pc' := 60) hcn qz_m_4_138 (Nat.le_of_ble_eq_true rfl) (by decide +kernel) rfl ?_
            refine ei_is hb dX4_farthestPromised_60 (pc' := 62) (ls' := [d0, some (.inl a0), some (.inl a1), some (.inl a2), some (.inl (if y4 < (f ((0, 0, (y7).toNatClampNeg) : qz_N) 3) then (f ((0, 0, (y7).toNatClampNeg) : qz_N) 3) else y4)), some (.inr (.inl (some ((13, 0, 0) : qz_N)))), some (.inl (30 : Int32)), some (.inl y7), some (.inr (.inl (some ((0, 0, (y7).toNatClampNeg) : qz_N))))]) hml (Nat.le_of_ble_eq_true rfl) rfl rfl rfl ?_
            refine ei_inc hb dX4_farthestPromised_62 (v := (y7 + 1)) (pc' := 65) (ls' := [d0, some (.inl a0), some (.inl a1), some (.inl a2), some (.inl (if y4 < (f ((0, 0, (y7).toNatClampNeg) : qz_N) 3) then (f ((0, 0, (y7).toNatClampNeg) : qz_N) 3) else y4)), some (.inr (.inl (some ((13, 0, 0) : qz_N)))), some (.inl (30 : Int32)), some (.inl (y7 + 1)), some (.inr (.inl (some ((0, 0, (y7).toNatClampNeg) : qz_N))))]) rfl hml (Nat.le_of_ble_eq_true rfl) rfl rfl rfl rfl ?_
            refine ei_go hb dX4_farthestPromised_65 (pc' := 17) (by decide) ?_
            exact ih (if y4 < (f ((0, 0, (y7).toNatClampNeg) : qz_N) 3) then (f ((0, 0, (y7).toNatClampNeg) : qz_N) 3) else y4) (y7 + 1) _ h _ _
      · rw [if_neg c2] at h
        cases h
set_option maxHeartbeats 4000000 in
theorem vW_farthestPromised (F : Nat) (f : qz_F) (p : Nat → Nat) (a0 : Int32) (a1 : Int32) (a2 : Int32) (r : Int32) (h : (gW_farthestPromised F f a0 a1 a2) = some r) : qz_E 41 0 (qz_in0 41 [.inr (.inl (some ((4, 0, 0) : qz_N))), .inl a0, .inl a1, .inl a2]) [] (qz_mk f p) (some (.inl r)) (qz_mk f p) := by
  have hb : qz_b 41 = cX4_farthestPromised := rfl
  have hcn : qz_cn 41 = 4 := rfl
  have hml : qz_ml 41 = 9 := rfl
  show qz_E 41 0 [some (.inr (.inl (some ((4, 0, 0) : qz_N)))), some (.inl a0), some (.inl a1), some (.inl a2), none, none, none, none, none] [] _ _ _
  rw [gW_farthestPromised] at h
  refine ei_c hb dX4_farthestPromised_0 (v := (0 : Int32)) (pc' := 1) (by decide) rfl ?_
  refine ei_is hb dX4_farthestPromised_1 (pc' := 3) (ls' := [some (.inr (.inl (some ((4, 0, 0) : qz_N)))), some (.inl a0), some (.inl a1), some (.inl a2), some (.inl (0 : Int32)), none, none, none, none]) hml (Nat.le_of_ble_eq_true rfl) rfl rfl rfl ?_
  refine ei_aln hb dX4_farthestPromised_3 (pc' := 4) rfl rfl ?_
  refine ei_gr hb dX4_farthestPromised_4 (pc' := 7) (x := some ((13, 0, 0) : qz_N)) hcn qz_f_4_30 rfl rfl rfl rfl ?_
  refine ei_as hb dX4_farthestPromised_7 (pc' := 9) (ls' := [some (.inr (.inl (some ((4, 0, 0) : qz_N)))), some (.inl a0), some (.inl a1), some (.inl a2), some (.inl (0 : Int32)), some (.inr (.inl (some ((13, 0, 0) : qz_N)))), none, none, none]) hml (Nat.le_of_ble_eq_true rfl) rfl rfl rfl ?_
  refine ei_al hb dX4_farthestPromised_9 (pc' := 11) rfl rfl ?_
  refine ei_len hb dX4_farthestPromised_11 (pc' := 12) (x := (30 : Int32)) (show ¬ qz_at 13 = 0 by decide) rfl rfl ?_
  refine ei_is hb dX4_farthestPromised_12 (pc' := 14) (ls' := [some (.inr (.inl (some ((4, 0, 0) : qz_N)))), some (.inl a0), some (.inl a1), some (.inl a2), some (.inl (0 : Int32)), some (.inr (.inl (some ((13, 0, 0) : qz_N)))), some (.inl (30 : Int32)), none, none]) hml (Nat.le_of_ble_eq_true rfl) rfl rfl rfl ?_
  refine ei_c hb dX4_farthestPromised_14 (v := (0 : Int32)) (pc' := 15) (by decide) rfl ?_
  refine ei_is hb dX4_farthestPromised_15 (pc' := 17) (ls' := [some (.inr (.inl (some ((4, 0, 0) : qz_N)))), some (.inl a0), some (.inl a1), some (.inl a2), some (.inl (0 : Int32)), some (.inr (.inl (some ((13, 0, 0) : qz_N)))), some (.inl (30 : Int32)), some (.inl (0 : Int32)), none]) hml (Nat.le_of_ble_eq_true rfl) rfl rfl rfl ?_
  refine vW_farthestPromised_L17 F f p a0 a1 a2 _ ?_ F (0 : Int32) (0 : Int32) _ h _ _
  intro y45 y76 r h d7 d8
  refine ei_il hb dX4_farthestPromised_68 (pc' := 70) rfl rfl ?_
  have h := Option.some.inj h
  subst h
  exact ei_reti hb dX4_farthestPromised_70 rfl
def gW_isInTimeForAll_L22 (F : Nat) (f : qz_F) (a0 : Int32) (a1 : Int32) (a2 : Int32) (x1 : Int32) (K : (Int32 → Option (Int32))) : Nat → Int32 → Option (Int32)
  | 0, _ => none
  | n + 1, y7 => if (30 : Int32) ≤ y7 then (K y7) else (if qz_xi y7 30 = true then (if (gB_isRider f ((y7).toNatClampNeg)) = 0 then ((gW_isInTimeForAll_L22 F f a0 a1 a2 x1 K) n (y7 + 1)) else (if (gB_isOfBus f ((y7).toNatClampNeg) a0 a1 a2) = 0 then ((gW_isInTimeForAll_L22 F f a0 a1 a2 x1 K) n (y7 + 1)) else (Option.bind (gW_isInTime F f (f ((0, 0, (y7).toNatClampNeg) : qz_N) 1) (f ((0, 0, (y7).toNatClampNeg) : qz_N) 3) x1) fun x7 => if x7 = 0 then (some (0 : Int32)) else ((gW_isInTimeForAll_L22 F f a0 a1 a2 x1 K) n (y7 + 1))))) else none)
def gW_isInTimeForAll (F : Nat) (f : qz_F) (a0 : Int32) (a1 : Int32) (a2 : Int32) : Option (Int32) :=
  Option.bind (gW_startOf F f a1 a2) fun x1 => gW_isInTimeForAll_L22 F f a0 a1 a2 x1 (fun y710 => some (1 : Int32)) F (0 : Int32)
set_option maxHeartbeats 4000000 in
theorem vW_isInTimeForAll_L22 (F : Nat) (f : qz_F) (p : Nat → Nat) (a0 : Int32) (a1 : Int32) (a2 : Int32) (x1 : Int32) (K : (Int32 → Option (Int32))) (hK : ∀ (y7 : Int32) (r : Int32), K y7 = some r → ∀ (d8 : Option qz_V), qz_E 43 82 [some (.inr (.inl (some ((4, 0, 0) : qz_N)))), some (.inl a0), some (.inl a1), some (.inl a2), some (.inl x1), some (.inr (.inl (some ((13, 0, 0) : qz_N)))), some (.inl (30 : Int32)), some (.inl y7), d8] [] (qz_mk f p) (some (.inl r)) (qz_mk f p)) : ∀ (n : Nat) (y7 : Int32) (r : Int32), gW_isInTimeForAll_L22 F f a0 a1 a2 x1 K n y7 = some r → ∀ (d8 : Option qz_V), qz_E 43 22 [some (.inr (.inl (some ((4, 0, 0) : qz_N)))), some (.inl a0), some (.inl a1), some (.inl a2), some (.inl x1), some (.inr (.inl (some ((13, 0, 0) : qz_N)))), some (.inl (30 : Int32)), some (.inl y7), d8] [] (qz_mk f p) (some (.inl r)) (qz_mk f p) := by
  have hb : qz_b 43 = cX4_isInTimeForAll := rfl
  have hcn : qz_cn 43 = 4 := rfl
  have hml : qz_ml 43 = 9 := rfl
  intro n
  induction n with
  | zero =>
    intro y7 r h
    cases h
  | succ n ih =>
    intro y7 r h d8
    rw [gW_isInTimeForAll_L22] at h
    refine ei_il hb dX4_isInTimeForAll_22 (pc' := 24) rfl rfl ?_
    refine ei_il hb dX4_isInTimeForAll_24 (pc' := 26) rfl rfl ?_
    by_cases c3 : (30 : Int32) ≤ y7
    · rw [if_pos c3] at h
      refine ei_icT hb dX4_isInTimeForAll_26 (pc' := 82) (decide_eq_true c3) (by decide) ?_
      exact hK y7 _ h _
    · rw [if_neg c3] at h
      refine ei_icF hb dX4_isInTimeForAll_26 (pc' := 29) (t := 82) (decide_eq_false c3) (by decide) rfl ?_
      refine ei_al hb dX4_isInTimeForAll_29 (pc' := 31) rfl rfl ?_
      refine ei_il hb dX4_isInTimeForAll_31 (pc' := 33) rfl rfl ?_
      by_cases c4 : qz_xi y7 30 = true
      · rw [if_pos c4] at h
        refine ei_aa hb dX4_isInTimeForAll_33 (pc' := 34) (x := some ((0, 0, (y7).toNatClampNeg) : qz_N)) (show 4 ≤ qz_at 13 by decide) c4 (qz_fr_13 (by decide) c4) rfl ?_
        refine ei_as hb dX4_isInTimeForAll_34 (pc' := 36) (ls' := [some (.inr (.inl (some ((4, 0, 0) : qz_N)))), some (.inl a0), some (.inl a1), some (.inl a2), some (.inl x1), some (.inr (.inl (some ((13, 0, 0) : qz_N)))), some (.inl (30 : Int32)), some (.inl y7), some (.inr (.inl (some ((0, 0, (y7).toNatClampNeg) : qz_N))))]) hml (Nat.le_of_ble_eq_true rfl) rfl rfl rfl ?_
        refine ei_al hb dX4_isInTimeForAll_36 (pc' := 38) rfl rfl ?_
        refine ei_cv hb dX4_isInTimeForAll_38 (pc' := 41) (M1 := (qz_mk f p)) (as := []) (rest := []) (st' := [.inl (gB_isRider f ((y7).toNatClampNeg))]) hcn qz_c_4_147 qz_k_3 (qz_q_43_3) (Nat.le_of_ble_eq_true rfl) (Nat.le_of_ble_eq_true rfl) rfl rfl rfl rfl (vB_isRider f p ((y7).toNatClampNeg)) rfl rfl ?_
        by_cases c5 : (gB_isRider f ((y7).toNatClampNeg)) = 0
        · rw [if_pos c5] at h
          refine ei_ifT hb dX4_isInTimeForAll_41 (pc' := 76) (decide_eq_true c5) (by decide) ?_
          refine ei_inc hb dX4_isInTimeForAll_76 (v := (y7 + 1)) (pc' := 79) (ls' := [some (.inr (.inl (some ((4, 0, 0) : qz_N)))), some (.inl a0), some (.inl a1), some (.inl a2), some (.inl x1), some (.inr (.inl (some ((13, 0, 0) : qz_N)))), some (.inl (30 : Int32)), some (.inl (y7 + 1)), some (.inr (.inl (some ((0, 0, (y7).toNatClampNeg) : qz_N))))]) rfl hml (Nat.le_of_ble_eq_true rfl) rfl rfl rfl rfl ?_
          refine ei_go hb dX4_isInTimeForAll_79 (pc' := 22) (by decide) ?_
          exact ih (y7 + 1) _ h _
        · rw [if_neg c5] at h
          refine ei_ifF hb dX4_isInTimeForAll_41 (pc' := 44) (t := 76) (decide_eq_false c5) (by decide) rfl ?_
          refine ei_al hb dX4_isInTimeForAll_44 (pc' := 46) rfl rfl ?_
          refine ei_iln hb dX4_isInTimeForAll_46 (pc' := 47) rfl rfl ?_
          refine ei_iln hb dX4_isInTimeForAll_47 (pc' := 48) rfl rfl ?_
          refine ei_iln hb dX4_isInTimeForAll_48 (pc' := 49) rfl rfl ?_
          refine ei_cv hb dX4_isInTimeForAll_49 (pc' := 52) (M1 := (qz_mk f p)) (as := [.inl a0, .inl a1, .inl a2]) (rest := []) (st' := [.inl (gB_isOfBus f ((y7).toNatClampNeg) a0 a1 a2)]) hcn qz_c_4_150 qz_k_4 (qz_q_43_4) (Nat.le_of_ble_eq_true rfl) (Nat.le_of_ble_eq_true rfl) rfl rfl rfl rfl (vB_isOfBus f p ((y7).toNatClampNeg) a0 a1 a2) rfl rfl ?_
          by_cases c6 : (gB_isOfBus f ((y7).toNatClampNeg) a0 a1 a2) = 0
          · rw [if_pos c6] at h
            refine ei_ifT hb dX4_isInTimeForAll_52 (pc' := 76) (decide_eq_true c6) (by decide) ?_
            refine ei_inc hb dX4_isInTimeForAll_76 (v := (y7 + 1)) (pc' := 79) (ls' := [some (.inr (.inl (some ((4, 0, 0) : qz_N)))), some (.inl a0), some (.inl a1), some (.inl a2), some (.inl x1), some (.inr (.inl (some ((13, 0, 0) : qz_N)))), some (.inl (30 : Int32)), some (.inl (y7 + 1)), some (.inr (.inl (some ((0, 0, (y7).toNatClampNeg) : qz_N))))]) rfl hml (Nat.le_of_ble_eq_true rfl) rfl rfl rfl rfl ?_
            refine ei_go hb dX4_isInTimeForAll_79 (pc' := 22) (by decide) ?_
            exact ih (y7 + 1) _ h _
          · rw [if_neg c6] at h
            refine ei_ifF hb dX4_isInTimeForAll_52 (pc' := 55) (t := 76) (decide_eq_false c6) (by decide) rfl ?_
            refine ei_aln hb dX4_isInTimeForAll_55 (pc' := 56) rfl rfl ?_
            refine ei_al hb dX4_isInTimeForAll_56 (pc' := 58) rfl rfl ?_
            refine ei_gi hb dX4_isInTimeForAll_58 (pc' := 61) (x := (f ((0, 0, (y7).toNatClampNeg) : qz_N) 1)) hcn qz_f_4_86 rfl rfl rfl rfl ?_
            refine ei_al hb dX4_isInTimeForAll_61 (pc' := 63) rfl rfl ?_
            refine ei_gi hb dX4_isInTimeForAll_63 (pc' := 66) (x := (f ((0, 0, (y7).toNatClampNeg) : qz_N) 3)) hcn qz_f_4_92 rfl rfl rfl rfl ?_
            refine ei_il hb dX4_isInTimeForAll_66 (pc' := 68) rfl rfl ?_
            obtain ⟨x7, e8, h⟩ := Option.bind_eq_some_iff.mp h
            refine ei_cv hb dX4_isInTimeForAll_68 (pc' := 71) (M1 := (qz_mk f p)) (as := [.inl (f ((0, 0, (y7).toNatClampNeg) : qz_N) 1), .inl (f ((0, 0, (y7).toNatClampNeg) : qz_N) 3), .inl x1]) (rest := []) (st' := [.inl x7]) hcn qz_c_4_120 qz_k_38 (qz_q_43_38) (Nat.le_of_ble_eq_true rfl) (Nat.le_of_ble_eq_true rfl) rfl rfl rfl rfl (vW_isInTime F f p (f ((0, 0, (y7).toNatClampNeg) : qz_N) 1) (f ((0, 0, (y7).toNatClampNeg) : qz_N) 3) x1 _ e8) rfl rfl ?_
            by_cases c9 : x7 = 0
            · rw [if_pos c9] at h
              refine ei_ifF hb dX4_isInTimeForAll_71 (pc' := 74) (t := 76) (decide_eq_false (fun q => q c9)) (by decide) rfl ?_
              refine ei_c hb dX4_isInTimeForAll_74 (v := (0 : Int32)) (pc' := 75) (by decide) rfl ?_
              have h := Option.some.inj h
              subst h
              exact ei_retz hb dX4_isInTimeForAll_75 rfl (by decide)
            · rw [if_neg c9] at h
              refine ei_ifT hb dX4_isInTimeForAll_71 (pc' := 76) (decide_eq_true c9) (by decide) ?_
              refine ei_inc hb dX4_isInTimeForAll_76 (v := (y7 + 1)) (pc' := 79) (ls' := [some (.inr (.inl (some ((4, 0, 0) : qz_N)))), some (.inl a0), some (.inl a1), some (.inl a2), some (.inl x1), some (.inr (.inl (some ((13, 0, 0) : qz_N)))), some (.inl (30 : Int32)), some (.inl (y7 + 1)), some (.inr (.inl (some ((0, 0, (y7).toNatClampNeg) : qz_N))))]) rfl hml (Nat.le_of_ble_eq_true rfl) rfl rfl rfl rfl ?_
              refine ei_go hb dX4_isInTimeForAll_79 (pc' := 22) (by decide) ?_
              exact ih (y7 + 1) _ h _
      · rw [if_neg c4] at h
        cases h
set_option maxHeartbeats 4000000 in
theorem vW_isInTimeForAll (F : Nat) (f : qz_F) (p : Nat → Nat) (a0 : Int32) (a1 : Int32) (a2 : Int32) (r : Int32) (h : (gW_isInTimeForAll F f a0 a1 a2) = some r) : qz_E 43 0 (qz_in0 43 [.inr (.inl (some ((4, 0, 0) : qz_N))), .inl a0, .inl a1, .inl a2]) [] (qz_mk f p) (some (.inl r)) (qz_mk f p) := by
  have hb : qz_b 43 = cX4_isInTimeForAll := rfl
  have hcn : qz_cn 43 = 4 := rfl
  have hml : qz_ml 43 = 9 := rfl
  show qz_E 43 0 [some (.inr (.inl (some ((4, 0, 0) : qz_N)))), some (.inl a0), some (.inl a1), some (.inl a2), none, none, none, none, none] [] _ _ _
  rw [gW_isInTimeForAll] at h
  refine ei_aln hb dX4_isInTimeForAll_0 (pc' := 1) rfl rfl ?_
  refine ei_iln hb dX4_isInTimeForAll_1 (pc' := 2) rfl rfl ?_
  refine ei_iln hb dX4_isInTimeForAll_2 (pc' := 3) rfl rfl ?_
  obtain ⟨x1, e2, h⟩ := Option.bind_eq_some_iff.mp h
  refine ei_cv hb dX4_isInTimeForAll_3 (pc' := 6) (M1 := (qz_mk f p)) (as := [.inl a1, .inl a2]) (rest := []) (st' := [.inl x1]) hcn qz_c_4_117 qz_k_35 (qz_q_43_35) (Nat.le_of_ble_eq_true rfl) (Nat.le_of_ble_eq_true rfl) rfl rfl rfl rfl (vW_startOf F f p a1 a2 _ e2) rfl rfl ?_
  refine ei_is hb dX4_isInTimeForAll_6 (pc' := 8) (ls' := [some (.inr (.inl (some ((4, 0, 0) : qz_N)))), some (.inl a0), some (.inl a1), some (.inl a2), some (.inl x1), none, none, none, none]) hml (Nat.le_of_ble_eq_true rfl) rfl rfl rfl ?_
  refine ei_aln hb dX4_isInTimeForAll_8 (pc' := 9) rfl rfl ?_
  refine ei_gr hb dX4_isInTimeForAll_9 (pc' := 12) (x := some ((13, 0, 0) : qz_N)) hcn qz_f_4_30 rfl rfl rfl rfl ?_
  refine ei_as hb dX4_isInTimeForAll_12 (pc' := 14) (ls' := [some (.inr (.inl (some ((4, 0, 0) : qz_N)))), some (.inl a0), some (.inl a1), some (.inl a2), some (.inl x1), some (.inr (.inl (some ((13, 0, 0) : qz_N)))), none, none, none]) hml (Nat.le_of_ble_eq_true rfl) rfl rfl rfl ?_
  refine ei_al hb dX4_isInTimeForAll_14 (pc' := 16) rfl rfl ?_
  refine ei_len hb dX4_isInTimeForAll_16 (pc' := 17) (x := (30 : Int32)) (show ¬ qz_at 13 = 0 by decide) rfl rfl ?_
  refine ei_is hb dX4_isInTimeForAll_17 (pc' := 19) (ls' := [some (.inr (.inl (some ((4, 0, 0) : qz_N)))), some (.inl a0), some (.inl a1), some (.inl a2), some (.inl x1), some (.inr (.inl (some ((13, 0, 0) : qz_N)))), some (.inl (30 : Int32)), none, none]) hml (Nat.le_of_ble_eq_true rfl) rfl rfl rfl ?_
  refine ei_c hb dX4_isInTimeForAll_19 (v := (0 : Int32)) (pc' := 20) (by decide) rfl ?_
  refine ei_is hb dX4_isInTimeForAll_20 (pc' := 22) (ls' := [some (.inr (.inl (some ((4, 0, 0) : qz_N)))), some (.inl a0), some (.inl a1), some (.inl a2), some (.inl x1), some (.inr (.inl (some ((13, 0, 0) : qz_N)))), some (.inl (30 : Int32)), some (.inl (0 : Int32)), none]) hml (Nat.le_of_ble_eq_true rfl) rfl rfl rfl ?_
  refine vW_isInTimeForAll_L22 F f p a0 a1 a2 x1 _ ?_ F (0 : Int32) _ h _
  intro y710 r h d11
  refine ei_c hb dX4_isInTimeForAll_82 (v := (1 : Int32)) (pc' := 83) (by decide) rfl ?_
  have h := Option.some.inj h
  subst h
  exact ei_retz hb dX4_isInTimeForAll_83 rfl (by decide)
def gW_canMerge (F : Nat) (f : qz_F) (a0 : Int32) (a1 : Int32) (a2 : Int32) : Option (Int32) :=
  Option.bind (gW_partnerOf F f a0 a1) fun x1 => if x1 = (-5 : Int32) then (Option.bind (gW_partnerOf F f a0 a2) fun x4 => if x4 = (-5 : Int32) then (Option.bind (gW_minuteOf F f a1) fun x7 => Option.bind (gW_minuteOf F f a2) fun x9 => Option.bind (gW_setting F f (2 : Int32)) fun x11 => if (if 0 ≤ (x7 - x9) then (x7 - x9) else 0 - (x7 - x9)) ≤ x11 then (Option.bind (gW_takenSeats F f a0 a1 a2 (1 : Int32) none) fun x14 => Option.bind (gW_setting F f (1 : Int32)) fun x16 => if x16 < x14 then (some (0 : Int32)) else (Option.bind (gW_isInTimeForAll F f a0 a1 a2) fun x19 => if x19 = 0 then (some (0 : Int32)) else (some (1 : Int32)))) else (some (0 : Int32))) else (some (0 : Int32))) else (some (0 : Int32))
set_option maxHeartbeats 4000000 in
theorem vW_canMerge (F : Nat) (f : qz_F) (p : Nat → Nat) (a0 : Int32) (a1 : Int32) (a2 : Int32) (r : Int32) (h : (gW_canMerge F f a0 a1 a2) = some r) : qz_E 42 0 (qz_in0 42 [.inr (.inl (some ((4, 0, 0) : qz_N))), .inl a0, .inl a1, .inl a2]) [] (qz_mk f p) (some (.inl r)) (qz_mk f p) := by
  have hb : qz_b 42 = cX4_canMerge := rfl
  have hcn : qz_cn 42 = 4 := rfl
  have hml : qz_ml 42 = 4 := rfl
  show qz_E 42 0 [some (.inr (.inl (some ((4, 0, 0) : qz_N)))), some (.inl a0), some (.inl a1), some (.inl a2)] [] _ _ _
  rw [gW_canMerge] at h
  refine ei_aln hb dX4_canMerge_0 (pc' := 1) rfl rfl ?_
  refine ei_iln hb dX4_canMerge_1 (pc' := 2) rfl rfl ?_
  refine ei_iln hb dX4_canMerge_2 (pc' := 3) rfl rfl ?_
  obtain ⟨x1, e2, h⟩ := Option.bind_eq_some_iff.mp h
  refine ei_cv hb dX4_canMerge_3 (pc' := 6) (M1 := (qz_mk f p)) (as := [.inl a0, .inl a1]) (rest := []) (st' := [.inl x1]) hcn qz_c_4_106 qz_k_32 (qz_q_42_32) (Nat.le_of_ble_eq_true rfl) (Nat.le_of_ble_eq_true rfl) rfl rfl rfl rfl (vW_partnerOf F f p a0 a1 _ e2) rfl rfl ?_
  refine ei_b hb dX4_canMerge_6 (v := (-5 : Int32)) (pc' := 8) (by decide) rfl ?_
  by_cases c3 : x1 = (-5 : Int32)
  · rw [if_pos c3] at h
    refine ei_icF hb dX4_canMerge_8 (pc' := 11) (t := 22) (decide_eq_false (fun q => q c3)) (by decide) rfl ?_
    refine ei_aln hb dX4_canMerge_11 (pc' := 12) rfl rfl ?_
    refine ei_iln hb dX4_canMerge_12 (pc' := 13) rfl rfl ?_
    refine ei_iln hb dX4_canMerge_13 (pc' := 14) rfl rfl ?_
    obtain ⟨x4, e5, h⟩ := Option.bind_eq_some_iff.mp h
    refine ei_cv hb dX4_canMerge_14 (pc' := 17) (M1 := (qz_mk f p)) (as := [.inl a0, .inl a2]) (rest := []) (st' := [.inl x4]) hcn qz_c_4_106 qz_k_32 (qz_q_42_32) (Nat.le_of_ble_eq_true rfl) (Nat.le_of_ble_eq_true rfl) rfl rfl rfl rfl (vW_partnerOf F f p a0 a2 _ e5) rfl rfl ?_
    refine ei_b hb dX4_canMerge_17 (v := (-5 : Int32)) (pc' := 19) (by decide) rfl ?_
    by_cases c6 : x4 = (-5 : Int32)
    · rw [if_pos c6] at h
      refine ei_icT hb dX4_canMerge_19 (pc' := 24) (decide_eq_true c6) (by decide) ?_
      refine ei_aln hb dX4_canMerge_24 (pc' := 25) rfl rfl ?_
      refine ei_iln hb dX4_canMerge_25 (pc' := 26) rfl rfl ?_
      obtain ⟨x7, e8, h⟩ := Option.bind_eq_some_iff.mp h
      refine ei_cv hb dX4_canMerge_26 (pc' := 29) (M1 := (qz_mk f p)) (as := [.inl a1]) (rest := []) (st' := [.inl x7]) hcn qz_c_4_64 qz_k_21 (qz_q_42_21) (Nat.le_of_ble_eq_true rfl) (Nat.le_of_ble_eq_true rfl) rfl rfl rfl rfl (vW_minuteOf F f p a1 _ e8) rfl rfl ?_
      refine ei_aln hb dX4_canMerge_29 (pc' := 30) rfl rfl ?_
      refine ei_iln hb dX4_canMerge_30 (pc' := 31) rfl rfl ?_
      obtain ⟨x9, e10, h⟩ := Option.bind_eq_some_iff.mp h
      refine ei_cv hb dX4_canMerge_31 (pc' := 34) (M1 := (qz_mk f p)) (as := [.inl a2]) (rest := [.inl x7]) (st' := [.inl x9, .inl x7]) hcn qz_c_4_64 qz_k_21 (qz_q_42_21) (Nat.le_of_ble_eq_true rfl) (Nat.le_of_ble_eq_true rfl) rfl rfl rfl rfl (vW_minuteOf F f p a2 _ e10) rfl rfl ?_
      refine ei_sub hb dX4_canMerge_34 (pc' := 35) rfl ?_
      refine ei_abs hb dX4_canMerge_35 (pc' := 38) hcn qz_m_4_153 (Nat.le_of_ble_eq_true rfl) (by decide +kernel) rfl ?_
      refine ei_aln hb dX4_canMerge_38 (pc' := 39) rfl rfl ?_
      refine ei_c hb dX4_canMerge_39 (v := (2 : Int32)) (pc' := 40) (by decide) rfl ?_
      obtain ⟨x11, e12, h⟩ := Option.bind_eq_some_iff.mp h
      refine ei_cv hb dX4_canMerge_40 (pc' := 43) (M1 := (qz_mk f p)) (as := [.inl (2 : Int32)]) (rest := [.inl (if 0 ≤ (x7 - x9) then (x7 - x9) else 0 - (x7 - x9))]) (st' := [.inl x11, .inl (if 0 ≤ (x7 - x9) then (x7 - x9) else 0 - (x7 - x9))]) hcn qz_c_4_114 qz_k_17 (qz_q_42_17) (Nat.le_of_ble_eq_true rfl) (Nat.le_of_ble_eq_true rfl) rfl rfl rfl rfl (vW_setting F f p (2 : Int32) _ e12) rfl rfl ?_
      by_cases c13 : (if 0 ≤ (x7 - x9) then (x7 - x9) else 0 - (x7 - x9)) ≤ x11
      · rw [if_pos c13] at h
        refine ei_icT hb dX4_canMerge_43 (pc' := 48) (decide_eq_true c13) (by decide) ?_
        refine ei_aln hb dX4_canMerge_48 (pc' := 49) rfl rfl ?_
        refine ei_iln hb dX4_canMerge_49 (pc' := 50) rfl rfl ?_
        refine ei_iln hb dX4_canMerge_50 (pc' := 51) rfl rfl ?_
        refine ei_iln hb dX4_canMerge_51 (pc' := 52) rfl rfl ?_
        refine ei_c hb dX4_canMerge_52 (v := (1 : Int32)) (pc' := 53) (by decide) rfl ?_
        refine ei_null hb dX4_canMerge_53 (pc' := 54) rfl ?_
        obtain ⟨x14, e15, h⟩ := Option.bind_eq_some_iff.mp h
        refine ei_cv hb dX4_canMerge_54 (pc' := 57) (M1 := (qz_mk f p)) (as := [.inl a0, .inl a1, .inl a2, .inl (1 : Int32), .inr (.inl none)]) (rest := []) (st' := [.inl x14]) hcn qz_c_4_110 qz_k_39 (qz_q_42_39) (Nat.le_of_ble_eq_true rfl) (Nat.le_of_ble_eq_true rfl) rfl rfl rfl rfl (vW_takenSeats F f p a0 a1 a2 (1 : Int32) none _ e15) rfl rfl ?_
        refine ei_aln hb dX4_canMerge_57 (pc' := 58) rfl rfl ?_
        refine ei_c hb dX4_canMerge_58 (v := (1 : Int32)) (pc' := 59) (by decide) rfl ?_
        obtain ⟨x16, e17, h⟩ := Option.bind_eq_some_iff.mp h
        refine ei_cv hb dX4_canMerge_59 (pc' := 62) (M1 := (qz_mk f p)) (as := [.inl (1 : Int32)]) (rest := [.inl x14]) (st' := [.inl x16, .inl x14]) hcn qz_c_4_114 qz_k_17 (qz_q_42_17) (Nat.le_of_ble_eq_true rfl) (Nat.le_of_ble_eq_true rfl) rfl rfl rfl rfl (vW_setting F f p (1 : Int32) _ e17) rfl rfl ?_
        by_cases c18 : x16 < x14
        · rw [if_pos c18] at h
          refine ei_icT hb dX4_canMerge_62 (pc' := 79) (decide_eq_true c18) (by decide) ?_
          refine ei_c hb dX4_canMerge_79 (v := (0 : Int32)) (pc' := 80) (by decide) rfl ?_
          have h := Option.some.inj h
          subst h
          exact ei_retz hb dX4_canMerge_80 rfl (by decide)
        · rw [if_neg c18] at h
          refine ei_icF hb dX4_canMerge_62 (pc' := 65) (t := 79) (decide_eq_false c18) (by decide) rfl ?_
          refine ei_aln hb dX4_canMerge_65 (pc' := 66) rfl rfl ?_
          refine ei_iln hb dX4_canMerge_66 (pc' := 67) rfl rfl ?_
          refine ei_iln hb dX4_canMerge_67 (pc' := 68) rfl rfl ?_
          refine ei_iln hb dX4_canMerge_68 (pc' := 69) rfl rfl ?_
          obtain ⟨x19, e20, h⟩ := Option.bind_eq_some_iff.mp h
          refine ei_cv hb dX4_canMerge_69 (pc' := 72) (M1 := (qz_mk f p)) (as := [.inl a0, .inl a1, .inl a2]) (rest := []) (st' := [.inl x19]) hcn qz_c_4_156 qz_k_43 (qz_q_42_43) (Nat.le_of_ble_eq_true rfl) (Nat.le_of_ble_eq_true rfl) rfl rfl rfl rfl (vW_isInTimeForAll F f p a0 a1 a2 _ e20) rfl rfl ?_
          by_cases c21 : x19 = 0
          · rw [if_pos c21] at h
            refine ei_ifT hb dX4_canMerge_72 (pc' := 79) (decide_eq_true c21) (by decide) ?_
            refine ei_c hb dX4_canMerge_79 (v := (0 : Int32)) (pc' := 80) (by decide) rfl ?_
            have h := Option.some.inj h
            subst h
            exact ei_retz hb dX4_canMerge_80 rfl (by decide)
          · rw [if_neg c21] at h
            refine ei_ifF hb dX4_canMerge_72 (pc' := 75) (t := 79) (decide_eq_false c21) (by decide) rfl ?_
            refine ei_c hb dX4_canMerge_75 (v := (1 : Int32)) (pc' := 76) (by decide) rfl ?_
            refine ei_go hb dX4_canMerge_76 (pc' := 80) (by decide) ?_
            have h := Option.some.inj h
            subst h
            exact ei_retz hb dX4_canMerge_80 rfl (by decide)
      · rw [if_neg c13] at h
        refine ei_icF hb dX4_canMerge_43 (pc' := 46) (t := 48) (decide_eq_false c13) (by decide) rfl ?_
        refine ei_c hb dX4_canMerge_46 (v := (0 : Int32)) (pc' := 47) (by decide) rfl ?_
        have h := Option.some.inj h
        subst h
        exact ei_retz hb dX4_canMerge_47 rfl (by decide)
    · rw [if_neg c6] at h
      refine ei_icF hb dX4_canMerge_19 (pc' := 22) (t := 24) (decide_eq_false c6) (by decide) rfl ?_
      refine ei_c hb dX4_canMerge_22 (v := (0 : Int32)) (pc' := 23) (by decide) rfl ?_
      have h := Option.some.inj h
      subst h
      exact ei_retz hb dX4_canMerge_23 rfl (by decide)
  · rw [if_neg c3] at h
    refine ei_icT hb dX4_canMerge_8 (pc' := 22) (decide_eq_true c3) (by decide) ?_
    refine ei_c hb dX4_canMerge_22 (v := (0 : Int32)) (pc' := 23) (by decide) rfl ?_
    have h := Option.some.inj h
    subst h
    exact ei_retz hb dX4_canMerge_23 rfl (by decide)
def gW_canRide_L44 (F : Nat) (f : qz_F) (b0 : Nat) (a1 : Int32) (a2 : Int32) (x1 : Int32) (K : (Int32 → Int32 → Option (Int32))) : Nat → Int32 → Int32 → Option (Int32)
  | 0, _, _ => none
  | n + 1, y5, y8 => if (30 : Int32) ≤ y8 then (K y5 y8) else (if qz_xi y8 30 = true then (if (gB_isRider f ((y8).toNatClampNeg)) = 0 then ((gW_canRide_L44 F f b0 a1 a2 x1 K) n y5 (y8 + 1)) else (if (gB_isOfBus f ((y8).toNatClampNeg) (f ((0, 0, b0) : qz_N) 2) a1 a2) = 0 then ((gW_canRide_L44 F f b0 a1 a2 x1 K) n y5 (y8 + 1)) else (Option.bind (gW_isInTime F f (f ((0, 0, (y8).toNatClampNeg) : qz_N) 1) (f ((0, 0, (y8).toNatClampNeg) : qz_N) 3) x1) fun x10 => if x10 = 0 then ((gW_canRide_L44 F f b0 a1 a2 x1 K) n y5 (y8 + 1)) else (if (gB_getsSeatAheadOf f ((y8).toNatClampNeg) b0) = 0 then ((gW_canRide_L44 F f b0 a1 a2 x1 K) n y5 (y8 + 1)) else ((gW_canRide_L44 F f b0 a1 a2 x1 K) n (y5 + 1) (y8 + 1)))))) else none)
def gW_canRide (F : Nat) (f : qz_F) (b0 : Nat) (a1 : Int32) (a2 : Int32) : Option (Int32) :=
  Option.bind (gW_startOf F f a1 a2) fun x1 => Option.bind (gW_isInTime F f (f ((0, 0, b0) : qz_N) 1) (f ((0, 0, b0) : qz_N) 3) x1) fun x3 => if x3 = 0 then (some (0 : Int32)) else (gW_canRide_L44 F f b0 a1 a2 x1 (fun y514 y815 => Option.bind (gW_setting F f (1 : Int32)) fun x17 => if x17 ≤ y514 then (some (0 : Int32)) else (some (1 : Int32))) F (0 : Int32) (0 : Int32))
set_option maxHeartbeats 4000000 in
theorem vW_canRide_L44 (F : Nat) (f : qz_F) (p : Nat → Nat) (b0 : Nat) (a1 : Int32) (a2 : Int32) (x1 : Int32) (K : (Int32 → Int32 → Option (Int32))) (hK : ∀ (y5 : Int32) (y8 : Int32) (r : Int32), K y5 y8 = some r → ∀ (d9 : Option qz_V), qz_E 44 117 [some (.inr (.inl (some ((4, 0, 0) : qz_N)))), some (.inr (.inl (some ((0, 0, b0) : qz_N)))), some (.inl a1), some (.inl a2), some (.inl x1), some (.inl y5), some (.inr (.inl (some ((13, 0, 0) : qz_N)))), some (.inl (30 : Int32)), some (.inl y8), d9] [] (qz_mk f p) (some (.inl r)) (qz_mk f p)) : ∀ (n : Nat) (y5 : Int32) (y8 : Int32) (r : Int32), gW_canRide_L44 F f b0 a1 a2 x1 K n y5 y8 = some r → ∀ (d9 : Option qz_V), qz_E 44 44 [some (.inr (.inl (some ((4, 0, 0) : qz_N)))), some (.inr (.inl (some ((0, 0, b0) : qz_N)))), some (.inl a1), some (.inl a2), some (.inl x1), some (.inl y5), some (.inr (.inl (some ((13, 0, 0) : qz_N)))), some (.inl (30 : Int32)), some (.inl y8), d9] [] (qz_mk f p) (some (.inl r)) (qz_mk f p) := by
  have hb : qz_b 44 = cX4_canRide := rfl
  have hcn : qz_cn 44 = 4 := rfl
  have hml : qz_ml 44 = 10 := rfl
  intro n
  induction n with
  | zero =>
    intro y5 y8 r h
    cases h
  | succ n ih =>
    intro y5 y8 r h d9
    rw [gW_canRide_L44] at h
    refine ei_il hb dX4_canRide_44 (pc' := 46) rfl rfl ?_
    refine ei_il hb dX4_canRide_46 (pc' := 48) rfl rfl ?_
    by_cases c6 : (30 : Int32) ≤ y8
    · rw [if_pos c6] at h
      refine ei_icT hb dX4_canRide_48 (pc' := 117) (decide_eq_true c6) (by decide) ?_
      exact hK y5 y8 _ h _
    · rw [if_neg c6] at h
      refine ei_icF hb dX4_canRide_48 (pc' := 51) (t := 117) (decide_eq_false c6) (by decide) rfl ?_
      refine ei_al hb dX4_canRide_51 (pc' := 53) rfl rfl ?_
      refine ei_il hb dX4_canRide_53 (pc' := 55) rfl rfl ?_
      by_cases c7 : qz_xi y8 30 = true
      · rw [if_pos c7] at h
        refine ei_aa hb dX4_canRide_55 (pc' := 56) (x := some ((0, 0, (y8).toNatClampNeg) : qz_N)) (show 4 ≤ qz_at 13 by decide) c7 (qz_fr_13 (by decide) c7) rfl ?_
        refine ei_as hb dX4_canRide_56 (pc' := 58) (ls' := [some (.inr (.inl (some ((4, 0, 0) : qz_N)))), some (.inr (.inl (some ((0, 0, b0) : qz_N)))), some (.inl a1), some (.inl a2), some (.inl x1), some (.inl y5), some (.inr (.inl (some ((13, 0, 0) : qz_N)))), some (.inl (30 : Int32)), some (.inl y8), some (.inr (.inl (some ((0, 0, (y8).toNatClampNeg) : qz_N))))]) hml (Nat.le_of_ble_eq_true rfl) rfl rfl rfl ?_
        refine ei_al hb dX4_canRide_58 (pc' := 60) rfl rfl ?_
        refine ei_cv hb dX4_canRide_60 (pc' := 63) (M1 := (qz_mk f p)) (as := []) (rest := []) (st' := [.inl (gB_isRider f ((y8).toNatClampNeg))]) hcn qz_c_4_147 qz_k_3 (qz_q_44_3) (Nat.le_of_ble_eq_true rfl) (Nat.le_of_ble_eq_true rfl) rfl rfl rfl rfl (vB_isRider f p ((y8).toNatClampNeg)) rfl rfl ?_
        by_cases c8 : (gB_isRider f ((y8).toNatClampNeg)) = 0
        · rw [if_pos c8] at h
          refine ei_ifT hb dX4_canRide_63 (pc' := 111) (decide_eq_true c8) (by decide) ?_
          refine ei_inc hb dX4_canRide_111 (v := (y8 + 1)) (pc' := 114) (ls' := [some (.inr (.inl (some ((4, 0, 0) : qz_N)))), some (.inr (.inl (some ((0, 0, b0) : qz_N)))), some (.inl a1), some (.inl a2), some (.inl x1), some (.inl y5), some (.inr (.inl (some ((13, 0, 0) : qz_N)))), some (.inl (30 : Int32)), some (.inl (y8 + 1)), some (.inr (.inl (some ((0, 0, (y8).toNatClampNeg) : qz_N))))]) rfl hml (Nat.le_of_ble_eq_true rfl) rfl rfl rfl rfl ?_
          refine ei_go hb dX4_canRide_114 (pc' := 44) (by decide) ?_
          exact ih y5 (y8 + 1) _ h _
        · rw [if_neg c8] at h
          refine ei_ifF hb dX4_canRide_63 (pc' := 66) (t := 111) (decide_eq_false c8) (by decide) rfl ?_
          refine ei_al hb dX4_canRide_66 (pc' := 68) rfl rfl ?_
          refine ei_aln hb dX4_canRide_68 (pc' := 69) rfl rfl ?_
          refine ei_gi hb dX4_canRide_69 (pc' := 72) (x := (f ((0, 0, b0) : qz_N) 2)) hcn qz_f_4_89 rfl rfl rfl rfl ?_
          refine ei_iln hb dX4_canRide_72 (pc' := 73) rfl rfl ?_
          refine ei_iln hb dX4_canRide_73 (pc' := 74) rfl rfl ?_
          refine ei_cv hb dX4_canRide_74 (pc' := 77) (M1 := (qz_mk f p)) (as := [.inl (f ((0, 0, b0) : qz_N) 2), .inl a1, .inl a2]) (rest := []) (st' := [.inl (gB_isOfBus f ((y8).toNatClampNeg) (f ((0, 0, b0) : qz_N) 2) a1 a2)]) hcn qz_c_4_150 qz_k_4 (qz_q_44_4) (Nat.le_of_ble_eq_true rfl) (Nat.le_of_ble_eq_true rfl) rfl rfl rfl rfl (vB_isOfBus f p ((y8).toNatClampNeg) (f ((0, 0, b0) : qz_N) 2) a1 a2) rfl rfl ?_
          by_cases c9 : (gB_isOfBus f ((y8).toNatClampNeg) (f ((0, 0, b0) : qz_N) 2) a1 a2) = 0
          · rw [if_pos c9] at h
            refine ei_ifT hb dX4_canRide_77 (pc' := 111) (decide_eq_true c9) (by decide) ?_
            refine ei_inc hb dX4_canRide_111 (v := (y8 + 1)) (pc' := 114) (ls' := [some (.inr (.inl (some ((4, 0, 0) : qz_N)))), some (.inr (.inl (some ((0, 0, b0) : qz_N)))), some (.inl a1), some (.inl a2), some (.inl x1), some (.inl y5), some (.inr (.inl (some ((13, 0, 0) : qz_N)))), some (.inl (30 : Int32)), some (.inl (y8 + 1)), some (.inr (.inl (some ((0, 0, (y8).toNatClampNeg) : qz_N))))]) rfl hml (Nat.le_of_ble_eq_true rfl) rfl rfl rfl rfl ?_
            refine ei_go hb dX4_canRide_114 (pc' := 44) (by decide) ?_
            exact ih y5 (y8 + 1) _ h _
          · rw [if_neg c9] at h
            refine ei_ifF hb dX4_canRide_77 (pc' := 80) (t := 111) (decide_eq_false c9) (by decide) rfl ?_
            refine ei_aln hb dX4_canRide_80 (pc' := 81) rfl rfl ?_
            refine ei_al hb dX4_canRide_81 (pc' := 83) rfl rfl ?_
            refine ei_gi hb dX4_canRide_83 (pc' := 86) (x := (f ((0, 0, (y8).toNatClampNeg) : qz_N) 1)) hcn qz_f_4_86 rfl rfl rfl rfl ?_
            refine ei_al hb dX4_canRide_86 (pc' := 88) rfl rfl ?_
            refine ei_gi hb dX4_canRide_88 (pc' := 91) (x := (f ((0, 0, (y8).toNatClampNeg) : qz_N) 3)) hcn qz_f_4_92 rfl rfl rfl rfl ?_
            refine ei_il hb dX4_canRide_91 (pc' := 93) rfl rfl ?_
            obtain ⟨x10, e11, h⟩ := Option.bind_eq_some_iff.mp h
            refine ei_cv hb dX4_canRide_93 (pc' := 96) (M1 := (qz_mk f p)) (as := [.inl (f ((0, 0, (y8).toNatClampNeg) : qz_N) 1), .inl (f ((0, 0, (y8).toNatClampNeg) : qz_N) 3), .inl x1]) (rest := []) (st' := [.inl x10]) hcn qz_c_4_120 qz_k_38 (qz_q_44_38) (Nat.le_of_ble_eq_true rfl) (Nat.le_of_ble_eq_true rfl) rfl rfl rfl rfl (vW_isInTime F f p (f ((0, 0, (y8).toNatClampNeg) : qz_N) 1) (f ((0, 0, (y8).toNatClampNeg) : qz_N) 3) x1 _ e11) rfl rfl ?_
            by_cases c12 : x10 = 0
            · rw [if_pos c12] at h
              refine ei_ifT hb dX4_canRide_96 (pc' := 111) (decide_eq_true c12) (by decide) ?_
              refine ei_inc hb dX4_canRide_111 (v := (y8 + 1)) (pc' := 114) (ls' := [some (.inr (.inl (some ((4, 0, 0) : qz_N)))), some (.inr (.inl (some ((0, 0, b0) : qz_N)))), some (.inl a1), some (.inl a2), some (.inl x1), some (.inl y5), some (.inr (.inl (some ((13, 0, 0) : qz_N)))), some (.inl (30 : Int32)), some (.inl (y8 + 1)), some (.inr (.inl (some ((0, 0, (y8).toNatClampNeg) : qz_N))))]) rfl hml (Nat.le_of_ble_eq_true rfl) rfl rfl rfl rfl ?_
              refine ei_go hb dX4_canRide_114 (pc' := 44) (by decide) ?_
              exact ih y5 (y8 + 1) _ h _
            · rw [if_neg c12] at h
              refine ei_ifF hb dX4_canRide_96 (pc' := 99) (t := 111) (decide_eq_false c12) (by decide) rfl ?_
              refine ei_al hb dX4_canRide_99 (pc' := 101) rfl rfl ?_
              refine ei_aln hb dX4_canRide_101 (pc' := 102) rfl rfl ?_
              refine ei_cv hb dX4_canRide_102 (pc' := 105) (M1 := (qz_mk f p)) (as := [.inr (.inl (some ((0, 0, b0) : qz_N)))]) (rest := []) (st' := [.inl (gB_getsSeatAheadOf f ((y8).toNatClampNeg) b0)]) hcn qz_c_4_159 qz_k_5 (qz_q_44_5) (Nat.le_of_ble_eq_true rfl) (Nat.le_of_ble_eq_true rfl) rfl rfl rfl rfl (vB_getsSeatAheadOf f p ((y8).toNatClampNeg) b0) rfl rfl ?_
              by_cases c13 : (gB_getsSeatAheadOf f ((y8).toNatClampNeg) b0) = 0
              · rw [if_pos c13] at h
                refine ei_ifT hb dX4_canRide_105 (pc' := 111) (decide_eq_true c13) (by decide) ?_
                refine ei_inc hb dX4_canRide_111 (v := (y8 + 1)) (pc' := 114) (ls' := [some (.inr (.inl (some ((4, 0, 0) : qz_N)))), some (.inr (.inl (some ((0, 0, b0) : qz_N)))), some (.inl a1), some (.inl a2), some (.inl x1), some (.inl y5), some (.inr (.inl (some ((13, 0, 0) : qz_N)))), some (.inl (30 : Int32)), some (.inl (y8 + 1)), some (.inr (.inl (some ((0, 0, (y8).toNatClampNeg) : qz_N))))]) rfl hml (Nat.le_of_ble_eq_true rfl) rfl rfl rfl rfl ?_
                refine ei_go hb dX4_canRide_114 (pc' := 44) (by decide) ?_
                exact ih y5 (y8 + 1) _ h _
              · rw [if_neg c13] at h
                refine ei_ifF hb dX4_canRide_105 (pc' := 108) (t := 111) (decide_eq_false c13) (by decide) rfl ?_
                refine ei_inc hb dX4_canRide_108 (v := (y5 + 1)) (pc' := 111) (ls' := [some (.inr (.inl (some ((4, 0, 0) : qz_N)))), some (.inr (.inl (some ((0, 0, b0) : qz_N)))), some (.inl a1), some (.inl a2), some (.inl x1), some (.inl (y5 + 1)), some (.inr (.inl (some ((13, 0, 0) : qz_N)))), some (.inl (30 : Int32)), some (.inl y8), some (.inr (.inl (some ((0, 0, (y8).toNatClampNeg) : qz_N))))]) rfl hml (Nat.le_of_ble_eq_true rfl) rfl rfl rfl rfl ?_
                refine ei_inc hb dX4_canRide_111 (v := (y8 + 1)) (pc' := 114) (ls' := [some (.inr (.inl (some ((4, 0, 0) : qz_N)))), some (.inr (.inl (some ((0, 0, b0) : qz_N)))), some (.inl a1), some (.inl a2), some (.inl x1), some (.inl (y5 + 1)), some (.inr (.inl (some ((13, 0, 0) : qz_N)))), some (.inl (30 : Int32)), some (.inl (y8 + 1)), some (.inr (.inl (some ((0, 0, (y8).toNatClampNeg) : qz_N))))]) rfl hml (Nat.le_of_ble_eq_true rfl) rfl rfl rfl rfl ?_
                refine ei_go hb dX4_canRide_114 (pc' := 44) (by decide) ?_
                exact ih (y5 + 1) (y8 + 1) _ h _
      · rw [if_neg c7] at h
        cases h
set_option maxHeartbeats 4000000 in
theorem vW_canRide (F : Nat) (f : qz_F) (p : Nat → Nat) (b0 : Nat) (a1 : Int32) (a2 : Int32) (r : Int32) (h : (gW_canRide F f b0 a1 a2) = some r) : qz_E 44 0 (qz_in0 44 [.inr (.inl (some ((4, 0, 0) : qz_N))), .inr (.inl (some ((0, 0, b0) : qz_N))), .inl a1, .inl a2]) [] (qz_mk f p) (some (.inl r)) (qz_mk f p) := by
  have hb : qz_b 44 = cX4_canRide := rfl
  have hcn : qz_cn 44 = 4 := rfl
  have hml : qz_ml 44 = 10 := rfl
  show qz_E 44 0 [some (.inr (.inl (some ((4, 0, 0) : qz_N)))), some (.inr (.inl (some ((0, 0, b0) : qz_N)))), some (.inl a1), some (.inl a2), none, none, none, none, none, none] [] _ _ _
  rw [gW_canRide] at h
  refine ei_aln hb dX4_canRide_0 (pc' := 1) rfl rfl ?_
  refine ei_iln hb dX4_canRide_1 (pc' := 2) rfl rfl ?_
  refine ei_iln hb dX4_canRide_2 (pc' := 3) rfl rfl ?_
  obtain ⟨x1, e2, h⟩ := Option.bind_eq_some_iff.mp h
  refine ei_cv hb dX4_canRide_3 (pc' := 6) (M1 := (qz_mk f p)) (as := [.inl a1, .inl a2]) (rest := []) (st' := [.inl x1]) hcn qz_c_4_117 qz_k_35 (qz_q_44_35) (Nat.le_of_ble_eq_true rfl) (Nat.le_of_ble_eq_true rfl) rfl rfl rfl rfl (vW_startOf F f p a1 a2 _ e2) rfl rfl ?_
  refine ei_is hb dX4_canRide_6 (pc' := 8) (ls' := [some (.inr (.inl (some ((4, 0, 0) : qz_N)))), some (.inr (.inl (some ((0, 0, b0) : qz_N)))), some (.inl a1), some (.inl a2), some (.inl x1), none, none, none, none, none]) hml (Nat.le_of_ble_eq_true rfl) rfl rfl rfl ?_
  refine ei_aln hb dX4_canRide_8 (pc' := 9) rfl rfl ?_
  refine ei_aln hb dX4_canRide_9 (pc' := 10) rfl rfl ?_
  refine ei_gi hb dX4_canRide_10 (pc' := 13) (x := (f ((0, 0, b0) : qz_N) 1)) hcn qz_f_4_86 rfl rfl rfl rfl ?_
  refine ei_aln hb dX4_canRide_13 (pc' := 14) rfl rfl ?_
  refine ei_gi hb dX4_canRide_14 (pc' := 17) (x := (f ((0, 0, b0) : qz_N) 3)) hcn qz_f_4_92 rfl rfl rfl rfl ?_
  refine ei_il hb dX4_canRide_17 (pc' := 19) rfl rfl ?_
  obtain ⟨x3, e4, h⟩ := Option.bind_eq_some_iff.mp h
  refine ei_cv hb dX4_canRide_19 (pc' := 22) (M1 := (qz_mk f p)) (as := [.inl (f ((0, 0, b0) : qz_N) 1), .inl (f ((0, 0, b0) : qz_N) 3), .inl x1]) (rest := []) (st' := [.inl x3]) hcn qz_c_4_120 qz_k_38 (qz_q_44_38) (Nat.le_of_ble_eq_true rfl) (Nat.le_of_ble_eq_true rfl) rfl rfl rfl rfl (vW_isInTime F f p (f ((0, 0, b0) : qz_N) 1) (f ((0, 0, b0) : qz_N) 3) x1 _ e4) rfl rfl ?_
  by_cases c5 : x3 = 0
  · rw [if_pos c5] at h
    refine ei_ifF hb dX4_canRide_22 (pc' := 25) (t := 27) (decide_eq_false (fun q => q c5)) (by decide) rfl ?_
    refine ei_c hb dX4_canRide_25 (v := (0 : Int32)) (pc' := 26) (by decide) rfl ?_
    have h := Option.some.inj h
    subst h
    exact ei_retz hb dX4_canRide_26 rfl (by decide)
  · rw [if_neg c5] at h
    refine ei_ifT hb dX4_canRide_22 (pc' := 27) (decide_eq_true c5) (by decide) ?_
    refine ei_c hb dX4_canRide_27 (v := (0 : Int32)) (pc' := 28) (by decide) rfl ?_
    refine ei_is hb dX4_canRide_28 (pc' := 30) (ls' := [some (.inr (.inl (some ((4, 0, 0) : qz_N)))), some (.inr (.inl (some ((0, 0, b0) : qz_N)))), some (.inl a1), some (.inl a2), some (.inl x1), some (.inl (0 : Int32)), none, none, none, none]) hml (Nat.le_of_ble_eq_true rfl) rfl rfl rfl ?_
    refine ei_aln hb dX4_canRide_30 (pc' := 31) rfl rfl ?_
    refine ei_gr hb dX4_canRide_31 (pc' := 34) (x := some ((13, 0, 0) : qz_N)) hcn qz_f_4_30 rfl rfl rfl rfl ?_
    refine ei_as hb dX4_canRide_34 (pc' := 36) (ls' := [some (.inr (.inl (some ((4, 0, 0) : qz_N)))), some (.inr (.inl (some ((0, 0, b0) : qz_N)))), some (.inl a1), some (.inl a2), some (.inl x1), some (.inl (0 : Int32)), some (.inr (.inl (some ((13, 0, 0) : qz_N)))), none, none, none]) hml (Nat.le_of_ble_eq_true rfl) rfl rfl rfl ?_
    refine ei_al hb dX4_canRide_36 (pc' := 38) rfl rfl ?_
    refine ei_len hb dX4_canRide_38 (pc' := 39) (x := (30 : Int32)) (show ¬ qz_at 13 = 0 by decide) rfl rfl ?_
    refine ei_is hb dX4_canRide_39 (pc' := 41) (ls' := [some (.inr (.inl (some ((4, 0, 0) : qz_N)))), some (.inr (.inl (some ((0, 0, b0) : qz_N)))), some (.inl a1), some (.inl a2), some (.inl x1), some (.inl (0 : Int32)), some (.inr (.inl (some ((13, 0, 0) : qz_N)))), some (.inl (30 : Int32)), none, none]) hml (Nat.le_of_ble_eq_true rfl) rfl rfl rfl ?_
    refine ei_c hb dX4_canRide_41 (v := (0 : Int32)) (pc' := 42) (by decide) rfl ?_
    refine ei_is hb dX4_canRide_42 (pc' := 44) (ls' := [some (.inr (.inl (some ((4, 0, 0) : qz_N)))), some (.inr (.inl (some ((0, 0, b0) : qz_N)))), some (.inl a1), some (.inl a2), some (.inl x1), some (.inl (0 : Int32)), some (.inr (.inl (some ((13, 0, 0) : qz_N)))), some (.inl (30 : Int32)), some (.inl (0 : Int32)), none]) hml (Nat.le_of_ble_eq_true rfl) rfl rfl rfl ?_
    refine vW_canRide_L44 F f p b0 a1 a2 x1 _ ?_ F (0 : Int32) (0 : Int32) _ h _
    intro y514 y815 r h d16
    refine ei_il hb dX4_canRide_117 (pc' := 119) rfl rfl ?_
    refine ei_aln hb dX4_canRide_119 (pc' := 120) rfl rfl ?_
    refine ei_c hb dX4_canRide_120 (v := (1 : Int32)) (pc' := 121) (by decide) rfl ?_
    obtain ⟨x17, e18, h⟩ := Option.bind_eq_some_iff.mp h
    refine ei_cv hb dX4_canRide_121 (pc' := 124) (M1 := (qz_mk f p)) (as := [.inl (1 : Int32)]) (rest := [.inl y514]) (st' := [.inl x17, .inl y514]) hcn qz_c_4_114 qz_k_17 (qz_q_44_17) (Nat.le_of_ble_eq_true rfl) (Nat.le_of_ble_eq_true rfl) rfl rfl rfl rfl (vW_setting F f p (1 : Int32) _ e18) rfl rfl ?_
    by_cases c19 : x17 ≤ y514
    · rw [if_pos c19] at h
      refine ei_icT hb dX4_canRide_124 (pc' := 131) (decide_eq_true c19) (by decide) ?_
      refine ei_c hb dX4_canRide_131 (v := (0 : Int32)) (pc' := 132) (by decide) rfl ?_
      have h := Option.some.inj h
      subst h
      exact ei_retz hb dX4_canRide_132 rfl (by decide)
    · rw [if_neg c19] at h
      refine ei_icF hb dX4_canRide_124 (pc' := 127) (t := 131) (decide_eq_false c19) (by decide) rfl ?_
      refine ei_c hb dX4_canRide_127 (v := (1 : Int32)) (pc' := 128) (by decide) rfl ?_
      refine ei_go hb dX4_canRide_128 (pc' := 132) (by decide) ?_
      have h := Option.some.inj h
      subst h
      exact ei_retz hb dX4_canRide_132 rfl (by decide)
def gW_costToday_L17 (F : Nat) (f : qz_F) (a0 : Int32) (a1 : Int32) (a2 : Int32) (K : (Int32 → Int32 → Option (Int32))) : Nat → Int32 → Int32 → Option (Int32)
  | 0, _, _ => none
  | n + 1, y4, y7 => if (30 : Int32) ≤ y7 then (K y4 y7) else (if qz_xi y7 30 = true then (if (gB_isRider f ((y7).toNatClampNeg)) = 0 then ((gW_costToday_L17 F f a0 a1 a2 K) n y4 (y7 + 1)) else (if (gB_isOfBus f ((y7).toNatClampNeg) a0 a1 a2) = 0 then ((gW_costToday_L17 F f a0 a1 a2 K) n y4 (y7 + 1)) else (Option.bind (gW_canRide F f ((y7).toNatClampNeg) a1 a2) fun x5 => if x5 = 0 then ((gW_costToday_L17 F f a0 a1 a2 K) n y4 (y7 + 1)) else ((gW_costToday_L17 F f a0 a1 a2 K) n (if y4 < (f ((0, 0, (y7).toNatClampNeg) : qz_N) 3) then (f ((0, 0, (y7).toNatClampNeg) : qz_N) 3) else y4) (y7 + 1))))) else none)
def gW_costToday (F : Nat) (f : qz_F) (a0 : Int32) (a1 : Int32) (a2 : Int32) : Option (Int32) :=
  gW_costToday_L17 F f a0 a1 a2 (fun y48 y79 => if y48 = 0 then (some (0 : Int32)) else (some ((20 : Int32) + ((2 : Int32) * y48)))) F (0 : Int32) (0 : Int32)
set_option maxHeartbeats 4000000 in
theorem vW_costToday_L17 (F : Nat) (f : qz_F) (p : Nat → Nat) (a0 : Int32) (a1 : Int32) (a2 : Int32) (K : (Int32 → Int32 → Option (Int32))) (hK : ∀ (y4 : Int32) (y7 : Int32) (r : Int32), K y4 y7 = some r → ∀ (d8 : Option qz_V), qz_E 45 79 [some (.inr (.inl (some ((4, 0, 0) : qz_N)))), some (.inl a0), some (.inl a1), some (.inl a2), some (.inl y4), some (.inr (.inl (some ((13, 0, 0) : qz_N)))), some (.inl (30 : Int32)), some (.inl y7), d8] [] (qz_mk f p) (some (.inl r)) (qz_mk f p)) : ∀ (n : Nat) (y4 : Int32) (y7 : Int32) (r : Int32), gW_costToday_L17 F f a0 a1 a2 K n y4 y7 = some r → ∀ (d8 : Option qz_V), qz_E 45 17 [some (.inr (.inl (some ((4, 0, 0) : qz_N)))), some (.inl a0), some (.inl a1), some (.inl a2), some (.inl y4), some (.inr (.inl (some ((13, 0, 0) : qz_N)))), some (.inl (30 : Int32)), some (.inl y7), d8] [] (qz_mk f p) (some (.inl r)) (qz_mk f p) := by
  have hb : qz_b 45 = cX4_costToday := rfl
  have hcn : qz_cn 45 = 4 := rfl
  have hml : qz_ml 45 = 9 := rfl
  intro n
  induction n with
  | zero =>
    intro y4 y7 r h
    cases h
  | succ n ih =>
    intro y4 y7 r h d8
    rw [gW_costToday_L17] at h
    refine ei_il hb dX4_costToday_17 (pc' := 19) rfl rfl ?_
    refine ei_il hb dX4_costToday_19 (pc' := 21) rfl rfl ?_
    by_cases c1 : (30 : Int32) ≤ y7
    · rw [if_pos c1] at h
      refine ei_icT hb dX4_costToday_21 (pc' := 79) (decide_eq_true c1) (by decide) ?_
      exact hK y4 y7 _ h _
    · rw [if_neg c1] at h
      refine ei_icF hb dX4_costToday_21 (pc' := 24) (t := 79) (decide_eq_false c1) (by decide) rfl ?_
      refine ei_al hb dX4_costToday_24 (pc' := 26) rfl rfl ?_
      refine ei_il hb dX4_costToday_26 (pc' := 28) rfl rfl ?_
      by_cases c2 : qz_xi y7 30 = true
      · rw [if_pos c2] at h
        refine ei_aa hb dX4_costToday_28 (pc' := 29) (x := some ((0, 0, (y7).toNatClampNeg) : qz_N)) (show 4 ≤ qz_at 13 by decide) c2 (qz_fr_13 (by decide) c2) rfl ?_
        refine ei_as hb dX4_costToday_29 (pc' := 31) (ls' := [some (.inr (.inl (some ((4, 0, 0) : qz_N)))), some (.inl a0), some (.inl a1), some (.inl a2), some (.inl y4), some (.inr (.inl (some ((13, 0, 0) : qz_N)))), some (.inl (30 : Int32)), some (.inl y7), some (.inr (.inl (some ((0, 0, (y7).toNatClampNeg) : qz_N))))]) hml (Nat.le_of_ble_eq_true rfl) rfl rfl rfl ?_
        refine ei_al hb dX4_costToday_31 (pc' := 33) rfl rfl ?_
        refine ei_cv hb dX4_costToday_33 (pc' := 36) (M1 := (qz_mk f p)) (as := []) (rest := []) (st' := [.inl (gB_isRider f ((y7).toNatClampNeg))]) hcn qz_c_4_147 qz_k_3 (qz_q_45_3) (Nat.le_of_ble_eq_true rfl) (Nat.le_of_ble_eq_true rfl) rfl rfl rfl rfl (vB_isRider f p ((y7).toNatClampNeg)) rfl rfl ?_
        by_cases c3 : (gB_isRider f ((y7).toNatClampNeg)) = 0
        · rw [if_pos c3] at h
          refine ei_ifT hb dX4_costToday_36 (pc' := 73) (decide_eq_true c3) (by decide) ?_
          refine ei_inc hb dX4_costToday_73 (v := (y7 + 1)) (pc' := 76) (ls' := [some (.inr (.inl (some ((4, 0, 0) : qz_N)))), some (.inl a0), some (.inl a1), some (.inl a2), some (.inl y4), some (.inr (.inl (some ((13, 0, 0) : qz_N)))), some (.inl (30 : Int32)), some (.inl (y7 + 1)), some (.inr (.inl (some ((0, 0, (y7).toNatClampNeg) : qz_N))))]) rfl hml (Nat.le_of_ble_eq_true rfl) rfl rfl rfl rfl ?_
          refine ei_go hb dX4_costToday_76 (pc' := 17) (by decide) ?_
          exact ih y4 (y7 + 1) _ h _
        · rw [if_neg c3] at h
          refine ei_ifF hb dX4_costToday_36 (pc' := 39) (t := 73) (decide_eq_false c3) (by decide) rfl ?_
          refine ei_al hb dX4_costToday_39 (pc' := 41) rfl rfl ?_
          refine ei_iln hb dX4_costToday_41 (pc' := 42) rfl rfl ?_
          refine ei_iln hb dX4_costToday_42 (pc' := 43) rfl rfl ?_
          refine ei_iln hb dX4_costToday_43 (pc' := 44) rfl rfl ?_
          refine ei_cv hb dX4_costToday_44 (pc' := 47) (M1 := (qz_mk f p)) (as := [.inl a0, .inl a1, .inl a2]) (rest := []) (st' := [.inl (gB_isOfBus f ((y7).toNatClampNeg) a0 a1 a2)]) hcn qz_c_4_150 qz_k_4 (qz_q_45_4) (Nat.le_of_ble_eq_true rfl) (Nat.le_of_ble_eq_true rfl) rfl rfl rfl rfl (vB_isOfBus f p ((y7).toNatClampNeg) a0 a1 a2) rfl rfl ?_
          by_cases c4 : (gB_isOfBus f ((y7).toNatClampNeg) a0 a1 a2) = 0
          · rw [if_pos c4] at h
            refine ei_ifT hb dX4_costToday_47 (pc' := 73) (decide_eq_true c4) (by decide) ?_
            refine ei_inc hb dX4_costToday_73 (v := (y7 + 1)) (pc' := 76) (ls' := [some (.inr (.inl (some ((4, 0, 0) : qz_N)))), some (.inl a0), some (.inl a1), some (.inl a2), some (.inl y4), some (.inr (.inl (some ((13, 0, 0) : qz_N)))), some (.inl (30 : Int32)), some (.inl (y7 + 1)), some (.inr (.inl (some ((0, 0, (y7).toNatClampNeg) : qz_N))))]) rfl hml (Nat.le_of_ble_eq_true rfl) rfl rfl rfl rfl ?_
            refine ei_go hb dX4_costToday_76 (pc' := 17) (by decide) ?_
            exact ih y4 (y7 + 1) _ h _
          · rw [if_neg c4] at h
            refine ei_ifF hb dX4_costToday_47 (pc' := 50) (t := 73) (decide_eq_false c4) (by decide) rfl ?_
            refine ei_aln hb dX4_costToday_50 (pc' := 51) rfl rfl ?_
            refine ei_al hb dX4_costToday_51 (pc' := 53) rfl rfl ?_
            refine ei_iln hb dX4_costToday_53 (pc' := 54) rfl rfl ?_
            refine ei_iln hb dX4_costToday_54 (pc' := 55) rfl rfl ?_
            obtain ⟨x5, e6, h⟩ := Option.bind_eq_some_iff.mp h
            refine ei_cv hb dX4_costToday_55 (pc' := 58) (M1 := (qz_mk f p)) (as := [.inr (.inl (some ((0, 0, (y7).toNatClampNeg) : qz_N))), .inl a1, .inl a2]) (rest := []) (st' := [.inl x5]) hcn qz_c_4_163 qz_k_44 (qz_q_45_44) (Nat.le_of_ble_eq_true rfl) (Nat.le_of_ble_eq_true rfl) rfl rfl rfl rfl (vW_canRide F f p ((y7).toNatClampNeg) a1 a2 _ e6) rfl rfl ?_
            by_cases c7 : x5 = 0
            · rw [if_pos c7] at h
              refine ei_ifT hb dX4_costToday_58 (pc' := 73) (decide_eq_true c7) (by decide) ?_
              refine ei_inc hb dX4_costToday_73 (v := (y7 + 1)) (pc' := 76) (ls' := [some (.inr (.inl (some ((4, 0, 0) : qz_N)))), some (.inl a0), some (.inl a1), some (.inl a2), some (.inl y4), some (.inr (.inl (some ((13, 0, 0) : qz_N)))), some (.inl (30 : Int32)), some (.inl (y7 + 1)), some (.inr (.inl (some ((0, 0, (y7).toNatClampNeg) : qz_N))))]) rfl hml (Nat.le_of_ble_eq_true rfl) rfl rfl rfl rfl ?_
              refine ei_go hb dX4_costToday_76 (pc' := 17) (by decide) ?_
              exact ih y4 (y7 + 1) _ h _
            · rw [if_neg c7] at h
              refine ei_ifF hb dX4_costToday_58 (pc' := 61) (t := 73) (decide_eq_false c7) (by decide) rfl ?_
              refine ei_il hb dX4_costToday_61 (pc' := 63) rfl rfl ?_
              refine ei_al hb dX4_costToday_63 (pc' := 65) rfl rfl ?_
              refine ei_gi hb dX4_costToday_65 (pc' := 68) (x := (f ((0, 0, (y7).toNatClampNeg) : qz_N) 3)) hcn qz_f_4_92 rfl rfl rfl rfl ?_
              refine ei_max hb dX4_costToday_68 (pc' := 71) hcn qz_m_4_138 (Nat.le_of_ble_eq_true rfl) (by decide +kernel) rfl ?_
              refine ei_is hb dX4_costToday_71 (pc' := 73) (ls' := [some (.inr (.inl (some ((4, 0, 0) : qz_N)))), some (.inl a0), some (.inl a1), some (.inl a2), some (.inl (if y4 < (f ((0, 0, (y7).toNatClampNeg) : qz_N) 3) then (f ((0, 0, (y7).toNatClampNeg) : qz_N) 3) else y4)), some (.inr (.inl (some ((13, 0, 0) : qz_N)))), some (.inl (30 : Int32)), some (.inl y7), some (.inr (.inl (some ((0, 0, (y7).toNatClampNeg) : qz_N))))]) hml (Nat.le_of_ble_eq_true rfl) rfl rfl rfl ?_
              refine ei_inc hb dX4_costToday_73 (v := (y7 + 1)) (pc' := 76) (ls' := [some (.inr (.inl (some ((4, 0, 0) : qz_N)))), some (.inl a0), some (.inl a1), some (.inl a2), some (.inl (if y4 < (f ((0, 0, (y7).toNatClampNeg) : qz_N) 3) then (f ((0, 0, (y7).toNatClampNeg) : qz_N) 3) else y4)), some (.inr (.inl (some ((13, 0, 0) : qz_N)))), some (.inl (30 : Int32)), some (.inl (y7 + 1)), some (.inr (.inl (some ((0, 0, (y7).toNatClampNeg) : qz_N))))]) rfl hml (Nat.le_of_ble_eq_true rfl) rfl rfl rfl rfl ?_
              refine ei_go hb dX4_costToday_76 (pc' := 17) (by decide) ?_
              exact ih (if y4 < (f ((0, 0, (y7).toNatClampNeg) : qz_N) 3) then (f ((0, 0, (y7).toNatClampNeg) : qz_N) 3) else y4) (y7 + 1) _ h _
      · rw [if_neg c2] at h
        cases h
set_option maxHeartbeats 4000000 in
theorem vW_costToday (F : Nat) (f : qz_F) (p : Nat → Nat) (a0 : Int32) (a1 : Int32) (a2 : Int32) (r : Int32) (h : (gW_costToday F f a0 a1 a2) = some r) : qz_E 45 0 (qz_in0 45 [.inr (.inl (some ((4, 0, 0) : qz_N))), .inl a0, .inl a1, .inl a2]) [] (qz_mk f p) (some (.inl r)) (qz_mk f p) := by
  have hb : qz_b 45 = cX4_costToday := rfl
  have hcn : qz_cn 45 = 4 := rfl
  have hml : qz_ml 45 = 9 := rfl
  show qz_E 45 0 [some (.inr (.inl (some ((4, 0, 0) : qz_N)))), some (.inl a0), some (.inl a1), some (.inl a2), none, none, none, none, none] [] _ _ _
  rw [gW_costToday] at h
  refine ei_c hb dX4_costToday_0 (v := (0 : Int32)) (pc' := 1) (by decide) rfl ?_
  refine ei_is hb dX4_costToday_1 (pc' := 3) (ls' := [some (.inr (.inl (some ((4, 0, 0) : qz_N)))), some (.inl a0), some (.inl a1), some (.inl a2), some (.inl (0 : Int32)), none, none, none, none]) hml (Nat.le_of_ble_eq_true rfl) rfl rfl rfl ?_
  refine ei_aln hb dX4_costToday_3 (pc' := 4) rfl rfl ?_
  refine ei_gr hb dX4_costToday_4 (pc' := 7) (x := some ((13, 0, 0) : qz_N)) hcn qz_f_4_30 rfl rfl rfl rfl ?_
  refine ei_as hb dX4_costToday_7 (pc' := 9) (ls' := [some (.inr (.inl (some ((4, 0, 0) : qz_N)))), some (.inl a0), some (.inl a1), some (.inl a2), some (.inl (0 : Int32)), some (.inr (.inl (some ((13, 0, 0) : qz_N)))), none, none, none]) hml (Nat.le_of_ble_eq_true rfl) rfl rfl rfl ?_
  refine ei_al hb dX4_costToday_9 (pc' := 11) rfl rfl ?_
  refine ei_len hb dX4_costToday_11 (pc' := 12) (x := (30 : Int32)) (show ¬ qz_at 13 = 0 by decide) rfl rfl ?_
  refine ei_is hb dX4_costToday_12 (pc' := 14) (ls' := [some (.inr (.inl (some ((4, 0, 0) : qz_N)))), some (.inl a0), some (.inl a1), some (.inl a2), some (.inl (0 : Int32)), some (.inr (.inl (some ((13, 0, 0) : qz_N)))), some (.inl (30 : Int32)), none, none]) hml (Nat.le_of_ble_eq_true rfl) rfl rfl rfl ?_
  refine ei_c hb dX4_costToday_14 (v := (0 : Int32)) (pc' := 15) (by decide) rfl ?_
  refine ei_is hb dX4_costToday_15 (pc' := 17) (ls' := [some (.inr (.inl (some ((4, 0, 0) : qz_N)))), some (.inl a0), some (.inl a1), some (.inl a2), some (.inl (0 : Int32)), some (.inr (.inl (some ((13, 0, 0) : qz_N)))), some (.inl (30 : Int32)), some (.inl (0 : Int32)), none]) hml (Nat.le_of_ble_eq_true rfl) rfl rfl rfl ?_
  refine vW_costToday_L17 F f p a0 a1 a2 _ ?_ F (0 : Int32) (0 : Int32) _ h _
  intro y48 y79 r h d10
  refine ei_il hb dX4_costToday_79 (pc' := 81) rfl rfl ?_
  by_cases c11 : y48 = 0
  · rw [if_pos c11] at h
    refine ei_ifF hb dX4_costToday_81 (pc' := 84) (t := 88) (decide_eq_false (fun q => q c11)) (by decide) rfl ?_
    refine ei_c hb dX4_costToday_84 (v := (0 : Int32)) (pc' := 85) (by decide) rfl ?_
    refine ei_go hb dX4_costToday_85 (pc' := 95) (by decide) ?_
    have h := Option.some.inj h
    subst h
    exact ei_reti hb dX4_costToday_95 rfl
  · rw [if_neg c11] at h
    refine ei_ifT hb dX4_costToday_81 (pc' := 88) (decide_eq_true c11) (by decide) ?_
    refine ei_b hb dX4_costToday_88 (v := (20 : Int32)) (pc' := 90) (by decide) rfl ?_
    refine ei_c hb dX4_costToday_90 (v := (2 : Int32)) (pc' := 91) (by decide) rfl ?_
    refine ei_il hb dX4_costToday_91 (pc' := 93) rfl rfl ?_
    refine ei_mul hb dX4_costToday_93 (pc' := 94) rfl ?_
    refine ei_add hb dX4_costToday_94 (pc' := 95) rfl ?_
    have h := Option.some.inj h
    subst h
    exact ei_reti hb dX4_costToday_95 rfl
def gW_runBuses_L9 (F : Nat) (y1 : Int32) (K : (Int32 → qz_S → Option (qz_S))) : Nat → Int32 → qz_S → Option (qz_S)
  | 0, _, _ => none
  | n + 1, y2, T => if (T.1 ((4, 0, 0) : qz_N) 0) ≤ y2 then (K y2 T) else (Option.bind (gW_partnerOf F T.1 y1 y2) fun x3 => if x3 = (-5 : Int32) then (Option.bind (gW_costToday F T.1 y1 y2 x3) fun x6 => qz_let (qz_wr T ((4, 0, 0) : qz_N) 10 ((T.1 ((4, 0, 0) : qz_N) 10) + x6)) fun S8 => (gW_runBuses_L9 F y1 K) n (y2 + 1) S8) else (Option.bind (gW_isEarlier F T.1 y2 x3) fun x9 => if x9 = 0 then (Option.bind (gW_costToday F T.1 y1 y2 x3) fun x12 => qz_let (qz_wr T ((4, 0, 0) : qz_N) 10 ((T.1 ((4, 0, 0) : qz_N) 10) + x12)) fun S14 => (gW_runBuses_L9 F y1 K) n (y2 + 1) S14) else ((gW_runBuses_L9 F y1 K) n (y2 + 1) T)))
def gW_runBuses_L2 (F : Nat)  (K : (Int32 → qz_S → Option (qz_S))) : Nat → Int32 → qz_S → Option (qz_S)
  | 0, _, _ => none
  | n + 1, y1, T => if (2 : Int32) ≤ y1 then (K y1 T) else (gW_runBuses_L9 F y1 (fun y215 T16 => (gW_runBuses_L2 F K) n (y1 + 1) T16) F (0 : Int32) T)
def gW_runBuses (F : Nat) (S : qz_S)  : Option (qz_S) :=
  gW_runBuses_L2 F (fun y119 T20 => some T20) F (0 : Int32) S
set_option maxHeartbeats 4000000 in
theorem vW_runBuses_L9 (F : Nat) (y1 : Int32) (K : (Int32 → qz_S → Option (qz_S))) (hK : ∀ (y2 : Int32) (T : qz_S) (r : qz_S), K y2 T = some r → ∀ (d3 : Option qz_V) (d4 : Option qz_V), qz_E 46 73 [some (.inr (.inl (some ((4, 0, 0) : qz_N)))), some (.inl y1), some (.inl y2), d3, d4] [] (qz_mk T.1 T.2) none (qz_mk r.1 r.2)) : ∀ (n : Nat) (y2 : Int32) (T : qz_S) (r : qz_S), gW_runBuses_L9 F y1 K n y2 T = some r → ∀ (d3 : Option qz_V) (d4 : Option qz_V), qz_E 46 9 [some (.inr (.inl (some ((4, 0, 0) : qz_N)))), some (.inl y1), some (.inl y2), d3, d4] [] (qz_mk T.1 T.2) none (qz_mk r.1 r.2) := by
  have hb : qz_b 46 = cX4_runBuses := rfl
  have hcn : qz_cn 46 = 4 := rfl
  have hml : qz_ml 46 = 5 := rfl
  intro n
  induction n with
  | zero =>
    intro y2 T r h
    cases h
  | succ n ih =>
    intro y2 T r h d3 d4
    rw [gW_runBuses_L9] at h
    refine ei_iln hb dX4_runBuses_9 (pc' := 10) rfl rfl ?_
    refine ei_aln hb dX4_runBuses_10 (pc' := 11) rfl rfl ?_
    refine ei_gi hb dX4_runBuses_11 (pc' := 14) (x := (T.1 ((4, 0, 0) : qz_N) 0)) hcn qz_f_4_9 rfl rfl rfl rfl ?_
    by_cases c2 : (T.1 ((4, 0, 0) : qz_N) 0) ≤ y2
    · rw [if_pos c2] at h
      refine ei_icT hb dX4_runBuses_14 (pc' := 73) (decide_eq_true c2) (by decide) ?_
      exact hK y2 T _ h _ _
    · rw [if_neg c2] at h
      refine ei_icF hb dX4_runBuses_14 (pc' := 17) (t := 73) (decide_eq_false c2) (by decide) rfl ?_
      refine ei_aln hb dX4_runBuses_17 (pc' := 18) rfl rfl ?_
      refine ei_iln hb dX4_runBuses_18 (pc' := 19) rfl rfl ?_
      refine ei_iln hb dX4_runBuses_19 (pc' := 20) rfl rfl ?_
      obtain ⟨x3, e4, h⟩ := Option.bind_eq_some_iff.mp h
      refine ei_cv hb dX4_runBuses_20 (pc' := 23) (M1 := (qz_mk T.1 T.2)) (as := [.inl y1, .inl y2]) (rest := []) (st' := [.inl x3]) hcn qz_c_4_106 qz_k_32 (qz_q_46_32) (Nat.le_of_ble_eq_true rfl) (Nat.le_of_ble_eq_true rfl) rfl rfl rfl rfl (vW_partnerOf F T.1 T.2 y1 y2 _ e4) rfl rfl ?_
      refine ei_isn hb dX4_runBuses_23 (pc' := 24) (ls' := [some (.inr (.inl (some ((4, 0, 0) : qz_N)))), some (.inl y1), some (.inl y2), some (.inl x3), d4]) hml (Nat.le_of_ble_eq_true rfl) rfl rfl rfl ?_
      refine ei_iln hb dX4_runBuses_24 (pc' := 25) rfl rfl ?_
      refine ei_b hb dX4_runBuses_25 (v := (-5 : Int32)) (pc' := 27) (by decide) rfl ?_
      by_cases c5 : x3 = (-5 : Int32)
      · rw [if_pos c5] at h
        refine ei_icT hb dX4_runBuses_27 (pc' := 43) (decide_eq_true c5) (by decide) ?_
        refine ei_c hb dX4_runBuses_43 (v := (0 : Int32)) (pc' := 44) (by decide) rfl ?_
        refine ei_is hb dX4_runBuses_44 (pc' := 46) (ls' := [some (.inr (.inl (some ((4, 0, 0) : qz_N)))), some (.inl y1), some (.inl y2), some (.inl x3), some (.inl (0 : Int32))]) hml (Nat.le_of_ble_eq_true rfl) rfl rfl rfl ?_
        refine ei_il hb dX4_runBuses_46 (pc' := 48) rfl rfl ?_
        refine ei_ifF hb dX4_runBuses_48 (pc' := 51) (t := 67) (by decide) (by decide) rfl ?_
        refine ei_aln hb dX4_runBuses_51 (pc' := 52) rfl rfl ?_
        refine ei_dup hb dX4_runBuses_52 (pc' := 53) rfl rfl ?_
        refine ei_gi hb dX4_runBuses_53 (pc' := 56) (x := (T.1 ((4, 0, 0) : qz_N) 10)) hcn qz_f_4_49 rfl rfl rfl rfl ?_
        refine ei_aln hb dX4_runBuses_56 (pc' := 57) rfl rfl ?_
        refine ei_iln hb dX4_runBuses_57 (pc' := 58) rfl rfl ?_
        refine ei_iln hb dX4_runBuses_58 (pc' := 59) rfl rfl ?_
        refine ei_iln hb dX4_runBuses_59 (pc' := 60) rfl rfl ?_
        obtain ⟨x6, e7, h⟩ := Option.bind_eq_some_iff.mp h
        refine ei_cv hb dX4_runBuses_60 (pc' := 63) (M1 := (qz_mk T.1 T.2)) (as := [.inl y1, .inl y2, .inl x3]) (rest := [.inl (T.1 ((4, 0, 0) : qz_N) 10), .inr (.inl (some ((4, 0, 0) : qz_N)))]) (st' := [.inl x6, .inl (T.1 ((4, 0, 0) : qz_N) 10), .inr (.inl (some ((4, 0, 0) : qz_N)))]) hcn qz_c_4_167 qz_k_45 (qz_q_46_45) (Nat.le_of_ble_eq_true rfl) (Nat.le_of_ble_eq_true rfl) rfl rfl rfl rfl (vW_costToday F T.1 T.2 y1 y2 x3 _ e7) rfl rfl ?_
        refine ei_add hb dX4_runBuses_63 (pc' := 64) rfl ?_
        obtain ⟨S8, eS8⟩ : ∃ q, q = qz_wr T ((4, 0, 0) : qz_N) 10 ((T.1 ((4, 0, 0) : qz_N) 10) + x6) := ⟨_, rfl⟩
        rw [qz_let, ← eS8] at h
        refine ei_pi hb dX4_runBuses_64 (pc' := 67) (M1 := (qz_mk S8.1 S8.2)) hcn qz_f_4_49 rfl rfl (fun q => by cases q) rfl (by rw [eS8]; rfl) rfl ?_
        refine ei_inc hb dX4_runBuses_67 (v := (y2 + 1)) (pc' := 70) (ls' := [some (.inr (.inl (some ((4, 0, 0) : qz_N)))), some (.inl y1), some (.inl (y2 + 1)), some (.inl x3), some (.inl (0 : Int32))]) rfl hml (Nat.le_of_ble_eq_true rfl) rfl rfl rfl rfl ?_
        refine ei_go hb dX4_runBuses_70 (pc' := 9) (by decide) ?_
        exact ih (y2 + 1) S8 _ h _ _
      · rw [if_neg c5] at h
        refine ei_icF hb dX4_runBuses_27 (pc' := 30) (t := 43) (decide_eq_false c5) (by decide) rfl ?_
        refine ei_aln hb dX4_runBuses_30 (pc' := 31) rfl rfl ?_
        refine ei_iln hb dX4_runBuses_31 (pc' := 32) rfl rfl ?_
        refine ei_iln hb dX4_runBuses_32 (pc' := 33) rfl rfl ?_
        obtain ⟨x9, e10, h⟩ := Option.bind_eq_some_iff.mp h
        refine ei_cv hb dX4_runBuses_33 (pc' := 36) (M1 := (qz_mk T.1 T.2)) (as := [.inl y2, .inl x3]) (rest := []) (st' := [.inl x9]) hcn qz_c_4_71 qz_k_22 (qz_q_46_22) (Nat.le_of_ble_eq_true rfl) (Nat.le_of_ble_eq_true rfl) rfl rfl rfl rfl (vW_isEarlier F T.1 T.2 y2 x3 _ e10) rfl rfl ?_
        by_cases c11 : x9 = 0
        · rw [if_pos c11] at h
          refine ei_ifT hb dX4_runBuses_36 (pc' := 43) (decide_eq_true c11) (by decide) ?_
          refine ei_c hb dX4_runBuses_43 (v := (0 : Int32)) (pc' := 44) (by decide) rfl ?_
          refine ei_is hb dX4_runBuses_44 (pc' := 46) (ls' := [some (.inr (.inl (some ((4, 0, 0) : qz_N)))), some (.inl y1), some (.inl y2), some (.inl x3), some (.inl (0 : Int32))]) hml (Nat.le_of_ble_eq_true rfl) rfl rfl rfl ?_
          refine ei_il hb dX4_runBuses_46 (pc' := 48) rfl rfl ?_
          refine ei_ifF hb dX4_runBuses_48 (pc' := 51) (t := 67) (by decide) (by decide) rfl ?_
          refine ei_aln hb dX4_runBuses_51 (pc' := 52) rfl rfl ?_
          refine ei_dup hb dX4_runBuses_52 (pc' := 53) rfl rfl ?_
          refine ei_gi hb dX4_runBuses_53 (pc' := 56) (x := (T.1 ((4, 0, 0) : qz_N) 10)) hcn qz_f_4_49 rfl rfl rfl rfl ?_
          refine ei_aln hb dX4_runBuses_56 (pc' := 57) rfl rfl ?_
          refine ei_iln hb dX4_runBuses_57 (pc' := 58) rfl rfl ?_
          refine ei_iln hb dX4_runBuses_58 (pc' := 59) rfl rfl ?_
          refine ei_iln hb dX4_runBuses_59 (pc' := 60) rfl rfl ?_
          obtain ⟨x12, e13, h⟩ := Option.bind_eq_some_iff.mp h
          refine ei_cv hb dX4_runBuses_60 (pc' := 63) (M1 := (qz_mk T.1 T.2)) (as := [.inl y1, .inl y2, .inl x3]) (rest := [.inl (T.1 ((4, 0, 0) : qz_N) 10), .inr (.inl (some ((4, 0, 0) : qz_N)))]) (st' := [.inl x12, .inl (T.1 ((4, 0, 0) : qz_N) 10), .inr (.inl (some ((4, 0, 0) : qz_N)))]) hcn qz_c_4_167 qz_k_45 (qz_q_46_45) (Nat.le_of_ble_eq_true rfl) (Nat.le_of_ble_eq_true rfl) rfl rfl rfl rfl (vW_costToday F T.1 T.2 y1 y2 x3 _ e13) rfl rfl ?_
          refine ei_add hb dX4_runBuses_63 (pc' := 64) rfl ?_
          obtain ⟨S14, eS14⟩ : ∃ q, q = qz_wr T ((4, 0, 0) : qz_N) 10 ((T.1 ((4, 0, 0) : qz_N) 10) + x12) := ⟨_, rfl⟩
          rw [qz_let, ← eS14] at h
          refine ei_pi hb dX4_runBuses_64 (pc' := 67) (M1 := (qz_mk S14.1 S14.2)) hcn qz_f_4_49 rfl rfl (fun q => by cases q) rfl (by rw [eS14]; rfl) rfl ?_
          refine ei_inc hb dX4_runBuses_67 (v := (y2 + 1)) (pc' := 70) (ls' := [some (.inr (.inl (some ((4, 0, 0) : qz_N)))), some (.inl y1), some (.inl (y2 + 1)), some (.inl x3), some (.inl (0 : Int32))]) rfl hml (Nat.le_of_ble_eq_true rfl) rfl rfl rfl rfl ?_
          refine ei_go hb dX4_runBuses_70 (pc' := 9) (by decide) ?_
          exact ih (y2 + 1) S14 _ h _ _
        · rw [if_neg c11] at h
          refine ei_ifF hb dX4_runBuses_36 (pc' := 39) (t := 43) (decide_eq_false c11) (by decide) rfl ?_
          refine ei_c hb dX4_runBuses_39 (v := (1 : Int32)) (pc' := 40) (by decide) rfl ?_
          refine ei_go hb dX4_runBuses_40 (pc' := 44) (by decide) ?_
          refine ei_is hb dX4_runBuses_44 (pc' := 46) (ls' := [some (.inr (.inl (some ((4, 0, 0) : qz_N)))), some (.inl y1), some (.inl y2), some (.inl x3), some (.inl (1 : Int32))]) hml (Nat.le_of_ble_eq_true rfl) rfl rfl rfl ?_
          refine ei_il hb dX4_runBuses_46 (pc' := 48) rfl rfl ?_
          refine ei_ifT hb dX4_runBuses_48 (pc' := 67) (by decide) (by decide) ?_
          refine ei_inc hb dX4_runBuses_67 (v := (y2 + 1)) (pc' := 70) (ls' := [some (.inr (.inl (some ((4, 0, 0) : qz_N)))), some (.inl y1), some (.inl (y2 + 1)), some (.inl x3), some (.inl (1 : Int32))]) rfl hml (Nat.le_of_ble_eq_true rfl) rfl rfl rfl rfl ?_
          refine ei_go hb dX4_runBuses_70 (pc' := 9) (by decide) ?_
          exact ih (y2 + 1) T _ h _ _
set_option maxHeartbeats 4000000 in
theorem vW_runBuses_L2 (F : Nat)  (K : (Int32 → qz_S → Option (qz_S))) (hK : ∀ (y1 : Int32) (T : qz_S) (r : qz_S), K y1 T = some r → ∀ (d2 : Option qz_V) (d3 : Option qz_V) (d4 : Option qz_V), qz_E 46 79 [some (.inr (.inl (some ((4, 0, 0) : qz_N)))), some (.inl y1), d2, d3, d4] [] (qz_mk T.1 T.2) none (qz_mk r.1 r.2)) : ∀ (n : Nat) (y1 : Int32) (T : qz_S) (r : qz_S), gW_runBuses_L2 F K n y1 T = some r → ∀ (d2 : Option qz_V) (d3 : Option qz_V) (d4 : Option qz_V), qz_E 46 2 [some (.inr (.inl (some ((4, 0, 0) : qz_N)))), some (.inl y1), d2, d3, d4] [] (qz_mk T.1 T.2) none (qz_mk r.1 r.2) := by
  have hb : qz_b 46 = cX4_runBuses := rfl
  have hcn : qz_cn 46 = 4 := rfl
  have hml : qz_ml 46 = 5 := rfl
  intro n
  induction n with
  | zero =>
    intro y1 T r h
    cases h
  | succ n ih =>
    intro y1 T r h d2 d3 d4
    rw [gW_runBuses_L2] at h
    refine ei_iln hb dX4_runBuses_2 (pc' := 3) rfl rfl ?_
    refine ei_c hb dX4_runBuses_3 (v := (2 : Int32)) (pc' := 4) (by decide) rfl ?_
    by_cases c1 : (2 : Int32) ≤ y1
    · rw [if_pos c1] at h
      refine ei_icT hb dX4_runBuses_4 (pc' := 79) (decide_eq_true c1) (by decide) ?_
      exact hK y1 T _ h _ _ _
    · rw [if_neg c1] at h
      refine ei_icF hb dX4_runBuses_4 (pc' := 7) (t := 79) (decide_eq_false c1) (by decide) rfl ?_
      refine ei_c hb dX4_runBuses_7 (v := (0 : Int32)) (pc' := 8) (by decide) rfl ?_
      refine ei_isn hb dX4_runBuses_8 (pc' := 9) (ls' := [some (.inr (.inl (some ((4, 0, 0) : qz_N)))), some (.inl y1), some (.inl (0 : Int32)), d3, d4]) hml (Nat.le_of_ble_eq_true rfl) rfl rfl rfl ?_
      refine vW_runBuses_L9 F y1 _ ?_ F (0 : Int32) T _ h _ _
      intro y215 T16 r h d17 d18
      refine ei_inc hb dX4_runBuses_73 (v := (y1 + 1)) (pc' := 76) (ls' := [some (.inr (.inl (some ((4, 0, 0) : qz_N)))), some (.inl (y1 + 1)), some (.inl y215), d17, d18]) rfl hml (Nat.le_of_ble_eq_true rfl) rfl rfl rfl rfl ?_
      refine ei_go hb dX4_runBuses_76 (pc' := 2) (by decide) ?_
      exact ih (y1 + 1) T16 _ h _ _ _
set_option maxHeartbeats 4000000 in
theorem vW_runBuses (F : Nat) (S : qz_S)  (r : qz_S) (h : (gW_runBuses F S) = some r) : qz_E 46 0 (qz_in0 46 [.inr (.inl (some ((4, 0, 0) : qz_N)))]) [] (qz_mk S.1 S.2) none (qz_mk r.1 r.2) := by
  have hb : qz_b 46 = cX4_runBuses := rfl
  have hcn : qz_cn 46 = 4 := rfl
  have hml : qz_ml 46 = 5 := rfl
  show qz_E 46 0 [some (.inr (.inl (some ((4, 0, 0) : qz_N)))), none, none, none, none] [] _ _ _
  rw [gW_runBuses] at h
  refine ei_c hb dX4_runBuses_0 (v := (0 : Int32)) (pc' := 1) (by decide) rfl ?_
  refine ei_isn hb dX4_runBuses_1 (pc' := 2) (ls' := [some (.inr (.inl (some ((4, 0, 0) : qz_N)))), some (.inl (0 : Int32)), none, none, none]) hml (Nat.le_of_ble_eq_true rfl) rfl rfl rfl ?_
  refine vW_runBuses_L2 F _ ?_ F (0 : Int32) S _ h _ _ _
  intro y119 T20 r h d21 d22 d23
  have h := Option.some.inj h
  subst h
  exact ei_retv hb dX4_runBuses_79 rfl
def gW_bringRiderHome (F : Nat) (S : qz_S) (b0 : Nat) : Option (qz_S) :=
  Option.bind (gW_partnerOf F S.1 (S.1 ((0, 0, b0) : qz_N) 2) (S.1 ((0, 0, b0) : qz_N) 1)) fun x1 => Option.bind (gW_canRide F S.1 b0 (S.1 ((0, 0, b0) : qz_N) 1) x1) fun x3 => if x3 = 0 then (qz_let (qz_wr S ((0, 0, b0) : qz_N) 6 ((S.1 ((0, 0, b0) : qz_N) 6) + (1 : Int32))) fun S6 => qz_let (qz_wr S6 ((4, 0, 0) : qz_N) 8 ((S6.1 ((4, 0, 0) : qz_N) 8) + (1 : Int32))) fun S7 => qz_let (qz_wr S7 ((4, 0, 0) : qz_N) 11 ((S7.1 ((4, 0, 0) : qz_N) 11) + ((8 : Int32) + ((3 : Int32) * (S7.1 ((0, 0, b0) : qz_N) 3))))) fun S8 => some S8) else (qz_let (qz_wr S ((0, 0, b0) : qz_N) 5 ((S.1 ((0, 0, b0) : qz_N) 5) + (1 : Int32))) fun S9 => qz_let (qz_wr S9 ((4, 0, 0) : qz_N) 7 ((S9.1 ((4, 0, 0) : qz_N) 7) + (1 : Int32))) fun S10 => some S10)
set_option maxHeartbeats 4000000 in
theorem vW_bringRiderHome (F : Nat) (S : qz_S) (b0 : Nat) (r : qz_S) (h : (gW_bringRiderHome F S b0) = some r) : qz_E 48 0 (qz_in0 48 [.inr (.inl (some ((4, 0, 0) : qz_N))), .inr (.inl (some ((0, 0, b0) : qz_N)))]) [] (qz_mk S.1 S.2) none (qz_mk r.1 r.2) := by
  have hb : qz_b 48 = cX4_bringRiderHome := rfl
  have hcn : qz_cn 48 = 4 := rfl
  have hml : qz_ml 48 = 2 := rfl
  show qz_E 48 0 [some (.inr (.inl (some ((4, 0, 0) : qz_N)))), some (.inr (.inl (some ((0, 0, b0) : qz_N))))] [] _ _ _
  rw [gW_bringRiderHome] at h
  refine ei_aln hb dX4_bringRiderHome_0 (pc' := 1) rfl rfl ?_
  refine ei_aln hb dX4_bringRiderHome_1 (pc' := 2) rfl rfl ?_
  refine ei_aln hb dX4_bringRiderHome_2 (pc' := 3) rfl rfl ?_
  refine ei_gi hb dX4_bringRiderHome_3 (pc' := 6) (x := (S.1 ((0, 0, b0) : qz_N) 1)) hcn qz_f_4_86 rfl rfl rfl rfl ?_
  refine ei_aln hb dX4_bringRiderHome_6 (pc' := 7) rfl rfl ?_
  refine ei_aln hb dX4_bringRiderHome_7 (pc' := 8) rfl rfl ?_
  refine ei_gi hb dX4_bringRiderHome_8 (pc' := 11) (x := (S.1 ((0, 0, b0) : qz_N) 2)) hcn qz_f_4_89 rfl rfl rfl rfl ?_
  refine ei_aln hb dX4_bringRiderHome_11 (pc' := 12) rfl rfl ?_
  refine ei_gi hb dX4_bringRiderHome_12 (pc' := 15) (x := (S.1 ((0, 0, b0) : qz_N) 1)) hcn qz_f_4_86 rfl rfl rfl rfl ?_
  obtain ⟨x1, e2, h⟩ := Option.bind_eq_some_iff.mp h
  refine ei_cv hb dX4_bringRiderHome_15 (pc' := 18) (M1 := (qz_mk S.1 S.2)) (as := [.inl (S.1 ((0, 0, b0) : qz_N) 2), .inl (S.1 ((0, 0, b0) : qz_N) 1)]) (rest := [.inl (S.1 ((0, 0, b0) : qz_N) 1), .inr (.inl (some ((0, 0, b0) : qz_N))), .inr (.inl (some ((4, 0, 0) : qz_N)))]) (st' := [.inl x1, .inl (S.1 ((0, 0, b0) : qz_N) 1), .inr (.inl (some ((0, 0, b0) : qz_N))), .inr (.inl (some ((4, 0, 0) : qz_N)))]) hcn qz_c_4_106 qz_k_32 (qz_q_48_32) (Nat.le_of_ble_eq_true rfl) (Nat.le_of_ble_eq_true rfl) rfl rfl rfl rfl (vW_partnerOf F S.1 S.2 (S.1 ((0, 0, b0) : qz_N) 2) (S.1 ((0, 0, b0) : qz_N) 1) _ e2) rfl rfl ?_
  obtain ⟨x3, e4, h⟩ := Option.bind_eq_some_iff.mp h
  refine ei_cv hb dX4_bringRiderHome_18 (pc' := 21) (M1 := (qz_mk S.1 S.2)) (as := [.inr (.inl (some ((0, 0, b0) : qz_N))), .inl (S.1 ((0, 0, b0) : qz_N) 1), .inl x1]) (rest := []) (st' := [.inl x3]) hcn qz_c_4_163 qz_k_44 (qz_q_48_44) (Nat.le_of_ble_eq_true rfl) (Nat.le_of_ble_eq_true rfl) rfl rfl rfl rfl (vW_canRide F S.1 S.2 b0 (S.1 ((0, 0, b0) : qz_N) 1) x1 _ e4) rfl rfl ?_
  by_cases c5 : x3 = 0
  · rw [if_pos c5] at h
    refine ei_ifT hb dX4_bringRiderHome_21 (pc' := 47) (decide_eq_true c5) (by decide) ?_
    refine ei_aln hb dX4_bringRiderHome_47 (pc' := 48) rfl rfl ?_
    refine ei_dup hb dX4_bringRiderHome_48 (pc' := 49) rfl rfl ?_
    refine ei_gi hb dX4_bringRiderHome_49 (pc' := 52) (x := (S.1 ((0, 0, b0) : qz_N) 6)) hcn qz_f_4_175 rfl rfl rfl rfl ?_
    refine ei_c hb dX4_bringRiderHome_52 (v := (1 : Int32)) (pc' := 53) (by decide) rfl ?_
    refine ei_add hb dX4_bringRiderHome_53 (pc' := 54) rfl ?_
    obtain ⟨S6, eS6⟩ : ∃ q, q = qz_wr S ((0, 0, b0) : qz_N) 6 ((S.1 ((0, 0, b0) : qz_N) 6) + (1 : Int32)) := ⟨_, rfl⟩
    rw [qz_let, ← eS6] at h
    refine ei_pi hb dX4_bringRiderHome_54 (pc' := 57) (M1 := (qz_mk S6.1 S6.2)) hcn qz_f_4_175 rfl rfl (fun q => by cases q) rfl (by rw [eS6]; rfl) rfl ?_
    refine ei_aln hb dX4_bringRiderHome_57 (pc' := 58) rfl rfl ?_
    refine ei_dup hb dX4_bringRiderHome_58 (pc' := 59) rfl rfl ?_
    refine ei_gi hb dX4_bringRiderHome_59 (pc' := 62) (x := (S6.1 ((4, 0, 0) : qz_N) 8)) hcn qz_f_4_43 rfl rfl rfl rfl ?_
    refine ei_c hb dX4_bringRiderHome_62 (v := (1 : Int32)) (pc' := 63) (by decide) rfl ?_
    refine ei_add hb dX4_bringRiderHome_63 (pc' := 64) rfl ?_
    obtain ⟨S7, eS7⟩ : ∃ q, q = qz_wr S6 ((4, 0, 0) : qz_N) 8 ((S6.1 ((4, 0, 0) : qz_N) 8) + (1 : Int32)) := ⟨_, rfl⟩
    rw [qz_let, ← eS7] at h
    refine ei_pi hb dX4_bringRiderHome_64 (pc' := 67) (M1 := (qz_mk S7.1 S7.2)) hcn qz_f_4_43 rfl rfl (fun q => by cases q) rfl (by rw [eS7]; rfl) rfl ?_
    refine ei_aln hb dX4_bringRiderHome_67 (pc' := 68) rfl rfl ?_
    refine ei_dup hb dX4_bringRiderHome_68 (pc' := 69) rfl rfl ?_
    refine ei_gi hb dX4_bringRiderHome_69 (pc' := 72) (x := (S7.1 ((4, 0, 0) : qz_N) 11)) hcn qz_f_4_52 rfl rfl rfl rfl ?_
    refine ei_b hb dX4_bringRiderHome_72 (v := (8 : Int32)) (pc' := 74) (by decide) rfl ?_
    refine ei_c hb dX4_bringRiderHome_74 (v := (3 : Int32)) (pc' := 75) (by decide) rfl ?_
    refine ei_aln hb dX4_bringRiderHome_75 (pc' := 76) rfl rfl ?_
    refine ei_gi hb dX4_bringRiderHome_76 (pc' := 79) (x := (S7.1 ((0, 0, b0) : qz_N) 3)) hcn qz_f_4_92 rfl rfl rfl rfl ?_
    refine ei_mul hb dX4_bringRiderHome_79 (pc' := 80) rfl ?_
    refine ei_add hb dX4_bringRiderHome_80 (pc' := 81) rfl ?_
    refine ei_add hb dX4_bringRiderHome_81 (pc' := 82) rfl ?_
    obtain ⟨S8, eS8⟩ : ∃ q, q = qz_wr S7 ((4, 0, 0) : qz_N) 11 ((S7.1 ((4, 0, 0) : qz_N) 11) + ((8 : Int32) + ((3 : Int32) * (S7.1 ((0, 0, b0) : qz_N) 3)))) := ⟨_, rfl⟩
    rw [qz_let, ← eS8] at h
    refine ei_pi hb dX4_bringRiderHome_82 (pc' := 85) (M1 := (qz_mk S8.1 S8.2)) hcn qz_f_4_52 rfl rfl (fun q => by cases q) rfl (by rw [eS8]; rfl) rfl ?_
    have h := Option.some.inj h
    subst h
    exact ei_retv hb dX4_bringRiderHome_85 rfl
  · rw [if_neg c5] at h
    refine ei_ifF hb dX4_bringRiderHome_21 (pc' := 24) (t := 47) (decide_eq_false c5) (by decide) rfl ?_
    refine ei_aln hb dX4_bringRiderHome_24 (pc' := 25) rfl rfl ?_
    refine ei_dup hb dX4_bringRiderHome_25 (pc' := 26) rfl rfl ?_
    refine ei_gi hb dX4_bringRiderHome_26 (pc' := 29) (x := (S.1 ((0, 0, b0) : qz_N) 5)) hcn qz_f_4_174 rfl rfl rfl rfl ?_
    refine ei_c hb dX4_bringRiderHome_29 (v := (1 : Int32)) (pc' := 30) (by decide) rfl ?_
    refine ei_add hb dX4_bringRiderHome_30 (pc' := 31) rfl ?_
    obtain ⟨S9, eS9⟩ : ∃ q, q = qz_wr S ((0, 0, b0) : qz_N) 5 ((S.1 ((0, 0, b0) : qz_N) 5) + (1 : Int32)) := ⟨_, rfl⟩
    rw [qz_let, ← eS9] at h
    refine ei_pi hb dX4_bringRiderHome_31 (pc' := 34) (M1 := (qz_mk S9.1 S9.2)) hcn qz_f_4_174 rfl rfl (fun q => by cases q) rfl (by rw [eS9]; rfl) rfl ?_
    refine ei_aln hb dX4_bringRiderHome_34 (pc' := 35) rfl rfl ?_
    refine ei_dup hb dX4_bringRiderHome_35 (pc' := 36) rfl rfl ?_
    refine ei_gi hb dX4_bringRiderHome_36 (pc' := 39) (x := (S9.1 ((4, 0, 0) : qz_N) 7)) hcn qz_f_4_40 rfl rfl rfl rfl ?_
    refine ei_c hb dX4_bringRiderHome_39 (v := (1 : Int32)) (pc' := 40) (by decide) rfl ?_
    refine ei_add hb dX4_bringRiderHome_40 (pc' := 41) rfl ?_
    obtain ⟨S10, eS10⟩ : ∃ q, q = qz_wr S9 ((4, 0, 0) : qz_N) 7 ((S9.1 ((4, 0, 0) : qz_N) 7) + (1 : Int32)) := ⟨_, rfl⟩
    rw [qz_let, ← eS10] at h
    refine ei_pi hb dX4_bringRiderHome_41 (pc' := 44) (M1 := (qz_mk S10.1 S10.2)) hcn qz_f_4_40 rfl rfl (fun q => by cases q) rfl (by rw [eS10]; rfl) rfl ?_
    refine ei_go hb dX4_bringRiderHome_44 (pc' := 85) (by decide) ?_
    have h := Option.some.inj h
    subst h
    exact ei_retv hb dX4_bringRiderHome_85 rfl
def gW_bringHome_L10 (F : Nat)  (K : (Int32 → qz_S → Option (qz_S))) : Nat → Int32 → qz_S → Option (qz_S)
  | 0, _, _ => none
  | n + 1, y3, T => if (30 : Int32) ≤ y3 then (K y3 T) else (if qz_xi y3 30 = true then (if (gB_isRider T.1 ((y3).toNatClampNeg)) = 0 then (if (gB_isWaiting T.1 ((y3).toNatClampNeg)) = 0 then ((gW_bringHome_L10 F K) n (y3 + 1) T) else (qz_let (qz_wr T ((0, 0, (y3).toNatClampNeg) : qz_N) 7 ((T.1 ((0, 0, (y3).toNatClampNeg) : qz_N) 7) + (1 : Int32))) fun S5 => qz_let (qz_wr S5 ((4, 0, 0) : qz_N) 9 ((S5.1 ((4, 0, 0) : qz_N) 9) + (1 : Int32))) fun S6 => (gW_bringHome_L10 F K) n (y3 + 1) S6)) else (Option.bind (gW_bringRiderHome F T ((y3).toNatClampNeg)) fun R7 => (gW_bringHome_L10 F K) n (y3 + 1) R7)) else none)
def gW_bringHome (F : Nat) (S : qz_S)  : Option (qz_S) :=
  gW_bringHome_L10 F (fun y39 T10 => some T10) F (0 : Int32) S
set_option maxHeartbeats 4000000 in
theorem vW_bringHome_L10 (F : Nat)  (K : (Int32 → qz_S → Option (qz_S))) (hK : ∀ (y3 : Int32) (T : qz_S) (r : qz_S), K y3 T = some r → ∀ (d4 : Option qz_V), qz_E 47 72 [some (.inr (.inl (some ((4, 0, 0) : qz_N)))), some (.inr (.inl (some ((13, 0, 0) : qz_N)))), some (.inl (30 : Int32)), some (.inl y3), d4] [] (qz_mk T.1 T.2) none (qz_mk r.1 r.2)) : ∀ (n : Nat) (y3 : Int32) (T : qz_S) (r : qz_S), gW_bringHome_L10 F K n y3 T = some r → ∀ (d4 : Option qz_V), qz_E 47 10 [some (.inr (.inl (some ((4, 0, 0) : qz_N)))), some (.inr (.inl (some ((13, 0, 0) : qz_N)))), some (.inl (30 : Int32)), some (.inl y3), d4] [] (qz_mk T.1 T.2) none (qz_mk r.1 r.2) := by
  have hb : qz_b 47 = cX4_bringHome := rfl
  have hcn : qz_cn 47 = 4 := rfl
  have hml : qz_ml 47 = 5 := rfl
  intro n
  induction n with
  | zero =>
    intro y3 T r h
    cases h
  | succ n ih =>
    intro y3 T r h d4
    rw [gW_bringHome_L10] at h
    refine ei_iln hb dX4_bringHome_10 (pc' := 11) rfl rfl ?_
    refine ei_iln hb dX4_bringHome_11 (pc' := 12) rfl rfl ?_
    by_cases c1 : (30 : Int32) ≤ y3
    · rw [if_pos c1] at h
      refine ei_icT hb dX4_bringHome_12 (pc' := 72) (decide_eq_true c1) (by decide) ?_
      exact hK y3 T _ h _
    · rw [if_neg c1] at h
      refine ei_icF hb dX4_bringHome_12 (pc' := 15) (t := 72) (decide_eq_false c1) (by decide) rfl ?_
      refine ei_aln hb dX4_bringHome_15 (pc' := 16) rfl rfl ?_
      refine ei_iln hb dX4_bringHome_16 (pc' := 17) rfl rfl ?_
      by_cases c2 : qz_xi y3 30 = true
      · rw [if_pos c2] at h
        refine ei_aa hb dX4_bringHome_17 (pc' := 18) (x := some ((0, 0, (y3).toNatClampNeg) : qz_N)) (show 4 ≤ qz_at 13 by decide) c2 (qz_fr_13 (by decide) c2) rfl ?_
        refine ei_as hb dX4_bringHome_18 (pc' := 20) (ls' := [some (.inr (.inl (some ((4, 0, 0) : qz_N)))), some (.inr (.inl (some ((13, 0, 0) : qz_N)))), some (.inl (30 : Int32)), some (.inl y3), some (.inr (.inl (some ((0, 0, (y3).toNatClampNeg) : qz_N))))]) hml (Nat.le_of_ble_eq_true rfl) rfl rfl rfl ?_
        refine ei_al hb dX4_bringHome_20 (pc' := 22) rfl rfl ?_
        refine ei_cv hb dX4_bringHome_22 (pc' := 25) (M1 := (qz_mk T.1 T.2)) (as := []) (rest := []) (st' := [.inl (gB_isRider T.1 ((y3).toNatClampNeg))]) hcn qz_c_4_147 qz_k_3 (qz_q_47_3) (Nat.le_of_ble_eq_true rfl) (Nat.le_of_ble_eq_true rfl) rfl rfl rfl rfl (vB_isRider T.1 T.2 ((y3).toNatClampNeg)) rfl rfl ?_
        by_cases c3 : (gB_isRider T.1 ((y3).toNatClampNeg)) = 0
        · rw [if_pos c3] at h
          refine ei_ifT hb dX4_bringHome_25 (pc' := 37) (decide_eq_true c3) (by decide) ?_
          refine ei_al hb dX4_bringHome_37 (pc' := 39) rfl rfl ?_
          refine ei_cv hb dX4_bringHome_39 (pc' := 42) (M1 := (qz_mk T.1 T.2)) (as := []) (rest := []) (st' := [.inl (gB_isWaiting T.1 ((y3).toNatClampNeg))]) hcn qz_c_4_99 qz_k_2 (qz_q_47_2) (Nat.le_of_ble_eq_true rfl) (Nat.le_of_ble_eq_true rfl) rfl rfl rfl rfl (vB_isWaiting T.1 T.2 ((y3).toNatClampNeg)) rfl rfl ?_
          by_cases c4 : (gB_isWaiting T.1 ((y3).toNatClampNeg)) = 0
          · rw [if_pos c4] at h
            refine ei_ifT hb dX4_bringHome_42 (pc' := 66) (decide_eq_true c4) (by decide) ?_
            refine ei_inc hb dX4_bringHome_66 (v := (y3 + 1)) (pc' := 69) (ls' := [some (.inr (.inl (some ((4, 0, 0) : qz_N)))), some (.inr (.inl (some ((13, 0, 0) : qz_N)))), some (.inl (30 : Int32)), some (.inl (y3 + 1)), some (.inr (.inl (some ((0, 0, (y3).toNatClampNeg) : qz_N))))]) rfl hml (Nat.le_of_ble_eq_true rfl) rfl rfl rfl rfl ?_
            refine ei_go hb dX4_bringHome_69 (pc' := 10) (by decide) ?_
            exact ih (y3 + 1) T _ h _
          · rw [if_neg c4] at h
            refine ei_ifF hb dX4_bringHome_42 (pc' := 45) (t := 66) (decide_eq_false c4) (by decide) rfl ?_
            refine ei_al hb dX4_bringHome_45 (pc' := 47) rfl rfl ?_
            refine ei_dup hb dX4_bringHome_47 (pc' := 48) rfl rfl ?_
            refine ei_gi hb dX4_bringHome_48 (pc' := 51) (x := (T.1 ((0, 0, (y3).toNatClampNeg) : qz_N) 7)) hcn qz_f_4_173 rfl rfl rfl rfl ?_
            refine ei_c hb dX4_bringHome_51 (v := (1 : Int32)) (pc' := 52) (by decide) rfl ?_
            refine ei_add hb dX4_bringHome_52 (pc' := 53) rfl ?_
            obtain ⟨S5, eS5⟩ : ∃ q, q = qz_wr T ((0, 0, (y3).toNatClampNeg) : qz_N) 7 ((T.1 ((0, 0, (y3).toNatClampNeg) : qz_N) 7) + (1 : Int32)) := ⟨_, rfl⟩
            rw [qz_let, ← eS5] at h
            refine ei_pi hb dX4_bringHome_53 (pc' := 56) (M1 := (qz_mk S5.1 S5.2)) hcn qz_f_4_173 rfl rfl (fun q => by cases q) rfl (by rw [eS5]; rfl) rfl ?_
            refine ei_aln hb dX4_bringHome_56 (pc' := 57) rfl rfl ?_
            refine ei_dup hb dX4_bringHome_57 (pc' := 58) rfl rfl ?_
            refine ei_gi hb dX4_bringHome_58 (pc' := 61) (x := (S5.1 ((4, 0, 0) : qz_N) 9)) hcn qz_f_4_46 rfl rfl rfl rfl ?_
            refine ei_c hb dX4_bringHome_61 (v := (1 : Int32)) (pc' := 62) (by decide) rfl ?_
            refine ei_add hb dX4_bringHome_62 (pc' := 63) rfl ?_
            obtain ⟨S6, eS6⟩ : ∃ q, q = qz_wr S5 ((4, 0, 0) : qz_N) 9 ((S5.1 ((4, 0, 0) : qz_N) 9) + (1 : Int32)) := ⟨_, rfl⟩
            rw [qz_let, ← eS6] at h
            refine ei_pi hb dX4_bringHome_63 (pc' := 66) (M1 := (qz_mk S6.1 S6.2)) hcn qz_f_4_46 rfl rfl (fun q => by cases q) rfl (by rw [eS6]; rfl) rfl ?_
            refine ei_inc hb dX4_bringHome_66 (v := (y3 + 1)) (pc' := 69) (ls' := [some (.inr (.inl (some ((4, 0, 0) : qz_N)))), some (.inr (.inl (some ((13, 0, 0) : qz_N)))), some (.inl (30 : Int32)), some (.inl (y3 + 1)), some (.inr (.inl (some ((0, 0, (y3).toNatClampNeg) : qz_N))))]) rfl hml (Nat.le_of_ble_eq_true rfl) rfl rfl rfl rfl ?_
            refine ei_go hb dX4_bringHome_69 (pc' := 10) (by decide) ?_
            exact ih (y3 + 1) S6 _ h _
        · rw [if_neg c3] at h
          refine ei_ifF hb dX4_bringHome_25 (pc' := 28) (t := 37) (decide_eq_false c3) (by decide) rfl ?_
          refine ei_aln hb dX4_bringHome_28 (pc' := 29) rfl rfl ?_
          refine ei_al hb dX4_bringHome_29 (pc' := 31) rfl rfl ?_
          obtain ⟨R7, e8, h⟩ := Option.bind_eq_some_iff.mp h
          refine ei_cv hb dX4_bringHome_31 (pc' := 34) (M1 := (qz_mk R7.1 R7.2)) (as := [.inr (.inl (some ((0, 0, (y3).toNatClampNeg) : qz_N)))]) (rest := []) (st' := []) hcn qz_c_4_170 qz_k_48 (qz_q_47_48) (Nat.le_of_ble_eq_true rfl) (Nat.le_of_ble_eq_true rfl) rfl rfl rfl rfl (vW_bringRiderHome F T ((y3).toNatClampNeg) _ e8) rfl rfl ?_
          refine ei_go hb dX4_bringHome_34 (pc' := 66) (by decide) ?_
          refine ei_inc hb dX4_bringHome_66 (v := (y3 + 1)) (pc' := 69) (ls' := [some (.inr (.inl (some ((4, 0, 0) : qz_N)))), some (.inr (.inl (some ((13, 0, 0) : qz_N)))), some (.inl (30 : Int32)), some (.inl (y3 + 1)), some (.inr (.inl (some ((0, 0, (y3).toNatClampNeg) : qz_N))))]) rfl hml (Nat.le_of_ble_eq_true rfl) rfl rfl rfl rfl ?_
          refine ei_go hb dX4_bringHome_69 (pc' := 10) (by decide) ?_
          exact ih (y3 + 1) R7 _ h _
      · rw [if_neg c2] at h
        cases h
set_option maxHeartbeats 4000000 in
theorem vW_bringHome (F : Nat) (S : qz_S)  (r : qz_S) (h : (gW_bringHome F S) = some r) : qz_E 47 0 (qz_in0 47 [.inr (.inl (some ((4, 0, 0) : qz_N)))]) [] (qz_mk S.1 S.2) none (qz_mk r.1 r.2) := by
  have hb : qz_b 47 = cX4_bringHome := rfl
  have hcn : qz_cn 47 = 4 := rfl
  have hml : qz_ml 47 = 5 := rfl
  show qz_E 47 0 [some (.inr (.inl (some ((4, 0, 0) : qz_N)))), none, none, none, none] [] _ _ _
  rw [gW_bringHome] at h
  refine ei_aln hb dX4_bringHome_0 (pc' := 1) rfl rfl ?_
  refine ei_gr hb dX4_bringHome_1 (pc' := 4) (x := some ((13, 0, 0) : qz_N)) hcn qz_f_4_30 rfl rfl rfl rfl ?_
  refine ei_asn hb dX4_bringHome_4 (pc' := 5) (ls' := [some (.inr (.inl (some ((4, 0, 0) : qz_N)))), some (.inr (.inl (some ((13, 0, 0) : qz_N)))), none, none, none]) hml (Nat.le_of_ble_eq_true rfl) rfl rfl rfl ?_
  refine ei_aln hb dX4_bringHome_5 (pc' := 6) rfl rfl ?_
  refine ei_len hb dX4_bringHome_6 (pc' := 7) (x := (30 : Int32)) (show ¬ qz_at 13 = 0 by decide) rfl rfl ?_
  refine ei_isn hb dX4_bringHome_7 (pc' := 8) (ls' := [some (.inr (.inl (some ((4, 0, 0) : qz_N)))), some (.inr (.inl (some ((13, 0, 0) : qz_N)))), some (.inl (30 : Int32)), none, none]) hml (Nat.le_of_ble_eq_true rfl) rfl rfl rfl ?_
  refine ei_c hb dX4_bringHome_8 (v := (0 : Int32)) (pc' := 9) (by decide) rfl ?_
  refine ei_isn hb dX4_bringHome_9 (pc' := 10) (ls' := [some (.inr (.inl (some ((4, 0, 0) : qz_N)))), some (.inr (.inl (some ((13, 0, 0) : qz_N)))), some (.inl (30 : Int32)), some (.inl (0 : Int32)), none]) hml (Nat.le_of_ble_eq_true rfl) rfl rfl rfl ?_
  refine vW_bringHome_L10 F _ ?_ F (0 : Int32) S _ h _
  intro y39 T10 r h d11
  have h := Option.some.inj h
  subst h
  exact ei_retv hb dX4_bringHome_72 rfl
