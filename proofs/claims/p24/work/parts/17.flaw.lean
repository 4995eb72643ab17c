def gL_cell (F : Nat) (f : qz_F) (a1 : Int32) : Option (Int32) :=
  if (Int32.ofNat (qz_ln f ((33, 0, 0) : qz_N))) ≤ a1 then (some (((7919 : Int32) * (a1 + (3 : Int32))) * (a1 + (11 : Int32)))) else (if qz_xi a1 (qz_ln f ((33, 0, 0) : qz_N)) = true then (some (f ((33, 0, 0) : qz_N) (a1).toNatClampNeg)) else none)
set_option maxHeartbeats 4000000 in
theorem vL_cell (F : Nat) (f : qz_F) (p : Nat → Nat) (a1 : Int32) (r : Int32) (h : (gL_cell F f a1) = some r) : qz_E 70 0 (qz_in0 70 [.inr (.inl (some ((33, 0, 0) : qz_N))), .inl a1]) [] (qz_mk f p) (some (.inl r)) (qz_mk f p) := by
  have hb : qz_b 70 = cL_cell := rfl
  have hcn : qz_cn 70 = 8 := rfl
  have hml : qz_ml 70 = 2 := rfl
  show qz_E 70 0 [some (.inr (.inl (some ((33, 0, 0) : qz_N)))), some (.inl a1)] [] _ _ _
  rw [gL_cell] at h
  refine ei_iln hb dL_cell_0 (pc' := 1) rfl rfl ?_
  refine ei_aln hb dL_cell_1 (pc' := 2) rfl rfl ?_
  refine ei_len hb dL_cell_2 (pc' := 3) (x := (Int32.ofNat (qz_ln f ((33, 0, 0) : qz_N)))) (show ¬ qz_at 33 = 0 by decide) rfl rfl ?_
  by_cases c1 : (Int32.ofNat (qz_ln f ((33, 0, 0) : qz_N))) ≤ a1
  · rw [if_pos c1] at h
    refine ei_icT hb dL_cell_3 (pc' := 12) (decide_eq_true c1) (by decide) ?_
    refine ei_s hb dL_cell_12 (v := (7919 : Int32)) (pc' := 15) (by decide) rfl ?_
    refine ei_iln hb dL_cell_15 (pc' := 16) rfl rfl ?_
    refine ei_c hb dL_cell_16 (v := (3 : Int32)) (pc' := 17) (by decide) rfl ?_
    refine ei_add hb dL_cell_17 (pc' := 18) rfl ?_
    refine ei_mul hb dL_cell_18 (pc' := 19) rfl ?_
    refine ei_iln hb dL_cell_19 (pc' := 20) rfl rfl ?_
    refine ei_b hb dL_cell_20 (v := (11 : Int32)) (pc' := 22) (by decide) rfl ?_
    refine ei_add hb dL_cell_22 (pc' := 23) rfl ?_
    refine ei_mul hb dL_cell_23 (pc' := 24) rfl ?_
    have h := Option.some.inj h
    subst h
    exact ei_reti hb dL_cell_24 rfl
  · rw [if_neg c1] at h
    refine ei_icF hb dL_cell_3 (pc' := 6) (t := 12) (decide_eq_false c1) (by decide) rfl ?_
    refine ei_aln hb dL_cell_6 (pc' := 7) rfl rfl ?_
    refine ei_iln hb dL_cell_7 (pc' := 8) rfl rfl ?_
    by_cases c2 : qz_xi a1 (qz_ln f ((33, 0, 0) : qz_N)) = true
    · rw [if_pos c2] at h
      refine ei_ia hb dL_cell_8 (pc' := 9) (x := (f ((33, 0, 0) : qz_N) (a1).toNatClampNeg)) rfl c2 rfl rfl ?_
      refine ei_go hb dL_cell_9 (pc' := 24) (by decide) ?_
      have h := Option.some.inj h
      subst h
      exact ei_reti hb dL_cell_24 rfl
    · rw [if_neg c2] at h
      cases h
def gL_low (F : Nat) (f : qz_F) (a0 : Int32) (a1 : Int32) : Option (Int32) :=
  if a1 = 0 then none else (some ((a0 &&& (2147483647 : Int32)) - (a0 &&& (2147483647 : Int32)) / a1 * a1))
set_option maxHeartbeats 4000000 in
theorem vL_low (F : Nat) (f : qz_F) (p : Nat → Nat) (a0 : Int32) (a1 : Int32) (r : Int32) (h : (gL_low F f a0 a1) = some r) : qz_E 71 0 (qz_in0 71 [.inl a0, .inl a1]) [] (qz_mk f p) (some (.inl r)) (qz_mk f p) := by
  have hb : qz_b 71 = cL_low := rfl
  have hcn : qz_cn 71 = 8 := rfl
  have hml : qz_ml 71 = 2 := rfl
  show qz_E 71 0 [some (.inl a0), some (.inl a1)] [] _ _ _
  rw [gL_low] at h
  refine ei_iln hb dL_low_0 (pc' := 1) rfl rfl ?_
  refine ei_k4 hb dL_low_1 (pc' := 3) (v := (2147483647 : Int32)) hcn rfl rfl ?_
  refine ei_and hb dL_low_3 (pc' := 4) rfl ?_
  refine ei_iln hb dL_low_4 (pc' := 5) rfl rfl ?_
  by_cases c1 : a1 = 0
  · rw [if_pos c1] at h
    cases h
  · rw [if_neg c1] at h
    refine ei_rem hb dL_low_5 (pc' := 6) c1 rfl ?_
    have h := Option.some.inj h
    subst h
    exact ei_reti hb dL_low_6 rfl
def gL_told_L6 (F : Nat) (f : qz_F)  (K : (Int32 → Int64 → Option (Int64))) : Nat → Int32 → Int64 → Option (Int64)
  | 0, _, _ => none
  | n + 1, y3, l6 => if (16 : Int32) ≤ y3 then (K y3 l6) else (Option.bind (gX_count F f y3) fun x2 => (gL_told_L6 F f K) n (y3 + 1) (((31 : Int64) * l6) + (x2).toInt64))
def gL_told_L46 (F : Nat) (f : qz_F) (y3 : Int32) (K : (Int32 → Int64 → Option (Int64))) : Nat → Int32 → Int64 → Option (Int64)
  | 0, _, _ => none
  | n + 1, y4, l6 => if (9 : Int32) ≤ y4 then (K y4 l6) else (Option.bind (if y4 = (5 : Int32) then (some l6) else (Option.bind (gX_worker F f y3 y4) fun x13 => some (((31 : Int64) * l6) + (x13).toInt64))) fun w11 => (gL_told_L46 F f y3 K) n (y4 + 1) w11)
def gL_told_L33 (F : Nat) (f : qz_F)  (K : (Int32 → Int64 → Option (Int64))) : Nat → Int32 → Int64 → Option (Int64)
  | 0, _, _ => none
  | n + 1, y3, l6 => Option.bind (gX_count F f (15 : Int32)) fun x7 => if x7 ≤ y3 then (K y3 l6) else (gL_told_L46 F f y3 (fun y416 l617 => (gL_told_L33 F f K) n (y3 + 1) l617) F (0 : Int32) l6)
def gL_told_L92 (F : Nat) (f : qz_F)  (K : (Int32 → Int64 → Option (Int64))) : Nat → Int32 → Int64 → Option (Int64)
  | 0, _, _ => none
  | n + 1, y3, l6 => Option.bind (gX_count F f (0 : Int32)) fun x21 => if ((2 : Int32) * x21) ≤ y3 then (K y3 l6) else (Option.bind (gX_bus F f (y3 - y3 / (2 : Int32) * (2 : Int32)) (y3 / (2 : Int32)) (0 : Int32)) fun x24 => Option.bind (gX_bus F f (y3 - y3 / (2 : Int32) * (2 : Int32)) (y3 / (2 : Int32)) (1 : Int32)) fun x26 => (gL_told_L92 F f K) n (y3 + 1) (((31 : Int64) * (((31 : Int64) * l6) + (x24).toInt64)) + (x26).toInt64))
def gL_told (F : Nat) (f : qz_F)  : Option (Int64) :=
  gL_told_L6 F f (fun y34 l65 => gL_told_L33 F f (fun y318 l619 => gL_told_L92 F f (fun y328 l629 => some l629) F (0 : Int32) l619) F (0 : Int32) l65) F (0 : Int32) (3 : Int64)
set_option maxHeartbeats 4000000 in
theorem vL_told_L6 (F : Nat) (f : qz_F) (p : Nat → Nat)  (K : (Int32 → Int64 → Option (Int64))) (hK : ∀ (y3 : Int32) (l6 : Int64) (r : Int64), K y3 l6 = some r → ∀ (d4 : Option qz_V), qz_E 72 31 [some (.inr (.inl (some ((5, 0, 0) : qz_N)))), none, none, some (.inl y3), d4, none, some (.inr (.inr l6)), none, none, none] [] (qz_mk f p) (some (.inr (.inr r))) (qz_mk f p)) : ∀ (n : Nat) (y3 : Int32) (l6 : Int64) (r : Int64), gL_told_L6 F f K n y3 l6 = some r → ∀ (d4 : Option qz_V), qz_E 72 6 [some (.inr (.inl (some ((5, 0, 0) : qz_N)))), none, none, some (.inl y3), d4, none, some (.inr (.inr l6)), none, none, none] [] (qz_mk f p) (some (.inr (.inr r))) (qz_mk f p) := by
  have hb : qz_b 72 = cL_told := rfl
  have hcn : qz_cn 72 = 8 := rfl
  have hml : qz_ml 72 = 5 := rfl
  intro n
  induction n with
  | zero =>
    intro y3 l6 r h
    cases h
  | succ n ih =>
    intro y3 l6 r h d4
    rw [gL_told_L6] at h
    refine ei_iln hb dL_told_6 (pc' := 7) rfl rfl ?_
    refine ei_b hb dL_told_7 (v := (16 : Int32)) (pc' := 9) (by decide) rfl ?_
    by_cases c1 : (16 : Int32) ≤ y3
    · rw [if_pos c1] at h
      refine ei_icT hb dL_told_9 (pc' := 31) (decide_eq_true c1) (by decide) ?_
      exact hK y3 l6 _ h _
    · rw [if_neg c1] at h
      refine ei_icF hb dL_told_9 (pc' := 12) (t := 31) (decide_eq_false c1) (by decide) rfl ?_
      refine ei_k8 hb dL_told_12 (pc' := 15) (v := (31 : Int64)) hcn rfl rfl ?_
      refine ei_lln hb dL_told_15 (pc' := 16) hml rfl rfl ?_
      refine ei_lmul hb dL_told_16 (pc' := 17) rfl ?_
      refine ei_aln hb dL_told_17 (pc' := 18) rfl rfl ?_
      refine ei_iln hb dL_told_18 (pc' := 19) rfl rfl ?_
      obtain ⟨x2, e3, h⟩ := Option.bind_eq_some_iff.mp h
      refine ei_cv hb dL_told_19 (pc' := 22) (M1 := (qz_mk f p)) (as := [.inl y3]) (rest := [.inr (.inr ((31 : Int64) * l6))]) (st' := [.inl x2, .inr (.inr ((31 : Int64) * l6))]) hcn qz_c_8_12 qz_k_65 (qz_q_72_65) (Nat.le_of_ble_eq_true rfl) (Nat.le_of_ble_eq_true rfl) rfl rfl rfl rfl (vX_count F f p y3 _ e3) rfl rfl ?_
      refine ei_i2l hb dL_told_22 (pc' := 23) rfl ?_
      refine ei_ladd hb dL_told_23 (pc' := 24) rfl ?_
      refine ei_lsn hb dL_told_24 (pc' := 25) (ls' := [some (.inr (.inl (some ((5, 0, 0) : qz_N)))), none, none, some (.inl y3), d4, none, some (.inr (.inr (((31 : Int64) * l6) + (x2).toInt64))), none, none, none]) hml (Nat.le_of_ble_eq_true rfl) (Nat.le_of_ble_eq_true rfl) rfl rfl rfl rfl ?_
      refine ei_inc hb dL_told_25 (v := (y3 + 1)) (pc' := 28) (ls' := [some (.inr (.inl (some ((5, 0, 0) : qz_N)))), none, none, some (.inl (y3 + 1)), d4, none, some (.inr (.inr (((31 : Int64) * l6) + (x2).toInt64))), none, none, none]) rfl hml (Nat.le_of_ble_eq_true rfl) rfl rfl rfl rfl ?_
      refine ei_go hb dL_told_28 (pc' := 6) (by decide) ?_
      exact ih (y3 + 1) (((31 : Int64) * l6) + (x2).toInt64) _ h _
set_option maxHeartbeats 4000000 in
theorem vL_told_L46 (F : Nat) (f : qz_F) (p : Nat → Nat) (y3 : Int32) (K : (Int32 → Int64 → Option (Int64))) (hK : ∀ (y4 : Int32) (l6 : Int64) (r : Int64), K y4 l6 = some r → qz_E 72 84 [some (.inr (.inl (some ((5, 0, 0) : qz_N)))), none, none, some (.inl y3), some (.inl y4), none, some (.inr (.inr l6)), none, none, none] [] (qz_mk f p) (some (.inr (.inr r))) (qz_mk f p)) : ∀ (n : Nat) (y4 : Int32) (l6 : Int64) (r : Int64), gL_told_L46 F f y3 K n y4 l6 = some r → qz_E 72 46 [some (.inr (.inl (some ((5, 0, 0) : qz_N)))), none, none, some (.inl y3), some (.inl y4), none, some (.inr (.inr l6)), none, none, none] [] (qz_mk f p) (some (.inr (.inr r))) (qz_mk f p) := by
  have hb : qz_b 72 = cL_told := rfl
  have hcn : qz_cn 72 = 8 := rfl
  have hml : qz_ml 72 = 5 := rfl
  intro n
  induction n with
  | zero =>
    intro y4 l6 r h
    cases h
  | succ n ih =>
    intro y4 l6 r h
    rw [gL_told_L46] at h
    refine ei_il hb dL_told_46 (pc' := 48) rfl rfl ?_
    refine ei_b hb dL_told_48 (v := (9 : Int32)) (pc' := 50) (by decide) rfl ?_
    by_cases c10 : (9 : Int32) ≤ y4
    · rw [if_pos c10] at h
      refine ei_icT hb dL_told_50 (pc' := 84) (decide_eq_true c10) (by decide) ?_
      exact hK y4 l6 _ h
    · rw [if_neg c10] at h
      refine ei_icF hb dL_told_50 (pc' := 53) (t := 84) (decide_eq_false c10) (by decide) rfl ?_
      refine ei_il hb dL_told_53 (pc' := 55) rfl rfl ?_
      refine ei_c hb dL_told_55 (v := (5 : Int32)) (pc' := 56) (by decide) rfl ?_
      obtain ⟨w11, e15, h⟩ := Option.bind_eq_some_iff.mp h
      refine qz_jn (Q := qz_E 72 77 [some (.inr (.inl (some ((5, 0, 0) : qz_N)))), none, none, some (.inl y3), some (.inl y4), none, some (.inr (.inr l6)), none, none, none] [.inr (.inr w11)] (qz_mk f p) (some (.inr (.inr r))) (qz_mk f p)) ?_ (fun key => ?_)
      · refine ei_lsn hb dL_told_77 (pc' := 78) (ls' := [some (.inr (.inl (some ((5, 0, 0) : qz_N)))), none, none, some (.inl y3), some (.inl y4), none, some (.inr (.inr w11)), none, none, none]) hml (Nat.le_of_ble_eq_true rfl) (Nat.le_of_ble_eq_true rfl) rfl rfl rfl rfl ?_
        refine ei_inc hb dL_told_78 (v := (y4 + 1)) (pc' := 81) (ls' := [some (.inr (.inl (some ((5, 0, 0) : qz_N)))), none, none, some (.inl y3), some (.inl (y4 + 1)), none, some (.inr (.inr w11)), none, none, none]) rfl hml (Nat.le_of_ble_eq_true rfl) rfl rfl rfl rfl ?_
        refine ei_go hb dL_told_81 (pc' := 46) (by decide) ?_
        exact ih (y4 + 1) w11 _ h
      · have h := e15
        by_cases c12 : y4 = (5 : Int32)
        · rw [if_pos c12] at h
          refine ei_icF hb dL_told_56 (pc' := 59) (t := 63) (decide_eq_false (fun q => q c12)) (by decide) rfl ?_
          refine ei_lln hb dL_told_59 (pc' := 60) hml rfl rfl ?_
          refine ei_go hb dL_told_60 (pc' := 77) (by decide) ?_
          have h := Option.some.inj h
          subst h
          exact key
        · rw [if_neg c12] at h
          refine ei_icT hb dL_told_56 (pc' := 63) (decide_eq_true c12) (by decide) ?_
          refine ei_k8 hb dL_told_63 (pc' := 66) (v := (31 : Int64)) hcn rfl rfl ?_
          refine ei_lln hb dL_told_66 (pc' := 67) hml rfl rfl ?_
          refine ei_lmul hb dL_told_67 (pc' := 68) rfl ?_
          refine ei_aln hb dL_told_68 (pc' := 69) rfl rfl ?_
          refine ei_iln hb dL_told_69 (pc' := 70) rfl rfl ?_
          refine ei_il hb dL_told_70 (pc' := 72) rfl rfl ?_
          obtain ⟨x13, e14, h⟩ := Option.bind_eq_some_iff.mp h
          refine ei_cv hb dL_told_72 (pc' := 75) (M1 := (qz_mk f p)) (as := [.inl y3, .inl y4]) (rest := [.inr (.inr ((31 : Int64) * l6))]) (st' := [.inl x13, .inr (.inr ((31 : Int64) * l6))]) hcn qz_c_8_18 qz_k_61 (qz_q_72_61) (Nat.le_of_ble_eq_true rfl) (Nat.le_of_ble_eq_true rfl) rfl rfl rfl rfl (vX_worker F f p y3 y4 _ e14) rfl rfl ?_
          refine ei_i2l hb dL_told_75 (pc' := 76) rfl ?_
          refine ei_ladd hb dL_told_76 (pc' := 77) rfl ?_
          have h := Option.some.inj h
          subst h
          exact key
set_option maxHeartbeats 4000000 in
theorem vL_told_L33 (F : Nat) (f : qz_F) (p : Nat → Nat)  (K : (Int32 → Int64 → Option (Int64))) (hK : ∀ (y3 : Int32) (l6 : Int64) (r : Int64), K y3 l6 = some r → ∀ (d4 : Option qz_V), qz_E 72 90 [some (.inr (.inl (some ((5, 0, 0) : qz_N)))), none, none, some (.inl y3), d4, none, some (.inr (.inr l6)), none, none, none] [] (qz_mk f p) (some (.inr (.inr r))) (qz_mk f p)) : ∀ (n : Nat) (y3 : Int32) (l6 : Int64) (r : Int64), gL_told_L33 F f K n y3 l6 = some r → ∀ (d4 : Option qz_V), qz_E 72 33 [some (.inr (.inl (some ((5, 0, 0) : qz_N)))), none, none, some (.inl y3), d4, none, some (.inr (.inr l6)), none, none, none] [] (qz_mk f p) (some (.inr (.inr r))) (qz_mk f p) := by
  have hb : qz_b 72 = cL_told := rfl
  have hcn : qz_cn 72 = 8 := rfl
  have hml : qz_ml 72 = 5 := rfl
  intro n
  induction n with
  | zero =>
    intro y3 l6 r h
    cases h
  | succ n ih =>
    intro y3 l6 r h d4
    rw [gL_told_L33] at h
    refine ei_iln hb dL_told_33 (pc' := 34) rfl rfl ?_
    refine ei_aln hb dL_told_34 (pc' := 35) rfl rfl ?_
    refine ei_b hb dL_told_35 (v := (15 : Int32)) (pc' := 37) (by decide) rfl ?_
    obtain ⟨x7, e8, h⟩ := Option.bind_eq_some_iff.mp h
    refine ei_cv hb dL_told_37 (pc' := 40) (M1 := (qz_mk f p)) (as := [.inl (15 : Int32)]) (rest := [.inl y3]) (st' := [.inl x7, .inl y3]) hcn qz_c_8_12 qz_k_65 (qz_q_72_65) (Nat.le_of_ble_eq_true rfl) (Nat.le_of_ble_eq_true rfl) rfl rfl rfl rfl (vX_count F f p (15 : Int32) _ e8) rfl rfl ?_
    by_cases c9 : x7 ≤ y3
    · rw [if_pos c9] at h
      refine ei_icT hb dL_told_40 (pc' := 90) (decide_eq_true c9) (by decide) ?_
      exact hK y3 l6 _ h _
    · rw [if_neg c9] at h
      refine ei_icF hb dL_told_40 (pc' := 43) (t := 90) (decide_eq_false c9) (by decide) rfl ?_
      refine ei_c hb dL_told_43 (v := (0 : Int32)) (pc' := 44) (by decide) rfl ?_
      refine ei_is hb dL_told_44 (pc' := 46) (ls' := [some (.inr (.inl (some ((5, 0, 0) : qz_N)))), none, none, some (.inl y3), some (.inl (0 : Int32)), none, some (.inr (.inr l6)), none, none, none]) hml (Nat.le_of_ble_eq_true rfl) rfl rfl rfl ?_
      refine vL_told_L46 F f p y3 _ ?_ F (0 : Int32) l6 _ h
      intro y416 l617 r h
      refine ei_inc hb dL_told_84 (v := (y3 + 1)) (pc' := 87) (ls' := [some (.inr (.inl (some ((5, 0, 0) : qz_N)))), none, none, some (.inl (y3 + 1)), some (.inl y416), none, some (.inr (.inr l617)), none, none, none]) rfl hml (Nat.le_of_ble_eq_true rfl) rfl rfl rfl rfl ?_
      refine ei_go hb dL_told_87 (pc' := 33) (by decide) ?_
      exact ih (y3 + 1) l617 _ h _
set_option maxHeartbeats 4000000 in
theorem vL_told_L92 (F : Nat) (f : qz_F) (p : Nat → Nat)  (K : (Int32 → Int64 → Option (Int64))) (hK : ∀ (y3 : Int32) (l6 : Int64) (r : Int64), K y3 l6 = some r → ∀ (d4 : Option qz_V), qz_E 72 145 [some (.inr (.inl (some ((5, 0, 0) : qz_N)))), none, none, some (.inl y3), d4, none, some (.inr (.inr l6)), none, none, none] [] (qz_mk f p) (some (.inr (.inr r))) (qz_mk f p)) : ∀ (n : Nat) (y3 : Int32) (l6 : Int64) (r : Int64), gL_told_L92 F f K n y3 l6 = some r → ∀ (d4 : Option qz_V), qz_E 72 92 [some (.inr (.inl (some ((5, 0, 0) : qz_N)))), none, none, some (.inl y3), d4, none, some (.inr (.inr l6)), none, none, none] [] (qz_mk f p) (some (.inr (.inr r))) (qz_mk f p) := by
  have hb : qz_b 72 = cL_told := rfl
  have hcn : qz_cn 72 = 8 := rfl
  have hml : qz_ml 72 = 5 := rfl
  intro n
  induction n with
  | zero =>
    intro y3 l6 r h
    cases h
  | succ n ih =>
    intro y3 l6 r h d4
    rw [gL_told_L92] at h
    refine ei_iln hb dL_told_92 (pc' := 93) rfl rfl ?_
    refine ei_c hb dL_told_93 (v := (2 : Int32)) (pc' := 94) (by decide) rfl ?_
    refine ei_aln hb dL_told_94 (pc' := 95) rfl rfl ?_
    refine ei_c hb dL_told_95 (v := (0 : Int32)) (pc' := 96) (by decide) rfl ?_
    obtain ⟨x21, e22, h⟩ := Option.bind_eq_some_iff.mp h
    refine ei_cv hb dL_told_96 (pc' := 99) (M1 := (qz_mk f p)) (as := [.inl (0 : Int32)]) (rest := [.inl (2 : Int32), .inl y3]) (st' := [.inl x21, .inl (2 : Int32), .inl y3]) hcn qz_c_8_12 qz_k_65 (qz_q_72_65) (Nat.le_of_ble_eq_true rfl) (Nat.le_of_ble_eq_true rfl) rfl rfl rfl rfl (vX_count F f p (0 : Int32) _ e22) rfl rfl ?_
    refine ei_mul hb dL_told_99 (pc' := 100) rfl ?_
    by_cases c23 : ((2 : Int32) * x21) ≤ y3
    · rw [if_pos c23] at h
      refine ei_icT hb dL_told_100 (pc' := 145) (decide_eq_true c23) (by decide) ?_
      exact hK y3 l6 _ h _
    · rw [if_neg c23] at h
      refine ei_icF hb dL_told_100 (pc' := 103) (t := 145) (decide_eq_false c23) (by decide) rfl ?_
      refine ei_k8 hb dL_told_103 (pc' := 106) (v := (31 : Int64)) hcn rfl rfl ?_
      refine ei_k8 hb dL_told_106 (pc' := 109) (v := (31 : Int64)) hcn rfl rfl ?_
      refine ei_lln hb dL_told_109 (pc' := 110) hml rfl rfl ?_
      refine ei_lmul hb dL_told_110 (pc' := 111) rfl ?_
      refine ei_aln hb dL_told_111 (pc' := 112) rfl rfl ?_
      refine ei_iln hb dL_told_112 (pc' := 113) rfl rfl ?_
      refine ei_c hb dL_told_113 (v := (2 : Int32)) (pc' := 114) (by decide) rfl ?_
      refine ei_rem hb dL_told_114 (pc' := 115) (by decide) rfl ?_
      refine ei_iln hb dL_told_115 (pc' := 116) rfl rfl ?_
      refine ei_c hb dL_told_116 (v := (2 : Int32)) (pc' := 117) (by decide) rfl ?_
      refine ei_div hb dL_told_117 (pc' := 118) (by decide) rfl ?_
      refine ei_c hb dL_told_118 (v := (0 : Int32)) (pc' := 119) (by decide) rfl ?_
      obtain ⟨x24, e25, h⟩ := Option.bind_eq_some_iff.mp h
      refine ei_cv hb dL_told_119 (pc' := 122) (M1 := (qz_mk f p)) (as := [.inl (y3 - y3 / (2 : Int32) * (2 : Int32)), .inl (y3 / (2 : Int32)), .inl (0 : Int32)]) (rest := [.inr (.inr ((31 : Int64) * l6)), .inr (.inr (31 : Int64))]) (st' := [.inl x24, .inr (.inr ((31 : Int64) * l6)), .inr (.inr (31 : Int64))]) hcn qz_c_8_22 qz_k_62 (qz_q_72_62) (Nat.le_of_ble_eq_true rfl) (Nat.le_of_ble_eq_true rfl) rfl rfl rfl rfl (vX_bus F f p (y3 - y3 / (2 : Int32) * (2 : Int32)) (y3 / (2 : Int32)) (0 : Int32) _ e25) rfl rfl ?_
      refine ei_i2l hb dL_told_122 (pc' := 123) rfl ?_
      refine ei_ladd hb dL_told_123 (pc' := 124) rfl ?_
      refine ei_lmul hb dL_told_124 (pc' := 125) rfl ?_
      refine ei_aln hb dL_told_125 (pc' := 126) rfl rfl ?_
      refine ei_iln hb dL_told_126 (pc' := 127) rfl rfl ?_
      refine ei_c hb dL_told_127 (v := (2 : Int32)) (pc' := 128) (by decide) rfl ?_
      refine ei_rem hb dL_told_128 (pc' := 129) (by decide) rfl ?_
      refine ei_iln hb dL_told_129 (pc' := 130) rfl rfl ?_
      refine ei_c hb dL_told_130 (v := (2 : Int32)) (pc' := 131) (by decide) rfl ?_
      refine ei_div hb dL_told_131 (pc' := 132) (by decide) rfl ?_
      refine ei_c hb dL_told_132 (v := (1 : Int32)) (pc' := 133) (by decide) rfl ?_
      obtain ⟨x26, e27, h⟩ := Option.bind_eq_some_iff.mp h
      refine ei_cv hb dL_told_133 (pc' := 136) (M1 := (qz_mk f p)) (as := [.inl (y3 - y3 / (2 : Int32) * (2 : Int32)), .inl (y3 / (2 : Int32)), .inl (1 : Int32)]) (rest := [.inr (.inr ((31 : Int64) * (((31 : Int64) * l6) + (x24).toInt64)))]) (st' := [.inl x26, .inr (.inr ((31 : Int64) * (((31 : Int64) * l6) + (x24).toInt64)))]) hcn qz_c_8_22 qz_k_62 (qz_q_72_62) (Nat.le_of_ble_eq_true rfl) (Nat.le_of_ble_eq_true rfl) rfl rfl rfl rfl (vX_bus F f p (y3 - y3 / (2 : Int32) * (2 : Int32)) (y3 / (2 : Int32)) (1 : Int32) _ e27) rfl rfl ?_
      refine ei_i2l hb dL_told_136 (pc' := 137) rfl ?_
      refine ei_ladd hb dL_told_137 (pc' := 138) rfl ?_
      refine ei_lsn hb dL_told_138 (pc' := 139) (ls' := [some (.inr (.inl (some ((5, 0, 0) : qz_N)))), none, none, some (.inl y3), d4, none, some (.inr (.inr (((31 : Int64) * (((31 : Int64) * l6) + (x24).toInt64)) + (x26).toInt64))), none, none, none]) hml (Nat.le_of_ble_eq_true rfl) (Nat.le_of_ble_eq_true rfl) rfl rfl rfl rfl ?_
      refine ei_inc hb dL_told_139 (v := (y3 + 1)) (pc' := 142) (ls' := [some (.inr (.inl (some ((5, 0, 0) : qz_N)))), none, none, some (.inl (y3 + 1)), d4, none, some (.inr (.inr (((31 : Int64) * (((31 : Int64) * l6) + (x24).toInt64)) + (x26).toInt64))), none, none, none]) rfl hml (Nat.le_of_ble_eq_true rfl) rfl rfl rfl rfl ?_
      refine ei_go hb dL_told_142 (pc' := 92) (by decide) ?_
      exact ih (y3 + 1) (((31 : Int64) * (((31 : Int64) * l6) + (x24).toInt64)) + (x26).toInt64) _ h _
set_option maxHeartbeats 4000000 in
theorem vL_told (F : Nat) (f : qz_F) (p : Nat → Nat)  (r : Int64) (h : (gL_told F f) = some r) : qz_E 72 0 (qz_in0 72 [.inr (.inl (some ((5, 0, 0) : qz_N)))]) [] (qz_mk f p) (some (.inr (.inr r))) (qz_mk f p) := by
  have hb : qz_b 72 = cL_told := rfl
  have hcn : qz_cn 72 = 8 := rfl
  have hml : qz_ml 72 = 5 := rfl
  show qz_E 72 0 [some (.inr (.inl (some ((5, 0, 0) : qz_N)))), none, none, none, none, none, none, none, none, none] [] _ _ _
  rw [gL_told] at h
  refine ei_k8 hb dL_told_0 (pc' := 3) (v := (3 : Int64)) hcn rfl rfl ?_
  refine ei_lsn hb dL_told_3 (pc' := 4) (ls' := [some (.inr (.inl (some ((5, 0, 0) : qz_N)))), none, none, none, none, none, some (.inr (.inr (3 : Int64))), none, none, none]) hml (Nat.le_of_ble_eq_true rfl) (Nat.le_of_ble_eq_true rfl) rfl rfl rfl rfl ?_
  refine ei_c hb dL_told_4 (v := (0 : Int32)) (pc' := 5) (by decide) rfl ?_
  refine ei_isn hb dL_told_5 (pc' := 6) (ls' := [some (.inr (.inl (some ((5, 0, 0) : qz_N)))), none, none, some (.inl (0 : Int32)), none, none, some (.inr (.inr (3 : Int64))), none, none, none]) hml (Nat.le_of_ble_eq_true rfl) rfl rfl rfl ?_
  refine vL_told_L6 F f p _ ?_ F (0 : Int32) (3 : Int64) _ h _
  intro y34 l65 r h d6
  refine ei_c hb dL_told_31 (v := (0 : Int32)) (pc' := 32) (by decide) rfl ?_
  refine ei_isn hb dL_told_32 (pc' := 33) (ls' := [some (.inr (.inl (some ((5, 0, 0) : qz_N)))), none, none, some (.inl (0 : Int32)), d6, none, some (.inr (.inr l65)), none, none, none]) hml (Nat.le_of_ble_eq_true rfl) rfl rfl rfl ?_
  refine vL_told_L33 F f p _ ?_ F (0 : Int32) l65 _ h _
  intro y318 l619 r h d20
  refine ei_c hb dL_told_90 (v := (0 : Int32)) (pc' := 91) (by decide) rfl ?_
  refine ei_isn hb dL_told_91 (pc' := 92) (ls' := [some (.inr (.inl (some ((5, 0, 0) : qz_N)))), none, none, some (.inl (0 : Int32)), d20, none, some (.inr (.inr l619)), none, none, none]) hml (Nat.le_of_ble_eq_true rfl) rfl rfl rfl ?_
  refine vL_told_L92 F f p _ ?_ F (0 : Int32) l619 _ h _
  intro y328 l629 r h d30
  refine ei_lln hb dL_told_145 (pc' := 146) hml rfl rfl ?_
  have h := Option.some.inj h
  subst h
  exact ei_retl hb dL_told_146 rfl
def gL_act (F : Nat) (S : qz_S) (a1 : Int32) (a2 : Int32) : Option (Int32 × qz_S) :=
  Option.bind (gX_count F S.1 (0 : Int32)) fun x1 => Option.bind (gL_low F S.1 (a1 >>> ((4 : Int32) &&& 31)) (x1 + (1 : Int32))) fun x3 => Option.bind (gX_count F S.1 (15 : Int32)) fun x5 => Option.bind (gL_low F S.1 (a1 >>> ((8 : Int32) &&& 31)) (x5 + (1 : Int32))) fun x7 => if (a1 &&& (15 : Int32)) = 0 then (Option.bind (if ((a2 >>> ((20 : Int32) &&& 31)) &&& (1 : Int32)) = 0 then (some (50 : Int32)) else (some (1441 : Int32))) fun j10 => Option.bind (gL_low F S.1 a2 j10) fun x11 => Option.bind (gX_addEnd F S x11) fun R13 => some (R13.1, R13.2)) else (if (a1 &&& (15 : Int32)) = 1 then (Option.bind (if ((a2 >>> ((20 : Int32) &&& 31)) &&& (1 : Int32)) = 0 then (some (50 : Int32)) else (some (1441 : Int32))) fun j18 => Option.bind (gL_low F S.1 a2 j18) fun x19 => Option.bind (gX_addEnd F S x19) fun R21 => some (R21.1, R21.2)) else (if (a1 &&& (15 : Int32)) = 2 then (Option.bind (gL_low F S.1 a2 (5 : Int32)) fun x26 => Option.bind (if x26 = 0 then (some (22 : Int32)) else (if x26 = (1 : Int32) then (some (9 : Int32)) else (if x26 = (2 : Int32) then (some (122 : Int32)) else (some (200 : Int32))))) fun j28 => Option.bind (gL_low F S.1 (a2 >>> ((3 : Int32) &&& 31)) j28) fun x29 => Option.bind (gX_set F S x26 x29) fun R31 => some (R31.1, R31.2)) else (if (a1 &&& (15 : Int32)) = 3 then (Option.bind (gL_low F S.1 a2 (11 : Int32)) fun x38 => Option.bind (gX_merge F S ((a1 >>> ((12 : Int32) &&& 31)) &&& (1 : Int32)) x3 x38) fun R40 => some (R40.1, R40.2)) else (if (a1 &&& (15 : Int32)) = 4 then (Option.bind (gL_low F S.1 a2 (11 : Int32)) fun x43 => Option.bind (gX_merge F S ((a1 >>> ((12 : Int32) &&& 31)) &&& (1 : Int32)) x3 x43) fun R45 => some (R45.1, R45.2)) else (if (a1 &&& (15 : Int32)) = 5 then (Option.bind (gX_part F S ((a1 >>> ((12 : Int32) &&& 31)) &&& (1 : Int32)) x3) fun R48 => some (R48.1, R48.2)) else (if (a1 &&& (15 : Int32)) = 6 then (Option.bind (gX_passDay F S) fun R51 => some (R51.1, R51.2)) else (if (a1 &&& (15 : Int32)) = 7 then (Option.bind (gX_passDay F S) fun R54 => some (R54.1, R54.2)) else (if (a1 &&& (15 : Int32)) = 8 then (if (a2 &&& (1 : Int32)) = 0 then (Option.bind (gX_takeBack F S x7) fun R58 => some (R58.1, R58.2)) else (Option.bind (gX_restore F S) fun R60 => some (R60.1, R60.2))) else (if (a1 &&& (15 : Int32)) = 9 then (Option.bind (gX_count F S.1 (0 : Int32)) fun x63 => Option.bind (gL_low F S.1 a2 (x63 + (1 : Int32))) fun x65 => Option.bind (gX_stay F S x7 x65) fun R67 => some (R67.1, R67.2)) else (if (a1 &&& (15 : Int32)) = 10 then (Option.bind (gX_count F S.1 (0 : Int32)) fun x70 => Option.bind (gL_low F S.1 a2 (x70 + (1 : Int32))) fun x72 => Option.bind (gX_stay F S x7 x72) fun R74 => some (R74.1, R74.2)) else (Option.bind (if ((a2 >>> ((20 : Int32) &&& 31)) &&& (7 : Int32)) = 0 then (some (3 : Int32)) else (some (2 : Int32))) fun j76 => Option.bind (gL_low F S.1 a2 j76) fun x77 => Option.bind (if ((a2 >>> ((20 : Int32) &&& 31)) &&& (7 : Int32)) = (1 : Int32) then (some (11 : Int32)) else (some (9 : Int32))) fun j79 => Option.bind (gL_low F S.1 (a2 >>> ((2 : Int32) &&& 31)) j79) fun x80 => Option.bind (if ((a2 >>> ((20 : Int32) &&& 31)) &&& (7 : Int32)) = (1 : Int32) then (some (0 : Int32)) else (some (1 : Int32))) fun j82 => Option.bind (gX_book F S x3 x77 (x80 + j82)) fun R83 => some (R83.1, R83.2))))))))))))
set_option maxHeartbeats 4000000 in
theorem vL_act (F : Nat) (S : qz_S) (a1 : Int32) (a2 : Int32) (r : Int32 × qz_S) (h : (gL_act F S a1 a2) = some r) : qz_E 73 0 (qz_in0 73 [.inr (.inl (some ((5, 0, 0) : qz_N))), .inl a1, .inl a2]) [] (qz_mk S.1 S.2) (some (.inl r.1)) (qz_mk r.2.1 r.2.2) := by
  have hb : qz_b 73 = cL_act := rfl
  have hcn : qz_cn 73 = 8 := rfl
  have hml : qz_ml 73 = 6 := rfl
  show qz_E 73 0 [some (.inr (.inl (some ((5, 0, 0) : qz_N)))), some (.inl a1), some (.inl a2), none, none, none] [] _ _ _
  rw [gL_act] at h
  refine ei_iln hb dL_act_0 (pc' := 1) rfl rfl ?_
  refine ei_c hb dL_act_1 (v := (4 : Int32)) (pc' := 2) (by decide) rfl ?_
  refine ei_shr hb dL_act_2 (pc' := 3) rfl ?_
  refine ei_aln hb dL_act_3 (pc' := 4) rfl rfl ?_
  refine ei_c hb dL_act_4 (v := (0 : Int32)) (pc' := 5) (by decide) rfl ?_
  obtain ⟨x1, e2, h⟩ := Option.bind_eq_some_iff.mp h
  refine ei_cv hb dL_act_5 (pc' := 8) (M1 := (qz_mk S.1 S.2)) (as := [.inl (0 : Int32)]) (rest := [.inl (a1 >>> ((4 : Int32) &&& 31))]) (st' := [.inl x1, .inl (a1 >>> ((4 : Int32) &&& 31))]) hcn qz_c_8_12 qz_k_65 (qz_q_73_65) (Nat.le_of_ble_eq_true rfl) (Nat.le_of_ble_eq_true rfl) rfl rfl rfl rfl (vX_count F S.1 S.2 (0 : Int32) _ e2) rfl rfl ?_
  refine ei_c hb dL_act_8 (v := (1 : Int32)) (pc' := 9) (by decide) rfl ?_
  refine ei_add hb dL_act_9 (pc' := 10) rfl ?_
  obtain ⟨x3, e4, h⟩ := Option.bind_eq_some_iff.mp h
  refine ei_cs hb dL_act_10 (pc' := 13) (M1 := (qz_mk S.1 S.2)) (as := [.inl (a1 >>> ((4 : Int32) &&& 31)), .inl (x1 + (1 : Int32))]) (rest := []) (st' := [.inl x3]) hcn qz_c_8_26 rfl qz_k_71 (qz_q_73_71) (Nat.le_of_ble_eq_true rfl) (Nat.le_of_ble_eq_true rfl) rfl rfl rfl (vL_low F S.1 S.2 (a1 >>> ((4 : Int32) &&& 31)) (x1 + (1 : Int32)) _ e4) rfl rfl ?_
  refine ei_isn hb dL_act_13 (pc' := 14) (ls' := [some (.inr (.inl (some ((5, 0, 0) : qz_N)))), some (.inl a1), some (.inl a2), some (.inl x3), none, none]) hml (Nat.le_of_ble_eq_true rfl) rfl rfl rfl ?_
  refine ei_iln hb dL_act_14 (pc' := 15) rfl rfl ?_
  refine ei_b hb dL_act_15 (v := (8 : Int32)) (pc' := 17) (by decide) rfl ?_
  refine ei_shr hb dL_act_17 (pc' := 18) rfl ?_
  refine ei_aln hb dL_act_18 (pc' := 19) rfl rfl ?_
  refine ei_b hb dL_act_19 (v := (15 : Int32)) (pc' := 21) (by decide) rfl ?_
  obtain ⟨x5, e6, h⟩ := Option.bind_eq_some_iff.mp h
  refine ei_cv hb dL_act_21 (pc' := 24) (M1 := (qz_mk S.1 S.2)) (as := [.inl (15 : Int32)]) (rest := [.inl (a1 >>> ((8 : Int32) &&& 31))]) (st' := [.inl x5, .inl (a1 >>> ((8 : Int32) &&& 31))]) hcn qz_c_8_12 qz_k_65 (qz_q_73_65) (Nat.le_of_ble_eq_true rfl) (Nat.le_of_ble_eq_true rfl) rfl rfl rfl rfl (vX_count F S.1 S.2 (15 : Int32) _ e6) rfl rfl ?_
  refine ei_c hb dL_act_24 (v := (1 : Int32)) (pc' := 25) (by decide) rfl ?_
  refine ei_add hb dL_act_25 (pc' := 26) rfl ?_
  obtain ⟨x7, e8, h⟩ := Option.bind_eq_some_iff.mp h
  refine ei_cs hb dL_act_26 (pc' := 29) (M1 := (qz_mk S.1 S.2)) (as := [.inl (a1 >>> ((8 : Int32) &&& 31)), .inl (x5 + (1 : Int32))]) (rest := []) (st' := [.inl x7]) hcn qz_c_8_26 rfl qz_k_71 (qz_q_73_71) (Nat.le_of_ble_eq_true rfl) (Nat.le_of_ble_eq_true rfl) rfl rfl rfl (vL_low F S.1 S.2 (a1 >>> ((8 : Int32) &&& 31)) (x5 + (1 : Int32)) _ e8) rfl rfl ?_
  refine ei_is hb dL_act_29 (pc' := 31) (ls' := [some (.inr (.inl (some ((5, 0, 0) : qz_N)))), some (.inl a1), some (.inl a2), some (.inl x3), some (.inl x7), none]) hml (Nat.le_of_ble_eq_true rfl) rfl rfl rfl ?_
  refine ei_iln hb dL_act_31 (pc' := 32) rfl rfl ?_
  refine ei_b hb dL_act_32 (v := (15 : Int32)) (pc' := 34) (by decide) rfl ?_
  refine ei_and hb dL_act_34 (pc' := 35) rfl ?_
  by_cases c9 : (a1 &&& (15 : Int32)) = 0
  · rw [if_pos c9] at h
    refine ei_tbI hb dL_act_35 (pc' := 92) (off := 57) (by rw [c9]; decide) (by rw [c9]; rfl) (by decide) ?_
    refine ei_aln hb dL_act_92 (pc' := 93) rfl rfl ?_
    refine ei_iln hb dL_act_93 (pc' := 94) rfl rfl ?_
    refine ei_iln hb dL_act_94 (pc' := 95) rfl rfl ?_
    refine ei_b hb dL_act_95 (v := (20 : Int32)) (pc' := 97) (by decide) rfl ?_
    refine ei_shr hb dL_act_97 (pc' := 98) rfl ?_
    refine ei_c hb dL_act_98 (v := (1 : Int32)) (pc' := 99) (by decide) rfl ?_
    refine ei_and hb dL_act_99 (pc' := 100) rfl ?_
    obtain ⟨j10, e16, h⟩ := Option.bind_eq_some_iff.mp h
    refine qz_jn (Q := qz_E 73 111 [some (.inr (.inl (some ((5, 0, 0) : qz_N)))), some (.inl a1), some (.inl a2), some (.inl x3), some (.inl x7), none] [.inl j10, .inl a2, .inr (.inl (some ((5, 0, 0) : qz_N)))] (qz_mk S.1 S.2) (some (.inl r.1)) (qz_mk r.2.1 r.2.2)) ?_ (fun key => ?_)
    · obtain ⟨x11, e12, h⟩ := Option.bind_eq_some_iff.mp h
      refine ei_cs hb dL_act_111 (pc' := 114) (M1 := (qz_mk S.1 S.2)) (as := [.inl a2, .inl j10]) (rest := [.inr (.inl (some ((5, 0, 0) : qz_N)))]) (st' := [.inl x11, .inr (.inl (some ((5, 0, 0) : qz_N)))]) hcn qz_c_8_26 rfl qz_k_71 (qz_q_73_71) (Nat.le_of_ble_eq_true rfl) (Nat.le_of_ble_eq_true rfl) rfl rfl rfl (vL_low F S.1 S.2 a2 j10 _ e12) rfl rfl ?_
      obtain ⟨R13, e14, h⟩ := Option.bind_eq_some_iff.mp h
      refine ei_cv hb dL_act_114 (pc' := 117) (M1 := (qz_mk R13.2.1 R13.2.2)) (as := [.inl x11]) (rest := []) (st' := [.inl R13.1]) hcn qz_c_8_31 qz_k_50 (qz_q_73_50) (Nat.le_of_ble_eq_true rfl) (Nat.le_of_ble_eq_true rfl) rfl rfl rfl rfl (vX_addEnd F S x11 _ e14) rfl rfl ?_
      have h := Option.some.inj h
      subst h
      exact ei_reti hb dL_act_117 rfl
    · have h := e16
      by_cases c15 : ((a2 >>> ((20 : Int32) &&& 31)) &&& (1 : Int32)) = 0
      · rw [if_pos c15] at h
        refine ei_ifF hb dL_act_100 (pc' := 103) (t := 108) (decide_eq_false (fun q => q c15)) (by decide) rfl ?_
        refine ei_b hb dL_act_103 (v := (50 : Int32)) (pc' := 105) (by decide) rfl ?_
        refine ei_go hb dL_act_105 (pc' := 111) (by decide) ?_
        have h := Option.some.inj h
        subst h
        exact key
      · rw [if_neg c15] at h
        refine ei_ifT hb dL_act_100 (pc' := 108) (decide_eq_true c15) (by decide) ?_
        refine ei_s hb dL_act_108 (v := (1441 : Int32)) (pc' := 111) (by decide) rfl ?_
        have h := Option.some.inj h
        subst h
        exact key
  · rw [if_neg c9] at h
    by_cases c17 : (a1 &&& (15 : Int32)) = 1
    · rw [if_pos c17] at h
      refine ei_tbI hb dL_act_35 (pc' := 92) (off := 57) (by rw [c17]; decide) (by rw [c17]; rfl) (by decide) ?_
      refine ei_aln hb dL_act_92 (pc' := 93) rfl rfl ?_
      refine ei_iln hb dL_act_93 (pc' := 94) rfl rfl ?_
      refine ei_iln hb dL_act_94 (pc' := 95) rfl rfl ?_
      refine ei_b hb dL_act_95 (v := (20 : Int32)) (pc' := 97) (by decide) rfl ?_
      refine ei_shr hb dL_act_97 (pc' := 98) rfl ?_
      refine ei_c hb dL_act_98 (v := (1 : Int32)) (pc' := 99) (by decide) rfl ?_
      refine ei_and hb dL_act_99 (pc' := 100) rfl ?_
      obtain ⟨j18, e24, h⟩ := Option.bind_eq_some_iff.mp h
      refine qz_jn (Q := qz_E 73 111 [some (.inr (.inl (some ((5, 0, 0) : qz_N)))), some (.inl a1), some (.inl a2), some (.inl x3), some (.inl x7), none] [.inl j18, .inl a2, .inr (.inl (some ((5, 0, 0) : qz_N)))] (qz_mk S.1 S.2) (some (.inl r.1)) (qz_mk r.2.1 r.2.2)) ?_ (fun key => ?_)
      · obtain ⟨x19, e20, h⟩ := Option.bind_eq_some_iff.mp h
        refine ei_cs hb dL_act_111 (pc' := 114) (M1 := (qz_mk S.1 S.2)) (as := [.inl a2, .inl j18]) (rest := [.inr (.inl (some ((5, 0, 0) : qz_N)))]) (st' := [.inl x19, .inr (.inl (some ((5, 0, 0) : qz_N)))]) hcn qz_c_8_26 rfl qz_k_71 (qz_q_73_71) (Nat.le_of_ble_eq_true rfl) (Nat.le_of_ble_eq_true rfl) rfl rfl rfl (vL_low F S.1 S.2 a2 j18 _ e20) rfl rfl ?_
        obtain ⟨R21, e22, h⟩ := Option.bind_eq_some_iff.mp h
        refine ei_cv hb dL_act_114 (pc' := 117) (M1 := (qz_mk R21.2.1 R21.2.2)) (as := [.inl x19]) (rest := []) (st' := [.inl R21.1]) hcn qz_c_8_31 qz_k_50 (qz_q_73_50) (Nat.le_of_ble_eq_true rfl) (Nat.le_of_ble_eq_true rfl) rfl rfl rfl rfl (vX_addEnd F S x19 _ e22) rfl rfl ?_
        have h := Option.some.inj h
        subst h
        exact ei_reti hb dL_act_117 rfl
      · have h := e24
        by_cases c23 : ((a2 >>> ((20 : Int32) &&& 31)) &&& (1 : Int32)) = 0
        · rw [if_pos c23] at h
          refine ei_ifF hb dL_act_100 (pc' := 103) (t := 108) (decide_eq_false (fun q => q c23)) (by decide) rfl ?_
          refine ei_b hb dL_act_103 (v := (50 : Int32)) (pc' := 105) (by decide) rfl ?_
          refine ei_go hb dL_act_105 (pc' := 111) (by decide) ?_
          have h := Option.some.inj h
          subst h
          exact key
        · rw [if_neg c23] at h
          refine ei_ifT hb dL_act_100 (pc' := 108) (decide_eq_true c23) (by decide) ?_
          refine ei_s hb dL_act_108 (v := (1441 : Int32)) (pc' := 111) (by decide) rfl ?_
          have h := Option.some.inj h
          subst h
          exact key
    · rw [if_neg c17] at h
      by_cases c25 : (a1 &&& (15 : Int32)) = 2
      · rw [if_pos c25] at h
        refine ei_tbI hb dL_act_35 (pc' := 118) (off := 83) (by rw [c25]; decide) (by rw [c25]; rfl) (by decide) ?_
        refine ei_iln hb dL_act_118 (pc' := 119) rfl rfl ?_
        refine ei_c hb dL_act_119 (v := (5 : Int32)) (pc' := 120) (by decide) rfl ?_
        obtain ⟨x26, e27, h⟩ := Option.bind_eq_some_iff.mp h
        refine ei_cs hb dL_act_120 (pc' := 123) (M1 := (qz_mk S.1 S.2)) (as := [.inl a2, .inl (5 : Int32)]) (rest := []) (st' := [.inl x26]) hcn qz_c_8_26 rfl qz_k_71 (qz_q_73_71) (Nat.le_of_ble_eq_true rfl) (Nat.le_of_ble_eq_true rfl) rfl rfl rfl (vL_low F S.1 S.2 a2 (5 : Int32) _ e27) rfl rfl ?_
        refine ei_is hb dL_act_123 (pc' := 125) (ls' := [some (.inr (.inl (some ((5, 0, 0) : qz_N)))), some (.inl a1), some (.inl a2), some (.inl x3), some (.inl x7), some (.inl x26)]) hml (Nat.le_of_ble_eq_true rfl) rfl rfl rfl ?_
        refine ei_aln hb dL_act_125 (pc' := 126) rfl rfl ?_
        refine ei_il hb dL_act_126 (pc' := 128) rfl rfl ?_
        refine ei_iln hb dL_act_128 (pc' := 129) rfl rfl ?_
        refine ei_c hb dL_act_129 (v := (3 : Int32)) (pc' := 130) (by decide) rfl ?_
        refine ei_shr hb dL_act_130 (pc' := 131) rfl ?_
        refine ei_il hb dL_act_131 (pc' := 133) rfl rfl ?_
        obtain ⟨j28, e36, h⟩ := Option.bind_eq_some_iff.mp h
        refine qz_jn (Q := qz_E 73 166 [some (.inr (.inl (some ((5, 0, 0) : qz_N)))), some (.inl a1), some (.inl a2), some (.inl x3), some (.inl x7), some (.inl x26)] [.inl j28, .inl (a2 >>> ((3 : Int32) &&& 31)), .inl x26, .inr (.inl (some ((5, 0, 0) : qz_N)))] (qz_mk S.1 S.2) (some (.inl r.1)) (qz_mk r.2.1 r.2.2)) ?_ (fun key => ?_)
        · obtain ⟨x29, e30, h⟩ := Option.bind_eq_some_iff.mp h
          refine ei_cs hb dL_act_166 (pc' := 169) (M1 := (qz_mk S.1 S.2)) (as := [.inl (a2 >>> ((3 : Int32) &&& 31)), .inl j28]) (rest := [.inl x26, .inr (.inl (some ((5, 0, 0) : qz_N)))]) (st' := [.inl x29, .inl x26, .inr (.inl (some ((5, 0, 0) : qz_N)))]) hcn qz_c_8_26 rfl qz_k_71 (qz_q_73_71) (Nat.le_of_ble_eq_true rfl) (Nat.le_of_ble_eq_true rfl) rfl rfl rfl (vL_low F S.1 S.2 (a2 >>> ((3 : Int32) &&& 31)) j28 _ e30) rfl rfl ?_
          obtain ⟨R31, e32, h⟩ := Option.bind_eq_some_iff.mp h
          refine ei_cv hb dL_act_169 (pc' := 172) (M1 := (qz_mk R31.2.1 R31.2.2)) (as := [.inl x26, .inl x29]) (rest := []) (st' := [.inl R31.1]) hcn qz_c_8_34 qz_k_56 (qz_q_73_56) (Nat.le_of_ble_eq_true rfl) (Nat.le_of_ble_eq_true rfl) rfl rfl rfl rfl (vX_set F S x26 x29 _ e32) rfl rfl ?_
          have h := Option.some.inj h
          subst h
          exact ei_reti hb dL_act_172 rfl
        · have h := e36
          by_cases c33 : x26 = 0
          · rw [if_pos c33] at h
            refine ei_ifF hb dL_act_133 (pc' := 136) (t := 141) (decide_eq_false (fun q => q c33)) (by decide) rfl ?_
            refine ei_b hb dL_act_136 (v := (22 : Int32)) (pc' := 138) (by decide) rfl ?_
            refine ei_go hb dL_act_138 (pc' := 166) (by decide) ?_
            have h := Option.some.inj h
            subst h
            exact key
          · rw [if_neg c33] at h
            refine ei_ifT hb dL_act_133 (pc' := 141) (decide_eq_true c33) (by decide) ?_
            refine ei_il hb dL_act_141 (pc' := 143) rfl rfl ?_
            refine ei_c hb dL_act_143 (v := (1 : Int32)) (pc' := 144) (by decide) rfl ?_
            by_cases c34 : x26 = (1 : Int32)
            · rw [if_pos c34] at h
              refine ei_icF hb dL_act_144 (pc' := 147) (t := 152) (decide_eq_false (fun q => q c34)) (by decide) rfl ?_
              refine ei_b hb dL_act_147 (v := (9 : Int32)) (pc' := 149) (by decide) rfl ?_
              refine ei_go hb dL_act_149 (pc' := 166) (by decide) ?_
              have h := Option.some.inj h
              subst h
              exact key
            · rw [if_neg c34] at h
              refine ei_icT hb dL_act_144 (pc' := 152) (decide_eq_true c34) (by decide) ?_
              refine ei_il hb dL_act_152 (pc' := 154) rfl rfl ?_
              refine ei_c hb dL_act_154 (v := (2 : Int32)) (pc' := 155) (by decide) rfl ?_
              by_cases c35 : x26 = (2 : Int32)
              · rw [if_pos c35] at h
                refine ei_icF hb dL_act_155 (pc' := 158) (t := 163) (decide_eq_false (fun q => q c35)) (by decide) rfl ?_
                refine ei_b hb dL_act_158 (v := (122 : Int32)) (pc' := 160) (by decide) rfl ?_
                refine ei_go hb dL_act_160 (pc' := 166) (by decide) ?_
                have h := Option.some.inj h
                subst h
                exact key
              · rw [if_neg c35] at h
                refine ei_icT hb dL_act_155 (pc' := 163) (decide_eq_true c35) (by decide) ?_
                refine ei_s hb dL_act_163 (v := (200 : Int32)) (pc' := 166) (by decide) rfl ?_
                have h := Option.some.inj h
                subst h
                exact key
      · rw [if_neg c25] at h
        by_cases c37 : (a1 &&& (15 : Int32)) = 3
        · rw [if_pos c37] at h
          refine ei_tbI hb dL_act_35 (pc' := 173) (off := 138) (by rw [c37]; decide) (by rw [c37]; rfl) (by decide) ?_
          refine ei_aln hb dL_act_173 (pc' := 174) rfl rfl ?_
          refine ei_iln hb dL_act_174 (pc' := 175) rfl rfl ?_
          refine ei_b hb dL_act_175 (v := (12 : Int32)) (pc' := 177) (by decide) rfl ?_
          refine ei_shr hb dL_act_177 (pc' := 178) rfl ?_
          refine ei_c hb dL_act_178 (v := (1 : Int32)) (pc' := 179) (by decide) rfl ?_
          refine ei_and hb dL_act_179 (pc' := 180) rfl ?_
          refine ei_iln hb dL_act_180 (pc' := 181) rfl rfl ?_
          refine ei_iln hb dL_act_181 (pc' := 182) rfl rfl ?_
          refine ei_b hb dL_act_182 (v := (11 : Int32)) (pc' := 184) (by decide) rfl ?_
          obtain ⟨x38, e39, h⟩ := Option.bind_eq_some_iff.mp h
          refine ei_cs hb dL_act_184 (pc' := 187) (M1 := (qz_mk S.1 S.2)) (as := [.inl a2, .inl (11 : Int32)]) (rest := [.inl x3, .inl ((a1 >>> ((12 : Int32) &&& 31)) &&& (1 : Int32)), .inr (.inl (some ((5, 0, 0) : qz_N)))]) (st' := [.inl x38, .inl x3, .inl ((a1 >>> ((12 : Int32) &&& 31)) &&& (1 : Int32)), .inr (.inl (some ((5, 0, 0) : qz_N)))]) hcn qz_c_8_26 rfl qz_k_71 (qz_q_73_71) (Nat.le_of_ble_eq_true rfl) (Nat.le_of_ble_eq_true rfl) rfl rfl rfl (vL_low F S.1 S.2 a2 (11 : Int32) _ e39) rfl rfl ?_
          obtain ⟨R40, e41, h⟩ := Option.bind_eq_some_iff.mp h
          refine ei_cv hb dL_act_187 (pc' := 190) (M1 := (qz_mk R40.2.1 R40.2.2)) (as := [.inl ((a1 >>> ((12 : Int32) &&& 31)) &&& (1 : Int32)), .inl x3, .inl x38]) (rest := []) (st' := [.inl R40.1]) hcn qz_c_8_37 qz_k_54 (qz_q_73_54) (Nat.le_of_ble_eq_true rfl) (Nat.le_of_ble_eq_true rfl) rfl rfl rfl rfl (vX_merge F S ((a1 >>> ((12 : Int32) &&& 31)) &&& (1 : Int32)) x3 x38 _ e41) rfl rfl ?_
          have h := Option.some.inj h
          subst h
          exact ei_reti hb dL_act_190 rfl
        · rw [if_neg c37] at h
          by_cases c42 : (a1 &&& (15 : Int32)) = 4
          · rw [if_pos c42] at h
            refine ei_tbI hb dL_act_35 (pc' := 173) (off := 138) (by rw [c42]; decide) (by rw [c42]; rfl) (by decide) ?_
            refine ei_aln hb dL_act_173 (pc' := 174) rfl rfl ?_
            refine ei_iln hb dL_act_174 (pc' := 175) rfl rfl ?_
            refine ei_b hb dL_act_175 (v := (12 : Int32)) (pc' := 177) (by decide) rfl ?_
            refine ei_shr hb dL_act_177 (pc' := 178) rfl ?_
            refine ei_c hb dL_act_178 (v := (1 : Int32)) (pc' := 179) (by decide) rfl ?_
            refine ei_and hb dL_act_179 (pc' := 180) rfl ?_
            refine ei_iln hb dL_act_180 (pc' := 181) rfl rfl ?_
            refine ei_iln hb dL_act_181 (pc' := 182) rfl rfl ?_
            refine ei_b hb dL_act_182 (v := (11 : Int32)) (pc' := 184) (by decide) rfl ?_
            obtain ⟨x43, e44, h⟩ := Option.bind_eq_some_iff.mp h
            refine ei_cs hb dL_act_184 (pc' := 187) (M1 := (qz_mk S.1 S.2)) (as := [.inl a2, .inl (11 : Int32)]) (rest := [.inl x3, .inl ((a1 >>> ((12 : Int32) &&& 31)) &&& (1 : Int32)), .inr (.inl (some ((5, 0, 0) : qz_N)))]) (st' := [.inl x43, .inl x3, .inl ((a1 >>> ((12 : Int32) &&& 31)) &&& (1 : Int32)), .inr (.inl (some ((5, 0, 0) : qz_N)))]) hcn qz_c_8_26 rfl qz_k_71 (qz_q_73_71) (Nat.le_of_ble_eq_true rfl) (Nat.le_of_ble_eq_true rfl) rfl rfl rfl (vL_low F S.1 S.2 a2 (11 : Int32) _ e44) rfl rfl ?_
            obtain ⟨R45, e46, h⟩ := Option.bind_eq_some_iff.mp h
            refine ei_cv hb dL_act_187 (pc' := 190) (M1 := (qz_mk R45.2.1 R45.2.2)) (as := [.inl ((a1 >>> ((12 : Int32) &&& 31)) &&& (1 : Int32)), .inl x3, .inl x43]) (rest := []) (st' := [.inl R45.1]) hcn qz_c_8_37 qz_k_54 (qz_q_73_54) (Nat.le_of_ble_eq_true rfl) (Nat.le_of_ble_eq_true rfl) rfl rfl rfl rfl (vX_merge F S ((a1 >>> ((12 : Int32) &&& 31)) &&& (1 : Int32)) x3 x43 _ e46) rfl rfl ?_
            have h := Option.some.inj h
            subst h
            exact ei_reti hb dL_act_190 rfl
          · rw [if_neg c42] at h
            by_cases c47 : (a1 &&& (15 : Int32)) = 5
            · rw [if_pos c47] at h
              refine ei_tbI hb dL_act_35 (pc' := 191) (off := 156) (by rw [c47]; decide) (by rw [c47]; rfl) (by decide) ?_
              refine ei_aln hb dL_act_191 (pc' := 192) rfl rfl ?_
              refine ei_iln hb dL_act_192 (pc' := 193) rfl rfl ?_
              refine ei_b hb dL_act_193 (v := (12 : Int32)) (pc' := 195) (by decide) rfl ?_
              refine ei_shr hb dL_act_195 (pc' := 196) rfl ?_
              refine ei_c hb dL_act_196 (v := (1 : Int32)) (pc' := 197) (by decide) rfl ?_
              refine ei_and hb dL_act_197 (pc' := 198) rfl ?_
              refine ei_iln hb dL_act_198 (pc' := 199) rfl rfl ?_
              obtain ⟨R48, e49, h⟩ := Option.bind_eq_some_iff.mp h
              refine ei_cv hb dL_act_199 (pc' := 202) (M1 := (qz_mk R48.2.1 R48.2.2)) (as := [.inl ((a1 >>> ((12 : Int32) &&& 31)) &&& (1 : Int32)), .inl x3]) (rest := []) (st' := [.inl R48.1]) hcn qz_c_8_40 qz_k_55 (qz_q_73_55) (Nat.le_of_ble_eq_true rfl) (Nat.le_of_ble_eq_true rfl) rfl rfl rfl rfl (vX_part F S ((a1 >>> ((12 : Int32) &&& 31)) &&& (1 : Int32)) x3 _ e49) rfl rfl ?_
              have h := Option.some.inj h
              subst h
              exact ei_reti hb dL_act_202 rfl
            · rw [if_neg c47] at h
              by_cases c50 : (a1 &&& (15 : Int32)) = 6
              · rw [if_pos c50] at h
                refine ei_tbI hb dL_act_35 (pc' := 203) (off := 168) (by rw [c50]; decide) (by rw [c50]; rfl) (by decide) ?_
                refine ei_aln hb dL_act_203 (pc' := 204) rfl rfl ?_
                obtain ⟨R51, e52, h⟩ := Option.bind_eq_some_iff.mp h
                refine ei_cv hb dL_act_204 (pc' := 207) (M1 := (qz_mk R51.2.1 R51.2.2)) (as := []) (rest := []) (st' := [.inl R51.1]) hcn qz_c_8_43 qz_k_57 (qz_q_73_57) (Nat.le_of_ble_eq_true rfl) (Nat.le_of_ble_eq_true rfl) rfl rfl rfl rfl (vX_passDay F S _ e52) rfl rfl ?_
                have h := Option.some.inj h
                subst h
                exact ei_reti hb dL_act_207 rfl
              · rw [if_neg c50] at h
                by_cases c53 : (a1 &&& (15 : Int32)) = 7
                · rw [if_pos c53] at h
                  refine ei_tbI hb dL_act_35 (pc' := 203) (off := 168) (by rw [c53]; decide) (by rw [c53]; rfl) (by decide) ?_
                  refine ei_aln hb dL_act_203 (pc' := 204) rfl rfl ?_
                  obtain ⟨R54, e55, h⟩ := Option.bind_eq_some_iff.mp h
                  refine ei_cv hb dL_act_204 (pc' := 207) (M1 := (qz_mk R54.2.1 R54.2.2)) (as := []) (rest := []) (st' := [.inl R54.1]) hcn qz_c_8_43 qz_k_57 (qz_q_73_57) (Nat.le_of_ble_eq_true rfl) (Nat.le_of_ble_eq_true rfl) rfl rfl rfl rfl (vX_passDay F S _ e55) rfl rfl ?_
                  have h := Option.some.inj h
                  subst h
                  exact ei_reti hb dL_act_207 rfl
                · rw [if_neg c53] at h
                  by_cases c56 : (a1 &&& (15 : Int32)) = 8
                  · rw [if_pos c56] at h
                    refine ei_tbI hb dL_act_35 (pc' := 208) (off := 173) (by rw [c56]; decide) (by rw [c56]; rfl) (by decide) ?_
                    refine ei_iln hb dL_act_208 (pc' := 209) rfl rfl ?_
                    refine ei_c hb dL_act_209 (v := (1 : Int32)) (pc' := 210) (by decide) rfl ?_
                    refine ei_and hb dL_act_210 (pc' := 211) rfl ?_
                    by_cases c57 : (a2 &&& (1 : Int32)) = 0
                    · rw [if_pos c57] at h
                      refine ei_ifF hb dL_act_211 (pc' := 214) (t := 223) (decide_eq_false (fun q => q c57)) (by decide) rfl ?_
                      refine ei_aln hb dL_act_214 (pc' := 215) rfl rfl ?_
                      refine ei_il hb dL_act_215 (pc' := 217) rfl rfl ?_
                      obtain ⟨R58, e59, h⟩ := Option.bind_eq_some_iff.mp h
                      refine ei_cv hb dL_act_217 (pc' := 220) (M1 := (qz_mk R58.2.1 R58.2.2)) (as := [.inl x7]) (rest := []) (st' := [.inl R58.1]) hcn qz_c_8_47 qz_k_52 (qz_q_73_52) (Nat.le_of_ble_eq_true rfl) (Nat.le_of_ble_eq_true rfl) rfl rfl rfl rfl (vX_takeBack F S x7 _ e59) rfl rfl ?_
                      refine ei_go hb dL_act_220 (pc' := 227) (by decide) ?_
                      have h := Option.some.inj h
                      subst h
                      exact ei_reti hb dL_act_227 rfl
                    · rw [if_neg c57] at h
                      refine ei_ifT hb dL_act_211 (pc' := 223) (decide_eq_true c57) (by decide) ?_
                      refine ei_aln hb dL_act_223 (pc' := 224) rfl rfl ?_
                      obtain ⟨R60, e61, h⟩ := Option.bind_eq_some_iff.mp h
                      refine ei_cv hb dL_act_224 (pc' := 227) (M1 := (qz_mk R60.2.1 R60.2.2)) (as := []) (rest := []) (st' := [.inl R60.1]) hcn qz_c_8_50 qz_k_60 (qz_q_73_60) (Nat.le_of_ble_eq_true rfl) (Nat.le_of_ble_eq_true rfl) rfl rfl rfl rfl (vX_restore F S _ e61) rfl rfl ?_
                      have h := Option.some.inj h
                      subst h
                      exact ei_reti hb dL_act_227 rfl
                  · rw [if_neg c56] at h
                    by_cases c62 : (a1 &&& (15 : Int32)) = 9
                    · rw [if_pos c62] at h
                      refine ei_tbI hb dL_act_35 (pc' := 228) (off := 193) (by rw [c62]; decide) (by rw [c62]; rfl) (by decide) ?_
                      refine ei_aln hb dL_act_228 (pc' := 229) rfl rfl ?_
                      refine ei_il hb dL_act_229 (pc' := 231) rfl rfl ?_
                      refine ei_iln hb dL_act_231 (pc' := 232) rfl rfl ?_
                      refine ei_aln hb dL_act_232 (pc' := 233) rfl rfl ?_
                      refine ei_c hb dL_act_233 (v := (0 : Int32)) (pc' := 234) (by decide) rfl ?_
                      obtain ⟨x63, e64, h⟩ := Option.bind_eq_some_iff.mp h
                      refine ei_cv hb dL_act_234 (pc' := 237) (M1 := (qz_mk S.1 S.2)) (as := [.inl (0 : Int32)]) (rest := [.inl a2, .inl x7, .inr (.inl (some ((5, 0, 0) : qz_N)))]) (st' := [.inl x63, .inl a2, .inl x7, .inr (.inl (some ((5, 0, 0) : qz_N)))]) hcn qz_c_8_12 qz_k_65 (qz_q_73_65) (Nat.le_of_ble_eq_true rfl) (Nat.le_of_ble_eq_true rfl) rfl rfl rfl rfl (vX_count F S.1 S.2 (0 : Int32) _ e64) rfl rfl ?_
                      refine ei_c hb dL_act_237 (v := (1 : Int32)) (pc' := 238) (by decide) rfl ?_
                      refine ei_add hb dL_act_238 (pc' := 239) rfl ?_
                      obtain ⟨x65, e66, h⟩ := Option.bind_eq_some_iff.mp h
                      refine ei_cs hb dL_act_239 (pc' := 242) (M1 := (qz_mk S.1 S.2)) (as := [.inl a2, .inl (x63 + (1 : Int32))]) (rest := [.inl x7, .inr (.inl (some ((5, 0, 0) : qz_N)))]) (st' := [.inl x65, .inl x7, .inr (.inl (some ((5, 0, 0) : qz_N)))]) hcn qz_c_8_26 rfl qz_k_71 (qz_q_73_71) (Nat.le_of_ble_eq_true rfl) (Nat.le_of_ble_eq_true rfl) rfl rfl rfl (vL_low F S.1 S.2 a2 (x63 + (1 : Int32)) _ e66) rfl rfl ?_
                      obtain ⟨R67, e68, h⟩ := Option.bind_eq_some_iff.mp h
                      refine ei_cv hb dL_act_242 (pc' := 245) (M1 := (qz_mk R67.2.1 R67.2.2)) (as := [.inl x7, .inl x65]) (rest := []) (st' := [.inl R67.1]) hcn qz_c_8_53 qz_k_53 (qz_q_73_53) (Nat.le_of_ble_eq_true rfl) (Nat.le_of_ble_eq_true rfl) rfl rfl rfl rfl (vX_stay F S x7 x65 _ e68) rfl rfl ?_
                      have h := Option.some.inj h
                      subst h
                      exact ei_reti hb dL_act_245 rfl
                    · rw [if_neg c62] at h
                      by_cases c69 : (a1 &&& (15 : Int32)) = 10
                      · rw [if_pos c69] at h
                        refine ei_tbI hb dL_act_35 (pc' := 228) (off := 193) (by rw [c69]; decide) (by rw [c69]; rfl) (by decide) ?_
                        refine ei_aln hb dL_act_228 (pc' := 229) rfl rfl ?_
                        refine ei_il hb dL_act_229 (pc' := 231) rfl rfl ?_
                        refine ei_iln hb dL_act_231 (pc' := 232) rfl rfl ?_
                        refine ei_aln hb dL_act_232 (pc' := 233) rfl rfl ?_
                        refine ei_c hb dL_act_233 (v := (0 : Int32)) (pc' := 234) (by decide) rfl ?_
                        obtain ⟨x70, e71, h⟩ := Option.bind_eq_some_iff.mp h
                        refine ei_cv hb dL_act_234 (pc' := 237) (M1 := (qz_mk S.1 S.2)) (as := [.inl (0 : Int32)]) (rest := [.inl a2, .inl x7, .inr (.inl (some ((5, 0, 0) : qz_N)))]) (st' := [.inl x70, .inl a2, .inl x7, .inr (.inl (some ((5, 0, 0) : qz_N)))]) hcn qz_c_8_12 qz_k_65 (qz_q_73_65) (Nat.le_of_ble_eq_true rfl) (Nat.le_of_ble_eq_true rfl) rfl rfl rfl rfl (vX_count F S.1 S.2 (0 : Int32) _ e71) rfl rfl ?_
                        refine ei_c hb dL_act_237 (v := (1 : Int32)) (pc' := 238) (by decide) rfl ?_
                        refine ei_add hb dL_act_238 (pc' := 239) rfl ?_
                        obtain ⟨x72, e73, h⟩ := Option.bind_eq_some_iff.mp h
                        refine ei_cs hb dL_act_239 (pc' := 242) (M1 := (qz_mk S.1 S.2)) (as := [.inl a2, .inl (x70 + (1 : Int32))]) (rest := [.inl x7, .inr (.inl (some ((5, 0, 0) : qz_N)))]) (st' := [.inl x72, .inl x7, .inr (.inl (some ((5, 0, 0) : qz_N)))]) hcn qz_c_8_26 rfl qz_k_71 (qz_q_73_71) (Nat.le_of_ble_eq_true rfl) (Nat.le_of_ble_eq_true rfl) rfl rfl rfl (vL_low F S.1 S.2 a2 (x70 + (1 : Int32)) _ e73) rfl rfl ?_
                        obtain ⟨R74, e75, h⟩ := Option.bind_eq_some_iff.mp h
                        refine ei_cv hb dL_act_242 (pc' := 245) (M1 := (qz_mk R74.2.1 R74.2.2)) (as := [.inl x7, .inl x72]) (rest := []) (st' := [.inl R74.1]) hcn qz_c_8_53 qz_k_53 (qz_q_73_53) (Nat.le_of_ble_eq_true rfl) (Nat.le_of_ble_eq_true rfl) rfl rfl rfl rfl (vX_stay F S x7 x72 _ e75) rfl rfl ?_
                        have h := Option.some.inj h
                        subst h
                        exact ei_reti hb dL_act_245 rfl
                      · rw [if_neg c69] at h
                        have tc9 := lv_neT c9 (show (0 : Int32).toInt = 0 by decide)
                        have tc17 := lv_neT c17 (show (1 : Int32).toInt = 1 by decide)
                        have tc25 := lv_neT c25 (show (2 : Int32).toInt = 2 by decide)
                        have tc37 := lv_neT c37 (show (3 : Int32).toInt = 3 by decide)
                        have tc42 := lv_neT c42 (show (4 : Int32).toInt = 4 by decide)
                        have tc47 := lv_neT c47 (show (5 : Int32).toInt = 5 by decide)
                        have tc50 := lv_neT c50 (show (6 : Int32).toInt = 6 by decide)
                        have tc53 := lv_neT c53 (show (7 : Int32).toInt = 7 by decide)
                        have tc56 := lv_neT c56 (show (8 : Int32).toInt = 8 by decide)
                        have tc62 := lv_neT c62 (show (9 : Int32).toInt = 9 by decide)
                        have tc69 := lv_neT c69 (show (10 : Int32).toInt = 10 by decide)
                        refine ei_tbO hb dL_act_35 (pc' := 246) (by omega) (by decide) ?_
                        refine ei_aln hb dL_act_246 (pc' := 247) rfl rfl ?_
                        refine ei_iln hb dL_act_247 (pc' := 248) rfl rfl ?_
                        refine ei_iln hb dL_act_248 (pc' := 249) rfl rfl ?_
                        refine ei_iln hb dL_act_249 (pc' := 250) rfl rfl ?_
                        refine ei_b hb dL_act_250 (v := (20 : Int32)) (pc' := 252) (by decide) rfl ?_
                        refine ei_shr hb dL_act_252 (pc' := 253) rfl ?_
                        refine ei_b hb dL_act_253 (v := (7 : Int32)) (pc' := 255) (by decide) rfl ?_
                        refine ei_and hb dL_act_255 (pc' := 256) rfl ?_
                        obtain ⟨j76, e90, h⟩ := Option.bind_eq_some_iff.mp h
                        refine qz_jn (Q := qz_E 73 264 [some (.inr (.inl (some ((5, 0, 0) : qz_N)))), some (.inl a1), some (.inl a2), some (.inl x3), some (.inl x7), none] [.inl j76, .inl a2, .inl x3, .inr (.inl (some ((5, 0, 0) : qz_N)))] (qz_mk S.1 S.2) (some (.inl r.1)) (qz_mk r.2.1 r.2.2)) ?_ (fun key => ?_)
                        · obtain ⟨x77, e78, h⟩ := Option.bind_eq_some_iff.mp h
                          refine ei_cs hb dL_act_264 (pc' := 267) (M1 := (qz_mk S.1 S.2)) (as := [.inl a2, .inl j76]) (rest := [.inl x3, .inr (.inl (some ((5, 0, 0) : qz_N)))]) (st' := [.inl x77, .inl x3, .inr (.inl (some ((5, 0, 0) : qz_N)))]) hcn qz_c_8_26 rfl qz_k_71 (qz_q_73_71) (Nat.le_of_ble_eq_true rfl) (Nat.le_of_ble_eq_true rfl) rfl rfl rfl (vL_low F S.1 S.2 a2 j76 _ e78) rfl rfl ?_
                          refine ei_iln hb dL_act_267 (pc' := 268) rfl rfl ?_
                          refine ei_c hb dL_act_268 (v := (2 : Int32)) (pc' := 269) (by decide) rfl ?_
                          refine ei_shr hb dL_act_269 (pc' := 270) rfl ?_
                          refine ei_iln hb dL_act_270 (pc' := 271) rfl rfl ?_
                          refine ei_b hb dL_act_271 (v := (20 : Int32)) (pc' := 273) (by decide) rfl ?_
                          refine ei_shr hb dL_act_273 (pc' := 274) rfl ?_
                          refine ei_b hb dL_act_274 (v := (7 : Int32)) (pc' := 276) (by decide) rfl ?_
                          refine ei_and hb dL_act_276 (pc' := 277) rfl ?_
                          refine ei_c hb dL_act_277 (v := (1 : Int32)) (pc' := 278) (by decide) rfl ?_
                          obtain ⟨j79, e88, h⟩ := Option.bind_eq_some_iff.mp h
                          refine qz_jn (Q := qz_E 73 288 [some (.inr (.inl (some ((5, 0, 0) : qz_N)))), some (.inl a1), some (.inl a2), some (.inl x3), some (.inl x7), none] [.inl j79, .inl (a2 >>> ((2 : Int32) &&& 31)), .inl x77, .inl x3, .inr (.inl (some ((5, 0, 0) : qz_N)))] (qz_mk S.1 S.2) (some (.inl r.1)) (qz_mk r.2.1 r.2.2)) ?_ (fun key => ?_)
                          · obtain ⟨x80, e81, h⟩ := Option.bind_eq_some_iff.mp h
                            refine ei_cs hb dL_act_288 (pc' := 291) (M1 := (qz_mk S.1 S.2)) (as := [.inl (a2 >>> ((2 : Int32) &&& 31)), .inl j79]) (rest := [.inl x77, .inl x3, .inr (.inl (some ((5, 0, 0) : qz_N)))]) (st' := [.inl x80, .inl x77, .inl x3, .inr (.inl (some ((5, 0, 0) : qz_N)))]) hcn qz_c_8_26 rfl qz_k_71 (qz_q_73_71) (Nat.le_of_ble_eq_true rfl) (Nat.le_of_ble_eq_true rfl) rfl rfl rfl (vL_low F S.1 S.2 (a2 >>> ((2 : Int32) &&& 31)) j79 _ e81) rfl rfl ?_
                            refine ei_iln hb dL_act_291 (pc' := 292) rfl rfl ?_
                            refine ei_b hb dL_act_292 (v := (20 : Int32)) (pc' := 294) (by decide) rfl ?_
                            refine ei_shr hb dL_act_294 (pc' := 295) rfl ?_
                            refine ei_b hb dL_act_295 (v := (7 : Int32)) (pc' := 297) (by decide) rfl ?_
                            refine ei_and hb dL_act_297 (pc' := 298) rfl ?_
                            refine ei_c hb dL_act_298 (v := (1 : Int32)) (pc' := 299) (by decide) rfl ?_
                            obtain ⟨j82, e86, h⟩ := Option.bind_eq_some_iff.mp h
                            refine qz_jn (Q := qz_E 73 307 [some (.inr (.inl (some ((5, 0, 0) : qz_N)))), some (.inl a1), some (.inl a2), some (.inl x3), some (.inl x7), none] [.inl j82, .inl x80, .inl x77, .inl x3, .inr (.inl (some ((5, 0, 0) : qz_N)))] (qz_mk S.1 S.2) (some (.inl r.1)) (qz_mk r.2.1 r.2.2)) ?_ (fun key => ?_)
                            · refine ei_add hb dL_act_307 (pc' := 308) rfl ?_
                              obtain ⟨R83, e84, h⟩ := Option.bind_eq_some_iff.mp h
                              refine ei_cv hb dL_act_308 (pc' := 311) (M1 := (qz_mk R83.2.1 R83.2.2)) (as := [.inl x3, .inl x77, .inl (x80 + j82)]) (rest := []) (st' := [.inl R83.1]) hcn qz_c_8_56 qz_k_51 (qz_q_73_51) (Nat.le_of_ble_eq_true rfl) (Nat.le_of_ble_eq_true rfl) rfl rfl rfl rfl (vX_book F S x3 x77 (x80 + j82) _ e84) rfl rfl ?_
                              have h := Option.some.inj h
                              subst h
                              exact ei_reti hb dL_act_311 rfl
                            · have h := e86
                              by_cases c85 : ((a2 >>> ((20 : Int32) &&& 31)) &&& (7 : Int32)) = (1 : Int32)
                              · rw [if_pos c85] at h
                                refine ei_icF hb dL_act_299 (pc' := 302) (t := 306) (decide_eq_false (fun q => q c85)) (by decide) rfl ?_
                                refine ei_c hb dL_act_302 (v := (0 : Int32)) (pc' := 303) (by decide) rfl ?_
                                refine ei_go hb dL_act_303 (pc' := 307) (by decide) ?_
                                have h := Option.some.inj h
                                subst h
                                exact key
                              · rw [if_neg c85] at h
                                refine ei_icT hb dL_act_299 (pc' := 306) (decide_eq_true c85) (by decide) ?_
                                refine ei_c hb dL_act_306 (v := (1 : Int32)) (pc' := 307) (by decide) rfl ?_
                                have h := Option.some.inj h
                                subst h
                                exact key
                          · have h := e88
                            by_cases c87 : ((a2 >>> ((20 : Int32) &&& 31)) &&& (7 : Int32)) = (1 : Int32)
                            · rw [if_pos c87] at h
                              refine ei_icF hb dL_act_278 (pc' := 281) (t := 286) (decide_eq_false (fun q => q c87)) (by decide) rfl ?_
                              refine ei_b hb dL_act_281 (v := (11 : Int32)) (pc' := 283) (by decide) rfl ?_
                              refine ei_go hb dL_act_283 (pc' := 288) (by decide) ?_
                              have h := Option.some.inj h
                              subst h
                              exact key
                            · rw [if_neg c87] at h
                              refine ei_icT hb dL_act_278 (pc' := 286) (decide_eq_true c87) (by decide) ?_
                              refine ei_b hb dL_act_286 (v := (9 : Int32)) (pc' := 288) (by decide) rfl ?_
                              have h := Option.some.inj h
                              subst h
                              exact key
                        · have h := e90
                          by_cases c89 : ((a2 >>> ((20 : Int32) &&& 31)) &&& (7 : Int32)) = 0
                          · rw [if_pos c89] at h
                            refine ei_ifF hb dL_act_256 (pc' := 259) (t := 263) (decide_eq_false (fun q => q c89)) (by decide) rfl ?_
                            refine ei_c hb dL_act_259 (v := (3 : Int32)) (pc' := 260) (by decide) rfl ?_
                            refine ei_go hb dL_act_260 (pc' := 264) (by decide) ?_
                            have h := Option.some.inj h
                            subst h
                            exact key
                          · rw [if_neg c89] at h
                            refine ei_ifT hb dL_act_256 (pc' := 263) (decide_eq_true c89) (by decide) ?_
                            refine ei_c hb dL_act_263 (v := (2 : Int32)) (pc' := 264) (by decide) rfl ?_
                            have h := Option.some.inj h
                            subst h
                            exact key
def gL_holds_L6 (F : Nat) (f : qz_F)  (K : (Int32 → Int32 → Int32 → Option (Int32))) : Nat → Int32 → Int32 → Int32 → Option (Int32)
  | 0, _, _, _ => none
  | n + 1, y1, y2, y3 => Option.bind (gX_count F f (15 : Int32)) fun x1 => if x1 ≤ y3 then (K y1 y2 y3) else (Option.bind (gX_worker F f y3 (3 : Int32)) fun x4 => Option.bind (if 0 ≤ x4 then (some (1 : Int32)) else (some (0 : Int32))) fun j6 => Option.bind (if x4 ≤ 0 then (some (0 : Int32)) else (some (1 : Int32))) fun j7 => (gL_holds_L6 F f K) n (y1 + j7) (y2 + j6) (y3 + 1))
def gL_holds_L278 (F : Nat) (f : qz_F) (y112 : Int32) (y213 : Int32) (y3 : Int32) (y4 : Int32) (y5 : Int32) (y6 : Int32) (y7 : Int32) (y8 : Int32) (y10 : Int32) (y11 : Int32) (K : (Int32 → Int32 → Option (Int32))) : Nat → Int32 → Int32 → Option (Int32)
  | 0, _, _ => none
  | n + 1, y13, y14 => if (10 : Int32) ≤ y14 then (K y13 y14) else (Option.bind (gX_taken F f y7 y8 y14) fun x44 => if y13 < x44 then (some (0 : Int32)) else (Option.bind (if x44 ≤ 0 then (some (0 : Int32)) else (some (1 : Int32))) fun j47 => Option.bind (if y11 < y14 then (some (0 : Int32)) else (some (1 : Int32))) fun j48 => if j47 = j48 then ((gL_holds_L278 F f y112 y213 y3 y4 y5 y6 y7 y8 y10 y11 K) n x44 (y14 + 1)) else (some (0 : Int32))))
def gL_holds_P373 (F : Nat) (f : qz_F) (y112 : Int32) (y213 : Int32) (R : Int32 → Int32 → Int32 → Int32 → Option (Int32)) (y3 : Int32) (y4 : Int32) (y5 : Int32) (y6 : Int32) (y7 : Int32) (y8 : Int32) : Option (Int32) :=
  Option.bind (gX_count F f (0 : Int32)) fun x60 => Option.bind (gX_why F f y7 x60 (5 : Int32)) fun x62 => if x62 = (1 : Int32) then (Option.bind (gX_why F f y7 y8 (5 : Int32)) fun x65 => if x65 = (1 : Int32) then (some (0 : Int32)) else (R y3 y4 y5 (y6 + 1))) else (some (0 : Int32))
def gL_holds_P264 (F : Nat) (f : qz_F) (y112 : Int32) (y213 : Int32) (R : Int32 → Int32 → Int32 → Int32 → Option (Int32)) (y3 : Int32) (y4 : Int32) (y5 : Int32) (y6 : Int32) (y7 : Int32) (y8 : Int32) (y10 : Int32) (y11 : Int32) : Option (Int32) :=
  Option.bind (gX_bus F f y7 y8 (2 : Int32)) fun x41 => gL_holds_L278 F f y112 y213 y3 y4 y5 y6 y7 y8 y10 y11 (fun y1354 y1455 => if y10 = 0 then (gL_holds_P373 F f y112 y213 R y3 y4 y5 y6 y7 y8) else (if y10 < (22 : Int32) then (some (0 : Int32)) else (if ((20 : Int32) + ((2 : Int32) * y11)) < y10 then (some (0 : Int32)) else (if (y10 - y10 / (2 : Int32) * (2 : Int32)) = (1 : Int32) then (some (0 : Int32)) else (gL_holds_P373 F f y112 y213 R y3 y4 y5 y6 y7 y8))))) F x41 (1 : Int32)
def gL_holds_L67 (F : Nat) (f : qz_F) (y112 : Int32) (y213 : Int32) (K : (Int32 → Int32 → Int32 → Int32 → Option (Int32))) : Nat → Int32 → Int32 → Int32 → Int32 → Option (Int32)
  | 0, _, _, _, _ => none
  | n + 1, y3, y4, y5, y6 => Option.bind (gX_count F f (0 : Int32)) fun x27 => if ((2 : Int32) * x27) ≤ y6 then (K y3 y4 y5 y6) else (Option.bind (gX_bus F f (y6 - y6 / (2 : Int32) * (2 : Int32)) (y6 / (2 : Int32)) (1 : Int32)) fun x30 => Option.bind (gX_bus F f (y6 - y6 / (2 : Int32) * (2 : Int32)) (y6 / (2 : Int32)) (5 : Int32)) fun x32 => Option.bind (gX_bus F f (y6 - y6 / (2 : Int32) * (2 : Int32)) (y6 / (2 : Int32)) (4 : Int32)) fun x34 => Option.bind (if x30 = (-5 : Int32) then (some (1 : Int32)) else (if x30 ≤ (y6 / (2 : Int32)) then (some (0 : Int32)) else (some (1 : Int32)))) fun j36 => Option.bind (if j36 = 0 then (some (0 : Int32)) else (Option.bind (gX_bus F f (y6 - y6 / (2 : Int32) * (2 : Int32)) (y6 / (2 : Int32)) (2 : Int32)) fun x89 => some x89)) fun j37 => Option.bind (if j36 = 0 then (some (0 : Int32)) else (Option.bind (gX_bus F f (y6 - y6 / (2 : Int32) * (2 : Int32)) (y6 / (2 : Int32)) (3 : Int32)) fun x85 => some x85)) fun j38 => Option.bind (if x30 = (-5 : Int32) then (some (0 : Int32)) else (some (1 : Int32))) fun j39 => if x30 = (-5 : Int32) then (gL_holds_P264 F f y112 y213 ((gL_holds_L67 F f y112 y213 K) n) (y3 + j37) (y4 + j38) (y5 + j39) y6 (y6 - y6 / (2 : Int32) * (2 : Int32)) (y6 / (2 : Int32)) x32 x34) else (Option.bind (gX_bus F f (y6 - y6 / (2 : Int32) * (2 : Int32)) x30 (1 : Int32)) fun x71 => if x71 = (y6 / (2 : Int32)) then (Option.bind (gX_bus F f (y6 - y6 / (2 : Int32) * (2 : Int32)) x30 (0 : Int32)) fun x74 => Option.bind (gX_bus F f (y6 - y6 / (2 : Int32) * (2 : Int32)) (y6 / (2 : Int32)) (0 : Int32)) fun x76 => if x74 = x76 then (Option.bind (gX_bus F f (y6 - y6 / (2 : Int32) * (2 : Int32)) x30 (5 : Int32)) fun x79 => if x79 = x32 then (gL_holds_P264 F f y112 y213 ((gL_holds_L67 F f y112 y213 K) n) (y3 + j37) (y4 + j38) (y5 + j39) y6 (y6 - y6 / (2 : Int32) * (2 : Int32)) (y6 / (2 : Int32)) x32 x34) else (some (0 : Int32))) else (some (0 : Int32))) else (some (0 : Int32))))
def gL_holds (F : Nat) (f : qz_F)  : Option (Int32) :=
  gL_holds_L6 F f (fun y112 y213 y314 => gL_holds_L67 F f y112 y213 (fun y395 y496 y597 y698 => Option.bind (gX_count F f (1 : Int32)) fun x108 => if y213 = x108 then (Option.bind (gX_count F f (2 : Int32)) fun x111 => if y112 = x111 then (Option.bind (gX_count F f (3 : Int32)) fun x114 => if (y213 - y112) = x114 then (if y395 = y112 then (Option.bind (gX_count F f (3 : Int32)) fun x118 => if y496 = x118 then (Option.bind (gX_count F f (4 : Int32)) fun x121 => if y597 = ((2 : Int32) * x121) then (Option.bind (gX_count F f (1 : Int32)) fun x124 => if (30 : Int32) < x124 then (some (0 : Int32)) else (some (1 : Int32))) else (some (0 : Int32))) else (some (0 : Int32))) else (some (0 : Int32))) else (some (0 : Int32))) else (some (0 : Int32))) else (some (0 : Int32))) F (0 : Int32) (0 : Int32) (0 : Int32) (0 : Int32)) F (0 : Int32) (0 : Int32) (0 : Int32)
set_option maxHeartbeats 4000000 in
theorem vL_holds_L6 (F : Nat) (f : qz_F) (p : Nat → Nat)  (K : (Int32 → Int32 → Int32 → Option (Int32))) (hK : ∀ (y1 : Int32) (y2 : Int32) (y3 : Int32) (r : Int32), K y1 y2 y3 = some r → ∀ (d4 : Option qz_V) (d5 : Option qz_V) (d6 : Option qz_V) (d7 : Option qz_V) (d8 : Option qz_V) (d9 : Option qz_V) (d10 : Option qz_V) (d11 : Option qz_V) (d12 : Option qz_V) (d13 : Option qz_V) (d14 : Option qz_V) (d15 : Option qz_V), qz_E 74 56 [some (.inr (.inl (some ((5, 0, 0) : qz_N)))), some (.inl y1), some (.inl y2), some (.inl y3), d4, d5, d6, d7, d8, d9, d10, d11, d12, d13, d14, d15] [] (qz_mk f p) (some (.inl r)) (qz_mk f p)) : ∀ (n : Nat) (y1 : Int32) (y2 : Int32) (y3 : Int32) (r : Int32), gL_holds_L6 F f K n y1 y2 y3 = some r → ∀ (d4 : Option qz_V) (d5 : Option qz_V) (d6 : Option qz_V) (d7 : Option qz_V) (d8 : Option qz_V) (d9 : Option qz_V) (d10 : Option qz_V) (d11 : Option qz_V) (d12 : Option qz_V) (d13 : Option qz_V) (d14 : Option qz_V) (d15 : Option qz_V), qz_E 74 6 [some (.inr (.inl (some ((5, 0, 0) : qz_N)))), some (.inl y1), some (.inl y2), some (.inl y3), d4, d5, d6, d7, d8, d9, d10, d11, d12, d13, d14, d15] [] (qz_mk f p) (some (.inl r)) (qz_mk f p) := by
  have hb : qz_b 74 = cL_holds := rfl
  have hcn : qz_cn 74 = 8 := rfl
  have hml : qz_ml 74 = 16 := rfl
  intro n
  induction n with
  | zero =>
    intro y1 y2 y3 r h
    cases h
  | succ n ih =>
    intro y1 y2 y3 r h d4 d5 d6 d7 d8 d9 d10 d11 d12 d13 d14 d15
    rw [gL_holds_L6] at h
    refine ei_iln hb dL_holds_6 (pc' := 7) rfl rfl ?_
    refine ei_aln hb dL_holds_7 (pc' := 8) rfl rfl ?_
    refine ei_b hb dL_holds_8 (v := (15 : Int32)) (pc' := 10) (by decide) rfl ?_
    obtain ⟨x1, e2, h⟩ := Option.bind_eq_some_iff.mp h
    refine ei_cv hb dL_holds_10 (pc' := 13) (M1 := (qz_mk f p)) (as := [.inl (15 : Int32)]) (rest := [.inl y3]) (st' := [.inl x1, .inl y3]) hcn qz_c_8_12 qz_k_65 (qz_q_74_65) (Nat.le_of_ble_eq_true rfl) (Nat.le_of_ble_eq_true rfl) rfl rfl rfl rfl (vX_count F f p (15 : Int32) _ e2) rfl rfl ?_
    by_cases c3 : x1 ≤ y3
    · rw [if_pos c3] at h
      refine ei_icT hb dL_holds_13 (pc' := 56) (decide_eq_true c3) (by decide) ?_
      exact hK y1 y2 y3 _ h _ _ _ _ _ _ _ _ _ _ _ _
    · rw [if_neg c3] at h
      refine ei_icF hb dL_holds_13 (pc' := 16) (t := 56) (decide_eq_false c3) (by decide) rfl ?_
      refine ei_aln hb dL_holds_16 (pc' := 17) rfl rfl ?_
      refine ei_iln hb dL_holds_17 (pc' := 18) rfl rfl ?_
      refine ei_c hb dL_holds_18 (v := (3 : Int32)) (pc' := 19) (by decide) rfl ?_
      obtain ⟨x4, e5, h⟩ := Option.bind_eq_some_iff.mp h
      refine ei_cv hb dL_holds_19 (pc' := 22) (M1 := (qz_mk f p)) (as := [.inl y3, .inl (3 : Int32)]) (rest := []) (st' := [.inl x4]) hcn qz_c_8_18 qz_k_61 (qz_q_74_61) (Nat.le_of_ble_eq_true rfl) (Nat.le_of_ble_eq_true rfl) rfl rfl rfl rfl (vX_worker F f p y3 (3 : Int32) _ e5) rfl rfl ?_
      refine ei_is hb dL_holds_22 (pc' := 24) (ls' := [some (.inr (.inl (some ((5, 0, 0) : qz_N)))), some (.inl y1), some (.inl y2), some (.inl y3), some (.inl x4), d5, d6, d7, d8, d9, d10, d11, d12, d13, d14, d15]) hml (Nat.le_of_ble_eq_true rfl) rfl rfl rfl ?_
      refine ei_iln hb dL_holds_24 (pc' := 25) rfl rfl ?_
      refine ei_il hb dL_holds_25 (pc' := 27) rfl rfl ?_
      obtain ⟨j6, e11, h⟩ := Option.bind_eq_some_iff.mp h
      refine qz_jn (Q := qz_E 74 35 [some (.inr (.inl (some ((5, 0, 0) : qz_N)))), some (.inl y1), some (.inl y2), some (.inl y3), some (.inl x4), d5, d6, d7, d8, d9, d10, d11, d12, d13, d14, d15] [.inl j6, .inl y2] (qz_mk f p) (some (.inl r)) (qz_mk f p)) ?_ (fun key => ?_)
      · refine ei_add hb dL_holds_35 (pc' := 36) rfl ?_
        refine ei_isn hb dL_holds_36 (pc' := 37) (ls' := [some (.inr (.inl (some ((5, 0, 0) : qz_N)))), some (.inl y1), some (.inl (y2 + j6)), some (.inl y3), some (.inl x4), d5, d6, d7, d8, d9, d10, d11, d12, d13, d14, d15]) hml (Nat.le_of_ble_eq_true rfl) rfl rfl rfl ?_
        refine ei_iln hb dL_holds_37 (pc' := 38) rfl rfl ?_
        refine ei_il hb dL_holds_38 (pc' := 40) rfl rfl ?_
        obtain ⟨j7, e9, h⟩ := Option.bind_eq_some_iff.mp h
        refine qz_jn (Q := qz_E 74 48 [some (.inr (.inl (some ((5, 0, 0) : qz_N)))), some (.inl y1), some (.inl (y2 + j6)), some (.inl y3), some (.inl x4), d5, d6, d7, d8, d9, d10, d11, d12, d13, d14, d15] [.inl j7, .inl y1] (qz_mk f p) (some (.inl r)) (qz_mk f p)) ?_ (fun key => ?_)
        · refine ei_add hb dL_holds_48 (pc' := 49) rfl ?_
          refine ei_isn hb dL_holds_49 (pc' := 50) (ls' := [some (.inr (.inl (some ((5, 0, 0) : qz_N)))), some (.inl (y1 + j7)), some (.inl (y2 + j6)), some (.inl y3), some (.inl x4), d5, d6, d7, d8, d9, d10, d11, d12, d13, d14, d15]) hml (Nat.le_of_ble_eq_true rfl) rfl rfl rfl ?_
          refine ei_inc hb dL_holds_50 (v := (y3 + 1)) (pc' := 53) (ls' := [some (.inr (.inl (some ((5, 0, 0) : qz_N)))), some (.inl (y1 + j7)), some (.inl (y2 + j6)), some (.inl (y3 + 1)), some (.inl x4), d5, d6, d7, d8, d9, d10, d11, d12, d13, d14, d15]) rfl hml (Nat.le_of_ble_eq_true rfl) rfl rfl rfl rfl ?_
          refine ei_go hb dL_holds_53 (pc' := 6) (by decide) ?_
          exact ih (y1 + j7) (y2 + j6) (y3 + 1) _ h _ _ _ _ _ _ _ _ _ _ _ _
        · have h := e9
          by_cases c8 : x4 ≤ 0
          · rw [if_pos c8] at h
            refine ei_ifT hb dL_holds_40 (pc' := 47) (decide_eq_true c8) (by decide) ?_
            refine ei_c hb dL_holds_47 (v := (0 : Int32)) (pc' := 48) (by decide) rfl ?_
            have h := Option.some.inj h
            subst h
            exact key
          · rw [if_neg c8] at h
            refine ei_ifF hb dL_holds_40 (pc' := 43) (t := 47) (decide_eq_false c8) (by decide) rfl ?_
            refine ei_c hb dL_holds_43 (v := (1 : Int32)) (pc' := 44) (by decide) rfl ?_
            refine ei_go hb dL_holds_44 (pc' := 48) (by decide) ?_
            have h := Option.some.inj h
            subst h
            exact key
      · have h := e11
        by_cases c10 : 0 ≤ x4
        · rw [if_pos c10] at h
          refine ei_ifT hb dL_holds_27 (pc' := 34) (decide_eq_true c10) (by decide) ?_
          refine ei_c hb dL_holds_34 (v := (1 : Int32)) (pc' := 35) (by decide) rfl ?_
          have h := Option.some.inj h
          subst h
          exact key
        · rw [if_neg c10] at h
          refine ei_ifF hb dL_holds_27 (pc' := 30) (t := 34) (decide_eq_false c10) (by decide) rfl ?_
          refine ei_c hb dL_holds_30 (v := (0 : Int32)) (pc' := 31) (by decide) rfl ?_
          refine ei_go hb dL_holds_31 (pc' := 35) (by decide) ?_
          have h := Option.some.inj h
          subst h
          exact key
set_option maxHeartbeats 4000000 in
theorem vL_holds_L278 (F : Nat) (f : qz_F) (p : Nat → Nat) (y112 : Int32) (y213 : Int32) (y3 : Int32) (y4 : Int32) (y5 : Int32) (y6 : Int32) (y7 : Int32) (y8 : Int32) (y10 : Int32) (y11 : Int32) (K : (Int32 → Int32 → Option (Int32))) (hK : ∀ (y13 : Int32) (y14 : Int32) (r : Int32), K y13 y14 = some r → ∀ (d9 : Option qz_V) (d12 : Option qz_V) (d15 : Option qz_V), qz_E 74 341 [some (.inr (.inl (some ((5, 0, 0) : qz_N)))), some (.inl y112), some (.inl y213), some (.inl y3), some (.inl y4), some (.inl y5), some (.inl y6), some (.inl y7), some (.inl y8), d9, some (.inl y10), some (.inl y11), d12, some (.inl y13), some (.inl y14), d15] [] (qz_mk f p) (some (.inl r)) (qz_mk f p)) : ∀ (n : Nat) (y13 : Int32) (y14 : Int32) (r : Int32), gL_holds_L278 F f y112 y213 y3 y4 y5 y6 y7 y8 y10 y11 K n y13 y14 = some r → ∀ (d9 : Option qz_V) (d12 : Option qz_V) (d15 : Option qz_V), qz_E 74 278 [some (.inr (.inl (some ((5, 0, 0) : qz_N)))), some (.inl y112), some (.inl y213), some (.inl y3), some (.inl y4), some (.inl y5), some (.inl y6), some (.inl y7), some (.inl y8), d9, some (.inl y10), some (.inl y11), d12, some (.inl y13), some (.inl y14), d15] [] (qz_mk f p) (some (.inl r)) (qz_mk f p) := by
  have hb : qz_b 74 = cL_holds := rfl
  have hcn : qz_cn 74 = 8 := rfl
  have hml : qz_ml 74 = 16 := rfl
  intro n
  induction n with
  | zero =>
    intro y13 y14 r h
    cases h
  | succ n ih =>
    intro y13 y14 r h d9 d12 d15
    rw [gL_holds_L278] at h
    refine ei_il hb dL_holds_278 (pc' := 280) rfl rfl ?_
    refine ei_b hb dL_holds_280 (v := (10 : Int32)) (pc' := 282) (by decide) rfl ?_
    by_cases c43 : (10 : Int32) ≤ y14
    · rw [if_pos c43] at h
      refine ei_icT hb dL_holds_282 (pc' := 341) (decide_eq_true c43) (by decide) ?_
      exact hK y13 y14 _ h _ _ _
    · rw [if_neg c43] at h
      refine ei_icF hb dL_holds_282 (pc' := 285) (t := 341) (decide_eq_false c43) (by decide) rfl ?_
      refine ei_aln hb dL_holds_285 (pc' := 286) rfl rfl ?_
      refine ei_il hb dL_holds_286 (pc' := 288) rfl rfl ?_
      refine ei_il hb dL_holds_288 (pc' := 290) rfl rfl ?_
      refine ei_il hb dL_holds_290 (pc' := 292) rfl rfl ?_
      obtain ⟨x44, e45, h⟩ := Option.bind_eq_some_iff.mp h
      refine ei_cv hb dL_holds_292 (pc' := 295) (M1 := (qz_mk f p)) (as := [.inl y7, .inl y8, .inl y14]) (rest := []) (st' := [.inl x44]) hcn qz_c_8_59 qz_k_63 (qz_q_74_63) (Nat.le_of_ble_eq_true rfl) (Nat.le_of_ble_eq_true rfl) rfl rfl rfl rfl (vX_taken F f p y7 y8 y14 _ e45) rfl rfl ?_
      refine ei_is hb dL_holds_295 (pc' := 297) (ls' := [some (.inr (.inl (some ((5, 0, 0) : qz_N)))), some (.inl y112), some (.inl y213), some (.inl y3), some (.inl y4), some (.inl y5), some (.inl y6), some (.inl y7), some (.inl y8), d9, some (.inl y10), some (.inl y11), d12, some (.inl y13), some (.inl y14), some (.inl x44)]) hml (Nat.le_of_ble_eq_true rfl) rfl rfl rfl ?_
      refine ei_il hb dL_holds_297 (pc' := 299) rfl rfl ?_
      refine ei_il hb dL_holds_299 (pc' := 301) rfl rfl ?_
      by_cases c46 : y13 < x44
      · rw [if_pos c46] at h
        refine ei_icT hb dL_holds_301 (pc' := 329) (decide_eq_true c46) (by decide) ?_
        refine ei_c hb dL_holds_329 (v := (0 : Int32)) (pc' := 330) (by decide) rfl ?_
        have h := Option.some.inj h
        subst h
        exact ei_retz hb dL_holds_330 rfl (by decide)
      · rw [if_neg c46] at h
        refine ei_icF hb dL_holds_301 (pc' := 304) (t := 329) (decide_eq_false c46) (by decide) rfl ?_
        refine ei_il hb dL_holds_304 (pc' := 306) rfl rfl ?_
        obtain ⟨j47, e53, h⟩ := Option.bind_eq_some_iff.mp h
        refine qz_jn (Q := qz_E 74 314 [some (.inr (.inl (some ((5, 0, 0) : qz_N)))), some (.inl y112), some (.inl y213), some (.inl y3), some (.inl y4), some (.inl y5), some (.inl y6), some (.inl y7), some (.inl y8), d9, some (.inl y10), some (.inl y11), d12, some (.inl y13), some (.inl y14), some (.inl x44)] [.inl j47] (qz_mk f p) (some (.inl r)) (qz_mk f p)) ?_ (fun key => ?_)
        · refine ei_il hb dL_holds_314 (pc' := 316) rfl rfl ?_
          refine ei_il hb dL_holds_316 (pc' := 318) rfl rfl ?_
          obtain ⟨j48, e51, h⟩ := Option.bind_eq_some_iff.mp h
          refine qz_jn (Q := qz_E 74 326 [some (.inr (.inl (some ((5, 0, 0) : qz_N)))), some (.inl y112), some (.inl y213), some (.inl y3), some (.inl y4), some (.inl y5), some (.inl y6), some (.inl y7), some (.inl y8), d9, some (.inl y10), some (.inl y11), d12, some (.inl y13), some (.inl y14), some (.inl x44)] [.inl j48, .inl j47] (qz_mk f p) (some (.inl r)) (qz_mk f p)) ?_ (fun key => ?_)
          · by_cases c49 : j47 = j48
            · rw [if_pos c49] at h
              refine ei_icT hb dL_holds_326 (pc' := 331) (decide_eq_true c49) (by decide) ?_
              refine ei_il hb dL_holds_331 (pc' := 333) rfl rfl ?_
              refine ei_is hb dL_holds_333 (pc' := 335) (ls' := [some (.inr (.inl (some ((5, 0, 0) : qz_N)))), some (.inl y112), some (.inl y213), some (.inl y3), some (.inl y4), some (.inl y5), some (.inl y6), some (.inl y7), some (.inl y8), d9, some (.inl y10), some (.inl y11), d12, some (.inl x44), some (.inl y14), some (.inl x44)]) hml (Nat.le_of_ble_eq_true rfl) rfl rfl rfl ?_
              refine ei_inc hb dL_holds_335 (v := (y14 + 1)) (pc' := 338) (ls' := [some (.inr (.inl (some ((5, 0, 0) : qz_N)))), some (.inl y112), some (.inl y213), some (.inl y3), some (.inl y4), some (.inl y5), some (.inl y6), some (.inl y7), some (.inl y8), d9, some (.inl y10), some (.inl y11), d12, some (.inl x44), some (.inl (y14 + 1)), some (.inl x44)]) rfl hml (Nat.le_of_ble_eq_true rfl) rfl rfl rfl rfl ?_
              refine ei_go hb dL_holds_338 (pc' := 278) (by decide) ?_
              exact ih x44 (y14 + 1) _ h _ _ _
            · rw [if_neg c49] at h
              refine ei_icF hb dL_holds_326 (pc' := 329) (t := 331) (decide_eq_false c49) (by decide) rfl ?_
              refine ei_c hb dL_holds_329 (v := (0 : Int32)) (pc' := 330) (by decide) rfl ?_
              have h := Option.some.inj h
              subst h
              exact ei_retz hb dL_holds_330 rfl (by decide)
          · have h := e51
            by_cases c50 : y11 < y14
            · rw [if_pos c50] at h
              refine ei_icT hb dL_holds_318 (pc' := 325) (decide_eq_true c50) (by decide) ?_
              refine ei_c hb dL_holds_325 (v := (0 : Int32)) (pc' := 326) (by decide) rfl ?_
              have h := Option.some.inj h
              subst h
              exact key
            · rw [if_neg c50] at h
              refine ei_icF hb dL_holds_318 (pc' := 321) (t := 325) (decide_eq_false c50) (by decide) rfl ?_
              refine ei_c hb dL_holds_321 (v := (1 : Int32)) (pc' := 322) (by decide) rfl ?_
              refine ei_go hb dL_holds_322 (pc' := 326) (by decide) ?_
              have h := Option.some.inj h
              subst h
              exact key
        · have h := e53
          by_cases c52 : x44 ≤ 0
          · rw [if_pos c52] at h
            refine ei_ifT hb dL_holds_306 (pc' := 313) (decide_eq_true c52) (by decide) ?_
            refine ei_c hb dL_holds_313 (v := (0 : Int32)) (pc' := 314) (by decide) rfl ?_
            have h := Option.some.inj h
            subst h
            exact key
          · rw [if_neg c52] at h
            refine ei_ifF hb dL_holds_306 (pc' := 309) (t := 313) (decide_eq_false c52) (by decide) rfl ?_
            refine ei_c hb dL_holds_309 (v := (1 : Int32)) (pc' := 310) (by decide) rfl ?_
            refine ei_go hb dL_holds_310 (pc' := 314) (by decide) ?_
            have h := Option.some.inj h
            subst h
            exact key
set_option maxHeartbeats 4000000 in
theorem vL_holds_P373 (F : Nat) (f : qz_F) (p : Nat → Nat) (y112 : Int32) (y213 : Int32) (R : Int32 → Int32 → Int32 → Int32 → Option (Int32)) (hR : ∀ (y3 : Int32) (y4 : Int32) (y5 : Int32) (y6 : Int32) (r : Int32), R y3 y4 y5 y6 = some r → ∀ (d7 : Option qz_V) (d8 : Option qz_V) (d9 : Option qz_V) (d10 : Option qz_V) (d11 : Option qz_V) (d12 : Option qz_V) (d13 : Option qz_V) (d14 : Option qz_V) (d15 : Option qz_V), qz_E 74 67 [some (.inr (.inl (some ((5, 0, 0) : qz_N)))), some (.inl y112), some (.inl y213), some (.inl y3), some (.inl y4), some (.inl y5), some (.inl y6), d7, d8, d9, d10, d11, d12, d13, d14, d15] [] (qz_mk f p) (some (.inl r)) (qz_mk f p)) (y3 : Int32) (y4 : Int32) (y5 : Int32) (y6 : Int32) (y7 : Int32) (y8 : Int32) (r : Int32) (h : gL_holds_P373 F f y112 y213 R y3 y4 y5 y6 y7 y8 = some r) : ∀ (d9 : Option qz_V) (d10 : Option qz_V) (d11 : Option qz_V) (d12 : Option qz_V) (d13 : Option qz_V) (d14 : Option qz_V) (d15 : Option qz_V), qz_E 74 373 [some (.inr (.inl (some ((5, 0, 0) : qz_N)))), some (.inl y112), some (.inl y213), some (.inl y3), some (.inl y4), some (.inl y5), some (.inl y6), some (.inl y7), some (.inl y8), d9, d10, d11, d12, d13, d14, d15] [] (qz_mk f p) (some (.inl r)) (qz_mk f p) := by
  have hb : qz_b 74 = cL_holds := rfl
  have hcn : qz_cn 74 = 8 := rfl
  have hml : qz_ml 74 = 16 := rfl
  intro d9 d10 d11 d12 d13 d14 d15
  rw [gL_holds_P373] at h
  refine ei_aln hb dL_holds_373 (pc' := 374) rfl rfl ?_
  refine ei_il hb dL_holds_374 (pc' := 376) rfl rfl ?_
  refine ei_aln hb dL_holds_376 (pc' := 377) rfl rfl ?_
  refine ei_c hb dL_holds_377 (v := (0 : Int32)) (pc' := 378) (by decide) rfl ?_
  obtain ⟨x60, e61, h⟩ := Option.bind_eq_some_iff.mp h
  refine ei_cv hb dL_holds_378 (pc' := 381) (M1 := (qz_mk f p)) (as := [.inl (0 : Int32)]) (rest := [.inl y7, .inr (.inl (some ((5, 0, 0) : qz_N)))]) (st' := [.inl x60, .inl y7, .inr (.inl (some ((5, 0, 0) : qz_N)))]) hcn qz_c_8_12 qz_k_65 (qz_q_74_65) (Nat.le_of_ble_eq_true rfl) (Nat.le_of_ble_eq_true rfl) rfl rfl rfl rfl (vX_count F f p (0 : Int32) _ e61) rfl rfl ?_
  refine ei_c hb dL_holds_381 (v := (5 : Int32)) (pc' := 382) (by decide) rfl ?_
  obtain ⟨x62, e63, h⟩ := Option.bind_eq_some_iff.mp h
  refine ei_cv hb dL_holds_382 (pc' := 385) (M1 := (qz_mk f p)) (as := [.inl y7, .inl x60, .inl (5 : Int32)]) (rest := []) (st' := [.inl x62]) hcn qz_c_8_62 qz_k_64 (qz_q_74_64) (Nat.le_of_ble_eq_true rfl) (Nat.le_of_ble_eq_true rfl) rfl rfl rfl rfl (vX_why F f p y7 x60 (5 : Int32) _ e63) rfl rfl ?_
  refine ei_c hb dL_holds_385 (v := (1 : Int32)) (pc' := 386) (by decide) rfl ?_
  by_cases c64 : x62 = (1 : Int32)
  · rw [if_pos c64] at h
    refine ei_icF hb dL_holds_386 (pc' := 389) (t := 402) (decide_eq_false (fun q => q c64)) (by decide) rfl ?_
    refine ei_aln hb dL_holds_389 (pc' := 390) rfl rfl ?_
    refine ei_il hb dL_holds_390 (pc' := 392) rfl rfl ?_
    refine ei_il hb dL_holds_392 (pc' := 394) rfl rfl ?_
    refine ei_c hb dL_holds_394 (v := (5 : Int32)) (pc' := 395) (by decide) rfl ?_
    obtain ⟨x65, e66, h⟩ := Option.bind_eq_some_iff.mp h
    refine ei_cv hb dL_holds_395 (pc' := 398) (M1 := (qz_mk f p)) (as := [.inl y7, .inl y8, .inl (5 : Int32)]) (rest := []) (st' := [.inl x65]) hcn qz_c_8_62 qz_k_64 (qz_q_74_64) (Nat.le_of_ble_eq_true rfl) (Nat.le_of_ble_eq_true rfl) rfl rfl rfl rfl (vX_why F f p y7 y8 (5 : Int32) _ e66) rfl rfl ?_
    refine ei_c hb dL_holds_398 (v := (1 : Int32)) (pc' := 399) (by decide) rfl ?_
    by_cases c67 : x65 = (1 : Int32)
    · rw [if_pos c67] at h
      refine ei_icF hb dL_holds_399 (pc' := 402) (t := 404) (decide_eq_false (fun q => q c67)) (by decide) rfl ?_
      refine ei_c hb dL_holds_402 (v := (0 : Int32)) (pc' := 403) (by decide) rfl ?_
      have h := Option.some.inj h
      subst h
      exact ei_retz hb dL_holds_403 rfl (by decide)
    · rw [if_neg c67] at h
      refine ei_icT hb dL_holds_399 (pc' := 404) (decide_eq_true c67) (by decide) ?_
      refine ei_inc hb dL_holds_404 (v := (y6 + 1)) (pc' := 407) (ls' := [some (.inr (.inl (some ((5, 0, 0) : qz_N)))), some (.inl y112), some (.inl y213), some (.inl y3), some (.inl y4), some (.inl y5), some (.inl (y6 + 1)), some (.inl y7), some (.inl y8), d9, d10, d11, d12, d13, d14, d15]) rfl hml (Nat.le_of_ble_eq_true rfl) rfl rfl rfl rfl ?_
      refine ei_go hb dL_holds_407 (pc' := 67) (by decide) ?_
      exact hR y3 y4 y5 (y6 + 1) _ h _ _ _ _ _ _ _ _ _
  · rw [if_neg c64] at h
    refine ei_icT hb dL_holds_386 (pc' := 402) (decide_eq_true c64) (by decide) ?_
    refine ei_c hb dL_holds_402 (v := (0 : Int32)) (pc' := 403) (by decide) rfl ?_
    have h := Option.some.inj h
    subst h
    exact ei_retz hb dL_holds_403 rfl (by decide)
set_option maxHeartbeats 4000000 in
theorem vL_holds_P264 (F : Nat) (f : qz_F) (p : Nat → Nat) (y112 : Int32) (y213 : Int32) (R : Int32 → Int32 → Int32 → Int32 → Option (Int32)) (hR : ∀ (y3 : Int32) (y4 : Int32) (y5 : Int32) (y6 : Int32) (r : Int32), R y3 y4 y5 y6 = some r → ∀ (d7 : Option qz_V) (d8 : Option qz_V) (d9 : Option qz_V) (d10 : Option qz_V) (d11 : Option qz_V) (d12 : Option qz_V) (d13 : Option qz_V) (d14 : Option qz_V) (d15 : Option qz_V), qz_E 74 67 [some (.inr (.inl (some ((5, 0, 0) : qz_N)))), some (.inl y112), some (.inl y213), some (.inl y3), some (.inl y4), some (.inl y5), some (.inl y6), d7, d8, d9, d10, d11, d12, d13, d14, d15] [] (qz_mk f p) (some (.inl r)) (qz_mk f p)) (y3 : Int32) (y4 : Int32) (y5 : Int32) (y6 : Int32) (y7 : Int32) (y8 : Int32) (y10 : Int32) (y11 : Int32) (r : Int32) (h : gL_holds_P264 F f y112 y213 R y3 y4 y5 y6 y7 y8 y10 y11 = some r) : ∀ (d9 : Option qz_V) (d12 : Option qz_V) (d13 : Option qz_V) (d14 : Option qz_V) (d15 : Option qz_V), qz_E 74 264 [some (.inr (.inl (some ((5, 0, 0) : qz_N)))), some (.inl y112), some (.inl y213), some (.inl y3), some (.inl y4), some (.inl y5), some (.inl y6), some (.inl y7), some (.inl y8), d9, some (.inl y10), some (.inl y11), d12, d13, d14, d15] [] (qz_mk f p) (some (.inl r)) (qz_mk f p) := by
  have hb : qz_b 74 = cL_holds := rfl
  have hcn : qz_cn 74 = 8 := rfl
  have hml : qz_ml 74 = 16 := rfl
  intro d9 d12 d13 d14 d15
  rw [gL_holds_P264] at h
  refine ei_aln hb dL_holds_264 (pc' := 265) rfl rfl ?_
  refine ei_il hb dL_holds_265 (pc' := 267) rfl rfl ?_
  refine ei_il hb dL_holds_267 (pc' := 269) rfl rfl ?_
  refine ei_c hb dL_holds_269 (v := (2 : Int32)) (pc' := 270) (by decide) rfl ?_
  obtain ⟨x41, e42, h⟩ := Option.bind_eq_some_iff.mp h
  refine ei_cv hb dL_holds_270 (pc' := 273) (M1 := (qz_mk f p)) (as := [.inl y7, .inl y8, .inl (2 : Int32)]) (rest := []) (st' := [.inl x41]) hcn qz_c_8_22 qz_k_62 (qz_q_74_62) (Nat.le_of_ble_eq_true rfl) (Nat.le_of_ble_eq_true rfl) rfl rfl rfl rfl (vX_bus F f p y7 y8 (2 : Int32) _ e42) rfl rfl ?_
  refine ei_is hb dL_holds_273 (pc' := 275) (ls' := [some (.inr (.inl (some ((5, 0, 0) : qz_N)))), some (.inl y112), some (.inl y213), some (.inl y3), some (.inl y4), some (.inl y5), some (.inl y6), some (.inl y7), some (.inl y8), d9, some (.inl y10), some (.inl y11), d12, some (.inl x41), d14, d15]) hml (Nat.le_of_ble_eq_true rfl) rfl rfl rfl ?_
  refine ei_c hb dL_holds_275 (v := (1 : Int32)) (pc' := 276) (by decide) rfl ?_
  refine ei_is hb dL_holds_276 (pc' := 278) (ls' := [some (.inr (.inl (some ((5, 0, 0) : qz_N)))), some (.inl y112), some (.inl y213), some (.inl y3), some (.inl y4), some (.inl y5), some (.inl y6), some (.inl y7), some (.inl y8), d9, some (.inl y10), some (.inl y11), d12, some (.inl x41), some (.inl (1 : Int32)), d15]) hml (Nat.le_of_ble_eq_true rfl) rfl rfl rfl ?_
  refine vL_holds_L278 F f p y112 y213 y3 y4 y5 y6 y7 y8 y10 y11 _ ?_ F x41 (1 : Int32) _ h _ _ _
  intro y1354 y1455 r h d56 d57 d58
  refine ei_il hb dL_holds_341 (pc' := 343) rfl rfl ?_
  by_cases c59 : y10 = 0
  · rw [if_pos c59] at h
    refine ei_ifT hb dL_holds_343 (pc' := 373) (decide_eq_true c59) (by decide) ?_
    exact vL_holds_P373 F f p y112 y213 R hR y3 y4 y5 y6 y7 y8 _ h _ _ _ _ _ _ _
  · rw [if_neg c59] at h
    refine ei_ifF hb dL_holds_343 (pc' := 346) (t := 373) (decide_eq_false c59) (by decide) rfl ?_
    refine ei_il hb dL_holds_346 (pc' := 348) rfl rfl ?_
    refine ei_b hb dL_holds_348 (v := (22 : Int32)) (pc' := 350) (by decide) rfl ?_
    by_cases c68 : y10 < (22 : Int32)
    · rw [if_pos c68] at h
      refine ei_icT hb dL_holds_350 (pc' := 402) (decide_eq_true c68) (by decide) ?_
      refine ei_c hb dL_holds_402 (v := (0 : Int32)) (pc' := 403) (by decide) rfl ?_
      have h := Option.some.inj h
      subst h
      exact ei_retz hb dL_holds_403 rfl (by decide)
    · rw [if_neg c68] at h
      refine ei_icF hb dL_holds_350 (pc' := 353) (t := 402) (decide_eq_false c68) (by decide) rfl ?_
      refine ei_il hb dL_holds_353 (pc' := 355) rfl rfl ?_
      refine ei_b hb dL_holds_355 (v := (20 : Int32)) (pc' := 357) (by decide) rfl ?_
      refine ei_c hb dL_holds_357 (v := (2 : Int32)) (pc' := 358) (by decide) rfl ?_
      refine ei_il hb dL_holds_358 (pc' := 360) rfl rfl ?_
      refine ei_mul hb dL_holds_360 (pc' := 361) rfl ?_
      refine ei_add hb dL_holds_361 (pc' := 362) rfl ?_
      by_cases c69 : ((20 : Int32) + ((2 : Int32) * y11)) < y10
      · rw [if_pos c69] at h
        refine ei_icT hb dL_holds_362 (pc' := 402) (decide_eq_true c69) (by decide) ?_
        refine ei_c hb dL_holds_402 (v := (0 : Int32)) (pc' := 403) (by decide) rfl ?_
        have h := Option.some.inj h
        subst h
        exact ei_retz hb dL_holds_403 rfl (by decide)
      · rw [if_neg c69] at h
        refine ei_icF hb dL_holds_362 (pc' := 365) (t := 402) (decide_eq_false c69) (by decide) rfl ?_
        refine ei_il hb dL_holds_365 (pc' := 367) rfl rfl ?_
        refine ei_c hb dL_holds_367 (v := (2 : Int32)) (pc' := 368) (by decide) rfl ?_
        refine ei_rem hb dL_holds_368 (pc' := 369) (by decide) rfl ?_
        refine ei_c hb dL_holds_369 (v := (1 : Int32)) (pc' := 370) (by decide) rfl ?_
        by_cases c70 : (y10 - y10 / (2 : Int32) * (2 : Int32)) = (1 : Int32)
        · rw [if_pos c70] at h
          refine ei_icT hb dL_holds_370 (pc' := 402) (decide_eq_true c70) (by decide) ?_
          refine ei_c hb dL_holds_402 (v := (0 : Int32)) (pc' := 403) (by decide) rfl ?_
          have h := Option.some.inj h
          subst h
          exact ei_retz hb dL_holds_403 rfl (by decide)
        · rw [if_neg c70] at h
          refine ei_icF hb dL_holds_370 (pc' := 373) (t := 402) (decide_eq_false c70) (by decide) rfl ?_
          exact vL_holds_P373 F f p y112 y213 R hR y3 y4 y5 y6 y7 y8 _ h _ _ _ _ _ _ _
set_option maxHeartbeats 4000000 in
theorem vL_holds_L67 (F : Nat) (f : qz_F) (p : Nat → Nat) (y112 : Int32) (y213 : Int32) (K : (Int32 → Int32 → Int32 → Int32 → Option (Int32))) (hK : ∀ (y3 : Int32) (y4 : Int32) (y5 : Int32) (y6 : Int32) (r : Int32), K y3 y4 y5 y6 = some r → ∀ (d7 : Option qz_V) (d8 : Option qz_V) (d9 : Option qz_V) (d10 : Option qz_V) (d11 : Option qz_V) (d12 : Option qz_V) (d13 : Option qz_V) (d14 : Option qz_V) (d15 : Option qz_V), qz_E 74 410 [some (.inr (.inl (some ((5, 0, 0) : qz_N)))), some (.inl y112), some (.inl y213), some (.inl y3), some (.inl y4), some (.inl y5), some (.inl y6), d7, d8, d9, d10, d11, d12, d13, d14, d15] [] (qz_mk f p) (some (.inl r)) (qz_mk f p)) : ∀ (n : Nat) (y3 : Int32) (y4 : Int32) (y5 : Int32) (y6 : Int32) (r : Int32), gL_holds_L67 F f y112 y213 K n y3 y4 y5 y6 = some r → ∀ (d7 : Option qz_V) (d8 : Option qz_V) (d9 : Option qz_V) (d10 : Option qz_V) (d11 : Option qz_V) (d12 : Option qz_V) (d13 : Option qz_V) (d14 : Option qz_V) (d15 : Option qz_V), qz_E 74 67 [some (.inr (.inl (some ((5, 0, 0) : qz_N)))), some (.inl y112), some (.inl y213), some (.inl y3), some (.inl y4), some (.inl y5), some (.inl y6), d7, d8, d9, d10, d11, d12, d13, d14, d15] [] (qz_mk f p) (some (.inl r)) (qz_mk f p) := by
  have hb : qz_b 74 = cL_holds := rfl
  have hcn : qz_cn 74 = 8 := rfl
  have hml : qz_ml 74 = 16 := rfl
  intro n
  induction n with
  | zero =>
    intro y3 y4 y5 y6 r h
    cases h
  | succ n ih =>
    intro y3 y4 y5 y6 r h d7 d8 d9 d10 d11 d12 d13 d14 d15
    rw [gL_holds_L67] at h
    refine ei_il hb dL_holds_67 (pc' := 69) rfl rfl ?_
    refine ei_c hb dL_holds_69 (v := (2 : Int32)) (pc' := 70) (by decide) rfl ?_
    refine ei_aln hb dL_holds_70 (pc' := 71) rfl rfl ?_
    refine ei_c hb dL_holds_71 (v := (0 : Int32)) (pc' := 72) (by decide) rfl ?_
    obtain ⟨x27, e28, h⟩ := Option.bind_eq_some_iff.mp h
    refine ei_cv hb dL_holds_72 (pc' := 75) (M1 := (qz_mk f p)) (as := [.inl (0 : Int32)]) (rest := [.inl (2 : Int32), .inl y6]) (st' := [.inl x27, .inl (2 : Int32), .inl y6]) hcn qz_c_8_12 qz_k_65 (qz_q_74_65) (Nat.le_of_ble_eq_true rfl) (Nat.le_of_ble_eq_true rfl) rfl rfl rfl rfl (vX_count F f p (0 : Int32) _ e28) rfl rfl ?_
    refine ei_mul hb dL_holds_75 (pc' := 76) rfl ?_
    by_cases c29 : ((2 : Int32) * x27) ≤ y6
    · rw [if_pos c29] at h
      refine ei_icT hb dL_holds_76 (pc' := 410) (decide_eq_true c29) (by decide) ?_
      exact hK y3 y4 y5 y6 _ h _ _ _ _ _ _ _ _ _
    · rw [if_neg c29] at h
      refine ei_icF hb dL_holds_76 (pc' := 79) (t := 410) (decide_eq_false c29) (by decide) rfl ?_
      refine ei_il hb dL_holds_79 (pc' := 81) rfl rfl ?_
      refine ei_c hb dL_holds_81 (v := (2 : Int32)) (pc' := 82) (by decide) rfl ?_
      refine ei_rem hb dL_holds_82 (pc' := 83) (by decide) rfl ?_
      refine ei_is hb dL_holds_83 (pc' := 85) (ls' := [some (.inr (.inl (some ((5, 0, 0) : qz_N)))), some (.inl y112), some (.inl y213), some (.inl y3), some (.inl y4), some (.inl y5), some (.inl y6), some (.inl (y6 - y6 / (2 : Int32) * (2 : Int32))), d8, d9, d10, d11, d12, d13, d14, d15]) hml (Nat.le_of_ble_eq_true rfl) rfl rfl rfl ?_
      refine ei_il hb dL_holds_85 (pc' := 87) rfl rfl ?_
      refine ei_c hb dL_holds_87 (v := (2 : Int32)) (pc' := 88) (by decide) rfl ?_
      refine ei_div hb dL_holds_88 (pc' := 89) (by decide) rfl ?_
      refine ei_is hb dL_holds_89 (pc' := 91) (ls' := [some (.inr (.inl (some ((5, 0, 0) : qz_N)))), some (.inl y112), some (.inl y213), some (.inl y3), some (.inl y4), some (.inl y5), some (.inl y6), some (.inl (y6 - y6 / (2 : Int32) * (2 : Int32))), some (.inl (y6 / (2 : Int32))), d9, d10, d11, d12, d13, d14, d15]) hml (Nat.le_of_ble_eq_true rfl) rfl rfl rfl ?_
      refine ei_aln hb dL_holds_91 (pc' := 92) rfl rfl ?_
      refine ei_il hb dL_holds_92 (pc' := 94) rfl rfl ?_
      refine ei_il hb dL_holds_94 (pc' := 96) rfl rfl ?_
      refine ei_c hb dL_holds_96 (v := (1 : Int32)) (pc' := 97) (by decide) rfl ?_
      obtain ⟨x30, e31, h⟩ := Option.bind_eq_some_iff.mp h
      refine ei_cv hb dL_holds_97 (pc' := 100) (M1 := (qz_mk f p)) (as := [.inl (y6 - y6 / (2 : Int32) * (2 : Int32)), .inl (y6 / (2 : Int32)), .inl (1 : Int32)]) (rest := []) (st' := [.inl x30]) hcn qz_c_8_22 qz_k_62 (qz_q_74_62) (Nat.le_of_ble_eq_true rfl) (Nat.le_of_ble_eq_true rfl) rfl rfl rfl rfl (vX_bus F f p (y6 - y6 / (2 : Int32) * (2 : Int32)) (y6 / (2 : Int32)) (1 : Int32) _ e31) rfl rfl ?_
      refine ei_is hb dL_holds_100 (pc' := 102) (ls' := [some (.inr (.inl (some ((5, 0, 0) : qz_N)))), some (.inl y112), some (.inl y213), some (.inl y3), some (.inl y4), some (.inl y5), some (.inl y6), some (.inl (y6 - y6 / (2 : Int32) * (2 : Int32))), some (.inl (y6 / (2 : Int32))), some (.inl x30), d10, d11, d12, d13, d14, d15]) hml (Nat.le_of_ble_eq_true rfl) rfl rfl rfl ?_
      refine ei_aln hb dL_holds_102 (pc' := 103) rfl rfl ?_
      refine ei_il hb dL_holds_103 (pc' := 105) rfl rfl ?_
      refine ei_il hb dL_holds_105 (pc' := 107) rfl rfl ?_
      refine ei_c hb dL_holds_107 (v := (5 : Int32)) (pc' := 108) (by decide) rfl ?_
      obtain ⟨x32, e33, h⟩ := Option.bind_eq_some_iff.mp h
      refine ei_cv hb dL_holds_108 (pc' := 111) (M1 := (qz_mk f p)) (as := [.inl (y6 - y6 / (2 : Int32) * (2 : Int32)), .inl (y6 / (2 : Int32)), .inl (5 : Int32)]) (rest := []) (st' := [.inl x32]) hcn qz_c_8_22 qz_k_62 (qz_q_74_62) (Nat.le_of_ble_eq_true rfl) (Nat.le_of_ble_eq_true rfl) rfl rfl rfl rfl (vX_bus F f p (y6 - y6 / (2 : Int32) * (2 : Int32)) (y6 / (2 : Int32)) (5 : Int32) _ e33) rfl rfl ?_
      refine ei_is hb dL_holds_111 (pc' := 113) (ls' := [some (.inr (.inl (some ((5, 0, 0) : qz_N)))), some (.inl y112), some (.inl y213), some (.inl y3), some (.inl y4), some (.inl y5), some (.inl y6), some (.inl (y6 - y6 / (2 : Int32) * (2 : Int32))), some (.inl (y6 / (2 : Int32))), some (.inl x30), some (.inl x32), d11, d12, d13, d14, d15]) hml (Nat.le_of_ble_eq_true rfl) rfl rfl rfl ?_
      refine ei_aln hb dL_holds_113 (pc' := 114) rfl rfl ?_
      refine ei_il hb dL_holds_114 (pc' := 116) rfl rfl ?_
      refine ei_il hb dL_holds_116 (pc' := 118) rfl rfl ?_
      refine ei_c hb dL_holds_118 (v := (4 : Int32)) (pc' := 119) (by decide) rfl ?_
      obtain ⟨x34, e35, h⟩ := Option.bind_eq_some_iff.mp h
      refine ei_cv hb dL_holds_119 (pc' := 122) (M1 := (qz_mk f p)) (as := [.inl (y6 - y6 / (2 : Int32) * (2 : Int32)), .inl (y6 / (2 : Int32)), .inl (4 : Int32)]) (rest := []) (st' := [.inl x34]) hcn qz_c_8_22 qz_k_62 (qz_q_74_62) (Nat.le_of_ble_eq_true rfl) (Nat.le_of_ble_eq_true rfl) rfl rfl rfl rfl (vX_bus F f p (y6 - y6 / (2 : Int32) * (2 : Int32)) (y6 / (2 : Int32)) (4 : Int32) _ e35) rfl rfl ?_
      refine ei_is hb dL_holds_122 (pc' := 124) (ls' := [some (.inr (.inl (some ((5, 0, 0) : qz_N)))), some (.inl y112), some (.inl y213), some (.inl y3), some (.inl y4), some (.inl y5), some (.inl y6), some (.inl (y6 - y6 / (2 : Int32) * (2 : Int32))), some (.inl (y6 / (2 : Int32))), some (.inl x30), some (.inl x32), some (.inl x34), d12, d13, d14, d15]) hml (Nat.le_of_ble_eq_true rfl) rfl rfl rfl ?_
      refine ei_il hb dL_holds_124 (pc' := 126) rfl rfl ?_
      refine ei_b hb dL_holds_126 (v := (-5 : Int32)) (pc' := 128) (by decide) rfl ?_
      obtain ⟨j36, e94, h⟩ := Option.bind_eq_some_iff.mp h
      refine qz_jn (Q := qz_E 74 143 [some (.inr (.inl (some ((5, 0, 0) : qz_N)))), some (.inl y112), some (.inl y213), some (.inl y3), some (.inl y4), some (.inl y5), some (.inl y6), some (.inl (y6 - y6 / (2 : Int32) * (2 : Int32))), some (.inl (y6 / (2 : Int32))), some (.inl x30), some (.inl x32), some (.inl x34), d12, d13, d14, d15] [.inl j36] (qz_mk f p) (some (.inl r)) (qz_mk f p)) ?_ (fun key => ?_)
      · refine ei_is hb dL_holds_143 (pc' := 145) (ls' := [some (.inr (.inl (some ((5, 0, 0) : qz_N)))), some (.inl y112), some (.inl y213), some (.inl y3), some (.inl y4), some (.inl y5), some (.inl y6), some (.inl (y6 - y6 / (2 : Int32) * (2 : Int32))), some (.inl (y6 / (2 : Int32))), some (.inl x30), some (.inl x32), some (.inl x34), some (.inl j36), d13, d14, d15]) hml (Nat.le_of_ble_eq_true rfl) rfl rfl rfl ?_
        refine ei_iln hb dL_holds_145 (pc' := 146) rfl rfl ?_
        refine ei_il hb dL_holds_146 (pc' := 148) rfl rfl ?_
        obtain ⟨j37, e91, h⟩ := Option.bind_eq_some_iff.mp h
        refine qz_jn (Q := qz_E 74 164 [some (.inr (.inl (some ((5, 0, 0) : qz_N)))), some (.inl y112), some (.inl y213), some (.inl y3), some (.inl y4), some (.inl y5), some (.inl y6), some (.inl (y6 - y6 / (2 : Int32) * (2 : Int32))), some (.inl (y6 / (2 : Int32))), some (.inl x30), some (.inl x32), some (.inl x34), some (.inl j36), d13, d14, d15] [.inl j37, .inl y3] (qz_mk f p) (some (.inl r)) (qz_mk f p)) ?_ (fun key => ?_)
        · refine ei_add hb dL_holds_164 (pc' := 165) rfl ?_
          refine ei_isn hb dL_holds_165 (pc' := 166) (ls' := [some (.inr (.inl (some ((5, 0, 0) : qz_N)))), some (.inl y112), some (.inl y213), some (.inl (y3 + j37)), some (.inl y4), some (.inl y5), some (.inl y6), some (.inl (y6 - y6 / (2 : Int32) * (2 : Int32))), some (.inl (y6 / (2 : Int32))), some (.inl x30), some (.inl x32), some (.inl x34), some (.inl j36), d13, d14, d15]) hml (Nat.le_of_ble_eq_true rfl) rfl rfl rfl ?_
          refine ei_il hb dL_holds_166 (pc' := 168) rfl rfl ?_
          refine ei_il hb dL_holds_168 (pc' := 170) rfl rfl ?_
          obtain ⟨j38, e87, h⟩ := Option.bind_eq_some_iff.mp h
          refine qz_jn (Q := qz_E 74 186 [some (.inr (.inl (some ((5, 0, 0) : qz_N)))), some (.inl y112), some (.inl y213), some (.inl (y3 + j37)), some (.inl y4), some (.inl y5), some (.inl y6), some (.inl (y6 - y6 / (2 : Int32) * (2 : Int32))), some (.inl (y6 / (2 : Int32))), some (.inl x30), some (.inl x32), some (.inl x34), some (.inl j36), d13, d14, d15] [.inl j38, .inl y4] (qz_mk f p) (some (.inl r)) (qz_mk f p)) ?_ (fun key => ?_)
          · refine ei_add hb dL_holds_186 (pc' := 187) rfl ?_
            refine ei_is hb dL_holds_187 (pc' := 189) (ls' := [some (.inr (.inl (some ((5, 0, 0) : qz_N)))), some (.inl y112), some (.inl y213), some (.inl (y3 + j37)), some (.inl (y4 + j38)), some (.inl y5), some (.inl y6), some (.inl (y6 - y6 / (2 : Int32) * (2 : Int32))), some (.inl (y6 / (2 : Int32))), some (.inl x30), some (.inl x32), some (.inl x34), some (.inl j36), d13, d14, d15]) hml (Nat.le_of_ble_eq_true rfl) rfl rfl rfl ?_
            refine ei_il hb dL_holds_189 (pc' := 191) rfl rfl ?_
            refine ei_il hb dL_holds_191 (pc' := 193) rfl rfl ?_
            refine ei_b hb dL_holds_193 (v := (-5 : Int32)) (pc' := 195) (by decide) rfl ?_
            obtain ⟨j39, e83, h⟩ := Option.bind_eq_some_iff.mp h
            refine qz_jn (Q := qz_E 74 203 [some (.inr (.inl (some ((5, 0, 0) : qz_N)))), some (.inl y112), some (.inl y213), some (.inl (y3 + j37)), some (.inl (y4 + j38)), some (.inl y5), some (.inl y6), some (.inl (y6 - y6 / (2 : Int32) * (2 : Int32))), some (.inl (y6 / (2 : Int32))), some (.inl x30), some (.inl x32), some (.inl x34), some (.inl j36), d13, d14, d15] [.inl j39, .inl y5] (qz_mk f p) (some (.inl r)) (qz_mk f p)) ?_ (fun key => ?_)
            · refine ei_add hb dL_holds_203 (pc' := 204) rfl ?_
              refine ei_is hb dL_holds_204 (pc' := 206) (ls' := [some (.inr (.inl (some ((5, 0, 0) : qz_N)))), some (.inl y112), some (.inl y213), some (.inl (y3 + j37)), some (.inl (y4 + j38)), some (.inl (y5 + j39)), some (.inl y6), some (.inl (y6 - y6 / (2 : Int32) * (2 : Int32))), some (.inl (y6 / (2 : Int32))), some (.inl x30), some (.inl x32), some (.inl x34), some (.inl j36), d13, d14, d15]) hml (Nat.le_of_ble_eq_true rfl) rfl rfl rfl ?_
              refine ei_il hb dL_holds_206 (pc' := 208) rfl rfl ?_
              refine ei_b hb dL_holds_208 (v := (-5 : Int32)) (pc' := 210) (by decide) rfl ?_
              by_cases c40 : x30 = (-5 : Int32)
              · rw [if_pos c40] at h
                refine ei_icT hb dL_holds_210 (pc' := 264) (decide_eq_true c40) (by decide) ?_
                exact vL_holds_P264 F f p y112 y213 ((gL_holds_L67 F f y112 y213 K) n) ih (y3 + j37) (y4 + j38) (y5 + j39) y6 (y6 - y6 / (2 : Int32) * (2 : Int32)) (y6 / (2 : Int32)) x32 x34 _ h _ _ _ _ _
              · rw [if_neg c40] at h
                refine ei_icF hb dL_holds_210 (pc' := 213) (t := 264) (decide_eq_false c40) (by decide) rfl ?_
                refine ei_aln hb dL_holds_213 (pc' := 214) rfl rfl ?_
                refine ei_il hb dL_holds_214 (pc' := 216) rfl rfl ?_
                refine ei_il hb dL_holds_216 (pc' := 218) rfl rfl ?_
                refine ei_c hb dL_holds_218 (v := (1 : Int32)) (pc' := 219) (by decide) rfl ?_
                obtain ⟨x71, e72, h⟩ := Option.bind_eq_some_iff.mp h
                refine ei_cv hb dL_holds_219 (pc' := 222) (M1 := (qz_mk f p)) (as := [.inl (y6 - y6 / (2 : Int32) * (2 : Int32)), .inl x30, .inl (1 : Int32)]) (rest := []) (st' := [.inl x71]) hcn qz_c_8_22 qz_k_62 (qz_q_74_62) (Nat.le_of_ble_eq_true rfl) (Nat.le_of_ble_eq_true rfl) rfl rfl rfl rfl (vX_bus F f p (y6 - y6 / (2 : Int32) * (2 : Int32)) x30 (1 : Int32) _ e72) rfl rfl ?_
                refine ei_il hb dL_holds_222 (pc' := 224) rfl rfl ?_
                by_cases c73 : x71 = (y6 / (2 : Int32))
                · rw [if_pos c73] at h
                  refine ei_icF hb dL_holds_224 (pc' := 227) (t := 262) (decide_eq_false (fun q => q c73)) (by decide) rfl ?_
                  refine ei_aln hb dL_holds_227 (pc' := 228) rfl rfl ?_
                  refine ei_il hb dL_holds_228 (pc' := 230) rfl rfl ?_
                  refine ei_il hb dL_holds_230 (pc' := 232) rfl rfl ?_
                  refine ei_c hb dL_holds_232 (v := (0 : Int32)) (pc' := 233) (by decide) rfl ?_
                  obtain ⟨x74, e75, h⟩ := Option.bind_eq_some_iff.mp h
                  refine ei_cv hb dL_holds_233 (pc' := 236) (M1 := (qz_mk f p)) (as := [.inl (y6 - y6 / (2 : Int32) * (2 : Int32)), .inl x30, .inl (0 : Int32)]) (rest := []) (st' := [.inl x74]) hcn qz_c_8_22 qz_k_62 (qz_q_74_62) (Nat.le_of_ble_eq_true rfl) (Nat.le_of_ble_eq_true rfl) rfl rfl rfl rfl (vX_bus F f p (y6 - y6 / (2 : Int32) * (2 : Int32)) x30 (0 : Int32) _ e75) rfl rfl ?_
                  refine ei_aln hb dL_holds_236 (pc' := 237) rfl rfl ?_
                  refine ei_il hb dL_holds_237 (pc' := 239) rfl rfl ?_
                  refine ei_il hb dL_holds_239 (pc' := 241) rfl rfl ?_
                  refine ei_c hb dL_holds_241 (v := (0 : Int32)) (pc' := 242) (by decide) rfl ?_
                  obtain ⟨x76, e77, h⟩ := Option.bind_eq_some_iff.mp h
                  refine ei_cv hb dL_holds_242 (pc' := 245) (M1 := (qz_mk f p)) (as := [.inl (y6 - y6 / (2 : Int32) * (2 : Int32)), .inl (y6 / (2 : Int32)), .inl (0 : Int32)]) (rest := [.inl x74]) (st' := [.inl x76, .inl x74]) hcn qz_c_8_22 qz_k_62 (qz_q_74_62) (Nat.le_of_ble_eq_true rfl) (Nat.le_of_ble_eq_true rfl) rfl rfl rfl rfl (vX_bus F f p (y6 - y6 / (2 : Int32) * (2 : Int32)) (y6 / (2 : Int32)) (0 : Int32) _ e77) rfl rfl ?_
                  by_cases c78 : x74 = x76
                  · rw [if_pos c78] at h
                    refine ei_icF hb dL_holds_245 (pc' := 248) (t := 262) (decide_eq_false (fun q => q c78)) (by decide) rfl ?_
                    refine ei_aln hb dL_holds_248 (pc' := 249) rfl rfl ?_
                    refine ei_il hb dL_holds_249 (pc' := 251) rfl rfl ?_
                    refine ei_il hb dL_holds_251 (pc' := 253) rfl rfl ?_
                    refine ei_c hb dL_holds_253 (v := (5 : Int32)) (pc' := 254) (by decide) rfl ?_
                    obtain ⟨x79, e80, h⟩ := Option.bind_eq_some_iff.mp h
                    refine ei_cv hb dL_holds_254 (pc' := 257) (M1 := (qz_mk f p)) (as := [.inl (y6 - y6 / (2 : Int32) * (2 : Int32)), .inl x30, .inl (5 : Int32)]) (rest := []) (st' := [.inl x79]) hcn qz_c_8_22 qz_k_62 (qz_q_74_62) (Nat.le_of_ble_eq_true rfl) (Nat.le_of_ble_eq_true rfl) rfl rfl rfl rfl (vX_bus F f p (y6 - y6 / (2 : Int32) * (2 : Int32)) x30 (5 : Int32) _ e80) rfl rfl ?_
                    refine ei_il hb dL_holds_257 (pc' := 259) rfl rfl ?_
                    by_cases c81 : x79 = x32
                    · rw [if_pos c81] at h
                      refine ei_icT hb dL_holds_259 (pc' := 264) (decide_eq_true c81) (by decide) ?_
                      exact vL_holds_P264 F f p y112 y213 ((gL_holds_L67 F f y112 y213 K) n) ih (y3 + j37) (y4 + j38) (y5 + j39) y6 (y6 - y6 / (2 : Int32) * (2 : Int32)) (y6 / (2 : Int32)) x32 x34 _ h _ _ _ _ _
                    · rw [if_neg c81] at h
                      refine ei_icF hb dL_holds_259 (pc' := 262) (t := 264) (decide_eq_false c81) (by decide) rfl ?_
                      refine ei_c hb dL_holds_262 (v := (0 : Int32)) (pc' := 263) (by decide) rfl ?_
                      have h := Option.some.inj h
                      subst h
                      exact ei_retz hb dL_holds_263 rfl (by decide)
                  · rw [if_neg c78] at h
                    refine ei_icT hb dL_holds_245 (pc' := 262) (decide_eq_true c78) (by decide) ?_
                    refine ei_c hb dL_holds_262 (v := (0 : Int32)) (pc' := 263) (by decide) rfl ?_
                    have h := Option.some.inj h
                    subst h
                    exact ei_retz hb dL_holds_263 rfl (by decide)
                · rw [if_neg c73] at h
                  refine ei_icT hb dL_holds_224 (pc' := 262) (decide_eq_true c73) (by decide) ?_
                  refine ei_c hb dL_holds_262 (v := (0 : Int32)) (pc' := 263) (by decide) rfl ?_
                  have h := Option.some.inj h
                  subst h
                  exact ei_retz hb dL_holds_263 rfl (by decide)
            · have h := e83
              by_cases c82 : x30 = (-5 : Int32)
              · rw [if_pos c82] at h
                refine ei_icF hb dL_holds_195 (pc' := 198) (t := 202) (decide_eq_false (fun q => q c82)) (by decide) rfl ?_
                refine ei_c hb dL_holds_198 (v := (0 : Int32)) (pc' := 199) (by decide) rfl ?_
                refine ei_go hb dL_holds_199 (pc' := 203) (by decide) ?_
                have h := Option.some.inj h
                subst h
                exact key
              · rw [if_neg c82] at h
                refine ei_icT hb dL_holds_195 (pc' := 202) (decide_eq_true c82) (by decide) ?_
                refine ei_c hb dL_holds_202 (v := (1 : Int32)) (pc' := 203) (by decide) rfl ?_
                have h := Option.some.inj h
                subst h
                exact key
          · have h := e87
            by_cases c84 : j36 = 0
            · rw [if_pos c84] at h
              refine ei_ifT hb dL_holds_170 (pc' := 185) (decide_eq_true c84) (by decide) ?_
              refine ei_c hb dL_holds_185 (v := (0 : Int32)) (pc' := 186) (by decide) rfl ?_
              have h := Option.some.inj h
              subst h
              exact key
            · rw [if_neg c84] at h
              refine ei_ifF hb dL_holds_170 (pc' := 173) (t := 185) (decide_eq_false c84) (by decide) rfl ?_
              refine ei_aln hb dL_holds_173 (pc' := 174) rfl rfl ?_
              refine ei_il hb dL_holds_174 (pc' := 176) rfl rfl ?_
              refine ei_il hb dL_holds_176 (pc' := 178) rfl rfl ?_
              refine ei_c hb dL_holds_178 (v := (3 : Int32)) (pc' := 179) (by decide) rfl ?_
              obtain ⟨x85, e86, h⟩ := Option.bind_eq_some_iff.mp h
              refine ei_cv hb dL_holds_179 (pc' := 182) (M1 := (qz_mk f p)) (as := [.inl (y6 - y6 / (2 : Int32) * (2 : Int32)), .inl (y6 / (2 : Int32)), .inl (3 : Int32)]) (rest := [.inl y4]) (st' := [.inl x85, .inl y4]) hcn qz_c_8_22 qz_k_62 (qz_q_74_62) (Nat.le_of_ble_eq_true rfl) (Nat.le_of_ble_eq_true rfl) rfl rfl rfl rfl (vX_bus F f p (y6 - y6 / (2 : Int32) * (2 : Int32)) (y6 / (2 : Int32)) (3 : Int32) _ e86) rfl rfl ?_
              refine ei_go hb dL_holds_182 (pc' := 186) (by decide) ?_
              have h := Option.some.inj h
              subst h
              exact key
        · have h := e91
          by_cases c88 : j36 = 0
          · rw [if_pos c88] at h
            refine ei_ifT hb dL_holds_148 (pc' := 163) (decide_eq_true c88) (by decide) ?_
            refine ei_c hb dL_holds_163 (v := (0 : Int32)) (pc' := 164) (by decide) rfl ?_
            have h := Option.some.inj h
            subst h
            exact key
          · rw [if_neg c88] at h
            refine ei_ifF hb dL_holds_148 (pc' := 151) (t := 163) (decide_eq_false c88) (by decide) rfl ?_
            refine ei_aln hb dL_holds_151 (pc' := 152) rfl rfl ?_
            refine ei_il hb dL_holds_152 (pc' := 154) rfl rfl ?_
            refine ei_il hb dL_holds_154 (pc' := 156) rfl rfl ?_
            refine ei_c hb dL_holds_156 (v := (2 : Int32)) (pc' := 157) (by decide) rfl ?_
            obtain ⟨x89, e90, h⟩ := Option.bind_eq_some_iff.mp h
            refine ei_cv hb dL_holds_157 (pc' := 160) (M1 := (qz_mk f p)) (as := [.inl (y6 - y6 / (2 : Int32) * (2 : Int32)), .inl (y6 / (2 : Int32)), .inl (2 : Int32)]) (rest := [.inl y3]) (st' := [.inl x89, .inl y3]) hcn qz_c_8_22 qz_k_62 (qz_q_74_62) (Nat.le_of_ble_eq_true rfl) (Nat.le_of_ble_eq_true rfl) rfl rfl rfl rfl (vX_bus F f p (y6 - y6 / (2 : Int32) * (2 : Int32)) (y6 / (2 : Int32)) (2 : Int32) _ e90) rfl rfl ?_
            refine ei_go hb dL_holds_160 (pc' := 164) (by decide) ?_
            have h := Option.some.inj h
            subst h
            exact key
      · have h := e94
        by_cases c92 : x30 = (-5 : Int32)
        · rw [if_pos c92] at h
          refine ei_icT hb dL_holds_128 (pc' := 138) (decide_eq_true c92) (by decide) ?_
          refine ei_c hb dL_holds_138 (v := (1 : Int32)) (pc' := 139) (by decide) rfl ?_
          refine ei_go hb dL_holds_139 (pc' := 143) (by decide) ?_
          have h := Option.some.inj h
          subst h
          exact key
        · rw [if_neg c92] at h
          refine ei_icF hb dL_holds_128 (pc' := 131) (t := 138) (decide_eq_false c92) (by decide) rfl ?_
          refine ei_il hb dL_holds_131 (pc' := 133) rfl rfl ?_
          refine ei_il hb dL_holds_133 (pc' := 135) rfl rfl ?_
          by_cases c93 : x30 ≤ (y6 / (2 : Int32))
          · rw [if_pos c93] at h
            refine ei_icT hb dL_holds_135 (pc' := 142) (decide_eq_true c93) (by decide) ?_
            refine ei_c hb dL_holds_142 (v := (0 : Int32)) (pc' := 143) (by decide) rfl ?_
            have h := Option.some.inj h
            subst h
            exact key
          · rw [if_neg c93] at h
            refine ei_icF hb dL_holds_135 (pc' := 138) (t := 142) (decide_eq_false c93) (by decide) rfl ?_
            refine ei_c hb dL_holds_138 (v := (1 : Int32)) (pc' := 139) (by decide) rfl ?_
            refine ei_go hb dL_holds_139 (pc' := 143) (by decide) ?_
            have h := Option.some.inj h
            subst h
            exact key
set_option maxHeartbeats 4000000 in
theorem vL_holds (F : Nat) (f : qz_F) (p : Nat → Nat)  (r : Int32) (h : (gL_holds F f) = some r) : qz_E 74 0 (qz_in0 74 [.inr (.inl (some ((5, 0, 0) : qz_N)))]) [] (qz_mk f p) (some (.inl r)) (qz_mk f p) := by
  have hb : qz_b 74 = cL_holds := rfl
  have hcn : qz_cn 74 = 8 := rfl
  have hml : qz_ml 74 = 16 := rfl
  show qz_E 74 0 [some (.inr (.inl (some ((5, 0, 0) : qz_N)))), none, none, none, none, none, none, none, none, none, none, none, none, none, none, none] [] _ _ _
  rw [gL_holds] at h
  refine ei_c hb dL_holds_0 (v := (0 : Int32)) (pc' := 1) (by decide) rfl ?_
  refine ei_isn hb dL_holds_1 (pc' := 2) (ls' := [some (.inr (.inl (some ((5, 0, 0) : qz_N)))), some (.inl (0 : Int32)), none, none, none, none, none, none, none, none, none, none, none, none, none, none]) hml (Nat.le_of_ble_eq_true rfl) rfl rfl rfl ?_
  refine ei_c hb dL_holds_2 (v := (0 : Int32)) (pc' := 3) (by decide) rfl ?_
  refine ei_isn hb dL_holds_3 (pc' := 4) (ls' := [some (.inr (.inl (some ((5, 0, 0) : qz_N)))), some (.inl (0 : Int32)), some (.inl (0 : Int32)), none, none, none, none, none, none, none, none, none, none, none, none, none]) hml (Nat.le_of_ble_eq_true rfl) rfl rfl rfl ?_
  refine ei_c hb dL_holds_4 (v := (0 : Int32)) (pc' := 5) (by decide) rfl ?_
  refine ei_isn hb dL_holds_5 (pc' := 6) (ls' := [some (.inr (.inl (some ((5, 0, 0) : qz_N)))), some (.inl (0 : Int32)), some (.inl (0 : Int32)), some (.inl (0 : Int32)), none, none, none, none, none, none, none, none, none, none, none, none]) hml (Nat.le_of_ble_eq_true rfl) rfl rfl rfl ?_
  refine vL_holds_L6 F f p _ ?_ F (0 : Int32) (0 : Int32) (0 : Int32) _ h _ _ _ _ _ _ _ _ _ _ _ _
  intro y112 y213 y314 r h d15 d16 d17 d18 d19 d20 d21 d22 d23 d24 d25 d26
  refine ei_c hb dL_holds_56 (v := (0 : Int32)) (pc' := 57) (by decide) rfl ?_
  refine ei_isn hb dL_holds_57 (pc' := 58) (ls' := [some (.inr (.inl (some ((5, 0, 0) : qz_N)))), some (.inl y112), some (.inl y213), some (.inl (0 : Int32)), d15, d16, d17, d18, d19, d20, d21, d22, d23, d24, d25, d26]) hml (Nat.le_of_ble_eq_true rfl) rfl rfl rfl ?_
  refine ei_c hb dL_holds_58 (v := (0 : Int32)) (pc' := 59) (by decide) rfl ?_
  refine ei_is hb dL_holds_59 (pc' := 61) (ls' := [some (.inr (.inl (some ((5, 0, 0) : qz_N)))), some (.inl y112), some (.inl y213), some (.inl (0 : Int32)), some (.inl (0 : Int32)), d16, d17, d18, d19, d20, d21, d22, d23, d24, d25, d26]) hml (Nat.le_of_ble_eq_true rfl) rfl rfl rfl ?_
  refine ei_c hb dL_holds_61 (v := (0 : Int32)) (pc' := 62) (by decide) rfl ?_
  refine ei_is hb dL_holds_62 (pc' := 64) (ls' := [some (.inr (.inl (some ((5, 0, 0) : qz_N)))), some (.inl y112), some (.inl y213), some (.inl (0 : Int32)), some (.inl (0 : Int32)), some (.inl (0 : Int32)), d17, d18, d19, d20, d21, d22, d23, d24, d25, d26]) hml (Nat.le_of_ble_eq_true rfl) rfl rfl rfl ?_
  refine ei_c hb dL_holds_64 (v := (0 : Int32)) (pc' := 65) (by decide) rfl ?_
  refine ei_is hb dL_holds_65 (pc' := 67) (ls' := [some (.inr (.inl (some ((5, 0, 0) : qz_N)))), some (.inl y112), some (.inl y213), some (.inl (0 : Int32)), some (.inl (0 : Int32)), some (.inl (0 : Int32)), some (.inl (0 : Int32)), d18, d19, d20, d21, d22, d23, d24, d25, d26]) hml (Nat.le_of_ble_eq_true rfl) rfl rfl rfl ?_
  refine vL_holds_L67 F f p y112 y213 _ ?_ F (0 : Int32) (0 : Int32) (0 : Int32) (0 : Int32) _ h _ _ _ _ _ _ _ _ _
  intro y395 y496 y597 y698 r h d99 d100 d101 d102 d103 d104 d105 d106 d107
  refine ei_iln hb dL_holds_410 (pc' := 411) rfl rfl ?_
  refine ei_aln hb dL_holds_411 (pc' := 412) rfl rfl ?_
  refine ei_c hb dL_holds_412 (v := (1 : Int32)) (pc' := 413) (by decide) rfl ?_
  obtain ⟨x108, e109, h⟩ := Option.bind_eq_some_iff.mp h
  refine ei_cv hb dL_holds_413 (pc' := 416) (M1 := (qz_mk f p)) (as := [.inl (1 : Int32)]) (rest := [.inl y213]) (st' := [.inl x108, .inl y213]) hcn qz_c_8_12 qz_k_65 (qz_q_74_65) (Nat.le_of_ble_eq_true rfl) (Nat.le_of_ble_eq_true rfl) rfl rfl rfl rfl (vX_count F f p (1 : Int32) _ e109) rfl rfl ?_
  by_cases c110 : y213 = x108
  · rw [if_pos c110] at h
    refine ei_icF hb dL_holds_416 (pc' := 419) (t := 480) (decide_eq_false (fun q => q c110)) (by decide) rfl ?_
    refine ei_iln hb dL_holds_419 (pc' := 420) rfl rfl ?_
    refine ei_aln hb dL_holds_420 (pc' := 421) rfl rfl ?_
    refine ei_c hb dL_holds_421 (v := (2 : Int32)) (pc' := 422) (by decide) rfl ?_
    obtain ⟨x111, e112, h⟩ := Option.bind_eq_some_iff.mp h
    refine ei_cv hb dL_holds_422 (pc' := 425) (M1 := (qz_mk f p)) (as := [.inl (2 : Int32)]) (rest := [.inl y112]) (st' := [.inl x111, .inl y112]) hcn qz_c_8_12 qz_k_65 (qz_q_74_65) (Nat.le_of_ble_eq_true rfl) (Nat.le_of_ble_eq_true rfl) rfl rfl rfl rfl (vX_count F f p (2 : Int32) _ e112) rfl rfl ?_
    by_cases c113 : y112 = x111
    · rw [if_pos c113] at h
      refine ei_icF hb dL_holds_425 (pc' := 428) (t := 480) (decide_eq_false (fun q => q c113)) (by decide) rfl ?_
      refine ei_iln hb dL_holds_428 (pc' := 429) rfl rfl ?_
      refine ei_iln hb dL_holds_429 (pc' := 430) rfl rfl ?_
      refine ei_sub hb dL_holds_430 (pc' := 431) rfl ?_
      refine ei_aln hb dL_holds_431 (pc' := 432) rfl rfl ?_
      refine ei_c hb dL_holds_432 (v := (3 : Int32)) (pc' := 433) (by decide) rfl ?_
      obtain ⟨x114, e115, h⟩ := Option.bind_eq_some_iff.mp h
      refine ei_cv hb dL_holds_433 (pc' := 436) (M1 := (qz_mk f p)) (as := [.inl (3 : Int32)]) (rest := [.inl (y213 - y112)]) (st' := [.inl x114, .inl (y213 - y112)]) hcn qz_c_8_12 qz_k_65 (qz_q_74_65) (Nat.le_of_ble_eq_true rfl) (Nat.le_of_ble_eq_true rfl) rfl rfl rfl rfl (vX_count F f p (3 : Int32) _ e115) rfl rfl ?_
      by_cases c116 : (y213 - y112) = x114
      · rw [if_pos c116] at h
        refine ei_icF hb dL_holds_436 (pc' := 439) (t := 480) (decide_eq_false (fun q => q c116)) (by decide) rfl ?_
        refine ei_iln hb dL_holds_439 (pc' := 440) rfl rfl ?_
        refine ei_iln hb dL_holds_440 (pc' := 441) rfl rfl ?_
        by_cases c117 : y395 = y112
        · rw [if_pos c117] at h
          refine ei_icF hb dL_holds_441 (pc' := 444) (t := 480) (decide_eq_false (fun q => q c117)) (by decide) rfl ?_
          refine ei_il hb dL_holds_444 (pc' := 446) rfl rfl ?_
          refine ei_aln hb dL_holds_446 (pc' := 447) rfl rfl ?_
          refine ei_c hb dL_holds_447 (v := (3 : Int32)) (pc' := 448) (by decide) rfl ?_
          obtain ⟨x118, e119, h⟩ := Option.bind_eq_some_iff.mp h
          refine ei_cv hb dL_holds_448 (pc' := 451) (M1 := (qz_mk f p)) (as := [.inl (3 : Int32)]) (rest := [.inl y496]) (st' := [.inl x118, .inl y496]) hcn qz_c_8_12 qz_k_65 (qz_q_74_65) (Nat.le_of_ble_eq_true rfl) (Nat.le_of_ble_eq_true rfl) rfl rfl rfl rfl (vX_count F f p (3 : Int32) _ e119) rfl rfl ?_
          by_cases c120 : y496 = x118
          · rw [if_pos c120] at h
            refine ei_icF hb dL_holds_451 (pc' := 454) (t := 480) (decide_eq_false (fun q => q c120)) (by decide) rfl ?_
            refine ei_il hb dL_holds_454 (pc' := 456) rfl rfl ?_
            refine ei_c hb dL_holds_456 (v := (2 : Int32)) (pc' := 457) (by decide) rfl ?_
            refine ei_aln hb dL_holds_457 (pc' := 458) rfl rfl ?_
            refine ei_c hb dL_holds_458 (v := (4 : Int32)) (pc' := 459) (by decide) rfl ?_
            obtain ⟨x121, e122, h⟩ := Option.bind_eq_some_iff.mp h
            refine ei_cv hb dL_holds_459 (pc' := 462) (M1 := (qz_mk f p)) (as := [.inl (4 : Int32)]) (rest := [.inl (2 : Int32), .inl y597]) (st' := [.inl x121, .inl (2 : Int32), .inl y597]) hcn qz_c_8_12 qz_k_65 (qz_q_74_65) (Nat.le_of_ble_eq_true rfl) (Nat.le_of_ble_eq_true rfl) rfl rfl rfl rfl (vX_count F f p (4 : Int32) _ e122) rfl rfl ?_
            refine ei_mul hb dL_holds_462 (pc' := 463) rfl ?_
            by_cases c123 : y597 = ((2 : Int32) * x121)
            · rw [if_pos c123] at h
              refine ei_icF hb dL_holds_463 (pc' := 466) (t := 480) (decide_eq_false (fun q => q c123)) (by decide) rfl ?_
              refine ei_aln hb dL_holds_466 (pc' := 467) rfl rfl ?_
              refine ei_c hb dL_holds_467 (v := (1 : Int32)) (pc' := 468) (by decide) rfl ?_
              obtain ⟨x124, e125, h⟩ := Option.bind_eq_some_iff.mp h
              refine ei_cv hb dL_holds_468 (pc' := 471) (M1 := (qz_mk f p)) (as := [.inl (1 : Int32)]) (rest := []) (st' := [.inl x124]) hcn qz_c_8_12 qz_k_65 (qz_q_74_65) (Nat.le_of_ble_eq_true rfl) (Nat.le_of_ble_eq_true rfl) rfl rfl rfl rfl (vX_count F f p (1 : Int32) _ e125) rfl rfl ?_
              refine ei_b hb dL_holds_471 (v := (30 : Int32)) (pc' := 473) (by decide) rfl ?_
              by_cases c126 : (30 : Int32) < x124
              · rw [if_pos c126] at h
                refine ei_icT hb dL_holds_473 (pc' := 480) (decide_eq_true c126) (by decide) ?_
                refine ei_c hb dL_holds_480 (v := (0 : Int32)) (pc' := 481) (by decide) rfl ?_
                have h := Option.some.inj h
                subst h
                exact ei_retz hb dL_holds_481 rfl (by decide)
              · rw [if_neg c126] at h
                refine ei_icF hb dL_holds_473 (pc' := 476) (t := 480) (decide_eq_false c126) (by decide) rfl ?_
                refine ei_c hb dL_holds_476 (v := (1 : Int32)) (pc' := 477) (by decide) rfl ?_
                refine ei_go hb dL_holds_477 (pc' := 481) (by decide) ?_
                have h := Option.some.inj h
                subst h
                exact ei_retz hb dL_holds_481 rfl (by decide)
            · rw [if_neg c123] at h
              refine ei_icT hb dL_holds_463 (pc' := 480) (decide_eq_true c123) (by decide) ?_
              refine ei_c hb dL_holds_480 (v := (0 : Int32)) (pc' := 481) (by decide) rfl ?_
              have h := Option.some.inj h
              subst h
              exact ei_retz hb dL_holds_481 rfl (by decide)
          · rw [if_neg c120] at h
            refine ei_icT hb dL_holds_451 (pc' := 480) (decide_eq_true c120) (by decide) ?_
            refine ei_c hb dL_holds_480 (v := (0 : Int32)) (pc' := 481) (by decide) rfl ?_
            have h := Option.some.inj h
            subst h
            exact ei_retz hb dL_holds_481 rfl (by decide)
        · rw [if_neg c117] at h
          refine ei_icT hb dL_holds_441 (pc' := 480) (decide_eq_true c117) (by decide) ?_
          refine ei_c hb dL_holds_480 (v := (0 : Int32)) (pc' := 481) (by decide) rfl ?_
          have h := Option.some.inj h
          subst h
          exact ei_retz hb dL_holds_481 rfl (by decide)
      · rw [if_neg c116] at h
        refine ei_icT hb dL_holds_436 (pc' := 480) (decide_eq_true c116) (by decide) ?_
        refine ei_c hb dL_holds_480 (v := (0 : Int32)) (pc' := 481) (by decide) rfl ?_
        have h := Option.some.inj h
        subst h
        exact ei_retz hb dL_holds_481 rfl (by decide)
    · rw [if_neg c113] at h
      refine ei_icT hb dL_holds_425 (pc' := 480) (decide_eq_true c113) (by decide) ?_
      refine ei_c hb dL_holds_480 (v := (0 : Int32)) (pc' := 481) (by decide) rfl ?_
      have h := Option.some.inj h
      subst h
      exact ei_retz hb dL_holds_481 rfl (by decide)
  · rw [if_neg c110] at h
    refine ei_icT hb dL_holds_416 (pc' := 480) (decide_eq_true c110) (by decide) ?_
    refine ei_c hb dL_holds_480 (v := (0 : Int32)) (pc' := 481) (by decide) rfl ?_
    have h := Option.some.inj h
    subst h
    exact ei_retz hb dL_holds_481 rfl (by decide)
def gL_law_P377 (F : Nat)  (R : Int32 → Int64 → qz_S → Option (Int32 × qz_S)) (y4 : Int32) (l19 : Int64) (T : qz_S) : Option (Int32 × qz_S) :=
  R (y4 + 1) l19 T
def gL_law_P357 (F : Nat)  (R : Int32 → Int64 → qz_S → Option (Int32 × qz_S)) (y4 : Int32) (y5 : Int32) (l19 : Int64) (l30 : Int64) (T : qz_S) : Option (Int32 × qz_S) :=
  if ((y5 >>> ((14 : Int32) &&& 31)) &&& (7 : Int32)) = (1 : Int32) then (Option.bind (gX_keep F T) fun R52 => gL_law_P377 F R y4 l30 R52.2) else (gL_law_P377 F R y4 l19 T)
def gL_law_P340 (F : Nat)  (R : Int32 → Int64 → qz_S → Option (Int32 × qz_S)) (y4 : Int32) (y5 : Int32) (l19 : Int64) (l30 : Int64) (T : qz_S) : Option (Int32 × qz_S) :=
  if (y4 - y4 / (2 : Int32) * (2 : Int32)) = (1 : Int32) then (Option.bind (gL_holds F T.1) fun x48 => if x48 = 0 then (some ((0 : Int32), T)) else (gL_law_P357 F R y4 y5 l19 l30 T)) else (gL_law_P357 F R y4 y5 l19 l30 T)
def gL_law_P271 (F : Nat)  (R : Int32 → Int64 → qz_S → Option (Int32 × qz_S)) (y4 : Int32) (y5 : Int32) (y6 : Int32) (y12 : Int32) (l19 : Int64) (l24 : Int64) (l30 : Int64) (T : qz_S) : Option (Int32 × qz_S) :=
  if y12 < 0 then (gL_law_P340 F R y4 y5 l19 l30 T) else (if ((y5 >>> ((13 : Int32) &&& 31)) &&& (1 : Int32)) = 0 then (Option.bind (gX_count F T.1 (16 : Int32)) fun x55 => Option.bind (gX_undo F T) fun R57 => if R57.1 = (x55 - (1 : Int32)) then (Option.bind (gL_told F R57.2.1) fun z60 => if (lg_cmp z60 l24) = 0 then (Option.bind (gL_act F R57.2 y5 y6) fun R63 => if R63.1 = y12 then (Option.bind (gL_told F R63.2.1) fun z66 => if (lg_cmp z66 l30) = 0 then (gL_law_P340 F R y4 y5 l19 l30 R63.2) else (some ((0 : Int32), R63.2))) else (some ((0 : Int32), R63.2))) else (some ((0 : Int32), R57.2))) else (some ((0 : Int32), R57.2))) else (gL_law_P340 F R y4 y5 l19 l30 T))
def gL_law_P242 (F : Nat)  (R : Int32 → Int64 → qz_S → Option (Int32 × qz_S)) (y4 : Int32) (y5 : Int32) (y6 : Int32) (y12 : Int32) (y15 : Int32) (l19 : Int64) (l24 : Int64) (l30 : Int64) (T : qz_S) : Option (Int32 × qz_S) :=
  if y12 < 0 then (gL_law_P271 F R y4 y5 y6 y12 l19 l24 l30 T) else (if y15 = (8 : Int32) then (if (y6 &&& (1 : Int32)) = (1 : Int32) then (if (lg_cmp l30 l19) = 0 then (gL_law_P271 F R y4 y5 y6 y12 l19 l24 l30 T) else (some ((0 : Int32), T))) else (gL_law_P271 F R y4 y5 y6 y12 l19 l24 l30 T)) else (gL_law_P271 F R y4 y5 y6 y12 l19 l24 l30 T))
def gL_law_P193 (F : Nat)  (R : Int32 → Int64 → qz_S → Option (Int32 × qz_S)) (y4 : Int32) (y5 : Int32) (y6 : Int32) (y10 : Int32) (y11 : Int32) (y12 : Int32) (l19 : Int64) (l24 : Int64) (l30 : Int64) (T : qz_S) : Option (Int32 × qz_S) :=
  if (y5 &&& (15 : Int32)) = (6 : Int32) then (Option.bind (gX_count F T.1 (6 : Int32)) fun x38 => Option.bind (gX_count F T.1 (7 : Int32)) fun x40 => Option.bind (gX_count F T.1 (8 : Int32)) fun x42 => if ((x38 + x40) + x42) = (y10 + y11) then (gL_law_P242 F R y4 y5 y6 y12 (y5 &&& (15 : Int32)) l19 l24 l30 T) else (some ((0 : Int32), T))) else (if (y5 &&& (15 : Int32)) = (7 : Int32) then (Option.bind (gX_count F T.1 (6 : Int32)) fun x73 => Option.bind (gX_count F T.1 (7 : Int32)) fun x75 => Option.bind (gX_count F T.1 (8 : Int32)) fun x77 => if ((x73 + x75) + x77) = (y10 + y11) then (gL_law_P242 F R y4 y5 y6 y12 (y5 &&& (15 : Int32)) l19 l24 l30 T) else (some ((0 : Int32), T))) else (gL_law_P242 F R y4 y5 y6 y12 (y5 &&& (15 : Int32)) l19 l24 l30 T))
def gL_law_L43 (F : Nat)  (K : (Int32 → Int64 → qz_S → Option (Int32 × qz_S))) : Nat → Int32 → Int64 → qz_S → Option (Int32 × qz_S)
  | 0, _, _, _ => none
  | n + 1, y4, l19, T => if (34 : Int32) ≤ y4 then (K y4 l19 T) else (Option.bind (if (2 : Int32) ≤ y4 then (Option.bind (gL_cell F T.1 ((2 : Int32) * y4)) fun x87 => some x87) else (some (0 : Int32))) fun j13 => Option.bind (gL_cell F T.1 (((2 : Int32) * y4) + (1 : Int32))) fun x14 => Option.bind (gL_told F T.1) fun z16 => Option.bind (gX_count F T.1 (16 : Int32)) fun x18 => Option.bind (gX_count F T.1 (6 : Int32)) fun x20 => Option.bind (gX_count F T.1 (7 : Int32)) fun x22 => Option.bind (gX_count F T.1 (8 : Int32)) fun x24 => Option.bind (gX_count F T.1 (1 : Int32)) fun x26 => Option.bind (gL_act F T j13 x14) fun R28 => Option.bind (gL_told F R28.2.1) fun z30 => if 0 ≤ R28.1 then (Option.bind (gX_count F R28.2.1 (16 : Int32)) fun x33 => Option.bind (if (4 : Int32) ≤ x18 then (some (4 : Int32)) else (some (x18 + (1 : Int32)))) fun j35 => if x33 = j35 then (gL_law_P193 F ((gL_law_L43 F K) n) y4 j13 x14 ((x20 + x22) + x24) x26 R28.1 l19 z16 z30 R28.2) else (some ((0 : Int32), R28.2))) else (if (lg_cmp z30 z16) = 0 then (Option.bind (gX_count F R28.2.1 (16 : Int32)) fun x83 => if x83 = x18 then (gL_law_P193 F ((gL_law_L43 F K) n) y4 j13 x14 ((x20 + x22) + x24) x26 R28.1 l19 z16 z30 R28.2) else (some ((0 : Int32), R28.2))) else (some ((0 : Int32), R28.2))))
def gL_law (F : Nat) (S : qz_S)  : Option (Int32 × qz_S) :=
  Option.bind (gX_undo F S) fun R1 => if R1.1 = (-5 : Int32) then (Option.bind (gX_restore F R1.2) fun R4 => if R4.1 = (-5 : Int32) then (Option.bind (gX_keep F R4.2) fun R7 => if R7.1 = 0 then (Option.bind (gL_told F R7.2.1) fun z10 => gL_law_L43 F (fun y490 l1991 T92 => some ((1 : Int32), T92)) F (0 : Int32) z10 R7.2) else (some ((0 : Int32), R7.2))) else (some ((0 : Int32), R4.2))) else (some ((0 : Int32), R1.2))
set_option maxHeartbeats 4000000 in
theorem vL_law_P377 (F : Nat)  (R : Int32 → Int64 → qz_S → Option (Int32 × qz_S)) (hR : ∀ (y4 : Int32) (l19 : Int64) (T : qz_S) (r : Int32 × qz_S), R y4 l19 T = some r → ∀ (d5 : Option qz_V) (d6 : Option qz_V) (d9 : Option qz_V) (d10 : Option qz_V) (d11 : Option qz_V) (d12 : Option qz_V) (d15 : Option qz_V) (d16 : Option qz_V) (d24 : Option qz_V) (d30 : Option qz_V), qz_E 75 43 [some (.inr (.inl (some ((33, 0, 0) : qz_N)))), some (.inr (.inl (some ((5, 0, 0) : qz_N)))), none, none, some (.inl y4), d5, d6, none, none, d9, d10, d11, d12, none, none, d15, d16, none, none, some (.inr (.inr l19)), none, none, none, none, d24, none, none, none, none, none, d30, none, none, none] [] (qz_mk T.1 T.2) (some (.inl r.1)) (qz_mk r.2.1 r.2.2)) (y4 : Int32) (l19 : Int64) (T : qz_S) (r : Int32 × qz_S) (h : gL_law_P377 F R y4 l19 T = some r) : ∀ (d5 : Option qz_V) (d6 : Option qz_V) (d9 : Option qz_V) (d10 : Option qz_V) (d11 : Option qz_V) (d12 : Option qz_V) (d15 : Option qz_V) (d16 : Option qz_V) (d24 : Option qz_V) (d30 : Option qz_V), qz_E 75 377 [some (.inr (.inl (some ((33, 0, 0) : qz_N)))), some (.inr (.inl (some ((5, 0, 0) : qz_N)))), none, none, some (.inl y4), d5, d6, none, none, d9, d10, d11, d12, none, none, d15, d16, none, none, some (.inr (.inr l19)), none, none, none, none, d24, none, none, none, none, none, d30, none, none, none] [] (qz_mk T.1 T.2) (some (.inl r.1)) (qz_mk r.2.1 r.2.2) := by
  have hb : qz_b 75 = cL_law := rfl
  have hcn : qz_cn 75 = 8 := rfl
  have hml : qz_ml 75 = 17 := rfl
  intro d5 d6 d9 d10 d11 d12 d15 d16 d24 d30
  rw [gL_law_P377] at h
  refine ei_inc hb dL_law_377 (v := (y4 + 1)) (pc' := 380) (ls' := [some (.inr (.inl (some ((33, 0, 0) : qz_N)))), some (.inr (.inl (some ((5, 0, 0) : qz_N)))), none, none, some (.inl (y4 + 1)), d5, d6, none, none, d9, d10, d11, d12, none, none, d15, d16, none, none, some (.inr (.inr l19)), none, none, none, none, d24, none, none, none, none, none, d30, none, none, none]) rfl hml (Nat.le_of_ble_eq_true rfl) rfl rfl rfl rfl ?_
  refine ei_go hb dL_law_380 (pc' := 43) (by decide) ?_
  exact hR (y4 + 1) l19 T _ h _ _ _ _ _ _ _ _ _ _
set_option maxHeartbeats 4000000 in
theorem vL_law_P357 (F : Nat)  (R : Int32 → Int64 → qz_S → Option (Int32 × qz_S)) (hR : ∀ (y4 : Int32) (l19 : Int64) (T : qz_S) (r : Int32 × qz_S), R y4 l19 T = some r → ∀ (d5 : Option qz_V) (d6 : Option qz_V) (d9 : Option qz_V) (d10 : Option qz_V) (d11 : Option qz_V) (d12 : Option qz_V) (d15 : Option qz_V) (d16 : Option qz_V) (d24 : Option qz_V) (d30 : Option qz_V), qz_E 75 43 [some (.inr (.inl (some ((33, 0, 0) : qz_N)))), some (.inr (.inl (some ((5, 0, 0) : qz_N)))), none, none, some (.inl y4), d5, d6, none, none, d9, d10, d11, d12, none, none, d15, d16, none, none, some (.inr (.inr l19)), none, none, none, none, d24, none, none, none, none, none, d30, none, none, none] [] (qz_mk T.1 T.2) (some (.inl r.1)) (qz_mk r.2.1 r.2.2)) (y4 : Int32) (y5 : Int32) (l19 : Int64) (l30 : Int64) (T : qz_S) (r : Int32 × qz_S) (h : gL_law_P357 F R y4 y5 l19 l30 T = some r) : ∀ (d6 : Option qz_V) (d9 : Option qz_V) (d10 : Option qz_V) (d11 : Option qz_V) (d12 : Option qz_V) (d15 : Option qz_V) (d16 : Option qz_V) (d24 : Option qz_V), qz_E 75 357 [some (.inr (.inl (some ((33, 0, 0) : qz_N)))), some (.inr (.inl (some ((5, 0, 0) : qz_N)))), none, none, some (.inl y4), some (.inl y5), d6, none, none, d9, d10, d11, d12, none, none, d15, d16, none, none, some (.inr (.inr l19)), none, none, none, none, d24, none, none, none, none, none, some (.inr (.inr l30)), none, none, none] [] (qz_mk T.1 T.2) (some (.inl r.1)) (qz_mk r.2.1 r.2.2) := by
  have hb : qz_b 75 = cL_law := rfl
  have hcn : qz_cn 75 = 8 := rfl
  have hml : qz_ml 75 = 17 := rfl
  intro d6 d9 d10 d11 d12 d15 d16 d24
  rw [gL_law_P357] at h
  refine ei_il hb dL_law_357 (pc' := 359) rfl rfl ?_
  refine ei_b hb dL_law_359 (v := (14 : Int32)) (pc' := 361) (by decide) rfl ?_
  refine ei_shr hb dL_law_361 (pc' := 362) rfl ?_
  refine ei_b hb dL_law_362 (v := (7 : Int32)) (pc' := 364) (by decide) rfl ?_
  refine ei_and hb dL_law_364 (pc' := 365) rfl ?_
  refine ei_c hb dL_law_365 (v := (1 : Int32)) (pc' := 366) (by decide) rfl ?_
  by_cases c51 : ((y5 >>> ((14 : Int32) &&& 31)) &&& (7 : Int32)) = (1 : Int32)
  · rw [if_pos c51] at h
    refine ei_icF hb dL_law_366 (pc' := 369) (t := 377) (decide_eq_false (fun q => q c51)) (by decide) rfl ?_
    refine ei_aln hb dL_law_369 (pc' := 370) rfl rfl ?_
    obtain ⟨R52, e53, h⟩ := Option.bind_eq_some_iff.mp h
    refine ei_cv hb dL_law_370 (pc' := 373) (M1 := (qz_mk R52.2.1 R52.2.2)) (as := []) (rest := []) (st' := [.inl R52.1]) hcn qz_c_8_69 qz_k_59 (qz_q_75_59) (Nat.le_of_ble_eq_true rfl) (Nat.le_of_ble_eq_true rfl) rfl rfl rfl rfl (vX_keep F T _ e53) rfl rfl ?_
    refine ei_pop hb dL_law_373 (pc' := 374) rfl rfl ?_
    refine ei_ll hb dL_law_374 (pc' := 376) hml rfl rfl ?_
    refine ei_lsn hb dL_law_376 (pc' := 377) (ls' := [some (.inr (.inl (some ((33, 0, 0) : qz_N)))), some (.inr (.inl (some ((5, 0, 0) : qz_N)))), none, none, some (.inl y4), some (.inl y5), d6, none, none, d9, d10, d11, d12, none, none, d15, d16, none, none, some (.inr (.inr l30)), none, none, none, none, d24, none, none, none, none, none, some (.inr (.inr l30)), none, none, none]) hml (Nat.le_of_ble_eq_true rfl) (Nat.le_of_ble_eq_true rfl) rfl rfl rfl rfl ?_
    exact vL_law_P377 F R hR y4 l30 R52.2 _ h _ _ _ _ _ _ _ _ _ _
  · rw [if_neg c51] at h
    refine ei_icT hb dL_law_366 (pc' := 377) (decide_eq_true c51) (by decide) ?_
    exact vL_law_P377 F R hR y4 l19 T _ h _ _ _ _ _ _ _ _ _ _
set_option maxHeartbeats 4000000 in
theorem vL_law_P340 (F : Nat)  (R : Int32 → Int64 → qz_S → Option (Int32 × qz_S)) (hR : ∀ (y4 : Int32) (l19 : Int64) (T : qz_S) (r : Int32 × qz_S), R y4 l19 T = some r → ∀ (d5 : Option qz_V) (d6 : Option qz_V) (d9 : Option qz_V) (d10 : Option qz_V) (d11 : Option qz_V) (d12 : Option qz_V) (d15 : Option qz_V) (d16 : Option qz_V) (d24 : Option qz_V) (d30 : Option qz_V), qz_E 75 43 [some (.inr (.inl (some ((33, 0, 0) : qz_N)))), some (.inr (.inl (some ((5, 0, 0) : qz_N)))), none, none, some (.inl y4), d5, d6, none, none, d9, d10, d11, d12, none, none, d15, d16, none, none, some (.inr (.inr l19)), none, none, none, none, d24, none, none, none, none, none, d30, none, none, none] [] (qz_mk T.1 T.2) (some (.inl r.1)) (qz_mk r.2.1 r.2.2)) (y4 : Int32) (y5 : Int32) (l19 : Int64) (l30 : Int64) (T : qz_S) (r : Int32 × qz_S) (h : gL_law_P340 F R y4 y5 l19 l30 T = some r) : ∀ (d6 : Option qz_V) (d9 : Option qz_V) (d10 : Option qz_V) (d11 : Option qz_V) (d12 : Option qz_V) (d15 : Option qz_V) (d16 : Option qz_V) (d24 : Option qz_V), qz_E 75 340 [some (.inr (.inl (some ((33, 0, 0) : qz_N)))), some (.inr (.inl (some ((5, 0, 0) : qz_N)))), none, none, some (.inl y4), some (.inl y5), d6, none, none, d9, d10, d11, d12, none, none, d15, d16, none, none, some (.inr (.inr l19)), none, none, none, none, d24, none, none, none, none, none, some (.inr (.inr l30)), none, none, none] [] (qz_mk T.1 T.2) (some (.inl r.1)) (qz_mk r.2.1 r.2.2) := by
  have hb : qz_b 75 = cL_law := rfl
  have hcn : qz_cn 75 = 8 := rfl
  have hml : qz_ml 75 = 17 := rfl
  intro d6 d9 d10 d11 d12 d15 d16 d24
  rw [gL_law_P340] at h
  refine ei_il hb dL_law_340 (pc' := 342) rfl rfl ?_
  refine ei_c hb dL_law_342 (v := (2 : Int32)) (pc' := 343) (by decide) rfl ?_
  refine ei_rem hb dL_law_343 (pc' := 344) (by decide) rfl ?_
  refine ei_c hb dL_law_344 (v := (1 : Int32)) (pc' := 345) (by decide) rfl ?_
  by_cases c47 : (y4 - y4 / (2 : Int32) * (2 : Int32)) = (1 : Int32)
  · rw [if_pos c47] at h
    refine ei_icF hb dL_law_345 (pc' := 348) (t := 357) (decide_eq_false (fun q => q c47)) (by decide) rfl ?_
    refine ei_aln hb dL_law_348 (pc' := 349) rfl rfl ?_
    obtain ⟨x48, e49, h⟩ := Option.bind_eq_some_iff.mp h
    refine ei_cs hb dL_law_349 (pc' := 352) (M1 := (qz_mk T.1 T.2)) (as := [.inr (.inl (some ((5, 0, 0) : qz_N)))]) (rest := []) (st' := [.inl x48]) hcn qz_c_8_84 rfl qz_k_74 (qz_q_75_74) (Nat.le_of_ble_eq_true rfl) (Nat.le_of_ble_eq_true rfl) rfl rfl rfl (vL_holds F T.1 T.2 _ e49) rfl rfl ?_
    by_cases c50 : x48 = 0
    · rw [if_pos c50] at h
      refine ei_ifF hb dL_law_352 (pc' := 355) (t := 357) (decide_eq_false (fun q => q c50)) (by decide) rfl ?_
      refine ei_c hb dL_law_355 (v := (0 : Int32)) (pc' := 356) (by decide) rfl ?_
      have h := Option.some.inj h
      subst h
      exact ei_retz hb dL_law_356 rfl (by decide)
    · rw [if_neg c50] at h
      refine ei_ifT hb dL_law_352 (pc' := 357) (decide_eq_true c50) (by decide) ?_
      exact vL_law_P357 F R hR y4 y5 l19 l30 T _ h _ _ _ _ _ _ _ _
  · rw [if_neg c47] at h
    refine ei_icT hb dL_law_345 (pc' := 357) (decide_eq_true c47) (by decide) ?_
    exact vL_law_P357 F R hR y4 y5 l19 l30 T _ h _ _ _ _ _ _ _ _
set_option maxHeartbeats 4000000 in
theorem vL_law_P271 (F : Nat)  (R : Int32 → Int64 → qz_S → Option (Int32 × qz_S)) (hR : ∀ (y4 : Int32) (l19 : Int64) (T : qz_S) (r : Int32 × qz_S), R y4 l19 T = some r → ∀ (d5 : Option qz_V) (d6 : Option qz_V) (d9 : Option qz_V) (d10 : Option qz_V) (d11 : Option qz_V) (d12 : Option qz_V) (d15 : Option qz_V) (d16 : Option qz_V) (d24 : Option qz_V) (d30 : Option qz_V), qz_E 75 43 [some (.inr (.inl (some ((33, 0, 0) : qz_N)))), some (.inr (.inl (some ((5, 0, 0) : qz_N)))), none, none, some (.inl y4), d5, d6, none, none, d9, d10, d11, d12, none, none, d15, d16, none, none, some (.inr (.inr l19)), none, none, none, none, d24, none, none, none, none, none, d30, none, none, none] [] (qz_mk T.1 T.2) (some (.inl r.1)) (qz_mk r.2.1 r.2.2)) (y4 : Int32) (y5 : Int32) (y6 : Int32) (y12 : Int32) (l19 : Int64) (l24 : Int64) (l30 : Int64) (T : qz_S) (r : Int32 × qz_S) (h : gL_law_P271 F R y4 y5 y6 y12 l19 l24 l30 T = some r) : ∀ (d9 : Option qz_V) (d10 : Option qz_V) (d11 : Option qz_V) (d15 : Option qz_V) (d16 : Option qz_V), qz_E 75 271 [some (.inr (.inl (some ((33, 0, 0) : qz_N)))), some (.inr (.inl (some ((5, 0, 0) : qz_N)))), none, none, some (.inl y4), some (.inl y5), some (.inl y6), none, none, d9, d10, d11, some (.inl y12), none, none, d15, d16, none, none, some (.inr (.inr l19)), none, none, none, none, some (.inr (.inr l24)), none, none, none, none, none, some (.inr (.inr l30)), none, none, none] [] (qz_mk T.1 T.2) (some (.inl r.1)) (qz_mk r.2.1 r.2.2) := by
  have hb : qz_b 75 = cL_law := rfl
  have hcn : qz_cn 75 = 8 := rfl
  have hml : qz_ml 75 = 17 := rfl
  intro d9 d10 d11 d15 d16
  rw [gL_law_P271] at h
  refine ei_il hb dL_law_271 (pc' := 273) rfl rfl ?_
  by_cases c46 : y12 < 0
  · rw [if_pos c46] at h
    refine ei_ifT hb dL_law_273 (pc' := 340) (decide_eq_true c46) (by decide) ?_
    exact vL_law_P340 F R hR y4 y5 l19 l30 T _ h _ _ _ _ _ _ _ _
  · rw [if_neg c46] at h
    refine ei_ifF hb dL_law_273 (pc' := 276) (t := 340) (decide_eq_false c46) (by decide) rfl ?_
    refine ei_il hb dL_law_276 (pc' := 278) rfl rfl ?_
    refine ei_b hb dL_law_278 (v := (13 : Int32)) (pc' := 280) (by decide) rfl ?_
    refine ei_shr hb dL_law_280 (pc' := 281) rfl ?_
    refine ei_c hb dL_law_281 (v := (1 : Int32)) (pc' := 282) (by decide) rfl ?_
    refine ei_and hb dL_law_282 (pc' := 283) rfl ?_
    by_cases c54 : ((y5 >>> ((13 : Int32) &&& 31)) &&& (1 : Int32)) = 0
    · rw [if_pos c54] at h
      refine ei_ifF hb dL_law_283 (pc' := 286) (t := 340) (decide_eq_false (fun q => q c54)) (by decide) rfl ?_
      refine ei_aln hb dL_law_286 (pc' := 287) rfl rfl ?_
      refine ei_b hb dL_law_287 (v := (16 : Int32)) (pc' := 289) (by decide) rfl ?_
      obtain ⟨x55, e56, h⟩ := Option.bind_eq_some_iff.mp h
      refine ei_cv hb dL_law_289 (pc' := 292) (M1 := (qz_mk T.1 T.2)) (as := [.inl (16 : Int32)]) (rest := []) (st' := [.inl x55]) hcn qz_c_8_12 qz_k_65 (qz_q_75_65) (Nat.le_of_ble_eq_true rfl) (Nat.le_of_ble_eq_true rfl) rfl rfl rfl rfl (vX_count F T.1 T.2 (16 : Int32) _ e56) rfl rfl ?_
      refine ei_c hb dL_law_292 (v := (1 : Int32)) (pc' := 293) (by decide) rfl ?_
      refine ei_sub hb dL_law_293 (pc' := 294) rfl ?_
      refine ei_is hb dL_law_294 (pc' := 296) (ls' := [some (.inr (.inl (some ((33, 0, 0) : qz_N)))), some (.inr (.inl (some ((5, 0, 0) : qz_N)))), none, none, some (.inl y4), some (.inl y5), some (.inl y6), none, none, d9, d10, d11, some (.inl y12), none, none, d15, some (.inl (x55 - (1 : Int32))), none, none, some (.inr (.inr l19)), none, none, none, none, some (.inr (.inr l24)), none, none, none, none, none, some (.inr (.inr l30)), none, none, none]) hml (Nat.le_of_ble_eq_true rfl) rfl rfl rfl ?_
      refine ei_aln hb dL_law_296 (pc' := 297) rfl rfl ?_
      obtain ⟨R57, e58, h⟩ := Option.bind_eq_some_iff.mp h
      refine ei_cv hb dL_law_297 (pc' := 300) (M1 := (qz_mk R57.2.1 R57.2.2)) (as := []) (rest := []) (st' := [.inl R57.1]) hcn qz_c_8_66 qz_k_58 (qz_q_75_58) (Nat.le_of_ble_eq_true rfl) (Nat.le_of_ble_eq_true rfl) rfl rfl rfl rfl (vX_undo F T _ e58) rfl rfl ?_
      refine ei_il hb dL_law_300 (pc' := 302) rfl rfl ?_
      by_cases c59 : R57.1 = (x55 - (1 : Int32))
      · rw [if_pos c59] at h
        refine ei_icF hb dL_law_302 (pc' := 305) (t := 338) (decide_eq_false (fun q => q c59)) (by decide) rfl ?_
        refine ei_aln hb dL_law_305 (pc' := 306) rfl rfl ?_
        obtain ⟨z60, e61, h⟩ := Option.bind_eq_some_iff.mp h
        refine ei_cs hb dL_law_306 (pc' := 309) (M1 := (qz_mk R57.2.1 R57.2.2)) (as := [.inr (.inl (some ((5, 0, 0) : qz_N)))]) (rest := []) (st' := [.inr (.inr z60)]) hcn qz_c_8_72 rfl qz_k_72 (qz_q_75_72) (Nat.le_of_ble_eq_true rfl) (Nat.le_of_ble_eq_true rfl) rfl rfl rfl (vL_told F R57.2.1 R57.2.2 _ e61) rfl rfl ?_
        refine ei_ll hb dL_law_309 (pc' := 311) hml rfl rfl ?_
        refine ei_lcmp hb dL_law_311 (pc' := 312) rfl ?_
        by_cases c62 : (lg_cmp z60 l24) = 0
        · rw [if_pos c62] at h
          refine ei_ifF hb dL_law_312 (pc' := 315) (t := 338) (decide_eq_false (fun q => q c62)) (by decide) rfl ?_
          refine ei_aln hb dL_law_315 (pc' := 316) rfl rfl ?_
          refine ei_il hb dL_law_316 (pc' := 318) rfl rfl ?_
          refine ei_il hb dL_law_318 (pc' := 320) rfl rfl ?_
          obtain ⟨R63, e64, h⟩ := Option.bind_eq_some_iff.mp h
          refine ei_cs hb dL_law_320 (pc' := 323) (M1 := (qz_mk R63.2.1 R63.2.2)) (as := [.inr (.inl (some ((5, 0, 0) : qz_N))), .inl y5, .inl y6]) (rest := []) (st' := [.inl R63.1]) hcn qz_c_8_80 rfl qz_k_73 (qz_q_75_73) (Nat.le_of_ble_eq_true rfl) (Nat.le_of_ble_eq_true rfl) rfl rfl rfl (vL_act F R57.2 y5 y6 _ e64) rfl rfl ?_
          refine ei_il hb dL_law_323 (pc' := 325) rfl rfl ?_
          by_cases c65 : R63.1 = y12
          · rw [if_pos c65] at h
            refine ei_icF hb dL_law_325 (pc' := 328) (t := 338) (decide_eq_false (fun q => q c65)) (by decide) rfl ?_
            refine ei_aln hb dL_law_328 (pc' := 329) rfl rfl ?_
            obtain ⟨z66, e67, h⟩ := Option.bind_eq_some_iff.mp h
            refine ei_cs hb dL_law_329 (pc' := 332) (M1 := (qz_mk R63.2.1 R63.2.2)) (as := [.inr (.inl (some ((5, 0, 0) : qz_N)))]) (rest := []) (st' := [.inr (.inr z66)]) hcn qz_c_8_72 rfl qz_k_72 (qz_q_75_72) (Nat.le_of_ble_eq_true rfl) (Nat.le_of_ble_eq_true rfl) rfl rfl rfl (vL_told F R63.2.1 R63.2.2 _ e67) rfl rfl ?_
            refine ei_ll hb dL_law_332 (pc' := 334) hml rfl rfl ?_
            refine ei_lcmp hb dL_law_334 (pc' := 335) rfl ?_
            by_cases c68 : (lg_cmp z66 l30) = 0
            · rw [if_pos c68] at h
              refine ei_ifT hb dL_law_335 (pc' := 340) (decide_eq_true c68) (by decide) ?_
              exact vL_law_P340 F R hR y4 y5 l19 l30 R63.2 _ h _ _ _ _ _ _ _ _
            · rw [if_neg c68] at h
              refine ei_ifF hb dL_law_335 (pc' := 338) (t := 340) (decide_eq_false c68) (by decide) rfl ?_
              refine ei_c hb dL_law_338 (v := (0 : Int32)) (pc' := 339) (by decide) rfl ?_
              have h := Option.some.inj h
              subst h
              exact ei_retz hb dL_law_339 rfl (by decide)
          · rw [if_neg c65] at h
            refine ei_icT hb dL_law_325 (pc' := 338) (decide_eq_true c65) (by decide) ?_
            refine ei_c hb dL_law_338 (v := (0 : Int32)) (pc' := 339) (by decide) rfl ?_
            have h := Option.some.inj h
            subst h
            exact ei_retz hb dL_law_339 rfl (by decide)
        · rw [if_neg c62] at h
          refine ei_ifT hb dL_law_312 (pc' := 338) (decide_eq_true c62) (by decide) ?_
          refine ei_c hb dL_law_338 (v := (0 : Int32)) (pc' := 339) (by decide) rfl ?_
          have h := Option.some.inj h
          subst h
          exact ei_retz hb dL_law_339 rfl (by decide)
      · rw [if_neg c59] at h
        refine ei_icT hb dL_law_302 (pc' := 338) (decide_eq_true c59) (by decide) ?_
        refine ei_c hb dL_law_338 (v := (0 : Int32)) (pc' := 339) (by decide) rfl ?_
        have h := Option.some.inj h
        subst h
        exact ei_retz hb dL_law_339 rfl (by decide)
    · rw [if_neg c54] at h
      refine ei_ifT hb dL_law_283 (pc' := 340) (decide_eq_true c54) (by decide) ?_
      exact vL_law_P340 F R hR y4 y5 l19 l30 T _ h _ _ _ _ _ _ _ _
set_option maxHeartbeats 4000000 in
theorem vL_law_P242 (F : Nat)  (R : Int32 → Int64 → qz_S → Option (Int32 × qz_S)) (hR : ∀ (y4 : Int32) (l19 : Int64) (T : qz_S) (r : Int32 × qz_S), R y4 l19 T = some r → ∀ (d5 : Option qz_V) (d6 : Option qz_V) (d9 : Option qz_V) (d10 : Option qz_V) (d11 : Option qz_V) (d12 : Option qz_V) (d15 : Option qz_V) (d16 : Option qz_V) (d24 : Option qz_V) (d30 : Option qz_V), qz_E 75 43 [some (.inr (.inl (some ((33, 0, 0) : qz_N)))), some (.inr (.inl (some ((5, 0, 0) : qz_N)))), none, none, some (.inl y4), d5, d6, none, none, d9, d10, d11, d12, none, none, d15, d16, none, none, some (.inr (.inr l19)), none, none, none, none, d24, none, none, none, none, none, d30, none, none, none] [] (qz_mk T.1 T.2) (some (.inl r.1)) (qz_mk r.2.1 r.2.2)) (y4 : Int32) (y5 : Int32) (y6 : Int32) (y12 : Int32) (y15 : Int32) (l19 : Int64) (l24 : Int64) (l30 : Int64) (T : qz_S) (r : Int32 × qz_S) (h : gL_law_P242 F R y4 y5 y6 y12 y15 l19 l24 l30 T = some r) : ∀ (d9 : Option qz_V) (d10 : Option qz_V) (d11 : Option qz_V) (d16 : Option qz_V), qz_E 75 242 [some (.inr (.inl (some ((33, 0, 0) : qz_N)))), some (.inr (.inl (some ((5, 0, 0) : qz_N)))), none, none, some (.inl y4), some (.inl y5), some (.inl y6), none, none, d9, d10, d11, some (.inl y12), none, none, some (.inl y15), d16, none, none, some (.inr (.inr l19)), none, none, none, none, some (.inr (.inr l24)), none, none, none, none, none, some (.inr (.inr l30)), none, none, none] [] (qz_mk T.1 T.2) (some (.inl r.1)) (qz_mk r.2.1 r.2.2) := by
  have hb : qz_b 75 = cL_law := rfl
  have hcn : qz_cn 75 = 8 := rfl
  have hml : qz_ml 75 = 17 := rfl
  intro d9 d10 d11 d16
  rw [gL_law_P242] at h
  refine ei_il hb dL_law_242 (pc' := 244) rfl rfl ?_
  by_cases c45 : y12 < 0
  · rw [if_pos c45] at h
    refine ei_ifT hb dL_law_244 (pc' := 271) (decide_eq_true c45) (by decide) ?_
    exact vL_law_P271 F R hR y4 y5 y6 y12 l19 l24 l30 T _ h _ _ _ _ _
  · rw [if_neg c45] at h
    refine ei_ifF hb dL_law_244 (pc' := 247) (t := 271) (decide_eq_false c45) (by decide) rfl ?_
    refine ei_il hb dL_law_247 (pc' := 249) rfl rfl ?_
    refine ei_b hb dL_law_249 (v := (8 : Int32)) (pc' := 251) (by decide) rfl ?_
    by_cases c69 : y15 = (8 : Int32)
    · rw [if_pos c69] at h
      refine ei_icF hb dL_law_251 (pc' := 254) (t := 271) (decide_eq_false (fun q => q c69)) (by decide) rfl ?_
      refine ei_il hb dL_law_254 (pc' := 256) rfl rfl ?_
      refine ei_c hb dL_law_256 (v := (1 : Int32)) (pc' := 257) (by decide) rfl ?_
      refine ei_and hb dL_law_257 (pc' := 258) rfl ?_
      refine ei_c hb dL_law_258 (v := (1 : Int32)) (pc' := 259) (by decide) rfl ?_
      by_cases c70 : (y6 &&& (1 : Int32)) = (1 : Int32)
      · rw [if_pos c70] at h
        refine ei_icF hb dL_law_259 (pc' := 262) (t := 271) (decide_eq_false (fun q => q c70)) (by decide) rfl ?_
        refine ei_ll hb dL_law_262 (pc' := 264) hml rfl rfl ?_
        refine ei_lln hb dL_law_264 (pc' := 265) hml rfl rfl ?_
        refine ei_lcmp hb dL_law_265 (pc' := 266) rfl ?_
        by_cases c71 : (lg_cmp l30 l19) = 0
        · rw [if_pos c71] at h
          refine ei_ifT hb dL_law_266 (pc' := 271) (decide_eq_true c71) (by decide) ?_
          exact vL_law_P271 F R hR y4 y5 y6 y12 l19 l24 l30 T _ h _ _ _ _ _
        · rw [if_neg c71] at h
          refine ei_ifF hb dL_law_266 (pc' := 269) (t := 271) (decide_eq_false c71) (by decide) rfl ?_
          refine ei_c hb dL_law_269 (v := (0 : Int32)) (pc' := 270) (by decide) rfl ?_
          have h := Option.some.inj h
          subst h
          exact ei_retz hb dL_law_270 rfl (by decide)
      · rw [if_neg c70] at h
        refine ei_icT hb dL_law_259 (pc' := 271) (decide_eq_true c70) (by decide) ?_
        exact vL_law_P271 F R hR y4 y5 y6 y12 l19 l24 l30 T _ h _ _ _ _ _
    · rw [if_neg c69] at h
      refine ei_icT hb dL_law_251 (pc' := 271) (decide_eq_true c69) (by decide) ?_
      exact vL_law_P271 F R hR y4 y5 y6 y12 l19 l24 l30 T _ h _ _ _ _ _
set_option maxHeartbeats 4000000 in
theorem vL_law_P193 (F : Nat)  (R : Int32 → Int64 → qz_S → Option (Int32 × qz_S)) (hR : ∀ (y4 : Int32) (l19 : Int64) (T : qz_S) (r : Int32 × qz_S), R y4 l19 T = some r → ∀ (d5 : Option qz_V) (d6 : Option qz_V) (d9 : Option qz_V) (d10 : Option qz_V) (d11 : Option qz_V) (d12 : Option qz_V) (d15 : Option qz_V) (d16 : Option qz_V) (d24 : Option qz_V) (d30 : Option qz_V), qz_E 75 43 [some (.inr (.inl (some ((33, 0, 0) : qz_N)))), some (.inr (.inl (some ((5, 0, 0) : qz_N)))), none, none, some (.inl y4), d5, d6, none, none, d9, d10, d11, d12, none, none, d15, d16, none, none, some (.inr (.inr l19)), none, none, none, none, d24, none, none, none, none, none, d30, none, none, none] [] (qz_mk T.1 T.2) (some (.inl r.1)) (qz_mk r.2.1 r.2.2)) (y4 : Int32) (y5 : Int32) (y6 : Int32) (y10 : Int32) (y11 : Int32) (y12 : Int32) (l19 : Int64) (l24 : Int64) (l30 : Int64) (T : qz_S) (r : Int32 × qz_S) (h : gL_law_P193 F R y4 y5 y6 y10 y11 y12 l19 l24 l30 T = some r) : ∀ (d9 : Option qz_V) (d15 : Option qz_V) (d16 : Option qz_V), qz_E 75 193 [some (.inr (.inl (some ((33, 0, 0) : qz_N)))), some (.inr (.inl (some ((5, 0, 0) : qz_N)))), none, none, some (.inl y4), some (.inl y5), some (.inl y6), none, none, d9, some (.inl y10), some (.inl y11), some (.inl y12), none, none, d15, d16, none, none, some (.inr (.inr l19)), none, none, none, none, some (.inr (.inr l24)), none, none, none, none, none, some (.inr (.inr l30)), none, none, none] [] (qz_mk T.1 T.2) (some (.inl r.1)) (qz_mk r.2.1 r.2.2) := by
  have hb : qz_b 75 = cL_law := rfl
  have hcn : qz_cn 75 = 8 := rfl
  have hml : qz_ml 75 = 17 := rfl
  intro d9 d15 d16
  rw [gL_law_P193] at h
  refine ei_il hb dL_law_193 (pc' := 195) rfl rfl ?_
  refine ei_b hb dL_law_195 (v := (15 : Int32)) (pc' := 197) (by decide) rfl ?_
  refine ei_and hb dL_law_197 (pc' := 198) rfl ?_
  refine ei_is hb dL_law_198 (pc' := 200) (ls' := [some (.inr (.inl (some ((33, 0, 0) : qz_N)))), some (.inr (.inl (some ((5, 0, 0) : qz_N)))), none, none, some (.inl y4), some (.inl y5), some (.inl y6), none, none, d9, some (.inl y10), some (.inl y11), some (.inl y12), none, none, some (.inl (y5 &&& (15 : Int32))), d16, none, none, some (.inr (.inr l19)), none, none, none, none, some (.inr (.inr l24)), none, none, none, none, none, some (.inr (.inr l30)), none, none, none]) hml (Nat.le_of_ble_eq_true rfl) rfl rfl rfl ?_
  refine ei_il hb dL_law_200 (pc' := 202) rfl rfl ?_
  refine ei_b hb dL_law_202 (v := (6 : Int32)) (pc' := 204) (by decide) rfl ?_
  by_cases c37 : (y5 &&& (15 : Int32)) = (6 : Int32)
  · rw [if_pos c37] at h
    refine ei_icT hb dL_law_204 (pc' := 214) (decide_eq_true c37) (by decide) ?_
    refine ei_aln hb dL_law_214 (pc' := 215) rfl rfl ?_
    refine ei_b hb dL_law_215 (v := (6 : Int32)) (pc' := 217) (by decide) rfl ?_
    obtain ⟨x38, e39, h⟩ := Option.bind_eq_some_iff.mp h
    refine ei_cv hb dL_law_217 (pc' := 220) (M1 := (qz_mk T.1 T.2)) (as := [.inl (6 : Int32)]) (rest := []) (st' := [.inl x38]) hcn qz_c_8_12 qz_k_65 (qz_q_75_65) (Nat.le_of_ble_eq_true rfl) (Nat.le_of_ble_eq_true rfl) rfl rfl rfl rfl (vX_count F T.1 T.2 (6 : Int32) _ e39) rfl rfl ?_
    refine ei_aln hb dL_law_220 (pc' := 221) rfl rfl ?_
    refine ei_b hb dL_law_221 (v := (7 : Int32)) (pc' := 223) (by decide) rfl ?_
    obtain ⟨x40, e41, h⟩ := Option.bind_eq_some_iff.mp h
    refine ei_cv hb dL_law_223 (pc' := 226) (M1 := (qz_mk T.1 T.2)) (as := [.inl (7 : Int32)]) (rest := [.inl x38]) (st' := [.inl x40, .inl x38]) hcn qz_c_8_12 qz_k_65 (qz_q_75_65) (Nat.le_of_ble_eq_true rfl) (Nat.le_of_ble_eq_true rfl) rfl rfl rfl rfl (vX_count F T.1 T.2 (7 : Int32) _ e41) rfl rfl ?_
    refine ei_add hb dL_law_226 (pc' := 227) rfl ?_
    refine ei_aln hb dL_law_227 (pc' := 228) rfl rfl ?_
    refine ei_b hb dL_law_228 (v := (8 : Int32)) (pc' := 230) (by decide) rfl ?_
    obtain ⟨x42, e43, h⟩ := Option.bind_eq_some_iff.mp h
    refine ei_cv hb dL_law_230 (pc' := 233) (M1 := (qz_mk T.1 T.2)) (as := [.inl (8 : Int32)]) (rest := [.inl (x38 + x40)]) (st' := [.inl x42, .inl (x38 + x40)]) hcn qz_c_8_12 qz_k_65 (qz_q_75_65) (Nat.le_of_ble_eq_true rfl) (Nat.le_of_ble_eq_true rfl) rfl rfl rfl rfl (vX_count F T.1 T.2 (8 : Int32) _ e43) rfl rfl ?_
    refine ei_add hb dL_law_233 (pc' := 234) rfl ?_
    refine ei_il hb dL_law_234 (pc' := 236) rfl rfl ?_
    refine ei_il hb dL_law_236 (pc' := 238) rfl rfl ?_
    refine ei_add hb dL_law_238 (pc' := 239) rfl ?_
    by_cases c44 : ((x38 + x40) + x42) = (y10 + y11)
    · rw [if_pos c44] at h
      refine ei_icF hb dL_law_239 (pc' := 242) (t := 269) (decide_eq_false (fun q => q c44)) (by decide) rfl ?_
      exact vL_law_P242 F R hR y4 y5 y6 y12 (y5 &&& (15 : Int32)) l19 l24 l30 T _ h _ _ _ _
    · rw [if_neg c44] at h
      refine ei_icT hb dL_law_239 (pc' := 269) (decide_eq_true c44) (by decide) ?_
      refine ei_c hb dL_law_269 (v := (0 : Int32)) (pc' := 270) (by decide) rfl ?_
      have h := Option.some.inj h
      subst h
      exact ei_retz hb dL_law_270 rfl (by decide)
  · rw [if_neg c37] at h
    refine ei_icF hb dL_law_204 (pc' := 207) (t := 214) (decide_eq_false c37) (by decide) rfl ?_
    refine ei_il hb dL_law_207 (pc' := 209) rfl rfl ?_
    refine ei_b hb dL_law_209 (v := (7 : Int32)) (pc' := 211) (by decide) rfl ?_
    by_cases c72 : (y5 &&& (15 : Int32)) = (7 : Int32)
    · rw [if_pos c72] at h
      refine ei_icF hb dL_law_211 (pc' := 214) (t := 242) (decide_eq_false (fun q => q c72)) (by decide) rfl ?_
      refine ei_aln hb dL_law_214 (pc' := 215) rfl rfl ?_
      refine ei_b hb dL_law_215 (v := (6 : Int32)) (pc' := 217) (by decide) rfl ?_
      obtain ⟨x73, e74, h⟩ := Option.bind_eq_some_iff.mp h
      refine ei_cv hb dL_law_217 (pc' := 220) (M1 := (qz_mk T.1 T.2)) (as := [.inl (6 : Int32)]) (rest := []) (st' := [.inl x73]) hcn qz_c_8_12 qz_k_65 (qz_q_75_65) (Nat.le_of_ble_eq_true rfl) (Nat.le_of_ble_eq_true rfl) rfl rfl rfl rfl (vX_count F T.1 T.2 (6 : Int32) _ e74) rfl rfl ?_
      refine ei_aln hb dL_law_220 (pc' := 221) rfl rfl ?_
      refine ei_b hb dL_law_221 (v := (7 : Int32)) (pc' := 223) (by decide) rfl ?_
      obtain ⟨x75, e76, h⟩ := Option.bind_eq_some_iff.mp h
      refine ei_cv hb dL_law_223 (pc' := 226) (M1 := (qz_mk T.1 T.2)) (as := [.inl (7 : Int32)]) (rest := [.inl x73]) (st' := [.inl x75, .inl x73]) hcn qz_c_8_12 qz_k_65 (qz_q_75_65) (Nat.le_of_ble_eq_true rfl) (Nat.le_of_ble_eq_true rfl) rfl rfl rfl rfl (vX_count F T.1 T.2 (7 : Int32) _ e76) rfl rfl ?_
      refine ei_add hb dL_law_226 (pc' := 227) rfl ?_
      refine ei_aln hb dL_law_227 (pc' := 228) rfl rfl ?_
      refine ei_b hb dL_law_228 (v := (8 : Int32)) (pc' := 230) (by decide) rfl ?_
      obtain ⟨x77, e78, h⟩ := Option.bind_eq_some_iff.mp h
      refine ei_cv hb dL_law_230 (pc' := 233) (M1 := (qz_mk T.1 T.2)) (as := [.inl (8 : Int32)]) (rest := [.inl (x73 + x75)]) (st' := [.inl x77, .inl (x73 + x75)]) hcn qz_c_8_12 qz_k_65 (qz_q_75_65) (Nat.le_of_ble_eq_true rfl) (Nat.le_of_ble_eq_true rfl) rfl rfl rfl rfl (vX_count F T.1 T.2 (8 : Int32) _ e78) rfl rfl ?_
      refine ei_add hb dL_law_233 (pc' := 234) rfl ?_
      refine ei_il hb dL_law_234 (pc' := 236) rfl rfl ?_
      refine ei_il hb dL_law_236 (pc' := 238) rfl rfl ?_
      refine ei_add hb dL_law_238 (pc' := 239) rfl ?_
      by_cases c79 : ((x73 + x75) + x77) = (y10 + y11)
      · rw [if_pos c79] at h
        refine ei_icF hb dL_law_239 (pc' := 242) (t := 269) (decide_eq_false (fun q => q c79)) (by decide) rfl ?_
        exact vL_law_P242 F R hR y4 y5 y6 y12 (y5 &&& (15 : Int32)) l19 l24 l30 T _ h _ _ _ _
      · rw [if_neg c79] at h
        refine ei_icT hb dL_law_239 (pc' := 269) (decide_eq_true c79) (by decide) ?_
        refine ei_c hb dL_law_269 (v := (0 : Int32)) (pc' := 270) (by decide) rfl ?_
        have h := Option.some.inj h
        subst h
        exact ei_retz hb dL_law_270 rfl (by decide)
    · rw [if_neg c72] at h
      refine ei_icT hb dL_law_211 (pc' := 242) (decide_eq_true c72) (by decide) ?_
      exact vL_law_P242 F R hR y4 y5 y6 y12 (y5 &&& (15 : Int32)) l19 l24 l30 T _ h _ _ _ _
set_option maxHeartbeats 4000000 in
theorem vL_law_L43 (F : Nat)  (K : (Int32 → Int64 → qz_S → Option (Int32 × qz_S))) (hK : ∀ (y4 : Int32) (l19 : Int64) (T : qz_S) (r : Int32 × qz_S), K y4 l19 T = some r → ∀ (d5 : Option qz_V) (d6 : Option qz_V) (d9 : Option qz_V) (d10 : Option qz_V) (d11 : Option qz_V) (d12 : Option qz_V) (d15 : Option qz_V) (d16 : Option qz_V) (d24 : Option qz_V) (d30 : Option qz_V), qz_E 75 383 [some (.inr (.inl (some ((33, 0, 0) : qz_N)))), some (.inr (.inl (some ((5, 0, 0) : qz_N)))), none, none, some (.inl y4), d5, d6, none, none, d9, d10, d11, d12, none, none, d15, d16, none, none, some (.inr (.inr l19)), none, none, none, none, d24, none, none, none, none, none, d30, none, none, none] [] (qz_mk T.1 T.2) (some (.inl r.1)) (qz_mk r.2.1 r.2.2)) : ∀ (n : Nat) (y4 : Int32) (l19 : Int64) (T : qz_S) (r : Int32 × qz_S), gL_law_L43 F K n y4 l19 T = some r → ∀ (d5 : Option qz_V) (d6 : Option qz_V) (d9 : Option qz_V) (d10 : Option qz_V) (d11 : Option qz_V) (d12 : Option qz_V) (d15 : Option qz_V) (d16 : Option qz_V) (d24 : Option qz_V) (d30 : Option qz_V), qz_E 75 43 [some (.inr (.inl (some ((33, 0, 0) : qz_N)))), some (.inr (.inl (some ((5, 0, 0) : qz_N)))), none, none, some (.inl y4), d5, d6, none, none, d9, d10, d11, d12, none, none, d15, d16, none, none, some (.inr (.inr l19)), none, none, none, none, d24, none, none, none, none, none, d30, none, none, none] [] (qz_mk T.1 T.2) (some (.inl r.1)) (qz_mk r.2.1 r.2.2) := by
  have hb : qz_b 75 = cL_law := rfl
  have hcn : qz_cn 75 = 8 := rfl
  have hml : qz_ml 75 = 17 := rfl
  intro n
  induction n with
  | zero =>
    intro y4 l19 T r h
    cases h
  | succ n ih =>
    intro y4 l19 T r h d5 d6 d9 d10 d11 d12 d15 d16 d24 d30
    rw [gL_law_L43] at h
    refine ei_il hb dL_law_43 (pc' := 45) rfl rfl ?_
    refine ei_b hb dL_law_45 (v := (34 : Int32)) (pc' := 47) (by decide) rfl ?_
    by_cases c12 : (34 : Int32) ≤ y4
    · rw [if_pos c12] at h
      refine ei_icT hb dL_law_47 (pc' := 383) (decide_eq_true c12) (by decide) ?_
      exact hK y4 l19 T _ h _ _ _ _ _ _ _ _ _ _
    · rw [if_neg c12] at h
      refine ei_icF hb dL_law_47 (pc' := 50) (t := 383) (decide_eq_false c12) (by decide) rfl ?_
      refine ei_il hb dL_law_50 (pc' := 52) rfl rfl ?_
      refine ei_c hb dL_law_52 (v := (2 : Int32)) (pc' := 53) (by decide) rfl ?_
      obtain ⟨j13, e89, h⟩ := Option.bind_eq_some_iff.mp h
      refine qz_jn (Q := qz_E 75 68 [some (.inr (.inl (some ((33, 0, 0) : qz_N)))), some (.inr (.inl (some ((5, 0, 0) : qz_N)))), none, none, some (.inl y4), d5, d6, none, none, d9, d10, d11, d12, none, none, d15, d16, none, none, some (.inr (.inr l19)), none, none, none, none, d24, none, none, none, none, none, d30, none, none, none] [.inl j13] (qz_mk T.1 T.2) (some (.inl r.1)) (qz_mk r.2.1 r.2.2)) ?_ (fun key => ?_)
      · refine ei_is hb dL_law_68 (pc' := 70) (ls' := [some (.inr (.inl (some ((33, 0, 0) : qz_N)))), some (.inr (.inl (some ((5, 0, 0) : qz_N)))), none, none, some (.inl y4), some (.inl j13), d6, none, none, d9, d10, d11, d12, none, none, d15, d16, none, none, some (.inr (.inr l19)), none, none, none, none, d24, none, none, none, none, none, d30, none, none, none]) hml (Nat.le_of_ble_eq_true rfl) rfl rfl rfl ?_
        refine ei_aln hb dL_law_70 (pc' := 71) rfl rfl ?_
        refine ei_c hb dL_law_71 (v := (2 : Int32)) (pc' := 72) (by decide) rfl ?_
        refine ei_il hb dL_law_72 (pc' := 74) rfl rfl ?_
        refine ei_mul hb dL_law_74 (pc' := 75) rfl ?_
        refine ei_c hb dL_law_75 (v := (1 : Int32)) (pc' := 76) (by decide) rfl ?_
        refine ei_add hb dL_law_76 (pc' := 77) rfl ?_
        obtain ⟨x14, e15, h⟩ := Option.bind_eq_some_iff.mp h
        refine ei_cs hb dL_law_77 (pc' := 80) (M1 := (qz_mk T.1 T.2)) (as := [.inr (.inl (some ((33, 0, 0) : qz_N))), .inl (((2 : Int32) * y4) + (1 : Int32))]) (rest := []) (st' := [.inl x14]) hcn qz_c_8_76 rfl qz_k_70 (qz_q_75_70) (Nat.le_of_ble_eq_true rfl) (Nat.le_of_ble_eq_true rfl) rfl rfl rfl (vL_cell F T.1 T.2 (((2 : Int32) * y4) + (1 : Int32)) _ e15) rfl rfl ?_
        refine ei_is hb dL_law_80 (pc' := 82) (ls' := [some (.inr (.inl (some ((33, 0, 0) : qz_N)))), some (.inr (.inl (some ((5, 0, 0) : qz_N)))), none, none, some (.inl y4), some (.inl j13), some (.inl x14), none, none, d9, d10, d11, d12, none, none, d15, d16, none, none, some (.inr (.inr l19)), none, none, none, none, d24, none, none, none, none, none, d30, none, none, none]) hml (Nat.le_of_ble_eq_true rfl) rfl rfl rfl ?_
        refine ei_aln hb dL_law_82 (pc' := 83) rfl rfl ?_
        obtain ⟨z16, e17, h⟩ := Option.bind_eq_some_iff.mp h
        refine ei_cs hb dL_law_83 (pc' := 86) (M1 := (qz_mk T.1 T.2)) (as := [.inr (.inl (some ((5, 0, 0) : qz_N)))]) (rest := []) (st' := [.inr (.inr z16)]) hcn qz_c_8_72 rfl qz_k_72 (qz_q_75_72) (Nat.le_of_ble_eq_true rfl) (Nat.le_of_ble_eq_true rfl) rfl rfl rfl (vL_told F T.1 T.2 _ e17) rfl rfl ?_
        refine ei_ls hb dL_law_86 (pc' := 88) (ls' := [some (.inr (.inl (some ((33, 0, 0) : qz_N)))), some (.inr (.inl (some ((5, 0, 0) : qz_N)))), none, none, some (.inl y4), some (.inl j13), some (.inl x14), none, none, d9, d10, d11, d12, none, none, d15, d16, none, none, some (.inr (.inr l19)), none, none, none, none, some (.inr (.inr z16)), none, none, none, none, none, d30, none, none, none]) hml (Nat.le_of_ble_eq_true rfl) (Nat.le_of_ble_eq_true rfl) rfl rfl rfl rfl ?_
        refine ei_aln hb dL_law_88 (pc' := 89) rfl rfl ?_
        refine ei_b hb dL_law_89 (v := (16 : Int32)) (pc' := 91) (by decide) rfl ?_
        obtain ⟨x18, e19, h⟩ := Option.bind_eq_some_iff.mp h
        refine ei_cv hb dL_law_91 (pc' := 94) (M1 := (qz_mk T.1 T.2)) (as := [.inl (16 : Int32)]) (rest := []) (st' := [.inl x18]) hcn qz_c_8_12 qz_k_65 (qz_q_75_65) (Nat.le_of_ble_eq_true rfl) (Nat.le_of_ble_eq_true rfl) rfl rfl rfl rfl (vX_count F T.1 T.2 (16 : Int32) _ e19) rfl rfl ?_
        refine ei_is hb dL_law_94 (pc' := 96) (ls' := [some (.inr (.inl (some ((33, 0, 0) : qz_N)))), some (.inr (.inl (some ((5, 0, 0) : qz_N)))), none, none, some (.inl y4), some (.inl j13), some (.inl x14), none, none, some (.inl x18), d10, d11, d12, none, none, d15, d16, none, none, some (.inr (.inr l19)), none, none, none, none, some (.inr (.inr z16)), none, none, none, none, none, d30, none, none, none]) hml (Nat.le_of_ble_eq_true rfl) rfl rfl rfl ?_
        refine ei_aln hb dL_law_96 (pc' := 97) rfl rfl ?_
        refine ei_b hb dL_law_97 (v := (6 : Int32)) (pc' := 99) (by decide) rfl ?_
        obtain ⟨x20, e21, h⟩ := Option.bind_eq_some_iff.mp h
        refine ei_cv hb dL_law_99 (pc' := 102) (M1 := (qz_mk T.1 T.2)) (as := [.inl (6 : Int32)]) (rest := []) (st' := [.inl x20]) hcn qz_c_8_12 qz_k_65 (qz_q_75_65) (Nat.le_of_ble_eq_true rfl) (Nat.le_of_ble_eq_true rfl) rfl rfl rfl rfl (vX_count F T.1 T.2 (6 : Int32) _ e21) rfl rfl ?_
        refine ei_aln hb dL_law_102 (pc' := 103) rfl rfl ?_
        refine ei_b hb dL_law_103 (v := (7 : Int32)) (pc' := 105) (by decide) rfl ?_
        obtain ⟨x22, e23, h⟩ := Option.bind_eq_some_iff.mp h
        refine ei_cv hb dL_law_105 (pc' := 108) (M1 := (qz_mk T.1 T.2)) (as := [.inl (7 : Int32)]) (rest := [.inl x20]) (st' := [.inl x22, .inl x20]) hcn qz_c_8_12 qz_k_65 (qz_q_75_65) (Nat.le_of_ble_eq_true rfl) (Nat.le_of_ble_eq_true rfl) rfl rfl rfl rfl (vX_count F T.1 T.2 (7 : Int32) _ e23) rfl rfl ?_
        refine ei_add hb dL_law_108 (pc' := 109) rfl ?_
        refine ei_aln hb dL_law_109 (pc' := 110) rfl rfl ?_
        refine ei_b hb dL_law_110 (v := (8 : Int32)) (pc' := 112) (by decide) rfl ?_
        obtain ⟨x24, e25, h⟩ := Option.bind_eq_some_iff.mp h
        refine ei_cv hb dL_law_112 (pc' := 115) (M1 := (qz_mk T.1 T.2)) (as := [.inl (8 : Int32)]) (rest := [.inl (x20 + x22)]) (st' := [.inl x24, .inl (x20 + x22)]) hcn qz_c_8_12 qz_k_65 (qz_q_75_65) (Nat.le_of_ble_eq_true rfl) (Nat.le_of_ble_eq_true rfl) rfl rfl rfl rfl (vX_count F T.1 T.2 (8 : Int32) _ e25) rfl rfl ?_
        refine ei_add hb dL_law_115 (pc' := 116) rfl ?_
        refine ei_is hb dL_law_116 (pc' := 118) (ls' := [some (.inr (.inl (some ((33, 0, 0) : qz_N)))), some (.inr (.inl (some ((5, 0, 0) : qz_N)))), none, none, some (.inl y4), some (.inl j13), some (.inl x14), none, none, some (.inl x18), some (.inl ((x20 + x22) + x24)), d11, d12, none, none, d15, d16, none, none, some (.inr (.inr l19)), none, none, none, none, some (.inr (.inr z16)), none, none, none, none, none, d30, none, none, none]) hml (Nat.le_of_ble_eq_true rfl) rfl rfl rfl ?_
        refine ei_aln hb dL_law_118 (pc' := 119) rfl rfl ?_
        refine ei_c hb dL_law_119 (v := (1 : Int32)) (pc' := 120) (by decide) rfl ?_
        obtain ⟨x26, e27, h⟩ := Option.bind_eq_some_iff.mp h
        refine ei_cv hb dL_law_120 (pc' := 123) (M1 := (qz_mk T.1 T.2)) (as := [.inl (1 : Int32)]) (rest := []) (st' := [.inl x26]) hcn qz_c_8_12 qz_k_65 (qz_q_75_65) (Nat.le_of_ble_eq_true rfl) (Nat.le_of_ble_eq_true rfl) rfl rfl rfl rfl (vX_count F T.1 T.2 (1 : Int32) _ e27) rfl rfl ?_
        refine ei_is hb dL_law_123 (pc' := 125) (ls' := [some (.inr (.inl (some ((33, 0, 0) : qz_N)))), some (.inr (.inl (some ((5, 0, 0) : qz_N)))), none, none, some (.inl y4), some (.inl j13), some (.inl x14), none, none, some (.inl x18), some (.inl ((x20 + x22) + x24)), some (.inl x26), d12, none, none, d15, d16, none, none, some (.inr (.inr l19)), none, none, none, none, some (.inr (.inr z16)), none, none, none, none, none, d30, none, none, none]) hml (Nat.le_of_ble_eq_true rfl) rfl rfl rfl ?_
        refine ei_aln hb dL_law_125 (pc' := 126) rfl rfl ?_
        refine ei_il hb dL_law_126 (pc' := 128) rfl rfl ?_
        refine ei_il hb dL_law_128 (pc' := 130) rfl rfl ?_
        obtain ⟨R28, e29, h⟩ := Option.bind_eq_some_iff.mp h
        refine ei_cs hb dL_law_130 (pc' := 133) (M1 := (qz_mk R28.2.1 R28.2.2)) (as := [.inr (.inl (some ((5, 0, 0) : qz_N))), .inl j13, .inl x14]) (rest := []) (st' := [.inl R28.1]) hcn qz_c_8_80 rfl qz_k_73 (qz_q_75_73) (Nat.le_of_ble_eq_true rfl) (Nat.le_of_ble_eq_true rfl) rfl rfl rfl (vL_act F T j13 x14 _ e29) rfl rfl ?_
        refine ei_is hb dL_law_133 (pc' := 135) (ls' := [some (.inr (.inl (some ((33, 0, 0) : qz_N)))), some (.inr (.inl (some ((5, 0, 0) : qz_N)))), none, none, some (.inl y4), some (.inl j13), some (.inl x14), none, none, some (.inl x18), some (.inl ((x20 + x22) + x24)), some (.inl x26), some (.inl R28.1), none, none, d15, d16, none, none, some (.inr (.inr l19)), none, none, none, none, some (.inr (.inr z16)), none, none, none, none, none, d30, none, none, none]) hml (Nat.le_of_ble_eq_true rfl) rfl rfl rfl ?_
        refine ei_aln hb dL_law_135 (pc' := 136) rfl rfl ?_
        obtain ⟨z30, e31, h⟩ := Option.bind_eq_some_iff.mp h
        refine ei_cs hb dL_law_136 (pc' := 139) (M1 := (qz_mk R28.2.1 R28.2.2)) (as := [.inr (.inl (some ((5, 0, 0) : qz_N)))]) (rest := []) (st' := [.inr (.inr z30)]) hcn qz_c_8_72 rfl qz_k_72 (qz_q_75_72) (Nat.le_of_ble_eq_true rfl) (Nat.le_of_ble_eq_true rfl) rfl rfl rfl (vL_told F R28.2.1 R28.2.2 _ e31) rfl rfl ?_
        refine ei_ls hb dL_law_139 (pc' := 141) (ls' := [some (.inr (.inl (some ((33, 0, 0) : qz_N)))), some (.inr (.inl (some ((5, 0, 0) : qz_N)))), none, none, some (.inl y4), some (.inl j13), some (.inl x14), none, none, some (.inl x18), some (.inl ((x20 + x22) + x24)), some (.inl x26), some (.inl R28.1), none, none, d15, d16, none, none, some (.inr (.inr l19)), none, none, none, none, some (.inr (.inr z16)), none, none, none, none, none, some (.inr (.inr z30)), none, none, none]) hml (Nat.le_of_ble_eq_true rfl) (Nat.le_of_ble_eq_true rfl) rfl rfl rfl rfl ?_
        refine ei_il hb dL_law_141 (pc' := 143) rfl rfl ?_
        by_cases c32 : 0 ≤ R28.1
        · rw [if_pos c32] at h
          refine ei_ifT hb dL_law_143 (pc' := 168) (decide_eq_true c32) (by decide) ?_
          refine ei_aln hb dL_law_168 (pc' := 169) rfl rfl ?_
          refine ei_b hb dL_law_169 (v := (16 : Int32)) (pc' := 171) (by decide) rfl ?_
          obtain ⟨x33, e34, h⟩ := Option.bind_eq_some_iff.mp h
          refine ei_cv hb dL_law_171 (pc' := 174) (M1 := (qz_mk R28.2.1 R28.2.2)) (as := [.inl (16 : Int32)]) (rest := []) (st' := [.inl x33]) hcn qz_c_8_12 qz_k_65 (qz_q_75_65) (Nat.le_of_ble_eq_true rfl) (Nat.le_of_ble_eq_true rfl) rfl rfl rfl rfl (vX_count F R28.2.1 R28.2.2 (16 : Int32) _ e34) rfl rfl ?_
          refine ei_il hb dL_law_174 (pc' := 176) rfl rfl ?_
          refine ei_c hb dL_law_176 (v := (4 : Int32)) (pc' := 177) (by decide) rfl ?_
          obtain ⟨j35, e81, h⟩ := Option.bind_eq_some_iff.mp h
          refine qz_jn (Q := qz_E 75 188 [some (.inr (.inl (some ((33, 0, 0) : qz_N)))), some (.inr (.inl (some ((5, 0, 0) : qz_N)))), none, none, some (.inl y4), some (.inl j13), some (.inl x14), none, none, some (.inl x18), some (.inl ((x20 + x22) + x24)), some (.inl x26), some (.inl R28.1), none, none, d15, d16, none, none, some (.inr (.inr l19)), none, none, none, none, some (.inr (.inr z16)), none, none, none, none, none, some (.inr (.inr z30)), none, none, none] [.inl j35, .inl x33] (qz_mk R28.2.1 R28.2.2) (some (.inl r.1)) (qz_mk r.2.1 r.2.2)) ?_ (fun key => ?_)
          · by_cases c36 : x33 = j35
            · rw [if_pos c36] at h
              refine ei_icT hb dL_law_188 (pc' := 193) (decide_eq_true c36) (by decide) ?_
              exact vL_law_P193 F ((gL_law_L43 F K) n) ih y4 j13 x14 ((x20 + x22) + x24) x26 R28.1 l19 z16 z30 R28.2 _ h _ _ _
            · rw [if_neg c36] at h
              refine ei_icF hb dL_law_188 (pc' := 191) (t := 193) (decide_eq_false c36) (by decide) rfl ?_
              refine ei_c hb dL_law_191 (v := (0 : Int32)) (pc' := 192) (by decide) rfl ?_
              have h := Option.some.inj h
              subst h
              exact ei_retz hb dL_law_192 rfl (by decide)
          · have h := e81
            by_cases c80 : (4 : Int32) ≤ x18
            · rw [if_pos c80] at h
              refine ei_icT hb dL_law_177 (pc' := 187) (decide_eq_true c80) (by decide) ?_
              refine ei_c hb dL_law_187 (v := (4 : Int32)) (pc' := 188) (by decide) rfl ?_
              have h := Option.some.inj h
              subst h
              exact key
            · rw [if_neg c80] at h
              refine ei_icF hb dL_law_177 (pc' := 180) (t := 187) (decide_eq_false c80) (by decide) rfl ?_
              refine ei_il hb dL_law_180 (pc' := 182) rfl rfl ?_
              refine ei_c hb dL_law_182 (v := (1 : Int32)) (pc' := 183) (by decide) rfl ?_
              refine ei_add hb dL_law_183 (pc' := 184) rfl ?_
              refine ei_go hb dL_law_184 (pc' := 188) (by decide) ?_
              have h := Option.some.inj h
              subst h
              exact key
        · rw [if_neg c32] at h
          refine ei_ifF hb dL_law_143 (pc' := 146) (t := 168) (decide_eq_false c32) (by decide) rfl ?_
          refine ei_ll hb dL_law_146 (pc' := 148) hml rfl rfl ?_
          refine ei_ll hb dL_law_148 (pc' := 150) hml rfl rfl ?_
          refine ei_lcmp hb dL_law_150 (pc' := 151) rfl ?_
          by_cases c82 : (lg_cmp z30 z16) = 0
          · rw [if_pos c82] at h
            refine ei_ifF hb dL_law_151 (pc' := 154) (t := 191) (decide_eq_false (fun q => q c82)) (by decide) rfl ?_
            refine ei_aln hb dL_law_154 (pc' := 155) rfl rfl ?_
            refine ei_b hb dL_law_155 (v := (16 : Int32)) (pc' := 157) (by decide) rfl ?_
            obtain ⟨x83, e84, h⟩ := Option.bind_eq_some_iff.mp h
            refine ei_cv hb dL_law_157 (pc' := 160) (M1 := (qz_mk R28.2.1 R28.2.2)) (as := [.inl (16 : Int32)]) (rest := []) (st' := [.inl x83]) hcn qz_c_8_12 qz_k_65 (qz_q_75_65) (Nat.le_of_ble_eq_true rfl) (Nat.le_of_ble_eq_true rfl) rfl rfl rfl rfl (vX_count F R28.2.1 R28.2.2 (16 : Int32) _ e84) rfl rfl ?_
            refine ei_il hb dL_law_160 (pc' := 162) rfl rfl ?_
            by_cases c85 : x83 = x18
            · rw [if_pos c85] at h
              refine ei_icT hb dL_law_162 (pc' := 193) (decide_eq_true c85) (by decide) ?_
              exact vL_law_P193 F ((gL_law_L43 F K) n) ih y4 j13 x14 ((x20 + x22) + x24) x26 R28.1 l19 z16 z30 R28.2 _ h _ _ _
            · rw [if_neg c85] at h
              refine ei_icF hb dL_law_162 (pc' := 165) (t := 193) (decide_eq_false c85) (by decide) rfl ?_
              refine ei_go hb dL_law_165 (pc' := 191) (by decide) ?_
              refine ei_c hb dL_law_191 (v := (0 : Int32)) (pc' := 192) (by decide) rfl ?_
              have h := Option.some.inj h
              subst h
              exact ei_retz hb dL_law_192 rfl (by decide)
          · rw [if_neg c82] at h
            refine ei_ifT hb dL_law_151 (pc' := 191) (decide_eq_true c82) (by decide) ?_
            refine ei_c hb dL_law_191 (v := (0 : Int32)) (pc' := 192) (by decide) rfl ?_
            have h := Option.some.inj h
            subst h
            exact ei_retz hb dL_law_192 rfl (by decide)
      · have h := e89
        by_cases c86 : (2 : Int32) ≤ y4
        · rw [if_pos c86] at h
          refine ei_icT hb dL_law_53 (pc' := 60) (decide_eq_true c86) (by decide) ?_
          refine ei_aln hb dL_law_60 (pc' := 61) rfl rfl ?_
          refine ei_c hb dL_law_61 (v := (2 : Int32)) (pc' := 62) (by decide) rfl ?_
          refine ei_il hb dL_law_62 (pc' := 64) rfl rfl ?_
          refine ei_mul hb dL_law_64 (pc' := 65) rfl ?_
          obtain ⟨x87, e88, h⟩ := Option.bind_eq_some_iff.mp h
          refine ei_cs hb dL_law_65 (pc' := 68) (M1 := (qz_mk T.1 T.2)) (as := [.inr (.inl (some ((33, 0, 0) : qz_N))), .inl ((2 : Int32) * y4)]) (rest := []) (st' := [.inl x87]) hcn qz_c_8_76 rfl qz_k_70 (qz_q_75_70) (Nat.le_of_ble_eq_true rfl) (Nat.le_of_ble_eq_true rfl) rfl rfl rfl (vL_cell F T.1 T.2 ((2 : Int32) * y4) _ e88) rfl rfl ?_
          have h := Option.some.inj h
          subst h
          exact key
        · rw [if_neg c86] at h
          refine ei_icF hb dL_law_53 (pc' := 56) (t := 60) (decide_eq_false c86) (by decide) rfl ?_
          refine ei_c hb dL_law_56 (v := (0 : Int32)) (pc' := 57) (by decide) rfl ?_
          refine ei_go hb dL_law_57 (pc' := 68) (by decide) ?_
          have h := Option.some.inj h
          subst h
          exact key
set_option maxHeartbeats 4000000 in
theorem vL_law (F : Nat) (S : qz_S) (r : Int32 × qz_S) (h : (gL_law F S) = some r) : qz_E 75 8 [some (.inr (.inl (some ((33, 0, 0) : qz_N)))), some (.inr (.inl (some ((5, 0, 0) : qz_N)))), none, none, none, none, none, none, none, none, none, none, none, none, none, none, none, none, none, none, none, none, none, none, none, none, none, none, none, none, none, none, none, none] [] (qz_mk S.1 S.2) (some (.inl r.1)) (qz_mk r.2.1 r.2.2) := by
  have hb : qz_b 75 = cL_law := rfl
  have hcn : qz_cn 75 = 8 := rfl
  have hml : qz_ml 75 = 17 := rfl
  rw [gL_law] at h
  refine ei_aln hb dL_law_8 (pc' := 9) rfl rfl ?_
  obtain ⟨R1, e2, h⟩ := Option.bind_eq_some_iff.mp h
  refine ei_cv hb dL_law_9 (pc' := 12) (M1 := (qz_mk R1.2.1 R1.2.2)) (as := []) (rest := []) (st' := [.inl R1.1]) hcn qz_c_8_66 qz_k_58 (qz_q_75_58) (Nat.le_of_ble_eq_true rfl) (Nat.le_of_ble_eq_true rfl) rfl rfl rfl rfl (vX_undo F S _ e2) rfl rfl ?_
  refine ei_b hb dL_law_12 (v := (-5 : Int32)) (pc' := 14) (by decide) rfl ?_
  by_cases c3 : R1.1 = (-5 : Int32)
  · rw [if_pos c3] at h
    refine ei_icF hb dL_law_14 (pc' := 17) (t := 33) (decide_eq_false (fun q => q c3)) (by decide) rfl ?_
    refine ei_aln hb dL_law_17 (pc' := 18) rfl rfl ?_
    obtain ⟨R4, e5, h⟩ := Option.bind_eq_some_iff.mp h
    refine ei_cv hb dL_law_18 (pc' := 21) (M1 := (qz_mk R4.2.1 R4.2.2)) (as := []) (rest := []) (st' := [.inl R4.1]) hcn qz_c_8_50 qz_k_60 (qz_q_75_60) (Nat.le_of_ble_eq_true rfl) (Nat.le_of_ble_eq_true rfl) rfl rfl rfl rfl (vX_restore F R1.2 _ e5) rfl rfl ?_
    refine ei_b hb dL_law_21 (v := (-5 : Int32)) (pc' := 23) (by decide) rfl ?_
    by_cases c6 : R4.1 = (-5 : Int32)
    · rw [if_pos c6] at h
      refine ei_icF hb dL_law_23 (pc' := 26) (t := 33) (decide_eq_false (fun q => q c6)) (by decide) rfl ?_
      refine ei_aln hb dL_law_26 (pc' := 27) rfl rfl ?_
      obtain ⟨R7, e8, h⟩ := Option.bind_eq_some_iff.mp h
      refine ei_cv hb dL_law_27 (pc' := 30) (M1 := (qz_mk R7.2.1 R7.2.2)) (as := []) (rest := []) (st' := [.inl R7.1]) hcn qz_c_8_69 qz_k_59 (qz_q_75_59) (Nat.le_of_ble_eq_true rfl) (Nat.le_of_ble_eq_true rfl) rfl rfl rfl rfl (vX_keep F R4.2 _ e8) rfl rfl ?_
      by_cases c9 : R7.1 = 0
      · rw [if_pos c9] at h
        refine ei_ifT hb dL_law_30 (pc' := 35) (decide_eq_true c9) (by decide) ?_
        refine ei_aln hb dL_law_35 (pc' := 36) rfl rfl ?_
        obtain ⟨z10, e11, h⟩ := Option.bind_eq_some_iff.mp h
        refine ei_cs hb dL_law_36 (pc' := 39) (M1 := (qz_mk R7.2.1 R7.2.2)) (as := [.inr (.inl (some ((5, 0, 0) : qz_N)))]) (rest := []) (st' := [.inr (.inr z10)]) hcn qz_c_8_72 rfl qz_k_72 (qz_q_75_72) (Nat.le_of_ble_eq_true rfl) (Nat.le_of_ble_eq_true rfl) rfl rfl rfl (vL_told F R7.2.1 R7.2.2 _ e11) rfl rfl ?_
        refine ei_lsn hb dL_law_39 (pc' := 40) (ls' := [some (.inr (.inl (some ((33, 0, 0) : qz_N)))), some (.inr (.inl (some ((5, 0, 0) : qz_N)))), none, none, none, none, none, none, none, none, none, none, none, none, none, none, none, none, none, some (.inr (.inr z10)), none, none, none, none, none, none, none, none, none, none, none, none, none, none]) hml (Nat.le_of_ble_eq_true rfl) (Nat.le_of_ble_eq_true rfl) rfl rfl rfl rfl ?_
        refine ei_c hb dL_law_40 (v := (0 : Int32)) (pc' := 41) (by decide) rfl ?_
        refine ei_is hb dL_law_41 (pc' := 43) (ls' := [some (.inr (.inl (some ((33, 0, 0) : qz_N)))), some (.inr (.inl (some ((5, 0, 0) : qz_N)))), none, none, some (.inl (0 : Int32)), none, none, none, none, none, none, none, none, none, none, none, none, none, none, some (.inr (.inr z10)), none, none, none, none, none, none, none, none, none, none, none, none, none, none]) hml (Nat.le_of_ble_eq_true rfl) rfl rfl rfl ?_
        refine vL_law_L43 F _ ?_ F (0 : Int32) z10 R7.2 _ h _ _ _ _ _ _ _ _ _ _
        intro y490 l1991 T92 r h d93 d94 d95 d96 d97 d98 d99 d100 d101 d102
        refine ei_c hb dL_law_383 (v := (1 : Int32)) (pc' := 384) (by decide) rfl ?_
        have h := Option.some.inj h
        subst h
        exact ei_retz hb dL_law_384 rfl (by decide)
      · rw [if_neg c9] at h
        refine ei_ifF hb dL_law_30 (pc' := 33) (t := 35) (decide_eq_false c9) (by decide) rfl ?_
        refine ei_c hb dL_law_33 (v := (0 : Int32)) (pc' := 34) (by decide) rfl ?_
        have h := Option.some.inj h
        subst h
        exact ei_retz hb dL_law_34 rfl (by decide)
    · rw [if_neg c6] at h
      refine ei_icT hb dL_law_23 (pc' := 33) (decide_eq_true c6) (by decide) ?_
      refine ei_c hb dL_law_33 (v := (0 : Int32)) (pc' := 34) (by decide) rfl ?_
      have h := Option.some.inj h
      subst h
      exact ei_retz hb dL_law_34 rfl (by decide)
  · rw [if_neg c3] at h
    refine ei_icT hb dL_law_14 (pc' := 33) (decide_eq_true c3) (by decide) ?_
    refine ei_c hb dL_law_33 (v := (0 : Int32)) (pc' := 34) (by decide) rfl ?_
    have h := Option.some.inj h
    subst h
    exact ei_retz hb dL_law_34 rfl (by decide)
