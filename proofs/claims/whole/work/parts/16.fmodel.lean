def gM_in (f : qz_F) (a0 : Int32) (a1 : Int32) (a2 : Int32) : Int32 :=
  if a0 < a1 then (0 : Int32) else (if a2 < a0 then (0 : Int32) else (1 : Int32))
set_option maxHeartbeats 4000000 in
theorem vM_in (f : qz_F) (p : Nat → Nat) (a0 : Int32) (a1 : Int32) (a2 : Int32) : qz_E 84 0 (qz_in0 84 [.inl a0, .inl a1, .inl a2]) [] (qz_mk f p) (some (.inl (gM_in f a0 a1 a2))) (qz_mk f p) := by
  have hb : qz_b 84 = cX6_in := rfl
  have hcn : qz_cn 84 = 6 := rfl
  obtain ⟨r, h⟩ : ∃ r, (gM_in f a0 a1 a2) = r := ⟨_, rfl⟩
  rw [h]
  show qz_E 84 0 [some (.inl a0), some (.inl a1), some (.inl a2)] [] _ _ _
  rw [gM_in] at h
  refine ei_iln hb dX6_in_0 (pc' := 1) rfl rfl ?_
  refine ei_iln hb dX6_in_1 (pc' := 2) rfl rfl ?_
  by_cases c1 : a0 < a1
  · rw [if_pos c1] at h
    refine ei_icT hb dX6_in_2 (pc' := 14) (decide_eq_true c1) (by decide) ?_
    refine ei_c hb dX6_in_14 (v := (0 : Int32)) (pc' := 15) (by decide) rfl ?_
    subst h
    exact ei_retz hb dX6_in_15 rfl (by decide)
  · rw [if_neg c1] at h
    refine ei_icF hb dX6_in_2 (pc' := 5) (t := 14) (decide_eq_false c1) (by decide) rfl ?_
    refine ei_iln hb dX6_in_5 (pc' := 6) rfl rfl ?_
    refine ei_iln hb dX6_in_6 (pc' := 7) rfl rfl ?_
    by_cases c2 : a2 < a0
    · rw [if_pos c2] at h
      refine ei_icT hb dX6_in_7 (pc' := 14) (decide_eq_true c2) (by decide) ?_
      refine ei_c hb dX6_in_14 (v := (0 : Int32)) (pc' := 15) (by decide) rfl ?_
      subst h
      exact ei_retz hb dX6_in_15 rfl (by decide)
    · rw [if_neg c2] at h
      refine ei_icF hb dX6_in_7 (pc' := 10) (t := 14) (decide_eq_false c2) (by decide) rfl ?_
      refine ei_c hb dX6_in_10 (v := (1 : Int32)) (pc' := 11) (by decide) rfl ?_
      refine ei_go hb dX6_in_11 (pc' := 15) (by decide) ?_
      subst h
      exact ei_retz hb dX6_in_15 rfl (by decide)
theorem zM_in {f : qz_F} {a0 : Int32} {a1 : Int32} {a2 : Int32} : (gM_in f a0 a1 a2) = 0 ∨ (gM_in f a0 a1 a2) = 1 := by
  unfold gM_in
  repeat' split
  all_goals first
    | exact Or.inl rfl
    | exact Or.inr rfl
def gM_of (F : Nat) (f : qz_F) (a0 : Int32) (a1 : Int32) : Option (Int32) :=
  if qz_xi (((43 : Int32) + ((8 : Int32) * a0)) + a1) 283 = true then (some (f ((17, 0, 0) : qz_N) ((((43 : Int32) + ((8 : Int32) * a0)) + a1)).toNatClampNeg)) else none
set_option maxHeartbeats 4000000 in
theorem vM_of (F : Nat) (f : qz_F) (p : Nat → Nat) (a0 : Int32) (a1 : Int32) (r : Int32) (h : (gM_of F f a0 a1) = some r) : qz_E 85 0 (qz_in0 85 [.inr (some ((6, 0, 0) : qz_N)), .inl a0, .inl a1]) [] (qz_mk f p) (some (.inl r)) (qz_mk f p) := by
  have hb : qz_b 85 = cX6_of := rfl
  have hcn : qz_cn 85 = 6 := rfl
  show qz_E 85 0 [some (.inr (some ((6, 0, 0) : qz_N))), some (.inl a0), some (.inl a1)] [] _ _ _
  rw [gM_of] at h
  refine ei_aln hb dX6_of_0 (pc' := 1) rfl rfl ?_
  refine ei_gr hb dX6_of_1 (pc' := 4) (x := some ((17, 0, 0) : qz_N)) hcn qz_f_6_7 rfl rfl rfl rfl ?_
  refine ei_b hb dX6_of_4 (v := (43 : Int32)) (pc' := 6) (by decide) rfl ?_
  refine ei_b hb dX6_of_6 (v := (8 : Int32)) (pc' := 8) (by decide) rfl ?_
  refine ei_iln hb dX6_of_8 (pc' := 9) rfl rfl ?_
  refine ei_mul hb dX6_of_9 (pc' := 10) rfl ?_
  refine ei_add hb dX6_of_10 (pc' := 11) rfl ?_
  refine ei_iln hb dX6_of_11 (pc' := 12) rfl rfl ?_
  refine ei_add hb dX6_of_12 (pc' := 13) rfl ?_
  by_cases c1 : qz_xi (((43 : Int32) + ((8 : Int32) * a0)) + a1) 283 = true
  · rw [if_pos c1] at h
    refine ei_ia hb dX6_of_13 (pc' := 14) (x := (f ((17, 0, 0) : qz_N) ((((43 : Int32) + ((8 : Int32) * a0)) + a1)).toNatClampNeg)) rfl c1 rfl rfl ?_
    have h := Option.some.inj h
    subst h
    exact ei_reti hb dX6_of_14 rfl
  · rw [if_neg c1] at h
    cases h
def gM_lay (F : Nat) (S : qz_S) (a0 : Int32) (a1 : Int32) (a2 : Int32) : Option (qz_S) :=
  if qz_xi (((43 : Int32) + ((8 : Int32) * a0)) + a1) 283 = true then (qz_let (qz_wr S ((17, 0, 0) : qz_N) ((((43 : Int32) + ((8 : Int32) * a0)) + a1)).toNatClampNeg a2) fun S2 => some S2) else none
set_option maxHeartbeats 4000000 in
theorem vM_lay (F : Nat) (S : qz_S) (a0 : Int32) (a1 : Int32) (a2 : Int32) (r : qz_S) (h : (gM_lay F S a0 a1 a2) = some r) : qz_E 86 0 (qz_in0 86 [.inr (some ((6, 0, 0) : qz_N)), .inl a0, .inl a1, .inl a2]) [] (qz_mk S.1 S.2) none (qz_mk r.1 r.2) := by
  have hb : qz_b 86 = cX6_lay := rfl
  have hcn : qz_cn 86 = 6 := rfl
  show qz_E 86 0 [some (.inr (some ((6, 0, 0) : qz_N))), some (.inl a0), some (.inl a1), some (.inl a2)] [] _ _ _
  rw [gM_lay] at h
  refine ei_aln hb dX6_lay_0 (pc' := 1) rfl rfl ?_
  refine ei_gr hb dX6_lay_1 (pc' := 4) (x := some ((17, 0, 0) : qz_N)) hcn qz_f_6_7 rfl rfl rfl rfl ?_
  refine ei_b hb dX6_lay_4 (v := (43 : Int32)) (pc' := 6) (by decide) rfl ?_
  refine ei_b hb dX6_lay_6 (v := (8 : Int32)) (pc' := 8) (by decide) rfl ?_
  refine ei_iln hb dX6_lay_8 (pc' := 9) rfl rfl ?_
  refine ei_mul hb dX6_lay_9 (pc' := 10) rfl ?_
  refine ei_add hb dX6_lay_10 (pc' := 11) rfl ?_
  refine ei_iln hb dX6_lay_11 (pc' := 12) rfl rfl ?_
  refine ei_add hb dX6_lay_12 (pc' := 13) rfl ?_
  refine ei_iln hb dX6_lay_13 (pc' := 14) rfl rfl ?_
  by_cases c1 : qz_xi (((43 : Int32) + ((8 : Int32) * a0)) + a1) 283 = true
  · rw [if_pos c1] at h
    obtain ⟨S2, eS2⟩ : ∃ q, q = qz_wr S ((17, 0, 0) : qz_N) ((((43 : Int32) + ((8 : Int32) * a0)) + a1)).toNatClampNeg a2 := ⟨_, rfl⟩
    rw [qz_let, ← eS2] at h
    refine ei_ist hb dX6_lay_14 (pc' := 15) (M1 := (qz_mk S2.1 S2.2)) rfl (Nat.le_of_ble_eq_true rfl) c1 (by rw [eS2]; rfl) rfl ?_
    have h := Option.some.inj h
    subst h
    exact ei_retv hb dX6_lay_15 rfl
  · rw [if_neg c1] at h
    cases h
def gM_isEnd (F : Nat) (f : qz_F) (a0 : Int32) : Option (Int32) :=
  some (gM_in f a0 (0 : Int32) ((f ((17, 0, 0) : qz_N) 4) - (1 : Int32)))
set_option maxHeartbeats 4000000 in
theorem vM_isEnd (F : Nat) (f : qz_F) (p : Nat → Nat) (a0 : Int32) (r : Int32) (h : (gM_isEnd F f a0) = some r) : qz_E 87 0 (qz_in0 87 [.inr (some ((6, 0, 0) : qz_N)), .inl a0]) [] (qz_mk f p) (some (.inl r)) (qz_mk f p) := by
  have hb : qz_b 87 = cX6_isEnd := rfl
  have hcn : qz_cn 87 = 6 := rfl
  show qz_E 87 0 [some (.inr (some ((6, 0, 0) : qz_N))), some (.inl a0)] [] _ _ _
  rw [gM_isEnd] at h
  refine ei_iln hb dX6_isEnd_0 (pc' := 1) rfl rfl ?_
  refine ei_c hb dX6_isEnd_1 (v := (0 : Int32)) (pc' := 2) (by decide) rfl ?_
  refine ei_aln hb dX6_isEnd_2 (pc' := 3) rfl rfl ?_
  refine ei_gr hb dX6_isEnd_3 (pc' := 6) (x := some ((17, 0, 0) : qz_N)) hcn qz_f_6_7 rfl rfl rfl rfl ?_
  refine ei_c hb dX6_isEnd_6 (v := (4 : Int32)) (pc' := 7) (by decide) rfl ?_
  refine ei_ia hb dX6_isEnd_7 (pc' := 8) (x := (f ((17, 0, 0) : qz_N) 4)) rfl (show qz_xi (4 : Int32) 283 = true by decide) rfl rfl ?_
  refine ei_c hb dX6_isEnd_8 (v := (1 : Int32)) (pc' := 9) (by decide) rfl ?_
  refine ei_sub hb dX6_isEnd_9 (pc' := 10) rfl ?_
  refine ei_cs hb dX6_isEnd_10 (pc' := 13) (M1 := (qz_mk f p)) (as := [.inl a0, .inl (0 : Int32), .inl ((f ((17, 0, 0) : qz_N) 4) - (1 : Int32))]) (rest := []) (st' := [.inl (gM_in f a0 (0 : Int32) ((f ((17, 0, 0) : qz_N) 4) - (1 : Int32)))]) hcn qz_c_6_36 rfl qz_k_84 (qz_q_87_84) (Nat.le_of_ble_eq_true rfl) (Nat.le_of_ble_eq_true rfl) rfl rfl (vM_in f p a0 (0 : Int32) ((f ((17, 0, 0) : qz_N) 4) - (1 : Int32))) rfl rfl ?_
  have h := Option.some.inj h
  subst h
  exact ei_retz hb dX6_isEnd_13 rfl zM_in
def gM_isLine (f : qz_F) (a0 : Int32) : Int32 :=
  (gM_in f a0 (0 : Int32) (1 : Int32))
set_option maxHeartbeats 4000000 in
theorem vM_isLine (f : qz_F) (p : Nat → Nat) (a0 : Int32) : qz_E 88 0 (qz_in0 88 [.inl a0]) [] (qz_mk f p) (some (.inl (gM_isLine f a0))) (qz_mk f p) := by
  have hb : qz_b 88 = cX6_isLine := rfl
  have hcn : qz_cn 88 = 6 := rfl
  obtain ⟨r, h⟩ : ∃ r, (gM_isLine f a0) = r := ⟨_, rfl⟩
  rw [h]
  show qz_E 88 0 [some (.inl a0)] [] _ _ _
  rw [gM_isLine] at h
  refine ei_iln hb dX6_isLine_0 (pc' := 1) rfl rfl ?_
  refine ei_c hb dX6_isLine_1 (v := (0 : Int32)) (pc' := 2) (by decide) rfl ?_
  refine ei_c hb dX6_isLine_2 (v := (1 : Int32)) (pc' := 3) (by decide) rfl ?_
  refine ei_cs hb dX6_isLine_3 (pc' := 6) (M1 := (qz_mk f p)) (as := [.inl a0, .inl (0 : Int32), .inl (1 : Int32)]) (rest := []) (st' := [.inl (gM_in f a0 (0 : Int32) (1 : Int32))]) hcn qz_c_6_36 rfl qz_k_84 (qz_q_88_84) (Nat.le_of_ble_eq_true rfl) (Nat.le_of_ble_eq_true rfl) rfl rfl (vM_in f p a0 (0 : Int32) (1 : Int32)) rfl rfl ?_
  subst h
  exact ei_retz hb dX6_isLine_6 rfl zM_in
def gM_isStop (f : qz_F) (a0 : Int32) : Int32 :=
  (gM_in f a0 (1 : Int32) (9 : Int32))
set_option maxHeartbeats 4000000 in
theorem vM_isStop (f : qz_F) (p : Nat → Nat) (a0 : Int32) : qz_E 89 0 (qz_in0 89 [.inl a0]) [] (qz_mk f p) (some (.inl (gM_isStop f a0))) (qz_mk f p) := by
  have hb : qz_b 89 = cX6_isStop := rfl
  have hcn : qz_cn 89 = 6 := rfl
  obtain ⟨r, h⟩ : ∃ r, (gM_isStop f a0) = r := ⟨_, rfl⟩
  rw [h]
  show qz_E 89 0 [some (.inl a0)] [] _ _ _
  rw [gM_isStop] at h
  refine ei_iln hb dX6_isStop_0 (pc' := 1) rfl rfl ?_
  refine ei_c hb dX6_isStop_1 (v := (1 : Int32)) (pc' := 2) (by decide) rfl ?_
  refine ei_b hb dX6_isStop_2 (v := (9 : Int32)) (pc' := 4) (by decide) rfl ?_
  refine ei_cs hb dX6_isStop_4 (pc' := 7) (M1 := (qz_mk f p)) (as := [.inl a0, .inl (1 : Int32), .inl (9 : Int32)]) (rest := []) (st' := [.inl (gM_in f a0 (1 : Int32) (9 : Int32))]) hcn qz_c_6_36 rfl qz_k_84 (qz_q_89_84) (Nat.le_of_ble_eq_true rfl) (Nat.le_of_ble_eq_true rfl) rfl rfl (vM_in f p a0 (1 : Int32) (9 : Int32)) rfl rfl ?_
  subst h
  exact ei_retz hb dX6_isStop_7 rfl zM_in
def gM_minute (F : Nat) (f : qz_F) (a0 : Int32) : Option (Int32) :=
  if qz_xi ((13 : Int32) + a0) 283 = true then (some (f ((17, 0, 0) : qz_N) (((13 : Int32) + a0)).toNatClampNeg)) else none
set_option maxHeartbeats 4000000 in
theorem vM_minute (F : Nat) (f : qz_F) (p : Nat → Nat) (a0 : Int32) (r : Int32) (h : (gM_minute F f a0) = some r) : qz_E 90 0 (qz_in0 90 [.inr (some ((6, 0, 0) : qz_N)), .inl a0]) [] (qz_mk f p) (some (.inl r)) (qz_mk f p) := by
  have hb : qz_b 90 = cX6_minute := rfl
  have hcn : qz_cn 90 = 6 := rfl
  show qz_E 90 0 [some (.inr (some ((6, 0, 0) : qz_N))), some (.inl a0)] [] _ _ _
  rw [gM_minute] at h
  refine ei_aln hb dX6_minute_0 (pc' := 1) rfl rfl ?_
  refine ei_gr hb dX6_minute_1 (pc' := 4) (x := some ((17, 0, 0) : qz_N)) hcn qz_f_6_7 rfl rfl rfl rfl ?_
  refine ei_b hb dX6_minute_4 (v := (13 : Int32)) (pc' := 6) (by decide) rfl ?_
  refine ei_iln hb dX6_minute_6 (pc' := 7) rfl rfl ?_
  refine ei_add hb dX6_minute_7 (pc' := 8) rfl ?_
  by_cases c1 : qz_xi ((13 : Int32) + a0) 283 = true
  · rw [if_pos c1] at h
    refine ei_ia hb dX6_minute_8 (pc' := 9) (x := (f ((17, 0, 0) : qz_N) (((13 : Int32) + a0)).toNatClampNeg)) rfl c1 rfl rfl ?_
    have h := Option.some.inj h
    subst h
    exact ei_reti hb dX6_minute_9 rfl
  · rw [if_neg c1] at h
    cases h
def gM_partner (F : Nat) (f : qz_F) (a0 : Int32) (a1 : Int32) : Option (Int32) :=
  if qz_xi (((23 : Int32) + ((10 : Int32) * a0)) + a1) 283 = true then (if (f ((17, 0, 0) : qz_N) ((((23 : Int32) + ((10 : Int32) * a0)) + a1)).toNatClampNeg) = 0 then (some (-5 : Int32)) else (some ((f ((17, 0, 0) : qz_N) ((((23 : Int32) + ((10 : Int32) * a0)) + a1)).toNatClampNeg) - (1 : Int32)))) else none
set_option maxHeartbeats 4000000 in
theorem vM_partner (F : Nat) (f : qz_F) (p : Nat → Nat) (a0 : Int32) (a1 : Int32) (r : Int32) (h : (gM_partner F f a0 a1) = some r) : qz_E 91 0 (qz_in0 91 [.inr (some ((6, 0, 0) : qz_N)), .inl a0, .inl a1]) [] (qz_mk f p) (some (.inl r)) (qz_mk f p) := by
  have hb : qz_b 91 = cX6_partner := rfl
  have hcn : qz_cn 91 = 6 := rfl
  show qz_E 91 0 [some (.inr (some ((6, 0, 0) : qz_N))), some (.inl a0), some (.inl a1), none] [] _ _ _
  rw [gM_partner] at h
  refine ei_aln hb dX6_partner_0 (pc' := 1) rfl rfl ?_
  refine ei_gr hb dX6_partner_1 (pc' := 4) (x := some ((17, 0, 0) : qz_N)) hcn qz_f_6_7 rfl rfl rfl rfl ?_
  refine ei_b hb dX6_partner_4 (v := (23 : Int32)) (pc' := 6) (by decide) rfl ?_
  refine ei_b hb dX6_partner_6 (v := (10 : Int32)) (pc' := 8) (by decide) rfl ?_
  refine ei_iln hb dX6_partner_8 (pc' := 9) rfl rfl ?_
  refine ei_mul hb dX6_partner_9 (pc' := 10) rfl ?_
  refine ei_add hb dX6_partner_10 (pc' := 11) rfl ?_
  refine ei_iln hb dX6_partner_11 (pc' := 12) rfl rfl ?_
  refine ei_add hb dX6_partner_12 (pc' := 13) rfl ?_
  by_cases c1 : qz_xi (((23 : Int32) + ((10 : Int32) * a0)) + a1) 283 = true
  · rw [if_pos c1] at h
    refine ei_ia hb dX6_partner_13 (pc' := 14) (x := (f ((17, 0, 0) : qz_N) ((((23 : Int32) + ((10 : Int32) * a0)) + a1)).toNatClampNeg)) rfl c1 rfl rfl ?_
    refine ei_isn hb dX6_partner_14 (pc' := 15) (ls' := [some (.inr (some ((6, 0, 0) : qz_N))), some (.inl a0), some (.inl a1), some (.inl (f ((17, 0, 0) : qz_N) ((((23 : Int32) + ((10 : Int32) * a0)) + a1)).toNatClampNeg))]) (Nat.le_of_ble_eq_true rfl) rfl rfl ?_
    refine ei_iln hb dX6_partner_15 (pc' := 16) rfl rfl ?_
    by_cases c2 : (f ((17, 0, 0) : qz_N) ((((23 : Int32) + ((10 : Int32) * a0)) + a1)).toNatClampNeg) = 0
    · rw [if_pos c2] at h
      refine ei_ifF hb dX6_partner_16 (pc' := 19) (t := 24) (decide_eq_false (fun q => q c2)) (by decide) rfl ?_
      refine ei_b hb dX6_partner_19 (v := (-5 : Int32)) (pc' := 21) (by decide) rfl ?_
      refine ei_go hb dX6_partner_21 (pc' := 27) (by decide) ?_
      have h := Option.some.inj h
      subst h
      exact ei_reti hb dX6_partner_27 rfl
    · rw [if_neg c2] at h
      refine ei_ifT hb dX6_partner_16 (pc' := 24) (decide_eq_true c2) (by decide) ?_
      refine ei_iln hb dX6_partner_24 (pc' := 25) rfl rfl ?_
      refine ei_c hb dX6_partner_25 (v := (1 : Int32)) (pc' := 26) (by decide) rfl ?_
      refine ei_sub hb dX6_partner_26 (pc' := 27) rfl ?_
      have h := Option.some.inj h
      subst h
      exact ei_reti hb dX6_partner_27 rfl
  · rw [if_neg c1] at h
    cases h
def gM_placeOf_L2 (F : Nat) (f : qz_F) (a0 : Int32) (K : (Int32 → Option (Int32))) : Nat → Int32 → Option (Int32)
  | 0, _ => none
  | n + 1, y2 => if (f ((17, 0, 0) : qz_N) 6) ≤ y2 then (K y2) else (Option.bind (gM_of F f y2 (0 : Int32)) fun x2 => if x2 = a0 then (some y2) else ((gM_placeOf_L2 F f a0 K) n (y2 + 1)))
def gM_placeOf (F : Nat) (f : qz_F) (a0 : Int32) : Option (Int32) :=
  gM_placeOf_L2 F f a0 (fun y25 => some (-5 : Int32)) F (0 : Int32)
set_option maxHeartbeats 4000000 in
theorem vM_placeOf_L2 (F : Nat) (f : qz_F) (p : Nat → Nat) (a0 : Int32) (K : (Int32 → Option (Int32))) (hK : ∀ (y2 : Int32) (r : Int32), K y2 = some r → qz_E 92 31 [some (.inr (some ((6, 0, 0) : qz_N))), some (.inl a0), some (.inl y2)] [] (qz_mk f p) (some (.inl r)) (qz_mk f p)) : ∀ (n : Nat) (y2 : Int32) (r : Int32), gM_placeOf_L2 F f a0 K n y2 = some r → qz_E 92 2 [some (.inr (some ((6, 0, 0) : qz_N))), some (.inl a0), some (.inl y2)] [] (qz_mk f p) (some (.inl r)) (qz_mk f p) := by
  have hb : qz_b 92 = cX6_placeOf := rfl
  have hcn : qz_cn 92 = 6 := rfl
  intro n
  induction n with
  | zero =>
    intro y2 r h
    cases h
  | succ n ih =>
    intro y2 r h
    rw [gM_placeOf_L2] at h
    refine ei_iln hb dX6_placeOf_2 (pc' := 3) rfl rfl ?_
    refine ei_aln hb dX6_placeOf_3 (pc' := 4) rfl rfl ?_
    refine ei_gr hb dX6_placeOf_4 (pc' := 7) (x := some ((17, 0, 0) : qz_N)) hcn qz_f_6_7 rfl rfl rfl rfl ?_
    refine ei_b hb dX6_placeOf_7 (v := (6 : Int32)) (pc' := 9) (by decide) rfl ?_
    refine ei_ia hb dX6_placeOf_9 (pc' := 10) (x := (f ((17, 0, 0) : qz_N) 6)) rfl (show qz_xi (6 : Int32) 283 = true by decide) rfl rfl ?_
    by_cases c1 : (f ((17, 0, 0) : qz_N) 6) ≤ y2
    · rw [if_pos c1] at h
      refine ei_icT hb dX6_placeOf_10 (pc' := 31) (decide_eq_true c1) (by decide) ?_
      exact hK y2 _ h
    · rw [if_neg c1] at h
      refine ei_icF hb dX6_placeOf_10 (pc' := 13) (t := 31) (decide_eq_false c1) (by decide) rfl ?_
      refine ei_aln hb dX6_placeOf_13 (pc' := 14) rfl rfl ?_
      refine ei_iln hb dX6_placeOf_14 (pc' := 15) rfl rfl ?_
      refine ei_c hb dX6_placeOf_15 (v := (0 : Int32)) (pc' := 16) (by decide) rfl ?_
      obtain ⟨x2, e3, h⟩ := Option.bind_eq_some_iff.mp h
      refine ei_cv hb dX6_placeOf_16 (pc' := 19) (M1 := (qz_mk f p)) (as := [.inl y2, .inl (0 : Int32)]) (rest := []) (st' := [.inl x2]) hcn qz_c_6_40 qz_k_85 (qz_q_92_85) (Nat.le_of_ble_eq_true rfl) (Nat.le_of_ble_eq_true rfl) rfl rfl rfl (vM_of F f p y2 (0 : Int32) _ e3) rfl rfl ?_
      refine ei_iln hb dX6_placeOf_19 (pc' := 20) rfl rfl ?_
      by_cases c4 : x2 = a0
      · rw [if_pos c4] at h
        refine ei_icF hb dX6_placeOf_20 (pc' := 23) (t := 25) (decide_eq_false (fun q => q c4)) (by decide) rfl ?_
        refine ei_iln hb dX6_placeOf_23 (pc' := 24) rfl rfl ?_
        have h := Option.some.inj h
        subst h
        exact ei_reti hb dX6_placeOf_24 rfl
      · rw [if_neg c4] at h
        refine ei_icT hb dX6_placeOf_20 (pc' := 25) (decide_eq_true c4) (by decide) ?_
        refine ei_inc hb dX6_placeOf_25 (v := (y2 + 1)) (pc' := 28) (ls' := [some (.inr (some ((6, 0, 0) : qz_N))), some (.inl a0), some (.inl (y2 + 1))]) rfl rfl rfl rfl ?_
        refine ei_go hb dX6_placeOf_28 (pc' := 2) (by decide) ?_
        exact ih (y2 + 1) _ h
set_option maxHeartbeats 4000000 in
theorem vM_placeOf (F : Nat) (f : qz_F) (p : Nat → Nat) (a0 : Int32) (r : Int32) (h : (gM_placeOf F f a0) = some r) : qz_E 92 0 (qz_in0 92 [.inr (some ((6, 0, 0) : qz_N)), .inl a0]) [] (qz_mk f p) (some (.inl r)) (qz_mk f p) := by
  have hb : qz_b 92 = cX6_placeOf := rfl
  have hcn : qz_cn 92 = 6 := rfl
  show qz_E 92 0 [some (.inr (some ((6, 0, 0) : qz_N))), some (.inl a0), none] [] _ _ _
  rw [gM_placeOf] at h
  refine ei_c hb dX6_placeOf_0 (v := (0 : Int32)) (pc' := 1) (by decide) rfl ?_
  refine ei_isn hb dX6_placeOf_1 (pc' := 2) (ls' := [some (.inr (some ((6, 0, 0) : qz_N))), some (.inl a0), some (.inl (0 : Int32))]) (Nat.le_of_ble_eq_true rfl) rfl rfl ?_
  refine vM_placeOf_L2 F f p a0 _ ?_ F (0 : Int32) _ h
  intro y25 r h
  refine ei_b hb dX6_placeOf_31 (v := (-5 : Int32)) (pc' := 33) (by decide) rfl ?_
  have h := Option.some.inj h
  subst h
  exact ei_reti hb dX6_placeOf_33 rfl
def gM_records_L10 (F : Nat)  (K : (Int32 → qz_S → Option (qz_S))) : Nat → Int32 → qz_S → Option (qz_S)
  | 0, _, _ => none
  | n + 1, y1, T => if (849 : Int32) ≤ y1 then (K y1 T) else (if qz_xi (y1 + (283 : Int32)) 1132 = true then (if qz_xi y1 1132 = true then (qz_let (qz_wr T ((18, 0, 0) : qz_N) (y1).toNatClampNeg (T.1 ((18, 0, 0) : qz_N) ((y1 + (283 : Int32))).toNatClampNeg)) fun S5 => (gM_records_L10 F K) n (y1 + 1) S5) else none) else none)
def gM_records_L51 (F : Nat)  (K : (Int32 → qz_S → Option (qz_S))) : Nat → Int32 → qz_S → Option (qz_S)
  | 0, _, _ => none
  | n + 1, y1, T => if (283 : Int32) ≤ y1 then (K y1 T) else (if qz_xi y1 283 = true then (if qz_xi (((283 : Int32) * (T.1 ((6, 0, 0) : qz_N) 3)) + y1) 1132 = true then (qz_let (qz_wr T ((18, 0, 0) : qz_N) ((((283 : Int32) * (T.1 ((6, 0, 0) : qz_N) 3)) + y1)).toNatClampNeg (T.1 ((17, 0, 0) : qz_N) (y1).toNatClampNeg)) fun S12 => (gM_records_L51 F K) n (y1 + 1) S12) else none) else none)
def gM_records_L51b (F : Nat)  (K : (Int32 → qz_S → Option (qz_S))) : Nat → Int32 → qz_S → Option (qz_S)
  | 0, _, _ => none
  | n + 1, y1, T => if (283 : Int32) ≤ y1 then (K y1 T) else (if qz_xi y1 283 = true then (if qz_xi (((283 : Int32) * (T.1 ((6, 0, 0) : qz_N) 3)) + y1) 1132 = true then (qz_let (qz_wr T ((18, 0, 0) : qz_N) ((((283 : Int32) * (T.1 ((6, 0, 0) : qz_N) 3)) + y1)).toNatClampNeg (T.1 ((17, 0, 0) : qz_N) (y1).toNatClampNeg)) fun S19 => (gM_records_L51b F K) n (y1 + 1) S19) else none) else none)
def gM_records (F : Nat) (S : qz_S)  : Option (qz_S) :=
  if (S.1 ((6, 0, 0) : qz_N) 3) = (4 : Int32) then (gM_records_L10 F (fun y16 T7 => qz_let (qz_wr T7 ((6, 0, 0) : qz_N) 3 ((T7.1 ((6, 0, 0) : qz_N) 3) - (1 : Int32))) fun S8 => gM_records_L51 F (fun y113 T14 => qz_let (qz_wr T14 ((6, 0, 0) : qz_N) 3 ((T14.1 ((6, 0, 0) : qz_N) 3) + (1 : Int32))) fun S15 => some S15) F (0 : Int32) S8) F (0 : Int32) S) else (gM_records_L51b F (fun y120 T21 => qz_let (qz_wr T21 ((6, 0, 0) : qz_N) 3 ((T21.1 ((6, 0, 0) : qz_N) 3) + (1 : Int32))) fun S22 => some S22) F (0 : Int32) S)
set_option maxHeartbeats 4000000 in
theorem vM_records_L10 (F : Nat)  (K : (Int32 → qz_S → Option (qz_S))) (hK : ∀ (y1 : Int32) (T : qz_S) (r : qz_S), K y1 T = some r → qz_E 93 39 [some (.inr (some ((6, 0, 0) : qz_N))), some (.inl y1)] [] (qz_mk T.1 T.2) none (qz_mk r.1 r.2)) : ∀ (n : Nat) (y1 : Int32) (T : qz_S) (r : qz_S), gM_records_L10 F K n y1 T = some r → qz_E 93 10 [some (.inr (some ((6, 0, 0) : qz_N))), some (.inl y1)] [] (qz_mk T.1 T.2) none (qz_mk r.1 r.2) := by
  have hb : qz_b 93 = cX6_records := rfl
  have hcn : qz_cn 93 = 6 := rfl
  intro n
  induction n with
  | zero =>
    intro y1 T r h
    cases h
  | succ n ih =>
    intro y1 T r h
    rw [gM_records_L10] at h
    refine ei_iln hb dX6_records_10 (pc' := 11) rfl rfl ?_
    refine ei_s hb dX6_records_11 (v := (849 : Int32)) (pc' := 14) (by decide) rfl ?_
    by_cases c2 : (849 : Int32) ≤ y1
    · rw [if_pos c2] at h
      refine ei_icT hb dX6_records_14 (pc' := 39) (decide_eq_true c2) (by decide) ?_
      exact hK y1 T _ h
    · rw [if_neg c2] at h
      refine ei_icF hb dX6_records_14 (pc' := 17) (t := 39) (decide_eq_false c2) (by decide) rfl ?_
      refine ei_aln hb dX6_records_17 (pc' := 18) rfl rfl ?_
      refine ei_gr hb dX6_records_18 (pc' := 21) (x := some ((18, 0, 0) : qz_N)) hcn qz_f_6_13 rfl rfl rfl rfl ?_
      refine ei_iln hb dX6_records_21 (pc' := 22) rfl rfl ?_
      refine ei_aln hb dX6_records_22 (pc' := 23) rfl rfl ?_
      refine ei_gr hb dX6_records_23 (pc' := 26) (x := some ((18, 0, 0) : qz_N)) hcn qz_f_6_13 rfl rfl rfl rfl ?_
      refine ei_iln hb dX6_records_26 (pc' := 27) rfl rfl ?_
      refine ei_s hb dX6_records_27 (v := (283 : Int32)) (pc' := 30) (by decide) rfl ?_
      refine ei_add hb dX6_records_30 (pc' := 31) rfl ?_
      by_cases c3 : qz_xi (y1 + (283 : Int32)) 1132 = true
      · rw [if_pos c3] at h
        refine ei_ia hb dX6_records_31 (pc' := 32) (x := (T.1 ((18, 0, 0) : qz_N) ((y1 + (283 : Int32))).toNatClampNeg)) rfl c3 rfl rfl ?_
        by_cases c4 : qz_xi y1 1132 = true
        · rw [if_pos c4] at h
          obtain ⟨S5, eS5⟩ : ∃ q, q = qz_wr T ((18, 0, 0) : qz_N) (y1).toNatClampNeg (T.1 ((18, 0, 0) : qz_N) ((y1 + (283 : Int32))).toNatClampNeg) := ⟨_, rfl⟩
          rw [qz_let, ← eS5] at h
          refine ei_ist hb dX6_records_32 (pc' := 33) (M1 := (qz_mk S5.1 S5.2)) rfl (Nat.le_of_ble_eq_true rfl) c4 (by rw [eS5]; rfl) rfl ?_
          refine ei_inc hb dX6_records_33 (v := (y1 + 1)) (pc' := 36) (ls' := [some (.inr (some ((6, 0, 0) : qz_N))), some (.inl (y1 + 1))]) rfl rfl rfl rfl ?_
          refine ei_go hb dX6_records_36 (pc' := 10) (by decide) ?_
          exact ih (y1 + 1) S5 _ h
        · rw [if_neg c4] at h
          cases h
      · rw [if_neg c3] at h
        cases h
set_option maxHeartbeats 4000000 in
theorem vM_records_L51 (F : Nat)  (K : (Int32 → qz_S → Option (qz_S))) (hK : ∀ (y1 : Int32) (T : qz_S) (r : qz_S), K y1 T = some r → qz_E 93 85 [some (.inr (some ((6, 0, 0) : qz_N))), some (.inl y1)] [] (qz_mk T.1 T.2) none (qz_mk r.1 r.2)) : ∀ (n : Nat) (y1 : Int32) (T : qz_S) (r : qz_S), gM_records_L51 F K n y1 T = some r → qz_E 93 51 [some (.inr (some ((6, 0, 0) : qz_N))), some (.inl y1)] [] (qz_mk T.1 T.2) none (qz_mk r.1 r.2) := by
  have hb : qz_b 93 = cX6_records := rfl
  have hcn : qz_cn 93 = 6 := rfl
  intro n
  induction n with
  | zero =>
    intro y1 T r h
    cases h
  | succ n ih =>
    intro y1 T r h
    rw [gM_records_L51] at h
    refine ei_iln hb dX6_records_51 (pc' := 52) rfl rfl ?_
    refine ei_s hb dX6_records_52 (v := (283 : Int32)) (pc' := 55) (by decide) rfl ?_
    by_cases c9 : (283 : Int32) ≤ y1
    · rw [if_pos c9] at h
      refine ei_icT hb dX6_records_55 (pc' := 85) (decide_eq_true c9) (by decide) ?_
      exact hK y1 T _ h
    · rw [if_neg c9] at h
      refine ei_icF hb dX6_records_55 (pc' := 58) (t := 85) (decide_eq_false c9) (by decide) rfl ?_
      refine ei_aln hb dX6_records_58 (pc' := 59) rfl rfl ?_
      refine ei_gr hb dX6_records_59 (pc' := 62) (x := some ((18, 0, 0) : qz_N)) hcn qz_f_6_13 rfl rfl rfl rfl ?_
      refine ei_s hb dX6_records_62 (v := (283 : Int32)) (pc' := 65) (by decide) rfl ?_
      refine ei_aln hb dX6_records_65 (pc' := 66) rfl rfl ?_
      refine ei_gi hb dX6_records_66 (pc' := 69) (x := (T.1 ((6, 0, 0) : qz_N) 3)) hcn qz_f_6_44 rfl rfl rfl rfl ?_
      refine ei_mul hb dX6_records_69 (pc' := 70) rfl ?_
      refine ei_iln hb dX6_records_70 (pc' := 71) rfl rfl ?_
      refine ei_add hb dX6_records_71 (pc' := 72) rfl ?_
      refine ei_aln hb dX6_records_72 (pc' := 73) rfl rfl ?_
      refine ei_gr hb dX6_records_73 (pc' := 76) (x := some ((17, 0, 0) : qz_N)) hcn qz_f_6_7 rfl rfl rfl rfl ?_
      refine ei_iln hb dX6_records_76 (pc' := 77) rfl rfl ?_
      by_cases c10 : qz_xi y1 283 = true
      · rw [if_pos c10] at h
        refine ei_ia hb dX6_records_77 (pc' := 78) (x := (T.1 ((17, 0, 0) : qz_N) (y1).toNatClampNeg)) rfl c10 rfl rfl ?_
        by_cases c11 : qz_xi (((283 : Int32) * (T.1 ((6, 0, 0) : qz_N) 3)) + y1) 1132 = true
        · rw [if_pos c11] at h
          obtain ⟨S12, eS12⟩ : ∃ q, q = qz_wr T ((18, 0, 0) : qz_N) ((((283 : Int32) * (T.1 ((6, 0, 0) : qz_N) 3)) + y1)).toNatClampNeg (T.1 ((17, 0, 0) : qz_N) (y1).toNatClampNeg) := ⟨_, rfl⟩
          rw [qz_let, ← eS12] at h
          refine ei_ist hb dX6_records_78 (pc' := 79) (M1 := (qz_mk S12.1 S12.2)) rfl (Nat.le_of_ble_eq_true rfl) c11 (by rw [eS12]; rfl) rfl ?_
          refine ei_inc hb dX6_records_79 (v := (y1 + 1)) (pc' := 82) (ls' := [some (.inr (some ((6, 0, 0) : qz_N))), some (.inl (y1 + 1))]) rfl rfl rfl rfl ?_
          refine ei_go hb dX6_records_82 (pc' := 51) (by decide) ?_
          exact ih (y1 + 1) S12 _ h
        · rw [if_neg c11] at h
          cases h
      · rw [if_neg c10] at h
        cases h
set_option maxHeartbeats 4000000 in
theorem vM_records_L51b (F : Nat)  (K : (Int32 → qz_S → Option (qz_S))) (hK : ∀ (y1 : Int32) (T : qz_S) (r : qz_S), K y1 T = some r → qz_E 93 85 [some (.inr (some ((6, 0, 0) : qz_N))), some (.inl y1)] [] (qz_mk T.1 T.2) none (qz_mk r.1 r.2)) : ∀ (n : Nat) (y1 : Int32) (T : qz_S) (r : qz_S), gM_records_L51b F K n y1 T = some r → qz_E 93 51 [some (.inr (some ((6, 0, 0) : qz_N))), some (.inl y1)] [] (qz_mk T.1 T.2) none (qz_mk r.1 r.2) := by
  have hb : qz_b 93 = cX6_records := rfl
  have hcn : qz_cn 93 = 6 := rfl
  intro n
  induction n with
  | zero =>
    intro y1 T r h
    cases h
  | succ n ih =>
    intro y1 T r h
    rw [gM_records_L51b] at h
    refine ei_iln hb dX6_records_51 (pc' := 52) rfl rfl ?_
    refine ei_s hb dX6_records_52 (v := (283 : Int32)) (pc' := 55) (by decide) rfl ?_
    by_cases c16 : (283 : Int32) ≤ y1
    · rw [if_pos c16] at h
      refine ei_icT hb dX6_records_55 (pc' := 85) (decide_eq_true c16) (by decide) ?_
      exact hK y1 T _ h
    · rw [if_neg c16] at h
      refine ei_icF hb dX6_records_55 (pc' := 58) (t := 85) (decide_eq_false c16) (by decide) rfl ?_
      refine ei_aln hb dX6_records_58 (pc' := 59) rfl rfl ?_
      refine ei_gr hb dX6_records_59 (pc' := 62) (x := some ((18, 0, 0) : qz_N)) hcn qz_f_6_13 rfl rfl rfl rfl ?_
      refine ei_s hb dX6_records_62 (v := (283 : Int32)) (pc' := 65) (by decide) rfl ?_
      refine ei_aln hb dX6_records_65 (pc' := 66) rfl rfl ?_
      refine ei_gi hb dX6_records_66 (pc' := 69) (x := (T.1 ((6, 0, 0) : qz_N) 3)) hcn qz_f_6_44 rfl rfl rfl rfl ?_
      refine ei_mul hb dX6_records_69 (pc' := 70) rfl ?_
      refine ei_iln hb dX6_records_70 (pc' := 71) rfl rfl ?_
      refine ei_add hb dX6_records_71 (pc' := 72) rfl ?_
      refine ei_aln hb dX6_records_72 (pc' := 73) rfl rfl ?_
      refine ei_gr hb dX6_records_73 (pc' := 76) (x := some ((17, 0, 0) : qz_N)) hcn qz_f_6_7 rfl rfl rfl rfl ?_
      refine ei_iln hb dX6_records_76 (pc' := 77) rfl rfl ?_
      by_cases c17 : qz_xi y1 283 = true
      · rw [if_pos c17] at h
        refine ei_ia hb dX6_records_77 (pc' := 78) (x := (T.1 ((17, 0, 0) : qz_N) (y1).toNatClampNeg)) rfl c17 rfl rfl ?_
        by_cases c18 : qz_xi (((283 : Int32) * (T.1 ((6, 0, 0) : qz_N) 3)) + y1) 1132 = true
        · rw [if_pos c18] at h
          obtain ⟨S19, eS19⟩ : ∃ q, q = qz_wr T ((18, 0, 0) : qz_N) ((((283 : Int32) * (T.1 ((6, 0, 0) : qz_N) 3)) + y1)).toNatClampNeg (T.1 ((17, 0, 0) : qz_N) (y1).toNatClampNeg) := ⟨_, rfl⟩
          rw [qz_let, ← eS19] at h
          refine ei_ist hb dX6_records_78 (pc' := 79) (M1 := (qz_mk S19.1 S19.2)) rfl (Nat.le_of_ble_eq_true rfl) c18 (by rw [eS19]; rfl) rfl ?_
          refine ei_inc hb dX6_records_79 (v := (y1 + 1)) (pc' := 82) (ls' := [some (.inr (some ((6, 0, 0) : qz_N))), some (.inl (y1 + 1))]) rfl rfl rfl rfl ?_
          refine ei_go hb dX6_records_82 (pc' := 51) (by decide) ?_
          exact ih (y1 + 1) S19 _ h
        · rw [if_neg c18] at h
          cases h
      · rw [if_neg c17] at h
        cases h
set_option maxHeartbeats 4000000 in
theorem vM_records (F : Nat) (S : qz_S)  (r : qz_S) (h : (gM_records F S) = some r) : qz_E 93 0 (qz_in0 93 [.inr (some ((6, 0, 0) : qz_N))]) [] (qz_mk S.1 S.2) none (qz_mk r.1 r.2) := by
  have hb : qz_b 93 = cX6_records := rfl
  have hcn : qz_cn 93 = 6 := rfl
  show qz_E 93 0 [some (.inr (some ((6, 0, 0) : qz_N))), none] [] _ _ _
  rw [gM_records] at h
  refine ei_aln hb dX6_records_0 (pc' := 1) rfl rfl ?_
  refine ei_gi hb dX6_records_1 (pc' := 4) (x := (S.1 ((6, 0, 0) : qz_N) 3)) hcn qz_f_6_44 rfl rfl rfl rfl ?_
  refine ei_c hb dX6_records_4 (v := (4 : Int32)) (pc' := 5) (by decide) rfl ?_
  by_cases c1 : (S.1 ((6, 0, 0) : qz_N) 3) = (4 : Int32)
  · rw [if_pos c1] at h
    refine ei_icF hb dX6_records_5 (pc' := 8) (t := 49) (decide_eq_false (fun q => q c1)) (by decide) rfl ?_
    refine ei_c hb dX6_records_8 (v := (0 : Int32)) (pc' := 9) (by decide) rfl ?_
    refine ei_isn hb dX6_records_9 (pc' := 10) (ls' := [some (.inr (some ((6, 0, 0) : qz_N))), some (.inl (0 : Int32))]) (Nat.le_of_ble_eq_true rfl) rfl rfl ?_
    refine vM_records_L10 F _ ?_ F (0 : Int32) S _ h
    intro y16 T7 r h
    refine ei_aln hb dX6_records_39 (pc' := 40) rfl rfl ?_
    refine ei_dup hb dX6_records_40 (pc' := 41) rfl ?_
    refine ei_gi hb dX6_records_41 (pc' := 44) (x := (T7.1 ((6, 0, 0) : qz_N) 3)) hcn qz_f_6_44 rfl rfl rfl rfl ?_
    refine ei_c hb dX6_records_44 (v := (1 : Int32)) (pc' := 45) (by decide) rfl ?_
    refine ei_sub hb dX6_records_45 (pc' := 46) rfl ?_
    obtain ⟨S8, eS8⟩ : ∃ q, q = qz_wr T7 ((6, 0, 0) : qz_N) 3 ((T7.1 ((6, 0, 0) : qz_N) 3) - (1 : Int32)) := ⟨_, rfl⟩
    rw [qz_let, ← eS8] at h
    refine ei_pi hb dX6_records_46 (pc' := 49) (M1 := (qz_mk S8.1 S8.2)) hcn qz_f_6_44 rfl rfl (fun q => by cases q) rfl (by rw [eS8]; rfl) rfl ?_
    refine ei_c hb dX6_records_49 (v := (0 : Int32)) (pc' := 50) (by decide) rfl ?_
    refine ei_isn hb dX6_records_50 (pc' := 51) (ls' := [some (.inr (some ((6, 0, 0) : qz_N))), some (.inl (0 : Int32))]) (Nat.le_of_ble_eq_true rfl) rfl rfl ?_
    refine vM_records_L51 F _ ?_ F (0 : Int32) S8 _ h
    intro y113 T14 r h
    refine ei_aln hb dX6_records_85 (pc' := 86) rfl rfl ?_
    refine ei_dup hb dX6_records_86 (pc' := 87) rfl ?_
    refine ei_gi hb dX6_records_87 (pc' := 90) (x := (T14.1 ((6, 0, 0) : qz_N) 3)) hcn qz_f_6_44 rfl rfl rfl rfl ?_
    refine ei_c hb dX6_records_90 (v := (1 : Int32)) (pc' := 91) (by decide) rfl ?_
    refine ei_add hb dX6_records_91 (pc' := 92) rfl ?_
    obtain ⟨S15, eS15⟩ : ∃ q, q = qz_wr T14 ((6, 0, 0) : qz_N) 3 ((T14.1 ((6, 0, 0) : qz_N) 3) + (1 : Int32)) := ⟨_, rfl⟩
    rw [qz_let, ← eS15] at h
    refine ei_pi hb dX6_records_92 (pc' := 95) (M1 := (qz_mk S15.1 S15.2)) hcn qz_f_6_44 rfl rfl (fun q => by cases q) rfl (by rw [eS15]; rfl) rfl ?_
    have h := Option.some.inj h
    subst h
    exact ei_retv hb dX6_records_95 rfl
  · rw [if_neg c1] at h
    refine ei_icT hb dX6_records_5 (pc' := 49) (decide_eq_true c1) (by decide) ?_
    refine ei_c hb dX6_records_49 (v := (0 : Int32)) (pc' := 50) (by decide) rfl ?_
    refine ei_isn hb dX6_records_50 (pc' := 51) (ls' := [some (.inr (some ((6, 0, 0) : qz_N))), some (.inl (0 : Int32))]) (Nat.le_of_ble_eq_true rfl) rfl rfl ?_
    refine vM_records_L51b F _ ?_ F (0 : Int32) S _ h
    intro y120 T21 r h
    refine ei_aln hb dX6_records_85 (pc' := 86) rfl rfl ?_
    refine ei_dup hb dX6_records_86 (pc' := 87) rfl ?_
    refine ei_gi hb dX6_records_87 (pc' := 90) (x := (T21.1 ((6, 0, 0) : qz_N) 3)) hcn qz_f_6_44 rfl rfl rfl rfl ?_
    refine ei_c hb dX6_records_90 (v := (1 : Int32)) (pc' := 91) (by decide) rfl ?_
    refine ei_add hb dX6_records_91 (pc' := 92) rfl ?_
    obtain ⟨S22, eS22⟩ : ∃ q, q = qz_wr T21 ((6, 0, 0) : qz_N) 3 ((T21.1 ((6, 0, 0) : qz_N) 3) + (1 : Int32)) := ⟨_, rfl⟩
    rw [qz_let, ← eS22] at h
    refine ei_pi hb dX6_records_92 (pc' := 95) (M1 := (qz_mk S22.1 S22.2)) hcn qz_f_6_44 rfl rfl (fun q => by cases q) rfl (by rw [eS22]; rfl) rfl ?_
    have h := Option.some.inj h
    subst h
    exact ei_retv hb dX6_records_95 rfl
def gM_later (f : qz_F) (a0 : Int32) (a1 : Int32) : Int32 :=
  if a0 ≤ a1 then a1 else a0
set_option maxHeartbeats 4000000 in
theorem vM_later (f : qz_F) (p : Nat → Nat) (a0 : Int32) (a1 : Int32) : qz_E 94 0 (qz_in0 94 [.inl a0, .inl a1]) [] (qz_mk f p) (some (.inl (gM_later f a0 a1))) (qz_mk f p) := by
  have hb : qz_b 94 = cX6_later := rfl
  have hcn : qz_cn 94 = 6 := rfl
  obtain ⟨r, h⟩ : ∃ r, (gM_later f a0 a1) = r := ⟨_, rfl⟩
  rw [h]
  show qz_E 94 0 [some (.inl a0), some (.inl a1)] [] _ _ _
  rw [gM_later] at h
  refine ei_iln hb dX6_later_0 (pc' := 1) rfl rfl ?_
  refine ei_iln hb dX6_later_1 (pc' := 2) rfl rfl ?_
  by_cases c1 : a0 ≤ a1
  · rw [if_pos c1] at h
    refine ei_icT hb dX6_later_2 (pc' := 9) (decide_eq_true c1) (by decide) ?_
    refine ei_iln hb dX6_later_9 (pc' := 10) rfl rfl ?_
    subst h
    exact ei_reti hb dX6_later_10 rfl
  · rw [if_neg c1] at h
    refine ei_icF hb dX6_later_2 (pc' := 5) (t := 9) (decide_eq_false c1) (by decide) rfl ?_
    refine ei_iln hb dX6_later_5 (pc' := 6) rfl rfl ?_
    refine ei_go hb dX6_later_6 (pc' := 10) (by decide) ?_
    subst h
    exact ei_reti hb dX6_later_10 rfl
def gM_startOf (F : Nat) (f : qz_F) (a0 : Int32) (a1 : Int32) : Option (Int32) :=
  Option.bind (gM_partner F f a0 a1) fun x1 => if x1 = (-5 : Int32) then (Option.bind (gM_minute F f a1) fun x4 => some x4) else (Option.bind (gM_minute F f a1) fun x6 => Option.bind (gM_minute F f x1) fun x8 => some (gM_later f x6 x8))
set_option maxHeartbeats 4000000 in
theorem vM_startOf (F : Nat) (f : qz_F) (p : Nat → Nat) (a0 : Int32) (a1 : Int32) (r : Int32) (h : (gM_startOf F f a0 a1) = some r) : qz_E 95 0 (qz_in0 95 [.inr (some ((6, 0, 0) : qz_N)), .inl a0, .inl a1]) [] (qz_mk f p) (some (.inl r)) (qz_mk f p) := by
  have hb : qz_b 95 = cX6_startOf := rfl
  have hcn : qz_cn 95 = 6 := rfl
  show qz_E 95 0 [some (.inr (some ((6, 0, 0) : qz_N))), some (.inl a0), some (.inl a1), none] [] _ _ _
  rw [gM_startOf] at h
  refine ei_aln hb dX6_startOf_0 (pc' := 1) rfl rfl ?_
  refine ei_iln hb dX6_startOf_1 (pc' := 2) rfl rfl ?_
  refine ei_iln hb dX6_startOf_2 (pc' := 3) rfl rfl ?_
  obtain ⟨x1, e2, h⟩ := Option.bind_eq_some_iff.mp h
  refine ei_cv hb dX6_startOf_3 (pc' := 6) (M1 := (qz_mk f p)) (as := [.inl a0, .inl a1]) (rest := []) (st' := [.inl x1]) hcn qz_c_6_47 qz_k_91 (qz_q_95_91) (Nat.le_of_ble_eq_true rfl) (Nat.le_of_ble_eq_true rfl) rfl rfl rfl (vM_partner F f p a0 a1 _ e2) rfl rfl ?_
  refine ei_isn hb dX6_startOf_6 (pc' := 7) (ls' := [some (.inr (some ((6, 0, 0) : qz_N))), some (.inl a0), some (.inl a1), some (.inl x1)]) (Nat.le_of_ble_eq_true rfl) rfl rfl ?_
  refine ei_iln hb dX6_startOf_7 (pc' := 8) rfl rfl ?_
  refine ei_b hb dX6_startOf_8 (v := (-5 : Int32)) (pc' := 10) (by decide) rfl ?_
  by_cases c3 : x1 = (-5 : Int32)
  · rw [if_pos c3] at h
    refine ei_icF hb dX6_startOf_10 (pc' := 13) (t := 21) (decide_eq_false (fun q => q c3)) (by decide) rfl ?_
    refine ei_aln hb dX6_startOf_13 (pc' := 14) rfl rfl ?_
    refine ei_iln hb dX6_startOf_14 (pc' := 15) rfl rfl ?_
    obtain ⟨x4, e5, h⟩ := Option.bind_eq_some_iff.mp h
    refine ei_cv hb dX6_startOf_15 (pc' := 18) (M1 := (qz_mk f p)) (as := [.inl a1]) (rest := []) (st' := [.inl x4]) hcn qz_c_6_50 qz_k_90 (qz_q_95_90) (Nat.le_of_ble_eq_true rfl) (Nat.le_of_ble_eq_true rfl) rfl rfl rfl (vM_minute F f p a1 _ e5) rfl rfl ?_
    refine ei_go hb dX6_startOf_18 (pc' := 34) (by decide) ?_
    have h := Option.some.inj h
    subst h
    exact ei_reti hb dX6_startOf_34 rfl
  · rw [if_neg c3] at h
    refine ei_icT hb dX6_startOf_10 (pc' := 21) (decide_eq_true c3) (by decide) ?_
    refine ei_aln hb dX6_startOf_21 (pc' := 22) rfl rfl ?_
    refine ei_iln hb dX6_startOf_22 (pc' := 23) rfl rfl ?_
    obtain ⟨x6, e7, h⟩ := Option.bind_eq_some_iff.mp h
    refine ei_cv hb dX6_startOf_23 (pc' := 26) (M1 := (qz_mk f p)) (as := [.inl a1]) (rest := []) (st' := [.inl x6]) hcn qz_c_6_50 qz_k_90 (qz_q_95_90) (Nat.le_of_ble_eq_true rfl) (Nat.le_of_ble_eq_true rfl) rfl rfl rfl (vM_minute F f p a1 _ e7) rfl rfl ?_
    refine ei_aln hb dX6_startOf_26 (pc' := 27) rfl rfl ?_
    refine ei_iln hb dX6_startOf_27 (pc' := 28) rfl rfl ?_
    obtain ⟨x8, e9, h⟩ := Option.bind_eq_some_iff.mp h
    refine ei_cv hb dX6_startOf_28 (pc' := 31) (M1 := (qz_mk f p)) (as := [.inl x1]) (rest := [.inl x6]) (st' := [.inl x8, .inl x6]) hcn qz_c_6_50 qz_k_90 (qz_q_95_90) (Nat.le_of_ble_eq_true rfl) (Nat.le_of_ble_eq_true rfl) rfl rfl rfl (vM_minute F f p x1 _ e9) rfl rfl ?_
    refine ei_cs hb dX6_startOf_31 (pc' := 34) (M1 := (qz_mk f p)) (as := [.inl x6, .inl x8]) (rest := []) (st' := [.inl (gM_later f x6 x8)]) hcn qz_c_6_54 rfl qz_k_94 (qz_q_95_94) (Nat.le_of_ble_eq_true rfl) (Nat.le_of_ble_eq_true rfl) rfl rfl (vM_later f p x6 x8) rfl rfl ?_
    have h := Option.some.inj h
    subst h
    exact ei_reti hb dX6_startOf_34 rfl
def gM_isOn (F : Nat) (f : qz_F) (a0 : Int32) (a1 : Int32) (a2 : Int32) : Option (Int32) :=
  Option.bind (gM_of F f a0 (2 : Int32)) fun x1 => if x1 = a1 then (Option.bind (gM_of F f a0 (1 : Int32)) fun x4 => if x4 = a2 then (some (1 : Int32)) else (Option.bind (gM_of F f a0 (1 : Int32)) fun x7 => Option.bind (gM_partner F f a1 a2) fun x9 => if x7 = x9 then (some (1 : Int32)) else (some (0 : Int32)))) else (some (0 : Int32))
set_option maxHeartbeats 4000000 in
theorem vM_isOn (F : Nat) (f : qz_F) (p : Nat → Nat) (a0 : Int32) (a1 : Int32) (a2 : Int32) (r : Int32) (h : (gM_isOn F f a0 a1 a2) = some r) : qz_E 96 0 (qz_in0 96 [.inr (some ((6, 0, 0) : qz_N)), .inl a0, .inl a1, .inl a2]) [] (qz_mk f p) (some (.inl r)) (qz_mk f p) := by
  have hb : qz_b 96 = cX6_isOn := rfl
  have hcn : qz_cn 96 = 6 := rfl
  show qz_E 96 0 [some (.inr (some ((6, 0, 0) : qz_N))), some (.inl a0), some (.inl a1), some (.inl a2)] [] _ _ _
  rw [gM_isOn] at h
  refine ei_aln hb dX6_isOn_0 (pc' := 1) rfl rfl ?_
  refine ei_iln hb dX6_isOn_1 (pc' := 2) rfl rfl ?_
  refine ei_c hb dX6_isOn_2 (v := (2 : Int32)) (pc' := 3) (by decide) rfl ?_
  obtain ⟨x1, e2, h⟩ := Option.bind_eq_some_iff.mp h
  refine ei_cv hb dX6_isOn_3 (pc' := 6) (M1 := (qz_mk f p)) (as := [.inl a0, .inl (2 : Int32)]) (rest := []) (st' := [.inl x1]) hcn qz_c_6_40 qz_k_85 (qz_q_96_85) (Nat.le_of_ble_eq_true rfl) (Nat.le_of_ble_eq_true rfl) rfl rfl rfl (vM_of F f p a0 (2 : Int32) _ e2) rfl rfl ?_
  refine ei_iln hb dX6_isOn_6 (pc' := 7) rfl rfl ?_
  by_cases c3 : x1 = a1
  · rw [if_pos c3] at h
    refine ei_icF hb dX6_isOn_7 (pc' := 10) (t := 39) (decide_eq_false (fun q => q c3)) (by decide) rfl ?_
    refine ei_aln hb dX6_isOn_10 (pc' := 11) rfl rfl ?_
    refine ei_iln hb dX6_isOn_11 (pc' := 12) rfl rfl ?_
    refine ei_c hb dX6_isOn_12 (v := (1 : Int32)) (pc' := 13) (by decide) rfl ?_
    obtain ⟨x4, e5, h⟩ := Option.bind_eq_some_iff.mp h
    refine ei_cv hb dX6_isOn_13 (pc' := 16) (M1 := (qz_mk f p)) (as := [.inl a0, .inl (1 : Int32)]) (rest := []) (st' := [.inl x4]) hcn qz_c_6_40 qz_k_85 (qz_q_96_85) (Nat.le_of_ble_eq_true rfl) (Nat.le_of_ble_eq_true rfl) rfl rfl rfl (vM_of F f p a0 (1 : Int32) _ e5) rfl rfl ?_
    refine ei_iln hb dX6_isOn_16 (pc' := 17) rfl rfl ?_
    by_cases c6 : x4 = a2
    · rw [if_pos c6] at h
      refine ei_icT hb dX6_isOn_17 (pc' := 35) (decide_eq_true c6) (by decide) ?_
      refine ei_c hb dX6_isOn_35 (v := (1 : Int32)) (pc' := 36) (by decide) rfl ?_
      refine ei_go hb dX6_isOn_36 (pc' := 40) (by decide) ?_
      have h := Option.some.inj h
      subst h
      exact ei_retz hb dX6_isOn_40 rfl (by decide)
    · rw [if_neg c6] at h
      refine ei_icF hb dX6_isOn_17 (pc' := 20) (t := 35) (decide_eq_false c6) (by decide) rfl ?_
      refine ei_aln hb dX6_isOn_20 (pc' := 21) rfl rfl ?_
      refine ei_iln hb dX6_isOn_21 (pc' := 22) rfl rfl ?_
      refine ei_c hb dX6_isOn_22 (v := (1 : Int32)) (pc' := 23) (by decide) rfl ?_
      obtain ⟨x7, e8, h⟩ := Option.bind_eq_some_iff.mp h
      refine ei_cv hb dX6_isOn_23 (pc' := 26) (M1 := (qz_mk f p)) (as := [.inl a0, .inl (1 : Int32)]) (rest := []) (st' := [.inl x7]) hcn qz_c_6_40 qz_k_85 (qz_q_96_85) (Nat.le_of_ble_eq_true rfl) (Nat.le_of_ble_eq_true rfl) rfl rfl rfl (vM_of F f p a0 (1 : Int32) _ e8) rfl rfl ?_
      refine ei_aln hb dX6_isOn_26 (pc' := 27) rfl rfl ?_
      refine ei_iln hb dX6_isOn_27 (pc' := 28) rfl rfl ?_
      refine ei_iln hb dX6_isOn_28 (pc' := 29) rfl rfl ?_
      obtain ⟨x9, e10, h⟩ := Option.bind_eq_some_iff.mp h
      refine ei_cv hb dX6_isOn_29 (pc' := 32) (M1 := (qz_mk f p)) (as := [.inl a1, .inl a2]) (rest := [.inl x7]) (st' := [.inl x9, .inl x7]) hcn qz_c_6_47 qz_k_91 (qz_q_96_91) (Nat.le_of_ble_eq_true rfl) (Nat.le_of_ble_eq_true rfl) rfl rfl rfl (vM_partner F f p a1 a2 _ e10) rfl rfl ?_
      by_cases c11 : x7 = x9
      · rw [if_pos c11] at h
        refine ei_icF hb dX6_isOn_32 (pc' := 35) (t := 39) (decide_eq_false (fun q => q c11)) (by decide) rfl ?_
        refine ei_c hb dX6_isOn_35 (v := (1 : Int32)) (pc' := 36) (by decide) rfl ?_
        refine ei_go hb dX6_isOn_36 (pc' := 40) (by decide) ?_
        have h := Option.some.inj h
        subst h
        exact ei_retz hb dX6_isOn_40 rfl (by decide)
      · rw [if_neg c11] at h
        refine ei_icT hb dX6_isOn_32 (pc' := 39) (decide_eq_true c11) (by decide) ?_
        refine ei_c hb dX6_isOn_39 (v := (0 : Int32)) (pc' := 40) (by decide) rfl ?_
        have h := Option.some.inj h
        subst h
        exact ei_retz hb dX6_isOn_40 rfl (by decide)
  · rw [if_neg c3] at h
    refine ei_icT hb dX6_isOn_7 (pc' := 39) (decide_eq_true c3) (by decide) ?_
    refine ei_c hb dX6_isOn_39 (v := (0 : Int32)) (pc' := 40) (by decide) rfl ?_
    have h := Option.some.inj h
    subst h
    exact ei_retz hb dX6_isOn_40 rfl (by decide)
def gM_takenBut_L6 (F : Nat) (f : qz_F) (a0 : Int32) (a1 : Int32) (a2 : Int32) (a3 : Int32) (K : (Int32 → Int32 → Option (Int32))) : Nat → Int32 → Int32 → Option (Int32)
  | 0, _, _ => none
  | n + 1, y5, y6 => if (f ((17, 0, 0) : qz_N) 6) ≤ y6 then (K y5 y6) else (if y6 = a3 then ((gM_takenBut_L6 F f a0 a1 a2 a3 K) n (y5 + (0 : Int32)) (y6 + 1)) else (Option.bind (gM_of F f y6 (4 : Int32)) fun x3 => if x3 = (1 : Int32) then (Option.bind (gM_isOn F f y6 a0 a1) fun x6 => if x6 = 0 then ((gM_takenBut_L6 F f a0 a1 a2 a3 K) n (y5 + (0 : Int32)) (y6 + 1)) else (Option.bind (gM_of F f y6 (3 : Int32)) fun x9 => if x9 < a2 then ((gM_takenBut_L6 F f a0 a1 a2 a3 K) n (y5 + (0 : Int32)) (y6 + 1)) else ((gM_takenBut_L6 F f a0 a1 a2 a3 K) n (y5 + (1 : Int32)) (y6 + 1)))) else ((gM_takenBut_L6 F f a0 a1 a2 a3 K) n (y5 + (0 : Int32)) (y6 + 1))))
def gM_takenBut (F : Nat) (f : qz_F) (a0 : Int32) (a1 : Int32) (a2 : Int32) (a3 : Int32) : Option (Int32) :=
  gM_takenBut_L6 F f a0 a1 a2 a3 (fun y512 y613 => some y512) F (0 : Int32) (0 : Int32)
set_option maxHeartbeats 4000000 in
theorem vM_takenBut_L6 (F : Nat) (f : qz_F) (p : Nat → Nat) (a0 : Int32) (a1 : Int32) (a2 : Int32) (a3 : Int32) (K : (Int32 → Int32 → Option (Int32))) (hK : ∀ (y5 : Int32) (y6 : Int32) (r : Int32), K y5 y6 = some r → qz_E 97 74 [some (.inr (some ((6, 0, 0) : qz_N))), some (.inl a0), some (.inl a1), some (.inl a2), some (.inl a3), some (.inl y5), some (.inl y6)] [] (qz_mk f p) (some (.inl r)) (qz_mk f p)) : ∀ (n : Nat) (y5 : Int32) (y6 : Int32) (r : Int32), gM_takenBut_L6 F f a0 a1 a2 a3 K n y5 y6 = some r → qz_E 97 6 [some (.inr (some ((6, 0, 0) : qz_N))), some (.inl a0), some (.inl a1), some (.inl a2), some (.inl a3), some (.inl y5), some (.inl y6)] [] (qz_mk f p) (some (.inl r)) (qz_mk f p) := by
  have hb : qz_b 97 = cX6_takenBut := rfl
  have hcn : qz_cn 97 = 6 := rfl
  intro n
  induction n with
  | zero =>
    intro y5 y6 r h
    cases h
  | succ n ih =>
    intro y5 y6 r h
    rw [gM_takenBut_L6] at h
    refine ei_il hb dX6_takenBut_6 (pc' := 8) rfl rfl ?_
    refine ei_aln hb dX6_takenBut_8 (pc' := 9) rfl rfl ?_
    refine ei_gr hb dX6_takenBut_9 (pc' := 12) (x := some ((17, 0, 0) : qz_N)) hcn qz_f_6_7 rfl rfl rfl rfl ?_
    refine ei_b hb dX6_takenBut_12 (v := (6 : Int32)) (pc' := 14) (by decide) rfl ?_
    refine ei_ia hb dX6_takenBut_14 (pc' := 15) (x := (f ((17, 0, 0) : qz_N) 6)) rfl (show qz_xi (6 : Int32) 283 = true by decide) rfl rfl ?_
    by_cases c1 : (f ((17, 0, 0) : qz_N) 6) ≤ y6
    · rw [if_pos c1] at h
      refine ei_icT hb dX6_takenBut_15 (pc' := 74) (decide_eq_true c1) (by decide) ?_
      exact hK y5 y6 _ h
    · rw [if_neg c1] at h
      refine ei_icF hb dX6_takenBut_15 (pc' := 18) (t := 74) (decide_eq_false c1) (by decide) rfl ?_
      refine ei_il hb dX6_takenBut_18 (pc' := 20) rfl rfl ?_
      refine ei_il hb dX6_takenBut_20 (pc' := 22) rfl rfl ?_
      refine ei_il hb dX6_takenBut_22 (pc' := 24) rfl rfl ?_
      by_cases c2 : y6 = a3
      · rw [if_pos c2] at h
        refine ei_icT hb dX6_takenBut_24 (pc' := 64) (decide_eq_true c2) (by decide) ?_
        refine ei_c hb dX6_takenBut_64 (v := (0 : Int32)) (pc' := 65) (by decide) rfl ?_
        refine ei_add hb dX6_takenBut_65 (pc' := 66) rfl ?_
        refine ei_is hb dX6_takenBut_66 (pc' := 68) (ls' := [some (.inr (some ((6, 0, 0) : qz_N))), some (.inl a0), some (.inl a1), some (.inl a2), some (.inl a3), some (.inl (y5 + (0 : Int32))), some (.inl y6)]) (Nat.le_of_ble_eq_true rfl) rfl rfl ?_
        refine ei_inc hb dX6_takenBut_68 (v := (y6 + 1)) (pc' := 71) (ls' := [some (.inr (some ((6, 0, 0) : qz_N))), some (.inl a0), some (.inl a1), some (.inl a2), some (.inl a3), some (.inl (y5 + (0 : Int32))), some (.inl (y6 + 1))]) rfl rfl rfl rfl ?_
        refine ei_go hb dX6_takenBut_71 (pc' := 6) (by decide) ?_
        exact ih (y5 + (0 : Int32)) (y6 + 1) _ h
      · rw [if_neg c2] at h
        refine ei_icF hb dX6_takenBut_24 (pc' := 27) (t := 64) (decide_eq_false c2) (by decide) rfl ?_
        refine ei_aln hb dX6_takenBut_27 (pc' := 28) rfl rfl ?_
        refine ei_il hb dX6_takenBut_28 (pc' := 30) rfl rfl ?_
        refine ei_c hb dX6_takenBut_30 (v := (4 : Int32)) (pc' := 31) (by decide) rfl ?_
        obtain ⟨x3, e4, h⟩ := Option.bind_eq_some_iff.mp h
        refine ei_cv hb dX6_takenBut_31 (pc' := 34) (M1 := (qz_mk f p)) (as := [.inl y6, .inl (4 : Int32)]) (rest := [.inl y5]) (st' := [.inl x3, .inl y5]) hcn qz_c_6_40 qz_k_85 (qz_q_97_85) (Nat.le_of_ble_eq_true rfl) (Nat.le_of_ble_eq_true rfl) rfl rfl rfl (vM_of F f p y6 (4 : Int32) _ e4) rfl rfl ?_
        refine ei_c hb dX6_takenBut_34 (v := (1 : Int32)) (pc' := 35) (by decide) rfl ?_
        by_cases c5 : x3 = (1 : Int32)
        · rw [if_pos c5] at h
          refine ei_icF hb dX6_takenBut_35 (pc' := 38) (t := 64) (decide_eq_false (fun q => q c5)) (by decide) rfl ?_
          refine ei_aln hb dX6_takenBut_38 (pc' := 39) rfl rfl ?_
          refine ei_il hb dX6_takenBut_39 (pc' := 41) rfl rfl ?_
          refine ei_iln hb dX6_takenBut_41 (pc' := 42) rfl rfl ?_
          refine ei_iln hb dX6_takenBut_42 (pc' := 43) rfl rfl ?_
          obtain ⟨x6, e7, h⟩ := Option.bind_eq_some_iff.mp h
          refine ei_cv hb dX6_takenBut_43 (pc' := 46) (M1 := (qz_mk f p)) (as := [.inl y6, .inl a0, .inl a1]) (rest := [.inl y5]) (st' := [.inl x6, .inl y5]) hcn qz_c_6_57 qz_k_96 (qz_q_97_96) (Nat.le_of_ble_eq_true rfl) (Nat.le_of_ble_eq_true rfl) rfl rfl rfl (vM_isOn F f p y6 a0 a1 _ e7) rfl rfl ?_
          by_cases c8 : x6 = 0
          · rw [if_pos c8] at h
            refine ei_ifT hb dX6_takenBut_46 (pc' := 64) (decide_eq_true c8) (by decide) ?_
            refine ei_c hb dX6_takenBut_64 (v := (0 : Int32)) (pc' := 65) (by decide) rfl ?_
            refine ei_add hb dX6_takenBut_65 (pc' := 66) rfl ?_
            refine ei_is hb dX6_takenBut_66 (pc' := 68) (ls' := [some (.inr (some ((6, 0, 0) : qz_N))), some (.inl a0), some (.inl a1), some (.inl a2), some (.inl a3), some (.inl (y5 + (0 : Int32))), some (.inl y6)]) (Nat.le_of_ble_eq_true rfl) rfl rfl ?_
            refine ei_inc hb dX6_takenBut_68 (v := (y6 + 1)) (pc' := 71) (ls' := [some (.inr (some ((6, 0, 0) : qz_N))), some (.inl a0), some (.inl a1), some (.inl a2), some (.inl a3), some (.inl (y5 + (0 : Int32))), some (.inl (y6 + 1))]) rfl rfl rfl rfl ?_
            refine ei_go hb dX6_takenBut_71 (pc' := 6) (by decide) ?_
            exact ih (y5 + (0 : Int32)) (y6 + 1) _ h
          · rw [if_neg c8] at h
            refine ei_ifF hb dX6_takenBut_46 (pc' := 49) (t := 64) (decide_eq_false c8) (by decide) rfl ?_
            refine ei_aln hb dX6_takenBut_49 (pc' := 50) rfl rfl ?_
            refine ei_il hb dX6_takenBut_50 (pc' := 52) rfl rfl ?_
            refine ei_c hb dX6_takenBut_52 (v := (3 : Int32)) (pc' := 53) (by decide) rfl ?_
            obtain ⟨x9, e10, h⟩ := Option.bind_eq_some_iff.mp h
            refine ei_cv hb dX6_takenBut_53 (pc' := 56) (M1 := (qz_mk f p)) (as := [.inl y6, .inl (3 : Int32)]) (rest := [.inl y5]) (st' := [.inl x9, .inl y5]) hcn qz_c_6_40 qz_k_85 (qz_q_97_85) (Nat.le_of_ble_eq_true rfl) (Nat.le_of_ble_eq_true rfl) rfl rfl rfl (vM_of F f p y6 (3 : Int32) _ e10) rfl rfl ?_
            refine ei_iln hb dX6_takenBut_56 (pc' := 57) rfl rfl ?_
            by_cases c11 : x9 < a2
            · rw [if_pos c11] at h
              refine ei_icT hb dX6_takenBut_57 (pc' := 64) (decide_eq_true c11) (by decide) ?_
              refine ei_c hb dX6_takenBut_64 (v := (0 : Int32)) (pc' := 65) (by decide) rfl ?_
              refine ei_add hb dX6_takenBut_65 (pc' := 66) rfl ?_
              refine ei_is hb dX6_takenBut_66 (pc' := 68) (ls' := [some (.inr (some ((6, 0, 0) : qz_N))), some (.inl a0), some (.inl a1), some (.inl a2), some (.inl a3), some (.inl (y5 + (0 : Int32))), some (.inl y6)]) (Nat.le_of_ble_eq_true rfl) rfl rfl ?_
              refine ei_inc hb dX6_takenBut_68 (v := (y6 + 1)) (pc' := 71) (ls' := [some (.inr (some ((6, 0, 0) : qz_N))), some (.inl a0), some (.inl a1), some (.inl a2), some (.inl a3), some (.inl (y5 + (0 : Int32))), some (.inl (y6 + 1))]) rfl rfl rfl rfl ?_
              refine ei_go hb dX6_takenBut_71 (pc' := 6) (by decide) ?_
              exact ih (y5 + (0 : Int32)) (y6 + 1) _ h
            · rw [if_neg c11] at h
              refine ei_icF hb dX6_takenBut_57 (pc' := 60) (t := 64) (decide_eq_false c11) (by decide) rfl ?_
              refine ei_c hb dX6_takenBut_60 (v := (1 : Int32)) (pc' := 61) (by decide) rfl ?_
              refine ei_go hb dX6_takenBut_61 (pc' := 65) (by decide) ?_
              refine ei_add hb dX6_takenBut_65 (pc' := 66) rfl ?_
              refine ei_is hb dX6_takenBut_66 (pc' := 68) (ls' := [some (.inr (some ((6, 0, 0) : qz_N))), some (.inl a0), some (.inl a1), some (.inl a2), some (.inl a3), some (.inl (y5 + (1 : Int32))), some (.inl y6)]) (Nat.le_of_ble_eq_true rfl) rfl rfl ?_
              refine ei_inc hb dX6_takenBut_68 (v := (y6 + 1)) (pc' := 71) (ls' := [some (.inr (some ((6, 0, 0) : qz_N))), some (.inl a0), some (.inl a1), some (.inl a2), some (.inl a3), some (.inl (y5 + (1 : Int32))), some (.inl (y6 + 1))]) rfl rfl rfl rfl ?_
              refine ei_go hb dX6_takenBut_71 (pc' := 6) (by decide) ?_
              exact ih (y5 + (1 : Int32)) (y6 + 1) _ h
        · rw [if_neg c5] at h
          refine ei_icT hb dX6_takenBut_35 (pc' := 64) (decide_eq_true c5) (by decide) ?_
          refine ei_c hb dX6_takenBut_64 (v := (0 : Int32)) (pc' := 65) (by decide) rfl ?_
          refine ei_add hb dX6_takenBut_65 (pc' := 66) rfl ?_
          refine ei_is hb dX6_takenBut_66 (pc' := 68) (ls' := [some (.inr (some ((6, 0, 0) : qz_N))), some (.inl a0), some (.inl a1), some (.inl a2), some (.inl a3), some (.inl (y5 + (0 : Int32))), some (.inl y6)]) (Nat.le_of_ble_eq_true rfl) rfl rfl ?_
          refine ei_inc hb dX6_takenBut_68 (v := (y6 + 1)) (pc' := 71) (ls' := [some (.inr (some ((6, 0, 0) : qz_N))), some (.inl a0), some (.inl a1), some (.inl a2), some (.inl a3), some (.inl (y5 + (0 : Int32))), some (.inl (y6 + 1))]) rfl rfl rfl rfl ?_
          refine ei_go hb dX6_takenBut_71 (pc' := 6) (by decide) ?_
          exact ih (y5 + (0 : Int32)) (y6 + 1) _ h
set_option maxHeartbeats 4000000 in
theorem vM_takenBut (F : Nat) (f : qz_F) (p : Nat → Nat) (a0 : Int32) (a1 : Int32) (a2 : Int32) (a3 : Int32) (r : Int32) (h : (gM_takenBut F f a0 a1 a2 a3) = some r) : qz_E 97 0 (qz_in0 97 [.inr (some ((6, 0, 0) : qz_N)), .inl a0, .inl a1, .inl a2, .inl a3]) [] (qz_mk f p) (some (.inl r)) (qz_mk f p) := by
  have hb : qz_b 97 = cX6_takenBut := rfl
  have hcn : qz_cn 97 = 6 := rfl
  show qz_E 97 0 [some (.inr (some ((6, 0, 0) : qz_N))), some (.inl a0), some (.inl a1), some (.inl a2), some (.inl a3), none, none] [] _ _ _
  rw [gM_takenBut] at h
  refine ei_c hb dX6_takenBut_0 (v := (0 : Int32)) (pc' := 1) (by decide) rfl ?_
  refine ei_is hb dX6_takenBut_1 (pc' := 3) (ls' := [some (.inr (some ((6, 0, 0) : qz_N))), some (.inl a0), some (.inl a1), some (.inl a2), some (.inl a3), some (.inl (0 : Int32)), none]) (Nat.le_of_ble_eq_true rfl) rfl rfl ?_
  refine ei_c hb dX6_takenBut_3 (v := (0 : Int32)) (pc' := 4) (by decide) rfl ?_
  refine ei_is hb dX6_takenBut_4 (pc' := 6) (ls' := [some (.inr (some ((6, 0, 0) : qz_N))), some (.inl a0), some (.inl a1), some (.inl a2), some (.inl a3), some (.inl (0 : Int32)), some (.inl (0 : Int32))]) (Nat.le_of_ble_eq_true rfl) rfl rfl ?_
  refine vM_takenBut_L6 F f p a0 a1 a2 a3 _ ?_ F (0 : Int32) (0 : Int32) _ h
  intro y512 y613 r h
  refine ei_il hb dX6_takenBut_74 (pc' := 76) rfl rfl ?_
  have h := Option.some.inj h
  subst h
  exact ei_reti hb dX6_takenBut_76 rfl
def gM_behind (F : Nat) (f : qz_F) (a0 : Int32) (a1 : Int32) (a2 : Int32) : Option (Int32) :=
  Option.bind (gM_minute F f a1) fun x1 => some ((a0 + ((f ((17, 0, 0) : qz_N) 0) * a2)) - x1)
set_option maxHeartbeats 4000000 in
theorem vM_behind (F : Nat) (f : qz_F) (p : Nat → Nat) (a0 : Int32) (a1 : Int32) (a2 : Int32) (r : Int32) (h : (gM_behind F f a0 a1 a2) = some r) : qz_E 98 0 (qz_in0 98 [.inr (some ((6, 0, 0) : qz_N)), .inl a0, .inl a1, .inl a2]) [] (qz_mk f p) (some (.inl r)) (qz_mk f p) := by
  have hb : qz_b 98 = cX6_behind := rfl
  have hcn : qz_cn 98 = 6 := rfl
  show qz_E 98 0 [some (.inr (some ((6, 0, 0) : qz_N))), some (.inl a0), some (.inl a1), some (.inl a2)] [] _ _ _
  rw [gM_behind] at h
  refine ei_iln hb dX6_behind_0 (pc' := 1) rfl rfl ?_
  refine ei_aln hb dX6_behind_1 (pc' := 2) rfl rfl ?_
  refine ei_gr hb dX6_behind_2 (pc' := 5) (x := some ((17, 0, 0) : qz_N)) hcn qz_f_6_7 rfl rfl rfl rfl ?_
  refine ei_c hb dX6_behind_5 (v := (0 : Int32)) (pc' := 6) (by decide) rfl ?_
  refine ei_ia hb dX6_behind_6 (pc' := 7) (x := (f ((17, 0, 0) : qz_N) 0)) rfl (show qz_xi (0 : Int32) 283 = true by decide) rfl rfl ?_
  refine ei_iln hb dX6_behind_7 (pc' := 8) rfl rfl ?_
  refine ei_mul hb dX6_behind_8 (pc' := 9) rfl ?_
  refine ei_add hb dX6_behind_9 (pc' := 10) rfl ?_
  refine ei_aln hb dX6_behind_10 (pc' := 11) rfl rfl ?_
  refine ei_iln hb dX6_behind_11 (pc' := 12) rfl rfl ?_
  obtain ⟨x1, e2, h⟩ := Option.bind_eq_some_iff.mp h
  refine ei_cv hb dX6_behind_12 (pc' := 15) (M1 := (qz_mk f p)) (as := [.inl a1]) (rest := [.inl (a0 + ((f ((17, 0, 0) : qz_N) 0) * a2))]) (st' := [.inl x1, .inl (a0 + ((f ((17, 0, 0) : qz_N) 0) * a2))]) hcn qz_c_6_50 qz_k_90 (qz_q_98_90) (Nat.le_of_ble_eq_true rfl) (Nat.le_of_ble_eq_true rfl) rfl rfl rfl (vM_minute F f p a1 _ e2) rfl rfl ?_
  refine ei_sub hb dX6_behind_15 (pc' := 16) rfl ?_
  have h := Option.some.inj h
  subst h
  exact ei_reti hb dX6_behind_16 rfl
def gM_reasonBut_L13 (F : Nat) (f : qz_F) (a0 : Int32) (a1 : Int32) (a2 : Int32) (a3 : Int32) (K : (Int32 → Option (Int32))) : Nat → Int32 → Option (Int32)
  | 0, _ => none
  | n + 1, y5 => if a2 < y5 then (K y5) else (Option.bind (gM_takenBut F f a0 a1 y5 a3) fun x5 => if x5 < (f ((17, 0, 0) : qz_N) 1) then ((gM_reasonBut_L13 F f a0 a1 a2 a3 K) n (y5 + 1)) else (some (2 : Int32)))
def gM_reasonBut (F : Nat) (f : qz_F) (a0 : Int32) (a1 : Int32) (a2 : Int32) (a3 : Int32) : Option (Int32) :=
  Option.bind (gM_isEnd F f a1) fun x1 => if x1 = 0 then (some (1 : Int32)) else (gM_reasonBut_L13 F f a0 a1 a2 a3 (fun y58 => Option.bind (gM_startOf F f a0 a1) fun x9 => Option.bind (gM_behind F f x9 a1 a2) fun x11 => if x11 ≤ (f ((17, 0, 0) : qz_N) 3) then (some (0 : Int32)) else (some (3 : Int32))) F (1 : Int32))
set_option maxHeartbeats 4000000 in
theorem vM_reasonBut_L13 (F : Nat) (f : qz_F) (p : Nat → Nat) (a0 : Int32) (a1 : Int32) (a2 : Int32) (a3 : Int32) (K : (Int32 → Option (Int32))) (hK : ∀ (y5 : Int32) (r : Int32), K y5 = some r → qz_E 99 46 [some (.inr (some ((6, 0, 0) : qz_N))), some (.inl a0), some (.inl a1), some (.inl a2), some (.inl a3), some (.inl y5)] [] (qz_mk f p) (some (.inl r)) (qz_mk f p)) : ∀ (n : Nat) (y5 : Int32) (r : Int32), gM_reasonBut_L13 F f a0 a1 a2 a3 K n y5 = some r → qz_E 99 13 [some (.inr (some ((6, 0, 0) : qz_N))), some (.inl a0), some (.inl a1), some (.inl a2), some (.inl a3), some (.inl y5)] [] (qz_mk f p) (some (.inl r)) (qz_mk f p) := by
  have hb : qz_b 99 = cX6_reasonBut := rfl
  have hcn : qz_cn 99 = 6 := rfl
  intro n
  induction n with
  | zero =>
    intro y5 r h
    cases h
  | succ n ih =>
    intro y5 r h
    rw [gM_reasonBut_L13] at h
    refine ei_il hb dX6_reasonBut_13 (pc' := 15) rfl rfl ?_
    refine ei_iln hb dX6_reasonBut_15 (pc' := 16) rfl rfl ?_
    by_cases c4 : a2 < y5
    · rw [if_pos c4] at h
      refine ei_icT hb dX6_reasonBut_16 (pc' := 46) (decide_eq_true c4) (by decide) ?_
      exact hK y5 _ h
    · rw [if_neg c4] at h
      refine ei_icF hb dX6_reasonBut_16 (pc' := 19) (t := 46) (decide_eq_false c4) (by decide) rfl ?_
      refine ei_aln hb dX6_reasonBut_19 (pc' := 20) rfl rfl ?_
      refine ei_iln hb dX6_reasonBut_20 (pc' := 21) rfl rfl ?_
      refine ei_iln hb dX6_reasonBut_21 (pc' := 22) rfl rfl ?_
      refine ei_il hb dX6_reasonBut_22 (pc' := 24) rfl rfl ?_
      refine ei_il hb dX6_reasonBut_24 (pc' := 26) rfl rfl ?_
      obtain ⟨x5, e6, h⟩ := Option.bind_eq_some_iff.mp h
      refine ei_cv hb dX6_reasonBut_26 (pc' := 29) (M1 := (qz_mk f p)) (as := [.inl a0, .inl a1, .inl y5, .inl a3]) (rest := []) (st' := [.inl x5]) hcn qz_c_6_64 qz_k_97 (qz_q_99_97) (Nat.le_of_ble_eq_true rfl) (Nat.le_of_ble_eq_true rfl) rfl rfl rfl (vM_takenBut F f p a0 a1 y5 a3 _ e6) rfl rfl ?_
      refine ei_aln hb dX6_reasonBut_29 (pc' := 30) rfl rfl ?_
      refine ei_gr hb dX6_reasonBut_30 (pc' := 33) (x := some ((17, 0, 0) : qz_N)) hcn qz_f_6_7 rfl rfl rfl rfl ?_
      refine ei_c hb dX6_reasonBut_33 (v := (1 : Int32)) (pc' := 34) (by decide) rfl ?_
      refine ei_ia hb dX6_reasonBut_34 (pc' := 35) (x := (f ((17, 0, 0) : qz_N) 1)) rfl (show qz_xi (1 : Int32) 283 = true by decide) rfl rfl ?_
      by_cases c7 : x5 < (f ((17, 0, 0) : qz_N) 1)
      · rw [if_pos c7] at h
        refine ei_icT hb dX6_reasonBut_35 (pc' := 40) (decide_eq_true c7) (by decide) ?_
        refine ei_inc hb dX6_reasonBut_40 (v := (y5 + 1)) (pc' := 43) (ls' := [some (.inr (some ((6, 0, 0) : qz_N))), some (.inl a0), some (.inl a1), some (.inl a2), some (.inl a3), some (.inl (y5 + 1))]) rfl rfl rfl rfl ?_
        refine ei_go hb dX6_reasonBut_43 (pc' := 13) (by decide) ?_
        exact ih (y5 + 1) _ h
      · rw [if_neg c7] at h
        refine ei_icF hb dX6_reasonBut_35 (pc' := 38) (t := 40) (decide_eq_false c7) (by decide) rfl ?_
        refine ei_c hb dX6_reasonBut_38 (v := (2 : Int32)) (pc' := 39) (by decide) rfl ?_
        have h := Option.some.inj h
        subst h
        exact ei_reti hb dX6_reasonBut_39 rfl
set_option maxHeartbeats 4000000 in
theorem vM_reasonBut (F : Nat) (f : qz_F) (p : Nat → Nat) (a0 : Int32) (a1 : Int32) (a2 : Int32) (a3 : Int32) (r : Int32) (h : (gM_reasonBut F f a0 a1 a2 a3) = some r) : qz_E 99 0 (qz_in0 99 [.inr (some ((6, 0, 0) : qz_N)), .inl a0, .inl a1, .inl a2, .inl a3]) [] (qz_mk f p) (some (.inl r)) (qz_mk f p) := by
  have hb : qz_b 99 = cX6_reasonBut := rfl
  have hcn : qz_cn 99 = 6 := rfl
  show qz_E 99 0 [some (.inr (some ((6, 0, 0) : qz_N))), some (.inl a0), some (.inl a1), some (.inl a2), some (.inl a3), none] [] _ _ _
  rw [gM_reasonBut] at h
  refine ei_aln hb dX6_reasonBut_0 (pc' := 1) rfl rfl ?_
  refine ei_iln hb dX6_reasonBut_1 (pc' := 2) rfl rfl ?_
  obtain ⟨x1, e2, h⟩ := Option.bind_eq_some_iff.mp h
  refine ei_cv hb dX6_reasonBut_2 (pc' := 5) (M1 := (qz_mk f p)) (as := [.inl a1]) (rest := []) (st' := [.inl x1]) hcn qz_c_6_60 qz_k_87 (qz_q_99_87) (Nat.le_of_ble_eq_true rfl) (Nat.le_of_ble_eq_true rfl) rfl rfl rfl (vM_isEnd F f p a1 _ e2) rfl rfl ?_
  by_cases c3 : x1 = 0
  · rw [if_pos c3] at h
    refine ei_ifF hb dX6_reasonBut_5 (pc' := 8) (t := 10) (decide_eq_false (fun q => q c3)) (by decide) rfl ?_
    refine ei_c hb dX6_reasonBut_8 (v := (1 : Int32)) (pc' := 9) (by decide) rfl ?_
    have h := Option.some.inj h
    subst h
    exact ei_reti hb dX6_reasonBut_9 rfl
  · rw [if_neg c3] at h
    refine ei_ifT hb dX6_reasonBut_5 (pc' := 10) (decide_eq_true c3) (by decide) ?_
    refine ei_c hb dX6_reasonBut_10 (v := (1 : Int32)) (pc' := 11) (by decide) rfl ?_
    refine ei_is hb dX6_reasonBut_11 (pc' := 13) (ls' := [some (.inr (some ((6, 0, 0) : qz_N))), some (.inl a0), some (.inl a1), some (.inl a2), some (.inl a3), some (.inl (1 : Int32))]) (Nat.le_of_ble_eq_true rfl) rfl rfl ?_
    refine vM_reasonBut_L13 F f p a0 a1 a2 a3 _ ?_ F (1 : Int32) _ h
    intro y58 r h
    refine ei_aln hb dX6_reasonBut_46 (pc' := 47) rfl rfl ?_
    refine ei_aln hb dX6_reasonBut_47 (pc' := 48) rfl rfl ?_
    refine ei_iln hb dX6_reasonBut_48 (pc' := 49) rfl rfl ?_
    refine ei_iln hb dX6_reasonBut_49 (pc' := 50) rfl rfl ?_
    obtain ⟨x9, e10, h⟩ := Option.bind_eq_some_iff.mp h
    refine ei_cv hb dX6_reasonBut_50 (pc' := 53) (M1 := (qz_mk f p)) (as := [.inl a0, .inl a1]) (rest := [.inr (some ((6, 0, 0) : qz_N))]) (st' := [.inl x9, .inr (some ((6, 0, 0) : qz_N))]) hcn qz_c_6_68 qz_k_95 (qz_q_99_95) (Nat.le_of_ble_eq_true rfl) (Nat.le_of_ble_eq_true rfl) rfl rfl rfl (vM_startOf F f p a0 a1 _ e10) rfl rfl ?_
    refine ei_iln hb dX6_reasonBut_53 (pc' := 54) rfl rfl ?_
    refine ei_iln hb dX6_reasonBut_54 (pc' := 55) rfl rfl ?_
    obtain ⟨x11, e12, h⟩ := Option.bind_eq_some_iff.mp h
    refine ei_cv hb dX6_reasonBut_55 (pc' := 58) (M1 := (qz_mk f p)) (as := [.inl x9, .inl a1, .inl a2]) (rest := []) (st' := [.inl x11]) hcn qz_c_6_71 qz_k_98 (qz_q_99_98) (Nat.le_of_ble_eq_true rfl) (Nat.le_of_ble_eq_true rfl) rfl rfl rfl (vM_behind F f p x9 a1 a2 _ e12) rfl rfl ?_
    refine ei_aln hb dX6_reasonBut_58 (pc' := 59) rfl rfl ?_
    refine ei_gr hb dX6_reasonBut_59 (pc' := 62) (x := some ((17, 0, 0) : qz_N)) hcn qz_f_6_7 rfl rfl rfl rfl ?_
    refine ei_c hb dX6_reasonBut_62 (v := (3 : Int32)) (pc' := 63) (by decide) rfl ?_
    refine ei_ia hb dX6_reasonBut_63 (pc' := 64) (x := (f ((17, 0, 0) : qz_N) 3)) rfl (show qz_xi (3 : Int32) 283 = true by decide) rfl rfl ?_
    by_cases c13 : x11 ≤ (f ((17, 0, 0) : qz_N) 3)
    · rw [if_pos c13] at h
      refine ei_icT hb dX6_reasonBut_64 (pc' := 71) (decide_eq_true c13) (by decide) ?_
      refine ei_c hb dX6_reasonBut_71 (v := (0 : Int32)) (pc' := 72) (by decide) rfl ?_
      have h := Option.some.inj h
      subst h
      exact ei_reti hb dX6_reasonBut_72 rfl
    · rw [if_neg c13] at h
      refine ei_icF hb dX6_reasonBut_64 (pc' := 67) (t := 71) (decide_eq_false c13) (by decide) rfl ?_
      refine ei_c hb dX6_reasonBut_67 (v := (3 : Int32)) (pc' := 68) (by decide) rfl ?_
      refine ei_go hb dX6_reasonBut_68 (pc' := 72) (by decide) ?_
      have h := Option.some.inj h
      subst h
      exact ei_reti hb dX6_reasonBut_72 rfl
def gM_ranks_L14 (F : Nat) (y1 : Int32) (K : (Int32 → qz_S → Option (qz_S))) : Nat → Int32 → qz_S → Option (qz_S)
  | 0, _, _ => none
  | n + 1, y2, T => if y2 ≤ 0 then (K y2 T) else (if qz_xi (y2 - (1 : Int32)) 10 = true then (Option.bind (gM_minute F T.1 (T.1 ((21, 0, 0) : qz_N) ((y2 - (1 : Int32))).toNatClampNeg)) fun x4 => Option.bind (gM_minute F T.1 y1) fun x6 => if x4 ≤ x6 then (K y2 T) else (if qz_xi y2 10 = true then (qz_let (qz_wr T ((21, 0, 0) : qz_N) (y2).toNatClampNeg (T.1 ((21, 0, 0) : qz_N) ((y2 - (1 : Int32))).toNatClampNeg)) fun S10 => (gM_ranks_L14 F y1 K) n (y2 + (-1)) S10) else none)) else none)
def gM_ranks_L2 (F : Nat)  (K : (Int32 → qz_S → Option (qz_S))) : Nat → Int32 → qz_S → Option (qz_S)
  | 0, _, _ => none
  | n + 1, y1, T => if (T.1 ((17, 0, 0) : qz_N) 4) ≤ y1 then (K y1 T) else (gM_ranks_L14 F y1 (fun y211 T12 => if qz_xi y211 10 = true then (qz_let (qz_wr T12 ((21, 0, 0) : qz_N) (y211).toNatClampNeg y1) fun S14 => (gM_ranks_L2 F K) n (y1 + 1) S14) else none) F y1 T)
def gM_ranks (F : Nat) (S : qz_S)  : Option (qz_S) :=
  gM_ranks_L2 F (fun y115 T16 => some T16) F (0 : Int32) S
set_option maxHeartbeats 4000000 in
theorem vM_ranks_L14 (F : Nat) (y1 : Int32) (K : (Int32 → qz_S → Option (qz_S))) (hK : ∀ (y2 : Int32) (T : qz_S) (r : qz_S), K y2 T = some r → qz_E 100 58 [some (.inr (some ((6, 0, 0) : qz_N))), some (.inl y1), some (.inl y2)] [] (qz_mk T.1 T.2) none (qz_mk r.1 r.2)) : ∀ (n : Nat) (y2 : Int32) (T : qz_S) (r : qz_S), gM_ranks_L14 F y1 K n y2 T = some r → qz_E 100 14 [some (.inr (some ((6, 0, 0) : qz_N))), some (.inl y1), some (.inl y2)] [] (qz_mk T.1 T.2) none (qz_mk r.1 r.2) := by
  have hb : qz_b 100 = cX6_ranks := rfl
  have hcn : qz_cn 100 = 6 := rfl
  intro n
  induction n with
  | zero =>
    intro y2 T r h
    cases h
  | succ n ih =>
    intro y2 T r h
    rw [gM_ranks_L14] at h
    refine ei_iln hb dX6_ranks_14 (pc' := 15) rfl rfl ?_
    by_cases c2 : y2 ≤ 0
    · rw [if_pos c2] at h
      refine ei_ifT hb dX6_ranks_15 (pc' := 58) (decide_eq_true c2) (by decide) ?_
      exact hK y2 T _ h
    · rw [if_neg c2] at h
      refine ei_ifF hb dX6_ranks_15 (pc' := 18) (t := 58) (decide_eq_false c2) (by decide) rfl ?_
      refine ei_aln hb dX6_ranks_18 (pc' := 19) rfl rfl ?_
      refine ei_aln hb dX6_ranks_19 (pc' := 20) rfl rfl ?_
      refine ei_gr hb dX6_ranks_20 (pc' := 23) (x := some ((21, 0, 0) : qz_N)) hcn qz_f_6_22 rfl rfl rfl rfl ?_
      refine ei_iln hb dX6_ranks_23 (pc' := 24) rfl rfl ?_
      refine ei_c hb dX6_ranks_24 (v := (1 : Int32)) (pc' := 25) (by decide) rfl ?_
      refine ei_sub hb dX6_ranks_25 (pc' := 26) rfl ?_
      by_cases c3 : qz_xi (y2 - (1 : Int32)) 10 = true
      · rw [if_pos c3] at h
        refine ei_ia hb dX6_ranks_26 (pc' := 27) (x := (T.1 ((21, 0, 0) : qz_N) ((y2 - (1 : Int32))).toNatClampNeg)) rfl c3 rfl rfl ?_
        obtain ⟨x4, e5, h⟩ := Option.bind_eq_some_iff.mp h
        refine ei_cv hb dX6_ranks_27 (pc' := 30) (M1 := (qz_mk T.1 T.2)) (as := [.inl (T.1 ((21, 0, 0) : qz_N) ((y2 - (1 : Int32))).toNatClampNeg)]) (rest := []) (st' := [.inl x4]) hcn qz_c_6_50 qz_k_90 (qz_q_100_90) (Nat.le_of_ble_eq_true rfl) (Nat.le_of_ble_eq_true rfl) rfl rfl rfl (vM_minute F T.1 T.2 (T.1 ((21, 0, 0) : qz_N) ((y2 - (1 : Int32))).toNatClampNeg) _ e5) rfl rfl ?_
        refine ei_aln hb dX6_ranks_30 (pc' := 31) rfl rfl ?_
        refine ei_iln hb dX6_ranks_31 (pc' := 32) rfl rfl ?_
        obtain ⟨x6, e7, h⟩ := Option.bind_eq_some_iff.mp h
        refine ei_cv hb dX6_ranks_32 (pc' := 35) (M1 := (qz_mk T.1 T.2)) (as := [.inl y1]) (rest := [.inl x4]) (st' := [.inl x6, .inl x4]) hcn qz_c_6_50 qz_k_90 (qz_q_100_90) (Nat.le_of_ble_eq_true rfl) (Nat.le_of_ble_eq_true rfl) rfl rfl rfl (vM_minute F T.1 T.2 y1 _ e7) rfl rfl ?_
        by_cases c8 : x4 ≤ x6
        · rw [if_pos c8] at h
          refine ei_icT hb dX6_ranks_35 (pc' := 58) (decide_eq_true c8) (by decide) ?_
          exact hK y2 T _ h
        · rw [if_neg c8] at h
          refine ei_icF hb dX6_ranks_35 (pc' := 38) (t := 58) (decide_eq_false c8) (by decide) rfl ?_
          refine ei_aln hb dX6_ranks_38 (pc' := 39) rfl rfl ?_
          refine ei_gr hb dX6_ranks_39 (pc' := 42) (x := some ((21, 0, 0) : qz_N)) hcn qz_f_6_22 rfl rfl rfl rfl ?_
          refine ei_iln hb dX6_ranks_42 (pc' := 43) rfl rfl ?_
          refine ei_aln hb dX6_ranks_43 (pc' := 44) rfl rfl ?_
          refine ei_gr hb dX6_ranks_44 (pc' := 47) (x := some ((21, 0, 0) : qz_N)) hcn qz_f_6_22 rfl rfl rfl rfl ?_
          refine ei_iln hb dX6_ranks_47 (pc' := 48) rfl rfl ?_
          refine ei_c hb dX6_ranks_48 (v := (1 : Int32)) (pc' := 49) (by decide) rfl ?_
          refine ei_sub hb dX6_ranks_49 (pc' := 50) rfl ?_
          refine ei_ia hb dX6_ranks_50 (pc' := 51) (x := (T.1 ((21, 0, 0) : qz_N) ((y2 - (1 : Int32))).toNatClampNeg)) rfl c3 rfl rfl ?_
          by_cases c9 : qz_xi y2 10 = true
          · rw [if_pos c9] at h
            obtain ⟨S10, eS10⟩ : ∃ q, q = qz_wr T ((21, 0, 0) : qz_N) (y2).toNatClampNeg (T.1 ((21, 0, 0) : qz_N) ((y2 - (1 : Int32))).toNatClampNeg) := ⟨_, rfl⟩
            rw [qz_let, ← eS10] at h
            refine ei_ist hb dX6_ranks_51 (pc' := 52) (M1 := (qz_mk S10.1 S10.2)) rfl (Nat.le_of_ble_eq_true rfl) c9 (by rw [eS10]; rfl) rfl ?_
            refine ei_inc hb dX6_ranks_52 (v := (y2 + (-1))) (pc' := 55) (ls' := [some (.inr (some ((6, 0, 0) : qz_N))), some (.inl y1), some (.inl (y2 + (-1)))]) rfl rfl rfl rfl ?_
            refine ei_go hb dX6_ranks_55 (pc' := 14) (by decide) ?_
            exact ih (y2 + (-1)) S10 _ h
          · rw [if_neg c9] at h
            cases h
      · rw [if_neg c3] at h
        cases h
set_option maxHeartbeats 4000000 in
theorem vM_ranks_L2 (F : Nat)  (K : (Int32 → qz_S → Option (qz_S))) (hK : ∀ (y1 : Int32) (T : qz_S) (r : qz_S), K y1 T = some r → ∀ (d2 : Option qz_V), qz_E 100 71 [some (.inr (some ((6, 0, 0) : qz_N))), some (.inl y1), d2] [] (qz_mk T.1 T.2) none (qz_mk r.1 r.2)) : ∀ (n : Nat) (y1 : Int32) (T : qz_S) (r : qz_S), gM_ranks_L2 F K n y1 T = some r → ∀ (d2 : Option qz_V), qz_E 100 2 [some (.inr (some ((6, 0, 0) : qz_N))), some (.inl y1), d2] [] (qz_mk T.1 T.2) none (qz_mk r.1 r.2) := by
  have hb : qz_b 100 = cX6_ranks := rfl
  have hcn : qz_cn 100 = 6 := rfl
  intro n
  induction n with
  | zero =>
    intro y1 T r h
    cases h
  | succ n ih =>
    intro y1 T r h d2
    rw [gM_ranks_L2] at h
    refine ei_iln hb dX6_ranks_2 (pc' := 3) rfl rfl ?_
    refine ei_aln hb dX6_ranks_3 (pc' := 4) rfl rfl ?_
    refine ei_gr hb dX6_ranks_4 (pc' := 7) (x := some ((17, 0, 0) : qz_N)) hcn qz_f_6_7 rfl rfl rfl rfl ?_
    refine ei_c hb dX6_ranks_7 (v := (4 : Int32)) (pc' := 8) (by decide) rfl ?_
    refine ei_ia hb dX6_ranks_8 (pc' := 9) (x := (T.1 ((17, 0, 0) : qz_N) 4)) rfl (show qz_xi (4 : Int32) 283 = true by decide) rfl rfl ?_
    by_cases c1 : (T.1 ((17, 0, 0) : qz_N) 4) ≤ y1
    · rw [if_pos c1] at h
      refine ei_icT hb dX6_ranks_9 (pc' := 71) (decide_eq_true c1) (by decide) ?_
      exact hK y1 T _ h _
    · rw [if_neg c1] at h
      refine ei_icF hb dX6_ranks_9 (pc' := 12) (t := 71) (decide_eq_false c1) (by decide) rfl ?_
      refine ei_iln hb dX6_ranks_12 (pc' := 13) rfl rfl ?_
      refine ei_isn hb dX6_ranks_13 (pc' := 14) (ls' := [some (.inr (some ((6, 0, 0) : qz_N))), some (.inl y1), some (.inl y1)]) (Nat.le_of_ble_eq_true rfl) rfl rfl ?_
      refine vM_ranks_L14 F y1 _ ?_ F y1 T _ h
      intro y211 T12 r h
      refine ei_aln hb dX6_ranks_58 (pc' := 59) rfl rfl ?_
      refine ei_gr hb dX6_ranks_59 (pc' := 62) (x := some ((21, 0, 0) : qz_N)) hcn qz_f_6_22 rfl rfl rfl rfl ?_
      refine ei_iln hb dX6_ranks_62 (pc' := 63) rfl rfl ?_
      refine ei_iln hb dX6_ranks_63 (pc' := 64) rfl rfl ?_
      by_cases c13 : qz_xi y211 10 = true
      · rw [if_pos c13] at h
        obtain ⟨S14, eS14⟩ : ∃ q, q = qz_wr T12 ((21, 0, 0) : qz_N) (y211).toNatClampNeg y1 := ⟨_, rfl⟩
        rw [qz_let, ← eS14] at h
        refine ei_ist hb dX6_ranks_64 (pc' := 65) (M1 := (qz_mk S14.1 S14.2)) rfl (Nat.le_of_ble_eq_true rfl) c13 (by rw [eS14]; rfl) rfl ?_
        refine ei_inc hb dX6_ranks_65 (v := (y1 + 1)) (pc' := 68) (ls' := [some (.inr (some ((6, 0, 0) : qz_N))), some (.inl (y1 + 1)), some (.inl y211)]) rfl rfl rfl rfl ?_
        refine ei_go hb dX6_ranks_68 (pc' := 2) (by decide) ?_
        exact ih (y1 + 1) S14 _ h _
      · rw [if_neg c13] at h
        cases h
set_option maxHeartbeats 4000000 in
theorem vM_ranks (F : Nat) (S : qz_S)  (r : qz_S) (h : (gM_ranks F S) = some r) : qz_E 100 0 (qz_in0 100 [.inr (some ((6, 0, 0) : qz_N))]) [] (qz_mk S.1 S.2) none (qz_mk r.1 r.2) := by
  have hb : qz_b 100 = cX6_ranks := rfl
  have hcn : qz_cn 100 = 6 := rfl
  show qz_E 100 0 [some (.inr (some ((6, 0, 0) : qz_N))), none, none] [] _ _ _
  rw [gM_ranks] at h
  refine ei_c hb dX6_ranks_0 (v := (0 : Int32)) (pc' := 1) (by decide) rfl ?_
  refine ei_isn hb dX6_ranks_1 (pc' := 2) (ls' := [some (.inr (some ((6, 0, 0) : qz_N))), some (.inl (0 : Int32)), none]) (Nat.le_of_ble_eq_true rfl) rfl rfl ?_
  refine vM_ranks_L2 F _ ?_ F (0 : Int32) S _ h _
  intro y115 T16 r h d17
  have h := Option.some.inj h
  subst h
  exact ei_retv hb dX6_ranks_71 rfl
def gM_waitsAt (F : Nat) (f : qz_F) (a0 : Int32) (a1 : Int32) (a2 : Int32) (a3 : Int32) : Option (Int32) :=
  Option.bind (gM_of F f a0 (4 : Int32)) fun x1 => if x1 = 0 then (Option.bind (gM_of F f a0 (2 : Int32)) fun x4 => if x4 = a1 then (Option.bind (gM_of F f a0 (1 : Int32)) fun x7 => if x7 = a2 then (Option.bind (gM_of F f a0 (3 : Int32)) fun x10 => if x10 = a3 then (some (1 : Int32)) else (some (0 : Int32))) else (some (0 : Int32))) else (some (0 : Int32))) else (some (0 : Int32))
set_option maxHeartbeats 4000000 in
theorem vM_waitsAt (F : Nat) (f : qz_F) (p : Nat → Nat) (a0 : Int32) (a1 : Int32) (a2 : Int32) (a3 : Int32) (r : Int32) (h : (gM_waitsAt F f a0 a1 a2 a3) = some r) : qz_E 101 0 (qz_in0 101 [.inr (some ((6, 0, 0) : qz_N)), .inl a0, .inl a1, .inl a2, .inl a3]) [] (qz_mk f p) (some (.inl r)) (qz_mk f p) := by
  have hb : qz_b 101 = cX6_waitsAt := rfl
  have hcn : qz_cn 101 = 6 := rfl
  show qz_E 101 0 [some (.inr (some ((6, 0, 0) : qz_N))), some (.inl a0), some (.inl a1), some (.inl a2), some (.inl a3)] [] _ _ _
  rw [gM_waitsAt] at h
  refine ei_aln hb dX6_waitsAt_0 (pc' := 1) rfl rfl ?_
  refine ei_iln hb dX6_waitsAt_1 (pc' := 2) rfl rfl ?_
  refine ei_c hb dX6_waitsAt_2 (v := (4 : Int32)) (pc' := 3) (by decide) rfl ?_
  obtain ⟨x1, e2, h⟩ := Option.bind_eq_some_iff.mp h
  refine ei_cv hb dX6_waitsAt_3 (pc' := 6) (M1 := (qz_mk f p)) (as := [.inl a0, .inl (4 : Int32)]) (rest := []) (st' := [.inl x1]) hcn qz_c_6_40 qz_k_85 (qz_q_101_85) (Nat.le_of_ble_eq_true rfl) (Nat.le_of_ble_eq_true rfl) rfl rfl rfl (vM_of F f p a0 (4 : Int32) _ e2) rfl rfl ?_
  by_cases c3 : x1 = 0
  · rw [if_pos c3] at h
    refine ei_ifF hb dX6_waitsAt_6 (pc' := 9) (t := 44) (decide_eq_false (fun q => q c3)) (by decide) rfl ?_
    refine ei_aln hb dX6_waitsAt_9 (pc' := 10) rfl rfl ?_
    refine ei_iln hb dX6_waitsAt_10 (pc' := 11) rfl rfl ?_
    refine ei_c hb dX6_waitsAt_11 (v := (2 : Int32)) (pc' := 12) (by decide) rfl ?_
    obtain ⟨x4, e5, h⟩ := Option.bind_eq_some_iff.mp h
    refine ei_cv hb dX6_waitsAt_12 (pc' := 15) (M1 := (qz_mk f p)) (as := [.inl a0, .inl (2 : Int32)]) (rest := []) (st' := [.inl x4]) hcn qz_c_6_40 qz_k_85 (qz_q_101_85) (Nat.le_of_ble_eq_true rfl) (Nat.le_of_ble_eq_true rfl) rfl rfl rfl (vM_of F f p a0 (2 : Int32) _ e5) rfl rfl ?_
    refine ei_iln hb dX6_waitsAt_15 (pc' := 16) rfl rfl ?_
    by_cases c6 : x4 = a1
    · rw [if_pos c6] at h
      refine ei_icF hb dX6_waitsAt_16 (pc' := 19) (t := 44) (decide_eq_false (fun q => q c6)) (by decide) rfl ?_
      refine ei_aln hb dX6_waitsAt_19 (pc' := 20) rfl rfl ?_
      refine ei_iln hb dX6_waitsAt_20 (pc' := 21) rfl rfl ?_
      refine ei_c hb dX6_waitsAt_21 (v := (1 : Int32)) (pc' := 22) (by decide) rfl ?_
      obtain ⟨x7, e8, h⟩ := Option.bind_eq_some_iff.mp h
      refine ei_cv hb dX6_waitsAt_22 (pc' := 25) (M1 := (qz_mk f p)) (as := [.inl a0, .inl (1 : Int32)]) (rest := []) (st' := [.inl x7]) hcn qz_c_6_40 qz_k_85 (qz_q_101_85) (Nat.le_of_ble_eq_true rfl) (Nat.le_of_ble_eq_true rfl) rfl rfl rfl (vM_of F f p a0 (1 : Int32) _ e8) rfl rfl ?_
      refine ei_iln hb dX6_waitsAt_25 (pc' := 26) rfl rfl ?_
      by_cases c9 : x7 = a2
      · rw [if_pos c9] at h
        refine ei_icF hb dX6_waitsAt_26 (pc' := 29) (t := 44) (decide_eq_false (fun q => q c9)) (by decide) rfl ?_
        refine ei_aln hb dX6_waitsAt_29 (pc' := 30) rfl rfl ?_
        refine ei_iln hb dX6_waitsAt_30 (pc' := 31) rfl rfl ?_
        refine ei_c hb dX6_waitsAt_31 (v := (3 : Int32)) (pc' := 32) (by decide) rfl ?_
        obtain ⟨x10, e11, h⟩ := Option.bind_eq_some_iff.mp h
        refine ei_cv hb dX6_waitsAt_32 (pc' := 35) (M1 := (qz_mk f p)) (as := [.inl a0, .inl (3 : Int32)]) (rest := []) (st' := [.inl x10]) hcn qz_c_6_40 qz_k_85 (qz_q_101_85) (Nat.le_of_ble_eq_true rfl) (Nat.le_of_ble_eq_true rfl) rfl rfl rfl (vM_of F f p a0 (3 : Int32) _ e11) rfl rfl ?_
        refine ei_il hb dX6_waitsAt_35 (pc' := 37) rfl rfl ?_
        by_cases c12 : x10 = a3
        · rw [if_pos c12] at h
          refine ei_icF hb dX6_waitsAt_37 (pc' := 40) (t := 44) (decide_eq_false (fun q => q c12)) (by decide) rfl ?_
          refine ei_c hb dX6_waitsAt_40 (v := (1 : Int32)) (pc' := 41) (by decide) rfl ?_
          refine ei_go hb dX6_waitsAt_41 (pc' := 45) (by decide) ?_
          have h := Option.some.inj h
          subst h
          exact ei_retz hb dX6_waitsAt_45 rfl (by decide)
        · rw [if_neg c12] at h
          refine ei_icT hb dX6_waitsAt_37 (pc' := 44) (decide_eq_true c12) (by decide) ?_
          refine ei_c hb dX6_waitsAt_44 (v := (0 : Int32)) (pc' := 45) (by decide) rfl ?_
          have h := Option.some.inj h
          subst h
          exact ei_retz hb dX6_waitsAt_45 rfl (by decide)
      · rw [if_neg c9] at h
        refine ei_icT hb dX6_waitsAt_26 (pc' := 44) (decide_eq_true c9) (by decide) ?_
        refine ei_c hb dX6_waitsAt_44 (v := (0 : Int32)) (pc' := 45) (by decide) rfl ?_
        have h := Option.some.inj h
        subst h
        exact ei_retz hb dX6_waitsAt_45 rfl (by decide)
    · rw [if_neg c6] at h
      refine ei_icT hb dX6_waitsAt_16 (pc' := 44) (decide_eq_true c6) (by decide) ?_
      refine ei_c hb dX6_waitsAt_44 (v := (0 : Int32)) (pc' := 45) (by decide) rfl ?_
      have h := Option.some.inj h
      subst h
      exact ei_retz hb dX6_waitsAt_45 rfl (by decide)
  · rw [if_neg c3] at h
    refine ei_ifT hb dX6_waitsAt_6 (pc' := 44) (decide_eq_true c3) (by decide) ?_
    refine ei_c hb dX6_waitsAt_44 (v := (0 : Int32)) (pc' := 45) (by decide) rfl ?_
    have h := Option.some.inj h
    subst h
    exact ei_retz hb dX6_waitsAt_45 rfl (by decide)
def gM_looksAt_L3 (F : Nat) (a0 : Int32) (a1 : Int32) (a2 : Int32) (K : (Int32 → qz_S → Option (qz_S))) : Nat → Int32 → qz_S → Option (qz_S)
  | 0, _, _ => none
  | n + 1, y4, T => if (T.1 ((17, 0, 0) : qz_N) 6) ≤ y4 then (K y4 T) else (Option.bind (gM_waitsAt F T.1 y4 a0 a1 a2) fun x2 => if x2 = 0 then ((gM_looksAt_L3 F a0 a1 a2 K) n (y4 + 1) T) else (Option.bind (gM_reasonBut F T.1 a0 a1 a2 (-5 : Int32)) fun x5 => if x5 = 0 then (Option.bind (gM_lay F T y4 (4 : Int32) (1 : Int32)) fun R8 => (gM_looksAt_L3 F a0 a1 a2 K) n (y4 + 1) R8) else ((gM_looksAt_L3 F a0 a1 a2 K) n (y4 + 1) T)))
def gM_looksAt (F : Nat) (S : qz_S) (a0 : Int32) (a1 : Int32) (a2 : Int32) : Option (qz_S) :=
  gM_looksAt_L3 F a0 a1 a2 (fun y410 T11 => some T11) F (0 : Int32) S
set_option maxHeartbeats 4000000 in
theorem vM_looksAt_L3 (F : Nat) (a0 : Int32) (a1 : Int32) (a2 : Int32) (K : (Int32 → qz_S → Option (qz_S))) (hK : ∀ (y4 : Int32) (T : qz_S) (r : qz_S), K y4 T = some r → qz_E 102 53 [some (.inr (some ((6, 0, 0) : qz_N))), some (.inl a0), some (.inl a1), some (.inl a2), some (.inl y4)] [] (qz_mk T.1 T.2) none (qz_mk r.1 r.2)) : ∀ (n : Nat) (y4 : Int32) (T : qz_S) (r : qz_S), gM_looksAt_L3 F a0 a1 a2 K n y4 T = some r → qz_E 102 3 [some (.inr (some ((6, 0, 0) : qz_N))), some (.inl a0), some (.inl a1), some (.inl a2), some (.inl y4)] [] (qz_mk T.1 T.2) none (qz_mk r.1 r.2) := by
  have hb : qz_b 102 = cX6_looksAt := rfl
  have hcn : qz_cn 102 = 6 := rfl
  intro n
  induction n with
  | zero =>
    intro y4 T r h
    cases h
  | succ n ih =>
    intro y4 T r h
    rw [gM_looksAt_L3] at h
    refine ei_il hb dX6_looksAt_3 (pc' := 5) rfl rfl ?_
    refine ei_aln hb dX6_looksAt_5 (pc' := 6) rfl rfl ?_
    refine ei_gr hb dX6_looksAt_6 (pc' := 9) (x := some ((17, 0, 0) : qz_N)) hcn qz_f_6_7 rfl rfl rfl rfl ?_
    refine ei_b hb dX6_looksAt_9 (v := (6 : Int32)) (pc' := 11) (by decide) rfl ?_
    refine ei_ia hb dX6_looksAt_11 (pc' := 12) (x := (T.1 ((17, 0, 0) : qz_N) 6)) rfl (show qz_xi (6 : Int32) 283 = true by decide) rfl rfl ?_
    by_cases c1 : (T.1 ((17, 0, 0) : qz_N) 6) ≤ y4
    · rw [if_pos c1] at h
      refine ei_icT hb dX6_looksAt_12 (pc' := 53) (decide_eq_true c1) (by decide) ?_
      exact hK y4 T _ h
    · rw [if_neg c1] at h
      refine ei_icF hb dX6_looksAt_12 (pc' := 15) (t := 53) (decide_eq_false c1) (by decide) rfl ?_
      refine ei_aln hb dX6_looksAt_15 (pc' := 16) rfl rfl ?_
      refine ei_il hb dX6_looksAt_16 (pc' := 18) rfl rfl ?_
      refine ei_iln hb dX6_looksAt_18 (pc' := 19) rfl rfl ?_
      refine ei_iln hb dX6_looksAt_19 (pc' := 20) rfl rfl ?_
      refine ei_iln hb dX6_looksAt_20 (pc' := 21) rfl rfl ?_
      obtain ⟨x2, e3, h⟩ := Option.bind_eq_some_iff.mp h
      refine ei_cv hb dX6_looksAt_21 (pc' := 24) (M1 := (qz_mk T.1 T.2)) (as := [.inl y4, .inl a0, .inl a1, .inl a2]) (rest := []) (st' := [.inl x2]) hcn qz_c_6_75 qz_k_101 (qz_q_102_101) (Nat.le_of_ble_eq_true rfl) (Nat.le_of_ble_eq_true rfl) rfl rfl rfl (vM_waitsAt F T.1 T.2 y4 a0 a1 a2 _ e3) rfl rfl ?_
      by_cases c4 : x2 = 0
      · rw [if_pos c4] at h
        refine ei_ifT hb dX6_looksAt_24 (pc' := 47) (decide_eq_true c4) (by decide) ?_
        refine ei_inc hb dX6_looksAt_47 (v := (y4 + 1)) (pc' := 50) (ls' := [some (.inr (some ((6, 0, 0) : qz_N))), some (.inl a0), some (.inl a1), some (.inl a2), some (.inl (y4 + 1))]) rfl rfl rfl rfl ?_
        refine ei_go hb dX6_looksAt_50 (pc' := 3) (by decide) ?_
        exact ih (y4 + 1) T _ h
      · rw [if_neg c4] at h
        refine ei_ifF hb dX6_looksAt_24 (pc' := 27) (t := 47) (decide_eq_false c4) (by decide) rfl ?_
        refine ei_aln hb dX6_looksAt_27 (pc' := 28) rfl rfl ?_
        refine ei_iln hb dX6_looksAt_28 (pc' := 29) rfl rfl ?_
        refine ei_iln hb dX6_looksAt_29 (pc' := 30) rfl rfl ?_
        refine ei_iln hb dX6_looksAt_30 (pc' := 31) rfl rfl ?_
        refine ei_b hb dX6_looksAt_31 (v := (-5 : Int32)) (pc' := 33) (by decide) rfl ?_
        obtain ⟨x5, e6, h⟩ := Option.bind_eq_some_iff.mp h
        refine ei_cv hb dX6_looksAt_33 (pc' := 36) (M1 := (qz_mk T.1 T.2)) (as := [.inl a0, .inl a1, .inl a2, .inl (-5 : Int32)]) (rest := []) (st' := [.inl x5]) hcn qz_c_6_79 qz_k_99 (qz_q_102_99) (Nat.le_of_ble_eq_true rfl) (Nat.le_of_ble_eq_true rfl) rfl rfl rfl (vM_reasonBut F T.1 T.2 a0 a1 a2 (-5 : Int32) _ e6) rfl rfl ?_
        by_cases c7 : x5 = 0
        · rw [if_pos c7] at h
          refine ei_ifF hb dX6_looksAt_36 (pc' := 39) (t := 47) (decide_eq_false (fun q => q c7)) (by decide) rfl ?_
          refine ei_aln hb dX6_looksAt_39 (pc' := 40) rfl rfl ?_
          refine ei_il hb dX6_looksAt_40 (pc' := 42) rfl rfl ?_
          refine ei_c hb dX6_looksAt_42 (v := (4 : Int32)) (pc' := 43) (by decide) rfl ?_
          refine ei_c hb dX6_looksAt_43 (v := (1 : Int32)) (pc' := 44) (by decide) rfl ?_
          obtain ⟨R8, e9, h⟩ := Option.bind_eq_some_iff.mp h
          refine ei_cv hb dX6_looksAt_44 (pc' := 47) (M1 := (qz_mk R8.1 R8.2)) (as := [.inl y4, .inl (4 : Int32), .inl (1 : Int32)]) (rest := []) (st' := []) hcn qz_c_6_82 qz_k_86 (qz_q_102_86) (Nat.le_of_ble_eq_true rfl) (Nat.le_of_ble_eq_true rfl) rfl rfl rfl (vM_lay F T y4 (4 : Int32) (1 : Int32) _ e9) rfl rfl ?_
          refine ei_inc hb dX6_looksAt_47 (v := (y4 + 1)) (pc' := 50) (ls' := [some (.inr (some ((6, 0, 0) : qz_N))), some (.inl a0), some (.inl a1), some (.inl a2), some (.inl (y4 + 1))]) rfl rfl rfl rfl ?_
          refine ei_go hb dX6_looksAt_50 (pc' := 3) (by decide) ?_
          exact ih (y4 + 1) R8 _ h
        · rw [if_neg c7] at h
          refine ei_ifT hb dX6_looksAt_36 (pc' := 47) (decide_eq_true c7) (by decide) ?_
          refine ei_inc hb dX6_looksAt_47 (v := (y4 + 1)) (pc' := 50) (ls' := [some (.inr (some ((6, 0, 0) : qz_N))), some (.inl a0), some (.inl a1), some (.inl a2), some (.inl (y4 + 1))]) rfl rfl rfl rfl ?_
          refine ei_go hb dX6_looksAt_50 (pc' := 3) (by decide) ?_
          exact ih (y4 + 1) T _ h
set_option maxHeartbeats 4000000 in
theorem vM_looksAt (F : Nat) (S : qz_S) (a0 : Int32) (a1 : Int32) (a2 : Int32) (r : qz_S) (h : (gM_looksAt F S a0 a1 a2) = some r) : qz_E 102 0 (qz_in0 102 [.inr (some ((6, 0, 0) : qz_N)), .inl a0, .inl a1, .inl a2]) [] (qz_mk S.1 S.2) none (qz_mk r.1 r.2) := by
  have hb : qz_b 102 = cX6_looksAt := rfl
  have hcn : qz_cn 102 = 6 := rfl
  show qz_E 102 0 [some (.inr (some ((6, 0, 0) : qz_N))), some (.inl a0), some (.inl a1), some (.inl a2), none] [] _ _ _
  rw [gM_looksAt] at h
  refine ei_c hb dX6_looksAt_0 (v := (0 : Int32)) (pc' := 1) (by decide) rfl ?_
  refine ei_is hb dX6_looksAt_1 (pc' := 3) (ls' := [some (.inr (some ((6, 0, 0) : qz_N))), some (.inl a0), some (.inl a1), some (.inl a2), some (.inl (0 : Int32))]) (Nat.le_of_ble_eq_true rfl) rfl rfl ?_
  refine vM_looksAt_L3 F a0 a1 a2 _ ?_ F (0 : Int32) S _ h
  intro y410 T11 r h
  have h := Option.some.inj h
  subst h
  exact ei_retv hb dX6_looksAt_53 rfl
def gM_looksAtAll_L18 (F : Nat) (y1 : Int32) (K : (Int32 → qz_S → Option (qz_S))) : Nat → Int32 → qz_S → Option (qz_S)
  | 0, _, _ => none
  | n + 1, y2, T => if (18 : Int32) ≤ y2 then (K y2 T) else (if qz_xi y1 10 = true then (Option.bind (gM_looksAt F T (y2 / (9 : Int32)) (T.1 ((21, 0, 0) : qz_N) (y1).toNatClampNeg) ((1 : Int32) + (y2 - y2 / (9 : Int32) * (9 : Int32)))) fun R6 => (gM_looksAtAll_L18 F y1 K) n (y2 + 1) R6) else none)
def gM_looksAtAll_L6 (F : Nat)  (K : (Int32 → qz_S → Option (qz_S))) : Nat → Int32 → qz_S → Option (qz_S)
  | 0, _, _ => none
  | n + 1, y1, T => if (T.1 ((17, 0, 0) : qz_N) 4) ≤ y1 then (K y1 T) else (gM_looksAtAll_L18 F y1 (fun y28 T9 => (gM_looksAtAll_L6 F K) n (y1 + 1) T9) F (0 : Int32) T)
def gM_looksAtAll (F : Nat) (S : qz_S)  : Option (qz_S) :=
  Option.bind (gM_ranks F S) fun R1 => gM_looksAtAll_L6 F (fun y110 T11 => some T11) F (0 : Int32) R1
set_option maxHeartbeats 4000000 in
theorem vM_looksAtAll_L18 (F : Nat) (y1 : Int32) (K : (Int32 → qz_S → Option (qz_S))) (hK : ∀ (y2 : Int32) (T : qz_S) (r : qz_S), K y2 T = some r → qz_E 103 50 [some (.inr (some ((6, 0, 0) : qz_N))), some (.inl y1), some (.inl y2)] [] (qz_mk T.1 T.2) none (qz_mk r.1 r.2)) : ∀ (n : Nat) (y2 : Int32) (T : qz_S) (r : qz_S), gM_looksAtAll_L18 F y1 K n y2 T = some r → qz_E 103 18 [some (.inr (some ((6, 0, 0) : qz_N))), some (.inl y1), some (.inl y2)] [] (qz_mk T.1 T.2) none (qz_mk r.1 r.2) := by
  have hb : qz_b 103 = cX6_looksAtAll := rfl
  have hcn : qz_cn 103 = 6 := rfl
  intro n
  induction n with
  | zero =>
    intro y2 T r h
    cases h
  | succ n ih =>
    intro y2 T r h
    rw [gM_looksAtAll_L18] at h
    refine ei_iln hb dX6_looksAtAll_18 (pc' := 19) rfl rfl ?_
    refine ei_b hb dX6_looksAtAll_19 (v := (18 : Int32)) (pc' := 21) (by decide) rfl ?_
    by_cases c4 : (18 : Int32) ≤ y2
    · rw [if_pos c4] at h
      refine ei_icT hb dX6_looksAtAll_21 (pc' := 50) (decide_eq_true c4) (by decide) ?_
      exact hK y2 T _ h
    · rw [if_neg c4] at h
      refine ei_icF hb dX6_looksAtAll_21 (pc' := 24) (t := 50) (decide_eq_false c4) (by decide) rfl ?_
      refine ei_aln hb dX6_looksAtAll_24 (pc' := 25) rfl rfl ?_
      refine ei_iln hb dX6_looksAtAll_25 (pc' := 26) rfl rfl ?_
      refine ei_b hb dX6_looksAtAll_26 (v := (9 : Int32)) (pc' := 28) (by decide) rfl ?_
      refine ei_div hb dX6_looksAtAll_28 (pc' := 29) (by decide) rfl ?_
      refine ei_aln hb dX6_looksAtAll_29 (pc' := 30) rfl rfl ?_
      refine ei_gr hb dX6_looksAtAll_30 (pc' := 33) (x := some ((21, 0, 0) : qz_N)) hcn qz_f_6_22 rfl rfl rfl rfl ?_
      refine ei_iln hb dX6_looksAtAll_33 (pc' := 34) rfl rfl ?_
      by_cases c5 : qz_xi y1 10 = true
      · rw [if_pos c5] at h
        refine ei_ia hb dX6_looksAtAll_34 (pc' := 35) (x := (T.1 ((21, 0, 0) : qz_N) (y1).toNatClampNeg)) rfl c5 rfl rfl ?_
        refine ei_c hb dX6_looksAtAll_35 (v := (1 : Int32)) (pc' := 36) (by decide) rfl ?_
        refine ei_iln hb dX6_looksAtAll_36 (pc' := 37) rfl rfl ?_
        refine ei_b hb dX6_looksAtAll_37 (v := (9 : Int32)) (pc' := 39) (by decide) rfl ?_
        refine ei_rem hb dX6_looksAtAll_39 (pc' := 40) (by decide) rfl ?_
        refine ei_add hb dX6_looksAtAll_40 (pc' := 41) rfl ?_
        obtain ⟨R6, e7, h⟩ := Option.bind_eq_some_iff.mp h
        refine ei_cv hb dX6_looksAtAll_41 (pc' := 44) (M1 := (qz_mk R6.1 R6.2)) (as := [.inl (y2 / (9 : Int32)), .inl (T.1 ((21, 0, 0) : qz_N) (y1).toNatClampNeg), .inl ((1 : Int32) + (y2 - y2 / (9 : Int32) * (9 : Int32)))]) (rest := []) (st' := []) hcn qz_c_6_89 qz_k_102 (qz_q_103_102) (Nat.le_of_ble_eq_true rfl) (Nat.le_of_ble_eq_true rfl) rfl rfl rfl (vM_looksAt F T (y2 / (9 : Int32)) (T.1 ((21, 0, 0) : qz_N) (y1).toNatClampNeg) ((1 : Int32) + (y2 - y2 / (9 : Int32) * (9 : Int32))) _ e7) rfl rfl ?_
        refine ei_inc hb dX6_looksAtAll_44 (v := (y2 + 1)) (pc' := 47) (ls' := [some (.inr (some ((6, 0, 0) : qz_N))), some (.inl y1), some (.inl (y2 + 1))]) rfl rfl rfl rfl ?_
        refine ei_go hb dX6_looksAtAll_47 (pc' := 18) (by decide) ?_
        exact ih (y2 + 1) R6 _ h
      · rw [if_neg c5] at h
        cases h
set_option maxHeartbeats 4000000 in
theorem vM_looksAtAll_L6 (F : Nat)  (K : (Int32 → qz_S → Option (qz_S))) (hK : ∀ (y1 : Int32) (T : qz_S) (r : qz_S), K y1 T = some r → ∀ (d2 : Option qz_V), qz_E 103 56 [some (.inr (some ((6, 0, 0) : qz_N))), some (.inl y1), d2] [] (qz_mk T.1 T.2) none (qz_mk r.1 r.2)) : ∀ (n : Nat) (y1 : Int32) (T : qz_S) (r : qz_S), gM_looksAtAll_L6 F K n y1 T = some r → ∀ (d2 : Option qz_V), qz_E 103 6 [some (.inr (some ((6, 0, 0) : qz_N))), some (.inl y1), d2] [] (qz_mk T.1 T.2) none (qz_mk r.1 r.2) := by
  have hb : qz_b 103 = cX6_looksAtAll := rfl
  have hcn : qz_cn 103 = 6 := rfl
  intro n
  induction n with
  | zero =>
    intro y1 T r h
    cases h
  | succ n ih =>
    intro y1 T r h d2
    rw [gM_looksAtAll_L6] at h
    refine ei_iln hb dX6_looksAtAll_6 (pc' := 7) rfl rfl ?_
    refine ei_aln hb dX6_looksAtAll_7 (pc' := 8) rfl rfl ?_
    refine ei_gr hb dX6_looksAtAll_8 (pc' := 11) (x := some ((17, 0, 0) : qz_N)) hcn qz_f_6_7 rfl rfl rfl rfl ?_
    refine ei_c hb dX6_looksAtAll_11 (v := (4 : Int32)) (pc' := 12) (by decide) rfl ?_
    refine ei_ia hb dX6_looksAtAll_12 (pc' := 13) (x := (T.1 ((17, 0, 0) : qz_N) 4)) rfl (show qz_xi (4 : Int32) 283 = true by decide) rfl rfl ?_
    by_cases c3 : (T.1 ((17, 0, 0) : qz_N) 4) ≤ y1
    · rw [if_pos c3] at h
      refine ei_icT hb dX6_looksAtAll_13 (pc' := 56) (decide_eq_true c3) (by decide) ?_
      exact hK y1 T _ h _
    · rw [if_neg c3] at h
      refine ei_icF hb dX6_looksAtAll_13 (pc' := 16) (t := 56) (decide_eq_false c3) (by decide) rfl ?_
      refine ei_c hb dX6_looksAtAll_16 (v := (0 : Int32)) (pc' := 17) (by decide) rfl ?_
      refine ei_isn hb dX6_looksAtAll_17 (pc' := 18) (ls' := [some (.inr (some ((6, 0, 0) : qz_N))), some (.inl y1), some (.inl (0 : Int32))]) (Nat.le_of_ble_eq_true rfl) rfl rfl ?_
      refine vM_looksAtAll_L18 F y1 _ ?_ F (0 : Int32) T _ h
      intro y28 T9 r h
      refine ei_inc hb dX6_looksAtAll_50 (v := (y1 + 1)) (pc' := 53) (ls' := [some (.inr (some ((6, 0, 0) : qz_N))), some (.inl (y1 + 1)), some (.inl y28)]) rfl rfl rfl rfl ?_
      refine ei_go hb dX6_looksAtAll_53 (pc' := 6) (by decide) ?_
      exact ih (y1 + 1) T9 _ h _
set_option maxHeartbeats 4000000 in
theorem vM_looksAtAll (F : Nat) (S : qz_S)  (r : qz_S) (h : (gM_looksAtAll F S) = some r) : qz_E 103 0 (qz_in0 103 [.inr (some ((6, 0, 0) : qz_N))]) [] (qz_mk S.1 S.2) none (qz_mk r.1 r.2) := by
  have hb : qz_b 103 = cX6_looksAtAll := rfl
  have hcn : qz_cn 103 = 6 := rfl
  show qz_E 103 0 [some (.inr (some ((6, 0, 0) : qz_N))), none, none] [] _ _ _
  rw [gM_looksAtAll] at h
  refine ei_aln hb dX6_looksAtAll_0 (pc' := 1) rfl rfl ?_
  obtain ⟨R1, e2, h⟩ := Option.bind_eq_some_iff.mp h
  refine ei_cv hb dX6_looksAtAll_1 (pc' := 4) (M1 := (qz_mk R1.1 R1.2)) (as := []) (rest := []) (st' := []) hcn qz_c_6_86 qz_k_100 (qz_q_103_100) (Nat.le_of_ble_eq_true rfl) (Nat.le_of_ble_eq_true rfl) rfl rfl rfl (vM_ranks F S _ e2) rfl rfl ?_
  refine ei_c hb dX6_looksAtAll_4 (v := (0 : Int32)) (pc' := 5) (by decide) rfl ?_
  refine ei_isn hb dX6_looksAtAll_5 (pc' := 6) (ls' := [some (.inr (some ((6, 0, 0) : qz_N))), some (.inl (0 : Int32)), none]) (Nat.le_of_ble_eq_true rfl) rfl rfl ?_
  refine vM_looksAtAll_L6 F _ ?_ F (0 : Int32) R1 _ h _
  intro y110 T11 r h d12
  have h := Option.some.inj h
  subst h
  exact ei_retv hb dX6_looksAtAll_56 rfl
def gM_waiting_L4 (F : Nat) (f : qz_F)  (K : (Int32 → Int32 → Option (Int32))) : Nat → Int32 → Int32 → Option (Int32)
  | 0, _, _ => none
  | n + 1, y1, y2 => if (f ((17, 0, 0) : qz_N) 6) ≤ y2 then (K y1 y2) else (Option.bind (gM_of F f y2 (4 : Int32)) fun x2 => (gM_waiting_L4 F f K) n (y1 + ((1 : Int32) - x2)) (y2 + 1))
def gM_waiting (F : Nat) (f : qz_F)  : Option (Int32) :=
  gM_waiting_L4 F f (fun y14 y25 => some y14) F (0 : Int32) (0 : Int32)
set_option maxHeartbeats 4000000 in
theorem vM_waiting_L4 (F : Nat) (f : qz_F) (p : Nat → Nat)  (K : (Int32 → Int32 → Option (Int32))) (hK : ∀ (y1 : Int32) (y2 : Int32) (r : Int32), K y1 y2 = some r → qz_E 104 32 [some (.inr (some ((6, 0, 0) : qz_N))), some (.inl y1), some (.inl y2)] [] (qz_mk f p) (some (.inl r)) (qz_mk f p)) : ∀ (n : Nat) (y1 : Int32) (y2 : Int32) (r : Int32), gM_waiting_L4 F f K n y1 y2 = some r → qz_E 104 4 [some (.inr (some ((6, 0, 0) : qz_N))), some (.inl y1), some (.inl y2)] [] (qz_mk f p) (some (.inl r)) (qz_mk f p) := by
  have hb : qz_b 104 = cX6_waiting := rfl
  have hcn : qz_cn 104 = 6 := rfl
  intro n
  induction n with
  | zero =>
    intro y1 y2 r h
    cases h
  | succ n ih =>
    intro y1 y2 r h
    rw [gM_waiting_L4] at h
    refine ei_iln hb dX6_waiting_4 (pc' := 5) rfl rfl ?_
    refine ei_aln hb dX6_waiting_5 (pc' := 6) rfl rfl ?_
    refine ei_gr hb dX6_waiting_6 (pc' := 9) (x := some ((17, 0, 0) : qz_N)) hcn qz_f_6_7 rfl rfl rfl rfl ?_
    refine ei_b hb dX6_waiting_9 (v := (6 : Int32)) (pc' := 11) (by decide) rfl ?_
    refine ei_ia hb dX6_waiting_11 (pc' := 12) (x := (f ((17, 0, 0) : qz_N) 6)) rfl (show qz_xi (6 : Int32) 283 = true by decide) rfl rfl ?_
    by_cases c1 : (f ((17, 0, 0) : qz_N) 6) ≤ y2
    · rw [if_pos c1] at h
      refine ei_icT hb dX6_waiting_12 (pc' := 32) (decide_eq_true c1) (by decide) ?_
      exact hK y1 y2 _ h
    · rw [if_neg c1] at h
      refine ei_icF hb dX6_waiting_12 (pc' := 15) (t := 32) (decide_eq_false c1) (by decide) rfl ?_
      refine ei_iln hb dX6_waiting_15 (pc' := 16) rfl rfl ?_
      refine ei_c hb dX6_waiting_16 (v := (1 : Int32)) (pc' := 17) (by decide) rfl ?_
      refine ei_aln hb dX6_waiting_17 (pc' := 18) rfl rfl ?_
      refine ei_iln hb dX6_waiting_18 (pc' := 19) rfl rfl ?_
      refine ei_c hb dX6_waiting_19 (v := (4 : Int32)) (pc' := 20) (by decide) rfl ?_
      obtain ⟨x2, e3, h⟩ := Option.bind_eq_some_iff.mp h
      refine ei_cv hb dX6_waiting_20 (pc' := 23) (M1 := (qz_mk f p)) (as := [.inl y2, .inl (4 : Int32)]) (rest := [.inl (1 : Int32), .inl y1]) (st' := [.inl x2, .inl (1 : Int32), .inl y1]) hcn qz_c_6_40 qz_k_85 (qz_q_104_85) (Nat.le_of_ble_eq_true rfl) (Nat.le_of_ble_eq_true rfl) rfl rfl rfl (vM_of F f p y2 (4 : Int32) _ e3) rfl rfl ?_
      refine ei_sub hb dX6_waiting_23 (pc' := 24) rfl ?_
      refine ei_add hb dX6_waiting_24 (pc' := 25) rfl ?_
      refine ei_isn hb dX6_waiting_25 (pc' := 26) (ls' := [some (.inr (some ((6, 0, 0) : qz_N))), some (.inl (y1 + ((1 : Int32) - x2))), some (.inl y2)]) (Nat.le_of_ble_eq_true rfl) rfl rfl ?_
      refine ei_inc hb dX6_waiting_26 (v := (y2 + 1)) (pc' := 29) (ls' := [some (.inr (some ((6, 0, 0) : qz_N))), some (.inl (y1 + ((1 : Int32) - x2))), some (.inl (y2 + 1))]) rfl rfl rfl rfl ?_
      refine ei_go hb dX6_waiting_29 (pc' := 4) (by decide) ?_
      exact ih (y1 + ((1 : Int32) - x2)) (y2 + 1) _ h
set_option maxHeartbeats 4000000 in
theorem vM_waiting (F : Nat) (f : qz_F) (p : Nat → Nat)  (r : Int32) (h : (gM_waiting F f) = some r) : qz_E 104 0 (qz_in0 104 [.inr (some ((6, 0, 0) : qz_N))]) [] (qz_mk f p) (some (.inl r)) (qz_mk f p) := by
  have hb : qz_b 104 = cX6_waiting := rfl
  have hcn : qz_cn 104 = 6 := rfl
  show qz_E 104 0 [some (.inr (some ((6, 0, 0) : qz_N))), none, none] [] _ _ _
  rw [gM_waiting] at h
  refine ei_c hb dX6_waiting_0 (v := (0 : Int32)) (pc' := 1) (by decide) rfl ?_
  refine ei_isn hb dX6_waiting_1 (pc' := 2) (ls' := [some (.inr (some ((6, 0, 0) : qz_N))), some (.inl (0 : Int32)), none]) (Nat.le_of_ble_eq_true rfl) rfl rfl ?_
  refine ei_c hb dX6_waiting_2 (v := (0 : Int32)) (pc' := 3) (by decide) rfl ?_
  refine ei_isn hb dX6_waiting_3 (pc' := 4) (ls' := [some (.inr (some ((6, 0, 0) : qz_N))), some (.inl (0 : Int32)), some (.inl (0 : Int32))]) (Nat.le_of_ble_eq_true rfl) rfl rfl ?_
  refine vM_waiting_L4 F f p _ ?_ F (0 : Int32) (0 : Int32) _ h
  intro y14 y25 r h
  refine ei_iln hb dX6_waiting_32 (pc' := 33) rfl rfl ?_
  have h := Option.some.inj h
  subst h
  exact ei_reti hb dX6_waiting_33 rfl
def gM_isOf (F : Nat) (f : qz_F) (a0 : Int32) (a1 : Int32) (a2 : Int32) (a3 : Int32) : Option (Int32) :=
  Option.bind (gM_of F f a0 (4 : Int32)) fun x1 => if x1 = (1 : Int32) then (Option.bind (gM_of F f a0 (2 : Int32)) fun x4 => if x4 = a1 then (Option.bind (gM_of F f a0 (1 : Int32)) fun x7 => if x7 = a2 then (some (1 : Int32)) else (Option.bind (gM_of F f a0 (1 : Int32)) fun x10 => if x10 = a3 then (some (1 : Int32)) else (some (0 : Int32)))) else (some (0 : Int32))) else (some (0 : Int32))
set_option maxHeartbeats 4000000 in
theorem vM_isOf (F : Nat) (f : qz_F) (p : Nat → Nat) (a0 : Int32) (a1 : Int32) (a2 : Int32) (a3 : Int32) (r : Int32) (h : (gM_isOf F f a0 a1 a2 a3) = some r) : qz_E 105 0 (qz_in0 105 [.inr (some ((6, 0, 0) : qz_N)), .inl a0, .inl a1, .inl a2, .inl a3]) [] (qz_mk f p) (some (.inl r)) (qz_mk f p) := by
  have hb : qz_b 105 = cX6_isOf := rfl
  have hcn : qz_cn 105 = 6 := rfl
  show qz_E 105 0 [some (.inr (some ((6, 0, 0) : qz_N))), some (.inl a0), some (.inl a1), some (.inl a2), some (.inl a3)] [] _ _ _
  rw [gM_isOf] at h
  refine ei_aln hb dX6_isOf_0 (pc' := 1) rfl rfl ?_
  refine ei_iln hb dX6_isOf_1 (pc' := 2) rfl rfl ?_
  refine ei_c hb dX6_isOf_2 (v := (4 : Int32)) (pc' := 3) (by decide) rfl ?_
  obtain ⟨x1, e2, h⟩ := Option.bind_eq_some_iff.mp h
  refine ei_cv hb dX6_isOf_3 (pc' := 6) (M1 := (qz_mk f p)) (as := [.inl a0, .inl (4 : Int32)]) (rest := []) (st' := [.inl x1]) hcn qz_c_6_40 qz_k_85 (qz_q_105_85) (Nat.le_of_ble_eq_true rfl) (Nat.le_of_ble_eq_true rfl) rfl rfl rfl (vM_of F f p a0 (4 : Int32) _ e2) rfl rfl ?_
  refine ei_c hb dX6_isOf_6 (v := (1 : Int32)) (pc' := 7) (by decide) rfl ?_
  by_cases c3 : x1 = (1 : Int32)
  · rw [if_pos c3] at h
    refine ei_icF hb dX6_isOf_7 (pc' := 10) (t := 45) (decide_eq_false (fun q => q c3)) (by decide) rfl ?_
    refine ei_aln hb dX6_isOf_10 (pc' := 11) rfl rfl ?_
    refine ei_iln hb dX6_isOf_11 (pc' := 12) rfl rfl ?_
    refine ei_c hb dX6_isOf_12 (v := (2 : Int32)) (pc' := 13) (by decide) rfl ?_
    obtain ⟨x4, e5, h⟩ := Option.bind_eq_some_iff.mp h
    refine ei_cv hb dX6_isOf_13 (pc' := 16) (M1 := (qz_mk f p)) (as := [.inl a0, .inl (2 : Int32)]) (rest := []) (st' := [.inl x4]) hcn qz_c_6_40 qz_k_85 (qz_q_105_85) (Nat.le_of_ble_eq_true rfl) (Nat.le_of_ble_eq_true rfl) rfl rfl rfl (vM_of F f p a0 (2 : Int32) _ e5) rfl rfl ?_
    refine ei_iln hb dX6_isOf_16 (pc' := 17) rfl rfl ?_
    by_cases c6 : x4 = a1
    · rw [if_pos c6] at h
      refine ei_icF hb dX6_isOf_17 (pc' := 20) (t := 45) (decide_eq_false (fun q => q c6)) (by decide) rfl ?_
      refine ei_aln hb dX6_isOf_20 (pc' := 21) rfl rfl ?_
      refine ei_iln hb dX6_isOf_21 (pc' := 22) rfl rfl ?_
      refine ei_c hb dX6_isOf_22 (v := (1 : Int32)) (pc' := 23) (by decide) rfl ?_
      obtain ⟨x7, e8, h⟩ := Option.bind_eq_some_iff.mp h
      refine ei_cv hb dX6_isOf_23 (pc' := 26) (M1 := (qz_mk f p)) (as := [.inl a0, .inl (1 : Int32)]) (rest := []) (st' := [.inl x7]) hcn qz_c_6_40 qz_k_85 (qz_q_105_85) (Nat.le_of_ble_eq_true rfl) (Nat.le_of_ble_eq_true rfl) rfl rfl rfl (vM_of F f p a0 (1 : Int32) _ e8) rfl rfl ?_
      refine ei_iln hb dX6_isOf_26 (pc' := 27) rfl rfl ?_
      by_cases c9 : x7 = a2
      · rw [if_pos c9] at h
        refine ei_icT hb dX6_isOf_27 (pc' := 41) (decide_eq_true c9) (by decide) ?_
        refine ei_c hb dX6_isOf_41 (v := (1 : Int32)) (pc' := 42) (by decide) rfl ?_
        refine ei_go hb dX6_isOf_42 (pc' := 46) (by decide) ?_
        have h := Option.some.inj h
        subst h
        exact ei_retz hb dX6_isOf_46 rfl (by decide)
      · rw [if_neg c9] at h
        refine ei_icF hb dX6_isOf_27 (pc' := 30) (t := 41) (decide_eq_false c9) (by decide) rfl ?_
        refine ei_aln hb dX6_isOf_30 (pc' := 31) rfl rfl ?_
        refine ei_iln hb dX6_isOf_31 (pc' := 32) rfl rfl ?_
        refine ei_c hb dX6_isOf_32 (v := (1 : Int32)) (pc' := 33) (by decide) rfl ?_
        obtain ⟨x10, e11, h⟩ := Option.bind_eq_some_iff.mp h
        refine ei_cv hb dX6_isOf_33 (pc' := 36) (M1 := (qz_mk f p)) (as := [.inl a0, .inl (1 : Int32)]) (rest := []) (st' := [.inl x10]) hcn qz_c_6_40 qz_k_85 (qz_q_105_85) (Nat.le_of_ble_eq_true rfl) (Nat.le_of_ble_eq_true rfl) rfl rfl rfl (vM_of F f p a0 (1 : Int32) _ e11) rfl rfl ?_
        refine ei_il hb dX6_isOf_36 (pc' := 38) rfl rfl ?_
        by_cases c12 : x10 = a3
        · rw [if_pos c12] at h
          refine ei_icF hb dX6_isOf_38 (pc' := 41) (t := 45) (decide_eq_false (fun q => q c12)) (by decide) rfl ?_
          refine ei_c hb dX6_isOf_41 (v := (1 : Int32)) (pc' := 42) (by decide) rfl ?_
          refine ei_go hb dX6_isOf_42 (pc' := 46) (by decide) ?_
          have h := Option.some.inj h
          subst h
          exact ei_retz hb dX6_isOf_46 rfl (by decide)
        · rw [if_neg c12] at h
          refine ei_icT hb dX6_isOf_38 (pc' := 45) (decide_eq_true c12) (by decide) ?_
          refine ei_c hb dX6_isOf_45 (v := (0 : Int32)) (pc' := 46) (by decide) rfl ?_
          have h := Option.some.inj h
          subst h
          exact ei_retz hb dX6_isOf_46 rfl (by decide)
    · rw [if_neg c6] at h
      refine ei_icT hb dX6_isOf_17 (pc' := 45) (decide_eq_true c6) (by decide) ?_
      refine ei_c hb dX6_isOf_45 (v := (0 : Int32)) (pc' := 46) (by decide) rfl ?_
      have h := Option.some.inj h
      subst h
      exact ei_retz hb dX6_isOf_46 rfl (by decide)
  · rw [if_neg c3] at h
    refine ei_icT hb dX6_isOf_7 (pc' := 45) (decide_eq_true c3) (by decide) ?_
    refine ei_c hb dX6_isOf_45 (v := (0 : Int32)) (pc' := 46) (by decide) rfl ?_
    have h := Option.some.inj h
    subst h
    exact ei_retz hb dX6_isOf_46 rfl (by decide)
def gM_canMerge_L84 (F : Nat) (f : qz_F) (a0 : Int32) (a1 : Int32) (a2 : Int32) (x13 : Int32) (x15 : Int32) (K : (Int32 → Int32 → Int32 → Option (Int32))) : Nat → Int32 → Int32 → Int32 → Option (Int32)
  | 0, _, _, _ => none
  | n + 1, y6, y7, y8 => if (f ((17, 0, 0) : qz_N) 6) ≤ y8 then (K y6 y7 y8) else (Option.bind (gM_isOf F f y8 a0 a1 a2) fun x18 => if x18 = 0 then ((gM_canMerge_L84 F f a0 a1 a2 x13 x15 K) n y6 y7 (y8 + 1)) else (if y7 = 0 then ((gM_canMerge_L84 F f a0 a1 a2 x13 x15 K) n (y6 + 1) (0 : Int32) (y8 + 1)) else (Option.bind (gM_of F f y8 (1 : Int32)) fun x22 => Option.bind (gM_of F f y8 (3 : Int32)) fun x24 => Option.bind (gM_behind F f (gM_later f x13 x15) x22 x24) fun x26 => if (f ((17, 0, 0) : qz_N) 3) < x26 then ((gM_canMerge_L84 F f a0 a1 a2 x13 x15 K) n (y6 + 1) (0 : Int32) (y8 + 1)) else ((gM_canMerge_L84 F f a0 a1 a2 x13 x15 K) n (y6 + 1) (1 : Int32) (y8 + 1)))))
def gM_canMerge (F : Nat) (f : qz_F) (a0 : Int32) (a1 : Int32) (a2 : Int32) : Option (Int32) :=
  Option.bind (gM_minute F f a1) fun x1 => Option.bind (gM_minute F f a2) fun x3 => Option.bind (gM_partner F f a0 a1) fun x5 => if x5 = (-5 : Int32) then (Option.bind (gM_partner F f a0 a2) fun x8 => if x8 = (-5 : Int32) then (if (f ((17, 0, 0) : qz_N) 2) < (x1 - x3) then (some (0 : Int32)) else (if (-(x1 - x3)) ≤ (f ((17, 0, 0) : qz_N) 2) then (Option.bind (gM_minute F f a1) fun x13 => Option.bind (gM_minute F f a2) fun x15 => gM_canMerge_L84 F f a0 a1 a2 x13 x15 (fun y629 y730 y831 => if y730 = 0 then (some (0 : Int32)) else (if (f ((17, 0, 0) : qz_N) 1) < y629 then (some (0 : Int32)) else (some (1 : Int32)))) F (0 : Int32) (1 : Int32) (0 : Int32)) else (some (0 : Int32)))) else (some (0 : Int32))) else (some (0 : Int32))
set_option maxHeartbeats 4000000 in
theorem vM_canMerge_L84 (F : Nat) (f : qz_F) (p : Nat → Nat) (a0 : Int32) (a1 : Int32) (a2 : Int32) (x13 : Int32) (x15 : Int32) (K : (Int32 → Int32 → Int32 → Option (Int32))) (hK : ∀ (y6 : Int32) (y7 : Int32) (y8 : Int32) (r : Int32), K y6 y7 y8 = some r → ∀ (d4 : Option qz_V), qz_E 106 158 [some (.inr (some ((6, 0, 0) : qz_N))), some (.inl a0), some (.inl a1), some (.inl a2), d4, some (.inl (gM_later f x13 x15)), some (.inl y6), some (.inl y7), some (.inl y8)] [] (qz_mk f p) (some (.inl r)) (qz_mk f p)) : ∀ (n : Nat) (y6 : Int32) (y7 : Int32) (y8 : Int32) (r : Int32), gM_canMerge_L84 F f a0 a1 a2 x13 x15 K n y6 y7 y8 = some r → ∀ (d4 : Option qz_V), qz_E 106 84 [some (.inr (some ((6, 0, 0) : qz_N))), some (.inl a0), some (.inl a1), some (.inl a2), d4, some (.inl (gM_later f x13 x15)), some (.inl y6), some (.inl y7), some (.inl y8)] [] (qz_mk f p) (some (.inl r)) (qz_mk f p) := by
  have hb : qz_b 106 = cX6_canMerge := rfl
  have hcn : qz_cn 106 = 6 := rfl
  intro n
  induction n with
  | zero =>
    intro y6 y7 y8 r h
    cases h
  | succ n ih =>
    intro y6 y7 y8 r h d4
    rw [gM_canMerge_L84] at h
    refine ei_il hb dX6_canMerge_84 (pc' := 86) rfl rfl ?_
    refine ei_aln hb dX6_canMerge_86 (pc' := 87) rfl rfl ?_
    refine ei_gr hb dX6_canMerge_87 (pc' := 90) (x := some ((17, 0, 0) : qz_N)) hcn qz_f_6_7 rfl rfl rfl rfl ?_
    refine ei_b hb dX6_canMerge_90 (v := (6 : Int32)) (pc' := 92) (by decide) rfl ?_
    refine ei_ia hb dX6_canMerge_92 (pc' := 93) (x := (f ((17, 0, 0) : qz_N) 6)) rfl (show qz_xi (6 : Int32) 283 = true by decide) rfl rfl ?_
    by_cases c17 : (f ((17, 0, 0) : qz_N) 6) ≤ y8
    · rw [if_pos c17] at h
      refine ei_icT hb dX6_canMerge_93 (pc' := 158) (decide_eq_true c17) (by decide) ?_
      exact hK y6 y7 y8 _ h _
    · rw [if_neg c17] at h
      refine ei_icF hb dX6_canMerge_93 (pc' := 96) (t := 158) (decide_eq_false c17) (by decide) rfl ?_
      refine ei_aln hb dX6_canMerge_96 (pc' := 97) rfl rfl ?_
      refine ei_il hb dX6_canMerge_97 (pc' := 99) rfl rfl ?_
      refine ei_iln hb dX6_canMerge_99 (pc' := 100) rfl rfl ?_
      refine ei_iln hb dX6_canMerge_100 (pc' := 101) rfl rfl ?_
      refine ei_iln hb dX6_canMerge_101 (pc' := 102) rfl rfl ?_
      obtain ⟨x18, e19, h⟩ := Option.bind_eq_some_iff.mp h
      refine ei_cv hb dX6_canMerge_102 (pc' := 105) (M1 := (qz_mk f p)) (as := [.inl y8, .inl a0, .inl a1, .inl a2]) (rest := []) (st' := [.inl x18]) hcn qz_c_6_92 qz_k_105 (qz_q_106_105) (Nat.le_of_ble_eq_true rfl) (Nat.le_of_ble_eq_true rfl) rfl rfl rfl (vM_isOf F f p y8 a0 a1 a2 _ e19) rfl rfl ?_
      by_cases c20 : x18 = 0
      · rw [if_pos c20] at h
        refine ei_ifT hb dX6_canMerge_105 (pc' := 152) (decide_eq_true c20) (by decide) ?_
        refine ei_inc hb dX6_canMerge_152 (v := (y8 + 1)) (pc' := 155) (ls' := [some (.inr (some ((6, 0, 0) : qz_N))), some (.inl a0), some (.inl a1), some (.inl a2), d4, some (.inl (gM_later f x13 x15)), some (.inl y6), some (.inl y7), some (.inl (y8 + 1))]) rfl rfl rfl rfl ?_
        refine ei_go hb dX6_canMerge_155 (pc' := 84) (by decide) ?_
        exact ih y6 y7 (y8 + 1) _ h _
      · rw [if_neg c20] at h
        refine ei_ifF hb dX6_canMerge_105 (pc' := 108) (t := 152) (decide_eq_false c20) (by decide) rfl ?_
        refine ei_inc hb dX6_canMerge_108 (v := (y6 + 1)) (pc' := 111) (ls' := [some (.inr (some ((6, 0, 0) : qz_N))), some (.inl a0), some (.inl a1), some (.inl a2), d4, some (.inl (gM_later f x13 x15)), some (.inl (y6 + 1)), some (.inl y7), some (.inl y8)]) rfl rfl rfl rfl ?_
        refine ei_il hb dX6_canMerge_111 (pc' := 113) rfl rfl ?_
        by_cases c21 : y7 = 0
        · rw [if_pos c21] at h
          refine ei_ifT hb dX6_canMerge_113 (pc' := 149) (decide_eq_true c21) (by decide) ?_
          refine ei_c hb dX6_canMerge_149 (v := (0 : Int32)) (pc' := 150) (by decide) rfl ?_
          refine ei_is hb dX6_canMerge_150 (pc' := 152) (ls' := [some (.inr (some ((6, 0, 0) : qz_N))), some (.inl a0), some (.inl a1), some (.inl a2), d4, some (.inl (gM_later f x13 x15)), some (.inl (y6 + 1)), some (.inl (0 : Int32)), some (.inl y8)]) (Nat.le_of_ble_eq_true rfl) rfl rfl ?_
          refine ei_inc hb dX6_canMerge_152 (v := (y8 + 1)) (pc' := 155) (ls' := [some (.inr (some ((6, 0, 0) : qz_N))), some (.inl a0), some (.inl a1), some (.inl a2), d4, some (.inl (gM_later f x13 x15)), some (.inl (y6 + 1)), some (.inl (0 : Int32)), some (.inl (y8 + 1))]) rfl rfl rfl rfl ?_
          refine ei_go hb dX6_canMerge_155 (pc' := 84) (by decide) ?_
          exact ih (y6 + 1) (0 : Int32) (y8 + 1) _ h _
        · rw [if_neg c21] at h
          refine ei_ifF hb dX6_canMerge_113 (pc' := 116) (t := 149) (decide_eq_false c21) (by decide) rfl ?_
          refine ei_aln hb dX6_canMerge_116 (pc' := 117) rfl rfl ?_
          refine ei_il hb dX6_canMerge_117 (pc' := 119) rfl rfl ?_
          refine ei_aln hb dX6_canMerge_119 (pc' := 120) rfl rfl ?_
          refine ei_il hb dX6_canMerge_120 (pc' := 122) rfl rfl ?_
          refine ei_c hb dX6_canMerge_122 (v := (1 : Int32)) (pc' := 123) (by decide) rfl ?_
          obtain ⟨x22, e23, h⟩ := Option.bind_eq_some_iff.mp h
          refine ei_cv hb dX6_canMerge_123 (pc' := 126) (M1 := (qz_mk f p)) (as := [.inl y8, .inl (1 : Int32)]) (rest := [.inl (gM_later f x13 x15), .inr (some ((6, 0, 0) : qz_N))]) (st' := [.inl x22, .inl (gM_later f x13 x15), .inr (some ((6, 0, 0) : qz_N))]) hcn qz_c_6_40 qz_k_85 (qz_q_106_85) (Nat.le_of_ble_eq_true rfl) (Nat.le_of_ble_eq_true rfl) rfl rfl rfl (vM_of F f p y8 (1 : Int32) _ e23) rfl rfl ?_
          refine ei_aln hb dX6_canMerge_126 (pc' := 127) rfl rfl ?_
          refine ei_il hb dX6_canMerge_127 (pc' := 129) rfl rfl ?_
          refine ei_c hb dX6_canMerge_129 (v := (3 : Int32)) (pc' := 130) (by decide) rfl ?_
          obtain ⟨x24, e25, h⟩ := Option.bind_eq_some_iff.mp h
          refine ei_cv hb dX6_canMerge_130 (pc' := 133) (M1 := (qz_mk f p)) (as := [.inl y8, .inl (3 : Int32)]) (rest := [.inl x22, .inl (gM_later f x13 x15), .inr (some ((6, 0, 0) : qz_N))]) (st' := [.inl x24, .inl x22, .inl (gM_later f x13 x15), .inr (some ((6, 0, 0) : qz_N))]) hcn qz_c_6_40 qz_k_85 (qz_q_106_85) (Nat.le_of_ble_eq_true rfl) (Nat.le_of_ble_eq_true rfl) rfl rfl rfl (vM_of F f p y8 (3 : Int32) _ e25) rfl rfl ?_
          obtain ⟨x26, e27, h⟩ := Option.bind_eq_some_iff.mp h
          refine ei_cv hb dX6_canMerge_133 (pc' := 136) (M1 := (qz_mk f p)) (as := [.inl (gM_later f x13 x15), .inl x22, .inl x24]) (rest := []) (st' := [.inl x26]) hcn qz_c_6_71 qz_k_98 (qz_q_106_98) (Nat.le_of_ble_eq_true rfl) (Nat.le_of_ble_eq_true rfl) rfl rfl rfl (vM_behind F f p (gM_later f x13 x15) x22 x24 _ e27) rfl rfl ?_
          refine ei_aln hb dX6_canMerge_136 (pc' := 137) rfl rfl ?_
          refine ei_gr hb dX6_canMerge_137 (pc' := 140) (x := some ((17, 0, 0) : qz_N)) hcn qz_f_6_7 rfl rfl rfl rfl ?_
          refine ei_c hb dX6_canMerge_140 (v := (3 : Int32)) (pc' := 141) (by decide) rfl ?_
          refine ei_ia hb dX6_canMerge_141 (pc' := 142) (x := (f ((17, 0, 0) : qz_N) 3)) rfl (show qz_xi (3 : Int32) 283 = true by decide) rfl rfl ?_
          by_cases c28 : (f ((17, 0, 0) : qz_N) 3) < x26
          · rw [if_pos c28] at h
            refine ei_icT hb dX6_canMerge_142 (pc' := 149) (decide_eq_true c28) (by decide) ?_
            refine ei_c hb dX6_canMerge_149 (v := (0 : Int32)) (pc' := 150) (by decide) rfl ?_
            refine ei_is hb dX6_canMerge_150 (pc' := 152) (ls' := [some (.inr (some ((6, 0, 0) : qz_N))), some (.inl a0), some (.inl a1), some (.inl a2), d4, some (.inl (gM_later f x13 x15)), some (.inl (y6 + 1)), some (.inl (0 : Int32)), some (.inl y8)]) (Nat.le_of_ble_eq_true rfl) rfl rfl ?_
            refine ei_inc hb dX6_canMerge_152 (v := (y8 + 1)) (pc' := 155) (ls' := [some (.inr (some ((6, 0, 0) : qz_N))), some (.inl a0), some (.inl a1), some (.inl a2), d4, some (.inl (gM_later f x13 x15)), some (.inl (y6 + 1)), some (.inl (0 : Int32)), some (.inl (y8 + 1))]) rfl rfl rfl rfl ?_
            refine ei_go hb dX6_canMerge_155 (pc' := 84) (by decide) ?_
            exact ih (y6 + 1) (0 : Int32) (y8 + 1) _ h _
          · rw [if_neg c28] at h
            refine ei_icF hb dX6_canMerge_142 (pc' := 145) (t := 149) (decide_eq_false c28) (by decide) rfl ?_
            refine ei_c hb dX6_canMerge_145 (v := (1 : Int32)) (pc' := 146) (by decide) rfl ?_
            refine ei_go hb dX6_canMerge_146 (pc' := 150) (by decide) ?_
            refine ei_is hb dX6_canMerge_150 (pc' := 152) (ls' := [some (.inr (some ((6, 0, 0) : qz_N))), some (.inl a0), some (.inl a1), some (.inl a2), d4, some (.inl (gM_later f x13 x15)), some (.inl (y6 + 1)), some (.inl (1 : Int32)), some (.inl y8)]) (Nat.le_of_ble_eq_true rfl) rfl rfl ?_
            refine ei_inc hb dX6_canMerge_152 (v := (y8 + 1)) (pc' := 155) (ls' := [some (.inr (some ((6, 0, 0) : qz_N))), some (.inl a0), some (.inl a1), some (.inl a2), d4, some (.inl (gM_later f x13 x15)), some (.inl (y6 + 1)), some (.inl (1 : Int32)), some (.inl (y8 + 1))]) rfl rfl rfl rfl ?_
            refine ei_go hb dX6_canMerge_155 (pc' := 84) (by decide) ?_
            exact ih (y6 + 1) (1 : Int32) (y8 + 1) _ h _
set_option maxHeartbeats 4000000 in
theorem vM_canMerge (F : Nat) (f : qz_F) (p : Nat → Nat) (a0 : Int32) (a1 : Int32) (a2 : Int32) (r : Int32) (h : (gM_canMerge F f a0 a1 a2) = some r) : qz_E 106 0 (qz_in0 106 [.inr (some ((6, 0, 0) : qz_N)), .inl a0, .inl a1, .inl a2]) [] (qz_mk f p) (some (.inl r)) (qz_mk f p) := by
  have hb : qz_b 106 = cX6_canMerge := rfl
  have hcn : qz_cn 106 = 6 := rfl
  show qz_E 106 0 [some (.inr (some ((6, 0, 0) : qz_N))), some (.inl a0), some (.inl a1), some (.inl a2), none, none, none, none, none] [] _ _ _
  rw [gM_canMerge] at h
  refine ei_aln hb dX6_canMerge_0 (pc' := 1) rfl rfl ?_
  refine ei_iln hb dX6_canMerge_1 (pc' := 2) rfl rfl ?_
  obtain ⟨x1, e2, h⟩ := Option.bind_eq_some_iff.mp h
  refine ei_cv hb dX6_canMerge_2 (pc' := 5) (M1 := (qz_mk f p)) (as := [.inl a1]) (rest := []) (st' := [.inl x1]) hcn qz_c_6_50 qz_k_90 (qz_q_106_90) (Nat.le_of_ble_eq_true rfl) (Nat.le_of_ble_eq_true rfl) rfl rfl rfl (vM_minute F f p a1 _ e2) rfl rfl ?_
  refine ei_aln hb dX6_canMerge_5 (pc' := 6) rfl rfl ?_
  refine ei_iln hb dX6_canMerge_6 (pc' := 7) rfl rfl ?_
  obtain ⟨x3, e4, h⟩ := Option.bind_eq_some_iff.mp h
  refine ei_cv hb dX6_canMerge_7 (pc' := 10) (M1 := (qz_mk f p)) (as := [.inl a2]) (rest := [.inl x1]) (st' := [.inl x3, .inl x1]) hcn qz_c_6_50 qz_k_90 (qz_q_106_90) (Nat.le_of_ble_eq_true rfl) (Nat.le_of_ble_eq_true rfl) rfl rfl rfl (vM_minute F f p a2 _ e4) rfl rfl ?_
  refine ei_sub hb dX6_canMerge_10 (pc' := 11) rfl ?_
  refine ei_is hb dX6_canMerge_11 (pc' := 13) (ls' := [some (.inr (some ((6, 0, 0) : qz_N))), some (.inl a0), some (.inl a1), some (.inl a2), some (.inl (x1 - x3)), none, none, none, none]) (Nat.le_of_ble_eq_true rfl) rfl rfl ?_
  refine ei_aln hb dX6_canMerge_13 (pc' := 14) rfl rfl ?_
  refine ei_iln hb dX6_canMerge_14 (pc' := 15) rfl rfl ?_
  refine ei_iln hb dX6_canMerge_15 (pc' := 16) rfl rfl ?_
  obtain ⟨x5, e6, h⟩ := Option.bind_eq_some_iff.mp h
  refine ei_cv hb dX6_canMerge_16 (pc' := 19) (M1 := (qz_mk f p)) (as := [.inl a0, .inl a1]) (rest := []) (st' := [.inl x5]) hcn qz_c_6_47 qz_k_91 (qz_q_106_91) (Nat.le_of_ble_eq_true rfl) (Nat.le_of_ble_eq_true rfl) rfl rfl rfl (vM_partner F f p a0 a1 _ e6) rfl rfl ?_
  refine ei_b hb dX6_canMerge_19 (v := (-5 : Int32)) (pc' := 21) (by decide) rfl ?_
  by_cases c7 : x5 = (-5 : Int32)
  · rw [if_pos c7] at h
    refine ei_icF hb dX6_canMerge_21 (pc' := 24) (t := 58) (decide_eq_false (fun q => q c7)) (by decide) rfl ?_
    refine ei_aln hb dX6_canMerge_24 (pc' := 25) rfl rfl ?_
    refine ei_iln hb dX6_canMerge_25 (pc' := 26) rfl rfl ?_
    refine ei_iln hb dX6_canMerge_26 (pc' := 27) rfl rfl ?_
    obtain ⟨x8, e9, h⟩ := Option.bind_eq_some_iff.mp h
    refine ei_cv hb dX6_canMerge_27 (pc' := 30) (M1 := (qz_mk f p)) (as := [.inl a0, .inl a2]) (rest := []) (st' := [.inl x8]) hcn qz_c_6_47 qz_k_91 (qz_q_106_91) (Nat.le_of_ble_eq_true rfl) (Nat.le_of_ble_eq_true rfl) rfl rfl rfl (vM_partner F f p a0 a2 _ e9) rfl rfl ?_
    refine ei_b hb dX6_canMerge_30 (v := (-5 : Int32)) (pc' := 32) (by decide) rfl ?_
    by_cases c10 : x8 = (-5 : Int32)
    · rw [if_pos c10] at h
      refine ei_icF hb dX6_canMerge_32 (pc' := 35) (t := 58) (decide_eq_false (fun q => q c10)) (by decide) rfl ?_
      refine ei_il hb dX6_canMerge_35 (pc' := 37) rfl rfl ?_
      refine ei_aln hb dX6_canMerge_37 (pc' := 38) rfl rfl ?_
      refine ei_gr hb dX6_canMerge_38 (pc' := 41) (x := some ((17, 0, 0) : qz_N)) hcn qz_f_6_7 rfl rfl rfl rfl ?_
      refine ei_c hb dX6_canMerge_41 (v := (2 : Int32)) (pc' := 42) (by decide) rfl ?_
      refine ei_ia hb dX6_canMerge_42 (pc' := 43) (x := (f ((17, 0, 0) : qz_N) 2)) rfl (show qz_xi (2 : Int32) 283 = true by decide) rfl rfl ?_
      by_cases c11 : (f ((17, 0, 0) : qz_N) 2) < (x1 - x3)
      · rw [if_pos c11] at h
        refine ei_icT hb dX6_canMerge_43 (pc' := 58) (decide_eq_true c11) (by decide) ?_
        refine ei_c hb dX6_canMerge_58 (v := (0 : Int32)) (pc' := 59) (by decide) rfl ?_
        have h := Option.some.inj h
        subst h
        exact ei_retz hb dX6_canMerge_59 rfl (by decide)
      · rw [if_neg c11] at h
        refine ei_icF hb dX6_canMerge_43 (pc' := 46) (t := 58) (decide_eq_false c11) (by decide) rfl ?_
        refine ei_il hb dX6_canMerge_46 (pc' := 48) rfl rfl ?_
        refine ei_neg hb dX6_canMerge_48 (pc' := 49) rfl ?_
        refine ei_aln hb dX6_canMerge_49 (pc' := 50) rfl rfl ?_
        refine ei_gr hb dX6_canMerge_50 (pc' := 53) (x := some ((17, 0, 0) : qz_N)) hcn qz_f_6_7 rfl rfl rfl rfl ?_
        refine ei_c hb dX6_canMerge_53 (v := (2 : Int32)) (pc' := 54) (by decide) rfl ?_
        refine ei_ia hb dX6_canMerge_54 (pc' := 55) (x := (f ((17, 0, 0) : qz_N) 2)) rfl (show qz_xi (2 : Int32) 283 = true by decide) rfl rfl ?_
        by_cases c12 : (-(x1 - x3)) ≤ (f ((17, 0, 0) : qz_N) 2)
        · rw [if_pos c12] at h
          refine ei_icT hb dX6_canMerge_55 (pc' := 60) (decide_eq_true c12) (by decide) ?_
          refine ei_aln hb dX6_canMerge_60 (pc' := 61) rfl rfl ?_
          refine ei_iln hb dX6_canMerge_61 (pc' := 62) rfl rfl ?_
          obtain ⟨x13, e14, h⟩ := Option.bind_eq_some_iff.mp h
          refine ei_cv hb dX6_canMerge_62 (pc' := 65) (M1 := (qz_mk f p)) (as := [.inl a1]) (rest := []) (st' := [.inl x13]) hcn qz_c_6_50 qz_k_90 (qz_q_106_90) (Nat.le_of_ble_eq_true rfl) (Nat.le_of_ble_eq_true rfl) rfl rfl rfl (vM_minute F f p a1 _ e14) rfl rfl ?_
          refine ei_aln hb dX6_canMerge_65 (pc' := 66) rfl rfl ?_
          refine ei_iln hb dX6_canMerge_66 (pc' := 67) rfl rfl ?_
          obtain ⟨x15, e16, h⟩ := Option.bind_eq_some_iff.mp h
          refine ei_cv hb dX6_canMerge_67 (pc' := 70) (M1 := (qz_mk f p)) (as := [.inl a2]) (rest := [.inl x13]) (st' := [.inl x15, .inl x13]) hcn qz_c_6_50 qz_k_90 (qz_q_106_90) (Nat.le_of_ble_eq_true rfl) (Nat.le_of_ble_eq_true rfl) rfl rfl rfl (vM_minute F f p a2 _ e16) rfl rfl ?_
          refine ei_cs hb dX6_canMerge_70 (pc' := 73) (M1 := (qz_mk f p)) (as := [.inl x13, .inl x15]) (rest := []) (st' := [.inl (gM_later f x13 x15)]) hcn qz_c_6_54 rfl qz_k_94 (qz_q_106_94) (Nat.le_of_ble_eq_true rfl) (Nat.le_of_ble_eq_true rfl) rfl rfl (vM_later f p x13 x15) rfl rfl ?_
          refine ei_is hb dX6_canMerge_73 (pc' := 75) (ls' := [some (.inr (some ((6, 0, 0) : qz_N))), some (.inl a0), some (.inl a1), some (.inl a2), some (.inl (x1 - x3)), some (.inl (gM_later f x13 x15)), none, none, none]) (Nat.le_of_ble_eq_true rfl) rfl rfl ?_
          refine ei_c hb dX6_canMerge_75 (v := (0 : Int32)) (pc' := 76) (by decide) rfl ?_
          refine ei_is hb dX6_canMerge_76 (pc' := 78) (ls' := [some (.inr (some ((6, 0, 0) : qz_N))), some (.inl a0), some (.inl a1), some (.inl a2), some (.inl (x1 - x3)), some (.inl (gM_later f x13 x15)), some (.inl (0 : Int32)), none, none]) (Nat.le_of_ble_eq_true rfl) rfl rfl ?_
          refine ei_c hb dX6_canMerge_78 (v := (1 : Int32)) (pc' := 79) (by decide) rfl ?_
          refine ei_is hb dX6_canMerge_79 (pc' := 81) (ls' := [some (.inr (some ((6, 0, 0) : qz_N))), some (.inl a0), some (.inl a1), some (.inl a2), some (.inl (x1 - x3)), some (.inl (gM_later f x13 x15)), some (.inl (0 : Int32)), some (.inl (1 : Int32)), none]) (Nat.le_of_ble_eq_true rfl) rfl rfl ?_
          refine ei_c hb dX6_canMerge_81 (v := (0 : Int32)) (pc' := 82) (by decide) rfl ?_
          refine ei_is hb dX6_canMerge_82 (pc' := 84) (ls' := [some (.inr (some ((6, 0, 0) : qz_N))), some (.inl a0), some (.inl a1), some (.inl a2), some (.inl (x1 - x3)), some (.inl (gM_later f x13 x15)), some (.inl (0 : Int32)), some (.inl (1 : Int32)), some (.inl (0 : Int32))]) (Nat.le_of_ble_eq_true rfl) rfl rfl ?_
          refine vM_canMerge_L84 F f p a0 a1 a2 x13 x15 _ ?_ F (0 : Int32) (1 : Int32) (0 : Int32) _ h _
          intro y629 y730 y831 r h d32
          refine ei_il hb dX6_canMerge_158 (pc' := 160) rfl rfl ?_
          by_cases c33 : y730 = 0
          · rw [if_pos c33] at h
            refine ei_ifT hb dX6_canMerge_160 (pc' := 178) (decide_eq_true c33) (by decide) ?_
            refine ei_c hb dX6_canMerge_178 (v := (0 : Int32)) (pc' := 179) (by decide) rfl ?_
            have h := Option.some.inj h
            subst h
            exact ei_retz hb dX6_canMerge_179 rfl (by decide)
          · rw [if_neg c33] at h
            refine ei_ifF hb dX6_canMerge_160 (pc' := 163) (t := 178) (decide_eq_false c33) (by decide) rfl ?_
            refine ei_il hb dX6_canMerge_163 (pc' := 165) rfl rfl ?_
            refine ei_aln hb dX6_canMerge_165 (pc' := 166) rfl rfl ?_
            refine ei_gr hb dX6_canMerge_166 (pc' := 169) (x := some ((17, 0, 0) : qz_N)) hcn qz_f_6_7 rfl rfl rfl rfl ?_
            refine ei_c hb dX6_canMerge_169 (v := (1 : Int32)) (pc' := 170) (by decide) rfl ?_
            refine ei_ia hb dX6_canMerge_170 (pc' := 171) (x := (f ((17, 0, 0) : qz_N) 1)) rfl (show qz_xi (1 : Int32) 283 = true by decide) rfl rfl ?_
            by_cases c34 : (f ((17, 0, 0) : qz_N) 1) < y629
            · rw [if_pos c34] at h
              refine ei_icT hb dX6_canMerge_171 (pc' := 178) (decide_eq_true c34) (by decide) ?_
              refine ei_c hb dX6_canMerge_178 (v := (0 : Int32)) (pc' := 179) (by decide) rfl ?_
              have h := Option.some.inj h
              subst h
              exact ei_retz hb dX6_canMerge_179 rfl (by decide)
            · rw [if_neg c34] at h
              refine ei_icF hb dX6_canMerge_171 (pc' := 174) (t := 178) (decide_eq_false c34) (by decide) rfl ?_
              refine ei_c hb dX6_canMerge_174 (v := (1 : Int32)) (pc' := 175) (by decide) rfl ?_
              refine ei_go hb dX6_canMerge_175 (pc' := 179) (by decide) ?_
              have h := Option.some.inj h
              subst h
              exact ei_retz hb dX6_canMerge_179 rfl (by decide)
        · rw [if_neg c12] at h
          refine ei_icF hb dX6_canMerge_55 (pc' := 58) (t := 60) (decide_eq_false c12) (by decide) rfl ?_
          refine ei_c hb dX6_canMerge_58 (v := (0 : Int32)) (pc' := 59) (by decide) rfl ?_
          have h := Option.some.inj h
          subst h
          exact ei_retz hb dX6_canMerge_59 rfl (by decide)
    · rw [if_neg c10] at h
      refine ei_icT hb dX6_canMerge_32 (pc' := 58) (decide_eq_true c10) (by decide) ?_
      refine ei_c hb dX6_canMerge_58 (v := (0 : Int32)) (pc' := 59) (by decide) rfl ?_
      have h := Option.some.inj h
      subst h
      exact ei_retz hb dX6_canMerge_59 rfl (by decide)
  · rw [if_neg c7] at h
    refine ei_icT hb dX6_canMerge_21 (pc' := 58) (decide_eq_true c7) (by decide) ?_
    refine ei_c hb dX6_canMerge_58 (v := (0 : Int32)) (pc' := 59) (by decide) rfl ?_
    have h := Option.some.inj h
    subst h
    exact ei_retz hb dX6_canMerge_59 rfl (by decide)
def gM_laysRides_L11 (F : Nat) (a0 : Int32) (a1 : Int32) (a2 : Int32) (a3 : Int32) (K : (Int32 → qz_S → Option (qz_S))) : Nat → Int32 → qz_S → Option (qz_S)
  | 0, _, _ => none
  | n + 1, y6, T => if (T.1 ((17, 0, 0) : qz_N) 6) ≤ y6 then (K y6 T) else (if qz_xi y6 30 = true then (qz_let (qz_wr T ((22, 0, 0) : qz_N) (y6).toNatClampNeg (vp_nar .boolean (0 : Int32))) fun S4 => (gM_laysRides_L11 F a0 a1 a2 a3 K) n (y6 + 1) S4) else none)
def gM_laysRides_L49 (F : Nat) (a0 : Int32) (a1 : Int32) (a2 : Int32) (a3 : Int32) (y6 : Int32) (K : (Int32 → Int32 → qz_S → Option (qz_S))) : Nat → Int32 → Int32 → qz_S → Option (qz_S)
  | 0, _, _, _ => none
  | n + 1, y5, y7, T => if (T.1 ((17, 0, 0) : qz_N) 6) ≤ y7 then (K y5 y7 T) else (Option.bind (gM_isOf F T.1 y7 a0 a1 a2) fun x11 => if x11 = 0 then ((gM_laysRides_L49 F a0 a1 a2 a3 y6 K) n y5 (y7 + 1) T) else (Option.bind (gM_of F T.1 y7 (3 : Int32)) fun x14 => if x14 = y6 then (if (T.1 ((17, 0, 0) : qz_N) 1) ≤ y5 then ((gM_laysRides_L49 F a0 a1 a2 a3 y6 K) n y5 (y7 + 1) T) else (Option.bind (gM_of F T.1 y7 (1 : Int32)) fun x18 => Option.bind (gM_behind F T.1 a3 x18 y6) fun x20 => if (T.1 ((17, 0, 0) : qz_N) 3) < x20 then ((gM_laysRides_L49 F a0 a1 a2 a3 y6 K) n y5 (y7 + 1) T) else (if qz_xi y7 30 = true then (qz_let (qz_wr T ((22, 0, 0) : qz_N) (y7).toNatClampNeg (vp_nar .boolean (1 : Int32))) fun S24 => if (S24.1 ((6, 0, 0) : qz_N) 10) = 0 then (qz_let (qz_wr S24 ((6, 0, 0) : qz_N) 10 y6) fun S26 => (gM_laysRides_L49 F a0 a1 a2 a3 y6 K) n (y5 + 1) (y7 + 1) S26) else (qz_let (qz_wr S24 ((6, 0, 0) : qz_N) 10 (S24.1 ((6, 0, 0) : qz_N) 10)) fun S27 => (gM_laysRides_L49 F a0 a1 a2 a3 y6 K) n (y5 + 1) (y7 + 1) S27)) else none))) else ((gM_laysRides_L49 F a0 a1 a2 a3 y6 K) n y5 (y7 + 1) T)))
def gM_laysRides_L41 (F : Nat) (a0 : Int32) (a1 : Int32) (a2 : Int32) (a3 : Int32) (K : (Int32 → Int32 → qz_S → Option (qz_S))) : Nat → Int32 → Int32 → qz_S → Option (qz_S)
  | 0, _, _, _ => none
  | n + 1, y5, y6, T => if y6 ≤ 0 then (K y5 y6 T) else (gM_laysRides_L49 F a0 a1 a2 a3 y6 (fun y528 y729 T30 => (gM_laysRides_L41 F a0 a1 a2 a3 K) n y528 (y6 + (-1)) T30) F y5 (0 : Int32) T)
def gM_laysRides (F : Nat) (S : qz_S) (a0 : Int32) (a1 : Int32) (a2 : Int32) (a3 : Int32) : Option (qz_S) :=
  qz_let (qz_wr S ((6, 0, 0) : qz_N) 10 (0 : Int32)) fun S1 => gM_laysRides_L11 F a0 a1 a2 a3 (fun y65 T6 => gM_laysRides_L41 F a0 a1 a2 a3 (fun y532 y633 T34 => some T34) F (0 : Int32) (9 : Int32) T6) F (0 : Int32) S1
set_option maxHeartbeats 4000000 in
theorem vM_laysRides_L11 (F : Nat) (a0 : Int32) (a1 : Int32) (a2 : Int32) (a3 : Int32) (K : (Int32 → qz_S → Option (qz_S))) (hK : ∀ (y6 : Int32) (T : qz_S) (r : qz_S), K y6 T = some r → ∀ (d7 : Option qz_V) (d8 : Option qz_V), qz_E 107 37 [some (.inr (some ((6, 0, 0) : qz_N))), some (.inl a0), some (.inl a1), some (.inl a2), some (.inl a3), some (.inl (0 : Int32)), some (.inl y6), d7, d8] [] (qz_mk T.1 T.2) none (qz_mk r.1 r.2)) : ∀ (n : Nat) (y6 : Int32) (T : qz_S) (r : qz_S), gM_laysRides_L11 F a0 a1 a2 a3 K n y6 T = some r → ∀ (d7 : Option qz_V) (d8 : Option qz_V), qz_E 107 11 [some (.inr (some ((6, 0, 0) : qz_N))), some (.inl a0), some (.inl a1), some (.inl a2), some (.inl a3), some (.inl (0 : Int32)), some (.inl y6), d7, d8] [] (qz_mk T.1 T.2) none (qz_mk r.1 r.2) := by
  have hb : qz_b 107 = cX6_laysRides := rfl
  have hcn : qz_cn 107 = 6 := rfl
  intro n
  induction n with
  | zero =>
    intro y6 T r h
    cases h
  | succ n ih =>
    intro y6 T r h d7 d8
    rw [gM_laysRides_L11] at h
    refine ei_il hb dX6_laysRides_11 (pc' := 13) rfl rfl ?_
    refine ei_aln hb dX6_laysRides_13 (pc' := 14) rfl rfl ?_
    refine ei_gr hb dX6_laysRides_14 (pc' := 17) (x := some ((17, 0, 0) : qz_N)) hcn qz_f_6_7 rfl rfl rfl rfl ?_
    refine ei_b hb dX6_laysRides_17 (v := (6 : Int32)) (pc' := 19) (by decide) rfl ?_
    refine ei_ia hb dX6_laysRides_19 (pc' := 20) (x := (T.1 ((17, 0, 0) : qz_N) 6)) rfl (show qz_xi (6 : Int32) 283 = true by decide) rfl rfl ?_
    by_cases c2 : (T.1 ((17, 0, 0) : qz_N) 6) ≤ y6
    · rw [if_pos c2] at h
      refine ei_icT hb dX6_laysRides_20 (pc' := 37) (decide_eq_true c2) (by decide) ?_
      exact hK y6 T _ h _ _
    · rw [if_neg c2] at h
      refine ei_icF hb dX6_laysRides_20 (pc' := 23) (t := 37) (decide_eq_false c2) (by decide) rfl ?_
      refine ei_aln hb dX6_laysRides_23 (pc' := 24) rfl rfl ?_
      refine ei_gr hb dX6_laysRides_24 (pc' := 27) (x := some ((22, 0, 0) : qz_N)) hcn qz_f_6_25 rfl rfl rfl rfl ?_
      refine ei_il hb dX6_laysRides_27 (pc' := 29) rfl rfl ?_
      refine ei_c hb dX6_laysRides_29 (v := (0 : Int32)) (pc' := 30) (by decide) rfl ?_
      by_cases c3 : qz_xi y6 30 = true
      · rw [if_pos c3] at h
        obtain ⟨S4, eS4⟩ : ∃ q, q = qz_wr T ((22, 0, 0) : qz_N) (y6).toNatClampNeg (vp_nar .boolean (0 : Int32)) := ⟨_, rfl⟩
        rw [qz_let, ← eS4] at h
        refine ei_bst hb dX6_laysRides_30 (pc' := 31) (M1 := (qz_mk S4.1 S4.2)) rfl (Nat.le_of_ble_eq_true rfl) c3 (by rw [eS4]; rfl) rfl ?_
        refine ei_inc hb dX6_laysRides_31 (v := (y6 + 1)) (pc' := 34) (ls' := [some (.inr (some ((6, 0, 0) : qz_N))), some (.inl a0), some (.inl a1), some (.inl a2), some (.inl a3), some (.inl (0 : Int32)), some (.inl (y6 + 1)), d7, d8]) rfl rfl rfl rfl ?_
        refine ei_go hb dX6_laysRides_34 (pc' := 11) (by decide) ?_
        exact ih (y6 + 1) S4 _ h _ _
      · rw [if_neg c3] at h
        cases h
set_option maxHeartbeats 4000000 in
theorem vM_laysRides_L49 (F : Nat) (a0 : Int32) (a1 : Int32) (a2 : Int32) (a3 : Int32) (y6 : Int32) (K : (Int32 → Int32 → qz_S → Option (qz_S))) (hK : ∀ (y5 : Int32) (y7 : Int32) (T : qz_S) (r : qz_S), K y5 y7 T = some r → ∀ (d8 : Option qz_V), qz_E 107 169 [some (.inr (some ((6, 0, 0) : qz_N))), some (.inl a0), some (.inl a1), some (.inl a2), some (.inl a3), some (.inl y5), some (.inl y6), some (.inl y7), d8] [] (qz_mk T.1 T.2) none (qz_mk r.1 r.2)) : ∀ (n : Nat) (y5 : Int32) (y7 : Int32) (T : qz_S) (r : qz_S), gM_laysRides_L49 F a0 a1 a2 a3 y6 K n y5 y7 T = some r → ∀ (d8 : Option qz_V), qz_E 107 49 [some (.inr (some ((6, 0, 0) : qz_N))), some (.inl a0), some (.inl a1), some (.inl a2), some (.inl a3), some (.inl y5), some (.inl y6), some (.inl y7), d8] [] (qz_mk T.1 T.2) none (qz_mk r.1 r.2) := by
  have hb : qz_b 107 = cX6_laysRides := rfl
  have hcn : qz_cn 107 = 6 := rfl
  intro n
  induction n with
  | zero =>
    intro y5 y7 T r h
    cases h
  | succ n ih =>
    intro y5 y7 T r h d8
    rw [gM_laysRides_L49] at h
    refine ei_il hb dX6_laysRides_49 (pc' := 51) rfl rfl ?_
    refine ei_aln hb dX6_laysRides_51 (pc' := 52) rfl rfl ?_
    refine ei_gr hb dX6_laysRides_52 (pc' := 55) (x := some ((17, 0, 0) : qz_N)) hcn qz_f_6_7 rfl rfl rfl rfl ?_
    refine ei_b hb dX6_laysRides_55 (v := (6 : Int32)) (pc' := 57) (by decide) rfl ?_
    refine ei_ia hb dX6_laysRides_57 (pc' := 58) (x := (T.1 ((17, 0, 0) : qz_N) 6)) rfl (show qz_xi (6 : Int32) 283 = true by decide) rfl rfl ?_
    by_cases c10 : (T.1 ((17, 0, 0) : qz_N) 6) ≤ y7
    · rw [if_pos c10] at h
      refine ei_icT hb dX6_laysRides_58 (pc' := 169) (decide_eq_true c10) (by decide) ?_
      exact hK y5 y7 T _ h _
    · rw [if_neg c10] at h
      refine ei_icF hb dX6_laysRides_58 (pc' := 61) (t := 169) (decide_eq_false c10) (by decide) rfl ?_
      refine ei_aln hb dX6_laysRides_61 (pc' := 62) rfl rfl ?_
      refine ei_il hb dX6_laysRides_62 (pc' := 64) rfl rfl ?_
      refine ei_iln hb dX6_laysRides_64 (pc' := 65) rfl rfl ?_
      refine ei_iln hb dX6_laysRides_65 (pc' := 66) rfl rfl ?_
      refine ei_iln hb dX6_laysRides_66 (pc' := 67) rfl rfl ?_
      obtain ⟨x11, e12, h⟩ := Option.bind_eq_some_iff.mp h
      refine ei_cv hb dX6_laysRides_67 (pc' := 70) (M1 := (qz_mk T.1 T.2)) (as := [.inl y7, .inl a0, .inl a1, .inl a2]) (rest := []) (st' := [.inl x11]) hcn qz_c_6_92 qz_k_105 (qz_q_107_105) (Nat.le_of_ble_eq_true rfl) (Nat.le_of_ble_eq_true rfl) rfl rfl rfl (vM_isOf F T.1 T.2 y7 a0 a1 a2 _ e12) rfl rfl ?_
      by_cases c13 : x11 = 0
      · rw [if_pos c13] at h
        refine ei_ifT hb dX6_laysRides_70 (pc' := 89) (decide_eq_true c13) (by decide) ?_
        refine ei_c hb dX6_laysRides_89 (v := (0 : Int32)) (pc' := 90) (by decide) rfl ?_
        refine ei_is hb dX6_laysRides_90 (pc' := 92) (ls' := [some (.inr (some ((6, 0, 0) : qz_N))), some (.inl a0), some (.inl a1), some (.inl a2), some (.inl a3), some (.inl y5), some (.inl y6), some (.inl y7), some (.inl (0 : Int32))]) (Nat.le_of_ble_eq_true rfl) rfl rfl ?_
        refine ei_il hb dX6_laysRides_92 (pc' := 94) rfl rfl ?_
        refine ei_ifT hb dX6_laysRides_94 (pc' := 163) (by decide) (by decide) ?_
        refine ei_inc hb dX6_laysRides_163 (v := (y7 + 1)) (pc' := 166) (ls' := [some (.inr (some ((6, 0, 0) : qz_N))), some (.inl a0), some (.inl a1), some (.inl a2), some (.inl a3), some (.inl y5), some (.inl y6), some (.inl (y7 + 1)), some (.inl (0 : Int32))]) rfl rfl rfl rfl ?_
        refine ei_go hb dX6_laysRides_166 (pc' := 49) (by decide) ?_
        exact ih y5 (y7 + 1) T _ h _
      · rw [if_neg c13] at h
        refine ei_ifF hb dX6_laysRides_70 (pc' := 73) (t := 89) (decide_eq_false c13) (by decide) rfl ?_
        refine ei_aln hb dX6_laysRides_73 (pc' := 74) rfl rfl ?_
        refine ei_il hb dX6_laysRides_74 (pc' := 76) rfl rfl ?_
        refine ei_c hb dX6_laysRides_76 (v := (3 : Int32)) (pc' := 77) (by decide) rfl ?_
        obtain ⟨x14, e15, h⟩ := Option.bind_eq_some_iff.mp h
        refine ei_cv hb dX6_laysRides_77 (pc' := 80) (M1 := (qz_mk T.1 T.2)) (as := [.inl y7, .inl (3 : Int32)]) (rest := []) (st' := [.inl x14]) hcn qz_c_6_40 qz_k_85 (qz_q_107_85) (Nat.le_of_ble_eq_true rfl) (Nat.le_of_ble_eq_true rfl) rfl rfl rfl (vM_of F T.1 T.2 y7 (3 : Int32) _ e15) rfl rfl ?_
        refine ei_il hb dX6_laysRides_80 (pc' := 82) rfl rfl ?_
        by_cases c16 : x14 = y6
        · rw [if_pos c16] at h
          refine ei_icF hb dX6_laysRides_82 (pc' := 85) (t := 89) (decide_eq_false (fun q => q c16)) (by decide) rfl ?_
          refine ei_c hb dX6_laysRides_85 (v := (1 : Int32)) (pc' := 86) (by decide) rfl ?_
          refine ei_go hb dX6_laysRides_86 (pc' := 90) (by decide) ?_
          refine ei_is hb dX6_laysRides_90 (pc' := 92) (ls' := [some (.inr (some ((6, 0, 0) : qz_N))), some (.inl a0), some (.inl a1), some (.inl a2), some (.inl a3), some (.inl y5), some (.inl y6), some (.inl y7), some (.inl (1 : Int32))]) (Nat.le_of_ble_eq_true rfl) rfl rfl ?_
          refine ei_il hb dX6_laysRides_92 (pc' := 94) rfl rfl ?_
          refine ei_ifF hb dX6_laysRides_94 (pc' := 97) (t := 163) (by decide) (by decide) rfl ?_
          refine ei_il hb dX6_laysRides_97 (pc' := 99) rfl rfl ?_
          refine ei_aln hb dX6_laysRides_99 (pc' := 100) rfl rfl ?_
          refine ei_gr hb dX6_laysRides_100 (pc' := 103) (x := some ((17, 0, 0) : qz_N)) hcn qz_f_6_7 rfl rfl rfl rfl ?_
          refine ei_c hb dX6_laysRides_103 (v := (1 : Int32)) (pc' := 104) (by decide) rfl ?_
          refine ei_ia hb dX6_laysRides_104 (pc' := 105) (x := (T.1 ((17, 0, 0) : qz_N) 1)) rfl (show qz_xi (1 : Int32) 283 = true by decide) rfl rfl ?_
          by_cases c17 : (T.1 ((17, 0, 0) : qz_N) 1) ≤ y5
          · rw [if_pos c17] at h
            refine ei_icT hb dX6_laysRides_105 (pc' := 163) (decide_eq_true c17) (by decide) ?_
            refine ei_inc hb dX6_laysRides_163 (v := (y7 + 1)) (pc' := 166) (ls' := [some (.inr (some ((6, 0, 0) : qz_N))), some (.inl a0), some (.inl a1), some (.inl a2), some (.inl a3), some (.inl y5), some (.inl y6), some (.inl (y7 + 1)), some (.inl (1 : Int32))]) rfl rfl rfl rfl ?_
            refine ei_go hb dX6_laysRides_166 (pc' := 49) (by decide) ?_
            exact ih y5 (y7 + 1) T _ h _
          · rw [if_neg c17] at h
            refine ei_icF hb dX6_laysRides_105 (pc' := 108) (t := 163) (decide_eq_false c17) (by decide) rfl ?_
            refine ei_aln hb dX6_laysRides_108 (pc' := 109) rfl rfl ?_
            refine ei_il hb dX6_laysRides_109 (pc' := 111) rfl rfl ?_
            refine ei_aln hb dX6_laysRides_111 (pc' := 112) rfl rfl ?_
            refine ei_il hb dX6_laysRides_112 (pc' := 114) rfl rfl ?_
            refine ei_c hb dX6_laysRides_114 (v := (1 : Int32)) (pc' := 115) (by decide) rfl ?_
            obtain ⟨x18, e19, h⟩ := Option.bind_eq_some_iff.mp h
            refine ei_cv hb dX6_laysRides_115 (pc' := 118) (M1 := (qz_mk T.1 T.2)) (as := [.inl y7, .inl (1 : Int32)]) (rest := [.inl a3, .inr (some ((6, 0, 0) : qz_N))]) (st' := [.inl x18, .inl a3, .inr (some ((6, 0, 0) : qz_N))]) hcn qz_c_6_40 qz_k_85 (qz_q_107_85) (Nat.le_of_ble_eq_true rfl) (Nat.le_of_ble_eq_true rfl) rfl rfl rfl (vM_of F T.1 T.2 y7 (1 : Int32) _ e19) rfl rfl ?_
            refine ei_il hb dX6_laysRides_118 (pc' := 120) rfl rfl ?_
            obtain ⟨x20, e21, h⟩ := Option.bind_eq_some_iff.mp h
            refine ei_cv hb dX6_laysRides_120 (pc' := 123) (M1 := (qz_mk T.1 T.2)) (as := [.inl a3, .inl x18, .inl y6]) (rest := []) (st' := [.inl x20]) hcn qz_c_6_71 qz_k_98 (qz_q_107_98) (Nat.le_of_ble_eq_true rfl) (Nat.le_of_ble_eq_true rfl) rfl rfl rfl (vM_behind F T.1 T.2 a3 x18 y6 _ e21) rfl rfl ?_
            refine ei_aln hb dX6_laysRides_123 (pc' := 124) rfl rfl ?_
            refine ei_gr hb dX6_laysRides_124 (pc' := 127) (x := some ((17, 0, 0) : qz_N)) hcn qz_f_6_7 rfl rfl rfl rfl ?_
            refine ei_c hb dX6_laysRides_127 (v := (3 : Int32)) (pc' := 128) (by decide) rfl ?_
            refine ei_ia hb dX6_laysRides_128 (pc' := 129) (x := (T.1 ((17, 0, 0) : qz_N) 3)) rfl (show qz_xi (3 : Int32) 283 = true by decide) rfl rfl ?_
            by_cases c22 : (T.1 ((17, 0, 0) : qz_N) 3) < x20
            · rw [if_pos c22] at h
              refine ei_icT hb dX6_laysRides_129 (pc' := 163) (decide_eq_true c22) (by decide) ?_
              refine ei_inc hb dX6_laysRides_163 (v := (y7 + 1)) (pc' := 166) (ls' := [some (.inr (some ((6, 0, 0) : qz_N))), some (.inl a0), some (.inl a1), some (.inl a2), some (.inl a3), some (.inl y5), some (.inl y6), some (.inl (y7 + 1)), some (.inl (1 : Int32))]) rfl rfl rfl rfl ?_
              refine ei_go hb dX6_laysRides_166 (pc' := 49) (by decide) ?_
              exact ih y5 (y7 + 1) T _ h _
            · rw [if_neg c22] at h
              refine ei_icF hb dX6_laysRides_129 (pc' := 132) (t := 163) (decide_eq_false c22) (by decide) rfl ?_
              refine ei_aln hb dX6_laysRides_132 (pc' := 133) rfl rfl ?_
              refine ei_gr hb dX6_laysRides_133 (pc' := 136) (x := some ((22, 0, 0) : qz_N)) hcn qz_f_6_25 rfl rfl rfl rfl ?_
              refine ei_il hb dX6_laysRides_136 (pc' := 138) rfl rfl ?_
              refine ei_c hb dX6_laysRides_138 (v := (1 : Int32)) (pc' := 139) (by decide) rfl ?_
              by_cases c23 : qz_xi y7 30 = true
              · rw [if_pos c23] at h
                obtain ⟨S24, eS24⟩ : ∃ q, q = qz_wr T ((22, 0, 0) : qz_N) (y7).toNatClampNeg (vp_nar .boolean (1 : Int32)) := ⟨_, rfl⟩
                rw [qz_let, ← eS24] at h
                refine ei_bst hb dX6_laysRides_139 (pc' := 140) (M1 := (qz_mk S24.1 S24.2)) rfl (Nat.le_of_ble_eq_true rfl) c23 (by rw [eS24]; rfl) rfl ?_
                refine ei_inc hb dX6_laysRides_140 (v := (y5 + 1)) (pc' := 143) (ls' := [some (.inr (some ((6, 0, 0) : qz_N))), some (.inl a0), some (.inl a1), some (.inl a2), some (.inl a3), some (.inl (y5 + 1)), some (.inl y6), some (.inl y7), some (.inl (1 : Int32))]) rfl rfl rfl rfl ?_
                refine ei_aln hb dX6_laysRides_143 (pc' := 144) rfl rfl ?_
                refine ei_aln hb dX6_laysRides_144 (pc' := 145) rfl rfl ?_
                refine ei_gi hb dX6_laysRides_145 (pc' := 148) (x := (S24.1 ((6, 0, 0) : qz_N) 10)) hcn qz_f_6_95 rfl rfl rfl rfl ?_
                by_cases c25 : (S24.1 ((6, 0, 0) : qz_N) 10) = 0
                · rw [if_pos c25] at h
                  refine ei_ifF hb dX6_laysRides_148 (pc' := 151) (t := 156) (decide_eq_false (fun q => q c25)) (by decide) rfl ?_
                  refine ei_il hb dX6_laysRides_151 (pc' := 153) rfl rfl ?_
                  refine ei_go hb dX6_laysRides_153 (pc' := 160) (by decide) ?_
                  obtain ⟨S26, eS26⟩ : ∃ q, q = qz_wr S24 ((6, 0, 0) : qz_N) 10 y6 := ⟨_, rfl⟩
                  rw [qz_let, ← eS26] at h
                  refine ei_pi hb dX6_laysRides_160 (pc' := 163) (M1 := (qz_mk S26.1 S26.2)) hcn qz_f_6_95 rfl rfl (fun q => by cases q) rfl (by rw [eS26]; rfl) rfl ?_
                  refine ei_inc hb dX6_laysRides_163 (v := (y7 + 1)) (pc' := 166) (ls' := [some (.inr (some ((6, 0, 0) : qz_N))), some (.inl a0), some (.inl a1), some (.inl a2), some (.inl a3), some (.inl (y5 + 1)), some (.inl y6), some (.inl (y7 + 1)), some (.inl (1 : Int32))]) rfl rfl rfl rfl ?_
                  refine ei_go hb dX6_laysRides_166 (pc' := 49) (by decide) ?_
                  exact ih (y5 + 1) (y7 + 1) S26 _ h _
                · rw [if_neg c25] at h
                  refine ei_ifT hb dX6_laysRides_148 (pc' := 156) (decide_eq_true c25) (by decide) ?_
                  refine ei_aln hb dX6_laysRides_156 (pc' := 157) rfl rfl ?_
                  refine ei_gi hb dX6_laysRides_157 (pc' := 160) (x := (S24.1 ((6, 0, 0) : qz_N) 10)) hcn qz_f_6_95 rfl rfl rfl rfl ?_
                  obtain ⟨S27, eS27⟩ : ∃ q, q = qz_wr S24 ((6, 0, 0) : qz_N) 10 (S24.1 ((6, 0, 0) : qz_N) 10) := ⟨_, rfl⟩
                  rw [qz_let, ← eS27] at h
                  refine ei_pi hb dX6_laysRides_160 (pc' := 163) (M1 := (qz_mk S27.1 S27.2)) hcn qz_f_6_95 rfl rfl (fun q => by cases q) rfl (by rw [eS27]; rfl) rfl ?_
                  refine ei_inc hb dX6_laysRides_163 (v := (y7 + 1)) (pc' := 166) (ls' := [some (.inr (some ((6, 0, 0) : qz_N))), some (.inl a0), some (.inl a1), some (.inl a2), some (.inl a3), some (.inl (y5 + 1)), some (.inl y6), some (.inl (y7 + 1)), some (.inl (1 : Int32))]) rfl rfl rfl rfl ?_
                  refine ei_go hb dX6_laysRides_166 (pc' := 49) (by decide) ?_
                  exact ih (y5 + 1) (y7 + 1) S27 _ h _
              · rw [if_neg c23] at h
                cases h
        · rw [if_neg c16] at h
          refine ei_icT hb dX6_laysRides_82 (pc' := 89) (decide_eq_true c16) (by decide) ?_
          refine ei_c hb dX6_laysRides_89 (v := (0 : Int32)) (pc' := 90) (by decide) rfl ?_
          refine ei_is hb dX6_laysRides_90 (pc' := 92) (ls' := [some (.inr (some ((6, 0, 0) : qz_N))), some (.inl a0), some (.inl a1), some (.inl a2), some (.inl a3), some (.inl y5), some (.inl y6), some (.inl y7), some (.inl (0 : Int32))]) (Nat.le_of_ble_eq_true rfl) rfl rfl ?_
          refine ei_il hb dX6_laysRides_92 (pc' := 94) rfl rfl ?_
          refine ei_ifT hb dX6_laysRides_94 (pc' := 163) (by decide) (by decide) ?_
          refine ei_inc hb dX6_laysRides_163 (v := (y7 + 1)) (pc' := 166) (ls' := [some (.inr (some ((6, 0, 0) : qz_N))), some (.inl a0), some (.inl a1), some (.inl a2), some (.inl a3), some (.inl y5), some (.inl y6), some (.inl (y7 + 1)), some (.inl (0 : Int32))]) rfl rfl rfl rfl ?_
          refine ei_go hb dX6_laysRides_166 (pc' := 49) (by decide) ?_
          exact ih y5 (y7 + 1) T _ h _
set_option maxHeartbeats 4000000 in
theorem vM_laysRides_L41 (F : Nat) (a0 : Int32) (a1 : Int32) (a2 : Int32) (a3 : Int32) (K : (Int32 → Int32 → qz_S → Option (qz_S))) (hK : ∀ (y5 : Int32) (y6 : Int32) (T : qz_S) (r : qz_S), K y5 y6 T = some r → ∀ (d7 : Option qz_V) (d8 : Option qz_V), qz_E 107 175 [some (.inr (some ((6, 0, 0) : qz_N))), some (.inl a0), some (.inl a1), some (.inl a2), some (.inl a3), some (.inl y5), some (.inl y6), d7, d8] [] (qz_mk T.1 T.2) none (qz_mk r.1 r.2)) : ∀ (n : Nat) (y5 : Int32) (y6 : Int32) (T : qz_S) (r : qz_S), gM_laysRides_L41 F a0 a1 a2 a3 K n y5 y6 T = some r → ∀ (d7 : Option qz_V) (d8 : Option qz_V), qz_E 107 41 [some (.inr (some ((6, 0, 0) : qz_N))), some (.inl a0), some (.inl a1), some (.inl a2), some (.inl a3), some (.inl y5), some (.inl y6), d7, d8] [] (qz_mk T.1 T.2) none (qz_mk r.1 r.2) := by
  have hb : qz_b 107 = cX6_laysRides := rfl
  have hcn : qz_cn 107 = 6 := rfl
  intro n
  induction n with
  | zero =>
    intro y5 y6 T r h
    cases h
  | succ n ih =>
    intro y5 y6 T r h d7 d8
    rw [gM_laysRides_L41] at h
    refine ei_il hb dX6_laysRides_41 (pc' := 43) rfl rfl ?_
    by_cases c9 : y6 ≤ 0
    · rw [if_pos c9] at h
      refine ei_ifT hb dX6_laysRides_43 (pc' := 175) (decide_eq_true c9) (by decide) ?_
      exact hK y5 y6 T _ h _ _
    · rw [if_neg c9] at h
      refine ei_ifF hb dX6_laysRides_43 (pc' := 46) (t := 175) (decide_eq_false c9) (by decide) rfl ?_
      refine ei_c hb dX6_laysRides_46 (v := (0 : Int32)) (pc' := 47) (by decide) rfl ?_
      refine ei_is hb dX6_laysRides_47 (pc' := 49) (ls' := [some (.inr (some ((6, 0, 0) : qz_N))), some (.inl a0), some (.inl a1), some (.inl a2), some (.inl a3), some (.inl y5), some (.inl y6), some (.inl (0 : Int32)), d8]) (Nat.le_of_ble_eq_true rfl) rfl rfl ?_
      refine vM_laysRides_L49 F a0 a1 a2 a3 y6 _ ?_ F y5 (0 : Int32) T _ h _
      intro y528 y729 T30 r h d31
      refine ei_inc hb dX6_laysRides_169 (v := (y6 + (-1))) (pc' := 172) (ls' := [some (.inr (some ((6, 0, 0) : qz_N))), some (.inl a0), some (.inl a1), some (.inl a2), some (.inl a3), some (.inl y528), some (.inl (y6 + (-1))), some (.inl y729), d31]) rfl rfl rfl rfl ?_
      refine ei_go hb dX6_laysRides_172 (pc' := 41) (by decide) ?_
      exact ih y528 (y6 + (-1)) T30 _ h _ _
set_option maxHeartbeats 4000000 in
theorem vM_laysRides (F : Nat) (S : qz_S) (a0 : Int32) (a1 : Int32) (a2 : Int32) (a3 : Int32) (r : qz_S) (h : (gM_laysRides F S a0 a1 a2 a3) = some r) : qz_E 107 0 (qz_in0 107 [.inr (some ((6, 0, 0) : qz_N)), .inl a0, .inl a1, .inl a2, .inl a3]) [] (qz_mk S.1 S.2) none (qz_mk r.1 r.2) := by
  have hb : qz_b 107 = cX6_laysRides := rfl
  have hcn : qz_cn 107 = 6 := rfl
  show qz_E 107 0 [some (.inr (some ((6, 0, 0) : qz_N))), some (.inl a0), some (.inl a1), some (.inl a2), some (.inl a3), none, none, none, none] [] _ _ _
  rw [gM_laysRides] at h
  refine ei_c hb dX6_laysRides_0 (v := (0 : Int32)) (pc' := 1) (by decide) rfl ?_
  refine ei_is hb dX6_laysRides_1 (pc' := 3) (ls' := [some (.inr (some ((6, 0, 0) : qz_N))), some (.inl a0), some (.inl a1), some (.inl a2), some (.inl a3), some (.inl (0 : Int32)), none, none, none]) (Nat.le_of_ble_eq_true rfl) rfl rfl ?_
  refine ei_aln hb dX6_laysRides_3 (pc' := 4) rfl rfl ?_
  refine ei_c hb dX6_laysRides_4 (v := (0 : Int32)) (pc' := 5) (by decide) rfl ?_
  obtain ⟨S1, eS1⟩ : ∃ q, q = qz_wr S ((6, 0, 0) : qz_N) 10 (0 : Int32) := ⟨_, rfl⟩
  rw [qz_let, ← eS1] at h
  refine ei_pi hb dX6_laysRides_5 (pc' := 8) (M1 := (qz_mk S1.1 S1.2)) hcn qz_f_6_95 rfl rfl (fun q => by cases q) rfl (by rw [eS1]; rfl) rfl ?_
  refine ei_c hb dX6_laysRides_8 (v := (0 : Int32)) (pc' := 9) (by decide) rfl ?_
  refine ei_is hb dX6_laysRides_9 (pc' := 11) (ls' := [some (.inr (some ((6, 0, 0) : qz_N))), some (.inl a0), some (.inl a1), some (.inl a2), some (.inl a3), some (.inl (0 : Int32)), some (.inl (0 : Int32)), none, none]) (Nat.le_of_ble_eq_true rfl) rfl rfl ?_
  refine vM_laysRides_L11 F a0 a1 a2 a3 _ ?_ F (0 : Int32) S1 _ h _ _
  intro y65 T6 r h d7 d8
  refine ei_b hb dX6_laysRides_37 (v := (9 : Int32)) (pc' := 39) (by decide) rfl ?_
  refine ei_is hb dX6_laysRides_39 (pc' := 41) (ls' := [some (.inr (some ((6, 0, 0) : qz_N))), some (.inl a0), some (.inl a1), some (.inl a2), some (.inl a3), some (.inl (0 : Int32)), some (.inl (9 : Int32)), d7, d8]) (Nat.le_of_ble_eq_true rfl) rfl rfl ?_
  refine vM_laysRides_L41 F a0 a1 a2 a3 _ ?_ F (0 : Int32) (9 : Int32) T6 _ h _ _
  intro y532 y633 T34 r h d35 d36
  have h := Option.some.inj h
  subst h
  exact ei_retv hb dX6_laysRides_175 rfl
def gM_cost (f : qz_F)  : Int32 :=
  if (f ((6, 0, 0) : qz_N) 10) = 0 then (0 : Int32) else ((20 : Int32) + ((2 : Int32) * (f ((6, 0, 0) : qz_N) 10)))
set_option maxHeartbeats 4000000 in
theorem vM_cost (f : qz_F) (p : Nat → Nat)  : qz_E 108 0 (qz_in0 108 [.inr (some ((6, 0, 0) : qz_N))]) [] (qz_mk f p) (some (.inl (gM_cost f))) (qz_mk f p) := by
  have hb : qz_b 108 = cX6_cost := rfl
  have hcn : qz_cn 108 = 6 := rfl
  obtain ⟨r, h⟩ : ∃ r, (gM_cost f) = r := ⟨_, rfl⟩
  rw [h]
  show qz_E 108 0 [some (.inr (some ((6, 0, 0) : qz_N)))] [] _ _ _
  rw [gM_cost] at h
  refine ei_aln hb dX6_cost_0 (pc' := 1) rfl rfl ?_
  refine ei_gi hb dX6_cost_1 (pc' := 4) (x := (f ((6, 0, 0) : qz_N) 10)) hcn qz_f_6_95 rfl rfl rfl rfl ?_
  by_cases c1 : (f ((6, 0, 0) : qz_N) 10) = 0
  · rw [if_pos c1] at h
    refine ei_ifF hb dX6_cost_4 (pc' := 7) (t := 11) (decide_eq_false (fun q => q c1)) (by decide) rfl ?_
    refine ei_c hb dX6_cost_7 (v := (0 : Int32)) (pc' := 8) (by decide) rfl ?_
    refine ei_go hb dX6_cost_8 (pc' := 20) (by decide) ?_
    subst h
    exact ei_reti hb dX6_cost_20 rfl
  · rw [if_neg c1] at h
    refine ei_ifT hb dX6_cost_4 (pc' := 11) (decide_eq_true c1) (by decide) ?_
    refine ei_b hb dX6_cost_11 (v := (20 : Int32)) (pc' := 13) (by decide) rfl ?_
    refine ei_c hb dX6_cost_13 (v := (2 : Int32)) (pc' := 14) (by decide) rfl ?_
    refine ei_aln hb dX6_cost_14 (pc' := 15) rfl rfl ?_
    refine ei_gi hb dX6_cost_15 (pc' := 18) (x := (f ((6, 0, 0) : qz_N) 10)) hcn qz_f_6_95 rfl rfl rfl rfl ?_
    refine ei_mul hb dX6_cost_18 (pc' := 19) rfl ?_
    refine ei_add hb dX6_cost_19 (pc' := 20) rfl ?_
    subst h
    exact ei_reti hb dX6_cost_20 rfl
def gM_costOf (F : Nat) (S : qz_S) (a0 : Int32) (a1 : Int32) : Option (Int32 × qz_S) :=
  Option.bind (gM_partner F S.1 a0 a1) fun x1 => if x1 = (-5 : Int32) then (Option.bind (gM_startOf F S.1 a0 a1) fun x4 => Option.bind (gM_laysRides F S a0 a1 a1 x4) fun R6 => some ((gM_cost R6.1), R6)) else (Option.bind (gM_startOf F S.1 a0 a1) fun x8 => Option.bind (gM_laysRides F S a0 a1 x1 x8) fun R10 => some ((gM_cost R10.1), R10))
set_option maxHeartbeats 4000000 in
theorem vM_costOf (F : Nat) (S : qz_S) (a0 : Int32) (a1 : Int32) (r : Int32 × qz_S) (h : (gM_costOf F S a0 a1) = some r) : qz_E 109 0 (qz_in0 109 [.inr (some ((6, 0, 0) : qz_N)), .inl a0, .inl a1]) [] (qz_mk S.1 S.2) (some (.inl r.1)) (qz_mk r.2.1 r.2.2) := by
  have hb : qz_b 109 = cX6_costOf := rfl
  have hcn : qz_cn 109 = 6 := rfl
  show qz_E 109 0 [some (.inr (some ((6, 0, 0) : qz_N))), some (.inl a0), some (.inl a1), none] [] _ _ _
  rw [gM_costOf] at h
  refine ei_aln hb dX6_costOf_0 (pc' := 1) rfl rfl ?_
  refine ei_iln hb dX6_costOf_1 (pc' := 2) rfl rfl ?_
  refine ei_iln hb dX6_costOf_2 (pc' := 3) rfl rfl ?_
  obtain ⟨x1, e2, h⟩ := Option.bind_eq_some_iff.mp h
  refine ei_cv hb dX6_costOf_3 (pc' := 6) (M1 := (qz_mk S.1 S.2)) (as := [.inl a0, .inl a1]) (rest := []) (st' := [.inl x1]) hcn qz_c_6_47 qz_k_91 (qz_q_109_91) (Nat.le_of_ble_eq_true rfl) (Nat.le_of_ble_eq_true rfl) rfl rfl rfl (vM_partner F S.1 S.2 a0 a1 _ e2) rfl rfl ?_
  refine ei_isn hb dX6_costOf_6 (pc' := 7) (ls' := [some (.inr (some ((6, 0, 0) : qz_N))), some (.inl a0), some (.inl a1), some (.inl x1)]) (Nat.le_of_ble_eq_true rfl) rfl rfl ?_
  refine ei_aln hb dX6_costOf_7 (pc' := 8) rfl rfl ?_
  refine ei_iln hb dX6_costOf_8 (pc' := 9) rfl rfl ?_
  refine ei_iln hb dX6_costOf_9 (pc' := 10) rfl rfl ?_
  refine ei_iln hb dX6_costOf_10 (pc' := 11) rfl rfl ?_
  refine ei_b hb dX6_costOf_11 (v := (-5 : Int32)) (pc' := 13) (by decide) rfl ?_
  by_cases c3 : x1 = (-5 : Int32)
  · rw [if_pos c3] at h
    refine ei_icF hb dX6_costOf_13 (pc' := 16) (t := 20) (decide_eq_false (fun q => q c3)) (by decide) rfl ?_
    refine ei_iln hb dX6_costOf_16 (pc' := 17) rfl rfl ?_
    refine ei_go hb dX6_costOf_17 (pc' := 21) (by decide) ?_
    refine ei_aln hb dX6_costOf_21 (pc' := 22) rfl rfl ?_
    refine ei_iln hb dX6_costOf_22 (pc' := 23) rfl rfl ?_
    refine ei_iln hb dX6_costOf_23 (pc' := 24) rfl rfl ?_
    obtain ⟨x4, e5, h⟩ := Option.bind_eq_some_iff.mp h
    refine ei_cv hb dX6_costOf_24 (pc' := 27) (M1 := (qz_mk S.1 S.2)) (as := [.inl a0, .inl a1]) (rest := [.inl a1, .inl a1, .inl a0, .inr (some ((6, 0, 0) : qz_N))]) (st' := [.inl x4, .inl a1, .inl a1, .inl a0, .inr (some ((6, 0, 0) : qz_N))]) hcn qz_c_6_68 qz_k_95 (qz_q_109_95) (Nat.le_of_ble_eq_true rfl) (Nat.le_of_ble_eq_true rfl) rfl rfl rfl (vM_startOf F S.1 S.2 a0 a1 _ e5) rfl rfl ?_
    obtain ⟨R6, e7, h⟩ := Option.bind_eq_some_iff.mp h
    refine ei_cv hb dX6_costOf_27 (pc' := 30) (M1 := (qz_mk R6.1 R6.2)) (as := [.inl a0, .inl a1, .inl a1, .inl x4]) (rest := []) (st' := []) hcn qz_c_6_98 qz_k_107 (qz_q_109_107) (Nat.le_of_ble_eq_true rfl) (Nat.le_of_ble_eq_true rfl) rfl rfl rfl (vM_laysRides F S a0 a1 a1 x4 _ e7) rfl rfl ?_
    refine ei_aln hb dX6_costOf_30 (pc' := 31) rfl rfl ?_
    refine ei_cv hb dX6_costOf_31 (pc' := 34) (M1 := (qz_mk R6.1 R6.2)) (as := []) (rest := []) (st' := [.inl (gM_cost R6.1)]) hcn qz_c_6_102 qz_k_108 (qz_q_109_108) (Nat.le_of_ble_eq_true rfl) (Nat.le_of_ble_eq_true rfl) rfl rfl rfl (vM_cost R6.1 R6.2 ) rfl rfl ?_
    have h := Option.some.inj h
    subst h
    exact ei_reti hb dX6_costOf_34 rfl
  · rw [if_neg c3] at h
    refine ei_icT hb dX6_costOf_13 (pc' := 20) (decide_eq_true c3) (by decide) ?_
    refine ei_iln hb dX6_costOf_20 (pc' := 21) rfl rfl ?_
    refine ei_aln hb dX6_costOf_21 (pc' := 22) rfl rfl ?_
    refine ei_iln hb dX6_costOf_22 (pc' := 23) rfl rfl ?_
    refine ei_iln hb dX6_costOf_23 (pc' := 24) rfl rfl ?_
    obtain ⟨x8, e9, h⟩ := Option.bind_eq_some_iff.mp h
    refine ei_cv hb dX6_costOf_24 (pc' := 27) (M1 := (qz_mk S.1 S.2)) (as := [.inl a0, .inl a1]) (rest := [.inl x1, .inl a1, .inl a0, .inr (some ((6, 0, 0) : qz_N))]) (st' := [.inl x8, .inl x1, .inl a1, .inl a0, .inr (some ((6, 0, 0) : qz_N))]) hcn qz_c_6_68 qz_k_95 (qz_q_109_95) (Nat.le_of_ble_eq_true rfl) (Nat.le_of_ble_eq_true rfl) rfl rfl rfl (vM_startOf F S.1 S.2 a0 a1 _ e9) rfl rfl ?_
    obtain ⟨R10, e11, h⟩ := Option.bind_eq_some_iff.mp h
    refine ei_cv hb dX6_costOf_27 (pc' := 30) (M1 := (qz_mk R10.1 R10.2)) (as := [.inl a0, .inl a1, .inl x1, .inl x8]) (rest := []) (st' := []) hcn qz_c_6_98 qz_k_107 (qz_q_109_107) (Nat.le_of_ble_eq_true rfl) (Nat.le_of_ble_eq_true rfl) rfl rfl rfl (vM_laysRides F S a0 a1 x1 x8 _ e11) rfl rfl ?_
    refine ei_aln hb dX6_costOf_30 (pc' := 31) rfl rfl ?_
    refine ei_cv hb dX6_costOf_31 (pc' := 34) (M1 := (qz_mk R10.1 R10.2)) (as := []) (rest := []) (st' := [.inl (gM_cost R10.1)]) hcn qz_c_6_102 qz_k_108 (qz_q_109_108) (Nat.le_of_ble_eq_true rfl) (Nat.le_of_ble_eq_true rfl) rfl rfl rfl (vM_cost R10.1 R10.2 ) rfl rfl ?_
    have h := Option.some.inj h
    subst h
    exact ei_reti hb dX6_costOf_34 rfl
def gM_isAway (F : Nat) (f : qz_F) (a0 : Int32) (a1 : Int32) : Option (Int32) :=
  Option.bind (gM_partner F f a0 a1) fun x1 => if x1 = (-5 : Int32) then (some (0 : Int32)) else (Option.bind (gM_minute F f x1) fun x4 => Option.bind (gM_minute F f a1) fun x6 => if x6 < x4 then (some (1 : Int32)) else (Option.bind (gM_minute F f x1) fun x9 => Option.bind (gM_minute F f a1) fun x11 => if x9 = x11 then (if x1 ≤ a1 then (some (0 : Int32)) else (some (1 : Int32))) else (some (0 : Int32))))
set_option maxHeartbeats 4000000 in
theorem vM_isAway (F : Nat) (f : qz_F) (p : Nat → Nat) (a0 : Int32) (a1 : Int32) (r : Int32) (h : (gM_isAway F f a0 a1) = some r) : qz_E 110 0 (qz_in0 110 [.inr (some ((6, 0, 0) : qz_N)), .inl a0, .inl a1]) [] (qz_mk f p) (some (.inl r)) (qz_mk f p) := by
  have hb : qz_b 110 = cX6_isAway := rfl
  have hcn : qz_cn 110 = 6 := rfl
  show qz_E 110 0 [some (.inr (some ((6, 0, 0) : qz_N))), some (.inl a0), some (.inl a1), none] [] _ _ _
  rw [gM_isAway] at h
  refine ei_aln hb dX6_isAway_0 (pc' := 1) rfl rfl ?_
  refine ei_iln hb dX6_isAway_1 (pc' := 2) rfl rfl ?_
  refine ei_iln hb dX6_isAway_2 (pc' := 3) rfl rfl ?_
  obtain ⟨x1, e2, h⟩ := Option.bind_eq_some_iff.mp h
  refine ei_cv hb dX6_isAway_3 (pc' := 6) (M1 := (qz_mk f p)) (as := [.inl a0, .inl a1]) (rest := []) (st' := [.inl x1]) hcn qz_c_6_47 qz_k_91 (qz_q_110_91) (Nat.le_of_ble_eq_true rfl) (Nat.le_of_ble_eq_true rfl) rfl rfl rfl (vM_partner F f p a0 a1 _ e2) rfl rfl ?_
  refine ei_isn hb dX6_isAway_6 (pc' := 7) (ls' := [some (.inr (some ((6, 0, 0) : qz_N))), some (.inl a0), some (.inl a1), some (.inl x1)]) (Nat.le_of_ble_eq_true rfl) rfl rfl ?_
  refine ei_iln hb dX6_isAway_7 (pc' := 8) rfl rfl ?_
  refine ei_b hb dX6_isAway_8 (v := (-5 : Int32)) (pc' := 10) (by decide) rfl ?_
  by_cases c3 : x1 = (-5 : Int32)
  · rw [if_pos c3] at h
    refine ei_icT hb dX6_isAway_10 (pc' := 48) (decide_eq_true c3) (by decide) ?_
    refine ei_c hb dX6_isAway_48 (v := (0 : Int32)) (pc' := 49) (by decide) rfl ?_
    have h := Option.some.inj h
    subst h
    exact ei_retz hb dX6_isAway_49 rfl (by decide)
  · rw [if_neg c3] at h
    refine ei_icF hb dX6_isAway_10 (pc' := 13) (t := 48) (decide_eq_false c3) (by decide) rfl ?_
    refine ei_aln hb dX6_isAway_13 (pc' := 14) rfl rfl ?_
    refine ei_iln hb dX6_isAway_14 (pc' := 15) rfl rfl ?_
    obtain ⟨x4, e5, h⟩ := Option.bind_eq_some_iff.mp h
    refine ei_cv hb dX6_isAway_15 (pc' := 18) (M1 := (qz_mk f p)) (as := [.inl x1]) (rest := []) (st' := [.inl x4]) hcn qz_c_6_50 qz_k_90 (qz_q_110_90) (Nat.le_of_ble_eq_true rfl) (Nat.le_of_ble_eq_true rfl) rfl rfl rfl (vM_minute F f p x1 _ e5) rfl rfl ?_
    refine ei_aln hb dX6_isAway_18 (pc' := 19) rfl rfl ?_
    refine ei_iln hb dX6_isAway_19 (pc' := 20) rfl rfl ?_
    obtain ⟨x6, e7, h⟩ := Option.bind_eq_some_iff.mp h
    refine ei_cv hb dX6_isAway_20 (pc' := 23) (M1 := (qz_mk f p)) (as := [.inl a1]) (rest := [.inl x4]) (st' := [.inl x6, .inl x4]) hcn qz_c_6_50 qz_k_90 (qz_q_110_90) (Nat.le_of_ble_eq_true rfl) (Nat.le_of_ble_eq_true rfl) rfl rfl rfl (vM_minute F f p a1 _ e7) rfl rfl ?_
    by_cases c8 : x6 < x4
    · rw [if_pos c8] at h
      refine ei_icT hb dX6_isAway_23 (pc' := 44) (decide_eq_true c8) (by decide) ?_
      refine ei_c hb dX6_isAway_44 (v := (1 : Int32)) (pc' := 45) (by decide) rfl ?_
      refine ei_go hb dX6_isAway_45 (pc' := 49) (by decide) ?_
      have h := Option.some.inj h
      subst h
      exact ei_retz hb dX6_isAway_49 rfl (by decide)
    · rw [if_neg c8] at h
      refine ei_icF hb dX6_isAway_23 (pc' := 26) (t := 44) (decide_eq_false c8) (by decide) rfl ?_
      refine ei_aln hb dX6_isAway_26 (pc' := 27) rfl rfl ?_
      refine ei_iln hb dX6_isAway_27 (pc' := 28) rfl rfl ?_
      obtain ⟨x9, e10, h⟩ := Option.bind_eq_some_iff.mp h
      refine ei_cv hb dX6_isAway_28 (pc' := 31) (M1 := (qz_mk f p)) (as := [.inl x1]) (rest := []) (st' := [.inl x9]) hcn qz_c_6_50 qz_k_90 (qz_q_110_90) (Nat.le_of_ble_eq_true rfl) (Nat.le_of_ble_eq_true rfl) rfl rfl rfl (vM_minute F f p x1 _ e10) rfl rfl ?_
      refine ei_aln hb dX6_isAway_31 (pc' := 32) rfl rfl ?_
      refine ei_iln hb dX6_isAway_32 (pc' := 33) rfl rfl ?_
      obtain ⟨x11, e12, h⟩ := Option.bind_eq_some_iff.mp h
      refine ei_cv hb dX6_isAway_33 (pc' := 36) (M1 := (qz_mk f p)) (as := [.inl a1]) (rest := [.inl x9]) (st' := [.inl x11, .inl x9]) hcn qz_c_6_50 qz_k_90 (qz_q_110_90) (Nat.le_of_ble_eq_true rfl) (Nat.le_of_ble_eq_true rfl) rfl rfl rfl (vM_minute F f p a1 _ e12) rfl rfl ?_
      by_cases c13 : x9 = x11
      · rw [if_pos c13] at h
        refine ei_icF hb dX6_isAway_36 (pc' := 39) (t := 48) (decide_eq_false (fun q => q c13)) (by decide) rfl ?_
        refine ei_iln hb dX6_isAway_39 (pc' := 40) rfl rfl ?_
        refine ei_iln hb dX6_isAway_40 (pc' := 41) rfl rfl ?_
        by_cases c14 : x1 ≤ a1
        · rw [if_pos c14] at h
          refine ei_icT hb dX6_isAway_41 (pc' := 48) (decide_eq_true c14) (by decide) ?_
          refine ei_c hb dX6_isAway_48 (v := (0 : Int32)) (pc' := 49) (by decide) rfl ?_
          have h := Option.some.inj h
          subst h
          exact ei_retz hb dX6_isAway_49 rfl (by decide)
        · rw [if_neg c14] at h
          refine ei_icF hb dX6_isAway_41 (pc' := 44) (t := 48) (decide_eq_false c14) (by decide) rfl ?_
          refine ei_c hb dX6_isAway_44 (v := (1 : Int32)) (pc' := 45) (by decide) rfl ?_
          refine ei_go hb dX6_isAway_45 (pc' := 49) (by decide) ?_
          have h := Option.some.inj h
          subst h
          exact ei_retz hb dX6_isAway_49 rfl (by decide)
      · rw [if_neg c13] at h
        refine ei_icT hb dX6_isAway_36 (pc' := 48) (decide_eq_true c13) (by decide) ?_
        refine ei_c hb dX6_isAway_48 (v := (0 : Int32)) (pc' := 49) (by decide) rfl ?_
        have h := Option.some.inj h
        subst h
        exact ei_retz hb dX6_isAway_49 rfl (by decide)
def gM_bringsHome_L21 (F : Nat) (a0 : Int32) (a1 : Int32) (K : (Int32 → Int32 → qz_S → Option (Int32 × qz_S))) : Nat → Int32 → Int32 → qz_S → Option (Int32 × qz_S)
  | 0, _, _, _ => none
  | n + 1, y3, y4, T => if (T.1 ((17, 0, 0) : qz_N) 6) ≤ y4 then (K y3 y4 T) else (Option.bind (gM_of F T.1 y4 (4 : Int32)) fun x5 => if x5 = (1 : Int32) then (Option.bind (gM_isOn F T.1 y4 a0 a1) fun x8 => if x8 = 0 then ((gM_bringsHome_L21 F a0 a1 K) n y3 (y4 + 1) T) else (if qz_xi y4 30 = true then (if (T.1 ((22, 0, 0) : qz_N) (y4).toNatClampNeg) = 0 then (Option.bind (gM_of F T.1 y4 (6 : Int32)) fun x13 => Option.bind (gM_lay F T y4 (6 : Int32) (x13 + (1 : Int32))) fun R15 => qz_let (qz_wr R15 ((17, 0, 0) : qz_N) 9 ((R15.1 ((17, 0, 0) : qz_N) 9) + (1 : Int32))) fun S17 => Option.bind (gM_of F S17.1 y4 (3 : Int32)) fun x18 => qz_let (qz_wr S17 ((17, 0, 0) : qz_N) 12 ((S17.1 ((17, 0, 0) : qz_N) 12) + ((8 : Int32) + ((3 : Int32) * x18)))) fun S20 => (gM_bringsHome_L21 F a0 a1 K) n (y3 + (1 : Int32)) (y4 + 1) S20) else (Option.bind (gM_of F T.1 y4 (5 : Int32)) fun x21 => Option.bind (gM_lay F T y4 (5 : Int32) (x21 + (1 : Int32))) fun R23 => qz_let (qz_wr R23 ((17, 0, 0) : qz_N) 8 ((R23.1 ((17, 0, 0) : qz_N) 8) + (1 : Int32))) fun S25 => qz_let (qz_wr S25 ((17, 0, 0) : qz_N) 12 ((S25.1 ((17, 0, 0) : qz_N) 12) + (0 : Int32))) fun S26 => (gM_bringsHome_L21 F a0 a1 K) n (y3 + (0 : Int32)) (y4 + 1) S26)) else none)) else ((gM_bringsHome_L21 F a0 a1 K) n y3 (y4 + 1) T))
def gM_bringsHome (F : Nat) (S : qz_S) (a0 : Int32) (a1 : Int32) : Option (Int32 × qz_S) :=
  Option.bind (gM_costOf F S a0 a1) fun R1 => qz_let (qz_wr R1.2 ((17, 0, 0) : qz_N) 11 ((S.1 ((17, 0, 0) : qz_N) 11) + R1.1)) fun S3 => gM_bringsHome_L21 F a0 a1 (fun y327 y428 T29 => some (y327, T29)) F (0 : Int32) (0 : Int32) S3
set_option maxHeartbeats 4000000 in
theorem vM_bringsHome_L21 (F : Nat) (a0 : Int32) (a1 : Int32) (K : (Int32 → Int32 → qz_S → Option (Int32 × qz_S))) (hK : ∀ (y3 : Int32) (y4 : Int32) (T : qz_S) (r : Int32 × qz_S), K y3 y4 T = some r → ∀ (d5 : Option qz_V), qz_E 111 171 [some (.inr (some ((6, 0, 0) : qz_N))), some (.inl a0), some (.inl a1), some (.inl y3), some (.inl y4), d5] [] (qz_mk T.1 T.2) (some (.inl r.1)) (qz_mk r.2.1 r.2.2)) : ∀ (n : Nat) (y3 : Int32) (y4 : Int32) (T : qz_S) (r : Int32 × qz_S), gM_bringsHome_L21 F a0 a1 K n y3 y4 T = some r → ∀ (d5 : Option qz_V), qz_E 111 21 [some (.inr (some ((6, 0, 0) : qz_N))), some (.inl a0), some (.inl a1), some (.inl y3), some (.inl y4), d5] [] (qz_mk T.1 T.2) (some (.inl r.1)) (qz_mk r.2.1 r.2.2) := by
  have hb : qz_b 111 = cX6_bringsHome := rfl
  have hcn : qz_cn 111 = 6 := rfl
  intro n
  induction n with
  | zero =>
    intro y3 y4 T r h
    cases h
  | succ n ih =>
    intro y3 y4 T r h d5
    rw [gM_bringsHome_L21] at h
    refine ei_il hb dX6_bringsHome_21 (pc' := 23) rfl rfl ?_
    refine ei_aln hb dX6_bringsHome_23 (pc' := 24) rfl rfl ?_
    refine ei_gr hb dX6_bringsHome_24 (pc' := 27) (x := some ((17, 0, 0) : qz_N)) hcn qz_f_6_7 rfl rfl rfl rfl ?_
    refine ei_b hb dX6_bringsHome_27 (v := (6 : Int32)) (pc' := 29) (by decide) rfl ?_
    refine ei_ia hb dX6_bringsHome_29 (pc' := 30) (x := (T.1 ((17, 0, 0) : qz_N) 6)) rfl (show qz_xi (6 : Int32) 283 = true by decide) rfl rfl ?_
    by_cases c4 : (T.1 ((17, 0, 0) : qz_N) 6) ≤ y4
    · rw [if_pos c4] at h
      refine ei_icT hb dX6_bringsHome_30 (pc' := 171) (decide_eq_true c4) (by decide) ?_
      exact hK y3 y4 T _ h _
    · rw [if_neg c4] at h
      refine ei_icF hb dX6_bringsHome_30 (pc' := 33) (t := 171) (decide_eq_false c4) (by decide) rfl ?_
      refine ei_aln hb dX6_bringsHome_33 (pc' := 34) rfl rfl ?_
      refine ei_il hb dX6_bringsHome_34 (pc' := 36) rfl rfl ?_
      refine ei_c hb dX6_bringsHome_36 (v := (4 : Int32)) (pc' := 37) (by decide) rfl ?_
      obtain ⟨x5, e6, h⟩ := Option.bind_eq_some_iff.mp h
      refine ei_cv hb dX6_bringsHome_37 (pc' := 40) (M1 := (qz_mk T.1 T.2)) (as := [.inl y4, .inl (4 : Int32)]) (rest := []) (st' := [.inl x5]) hcn qz_c_6_40 qz_k_85 (qz_q_111_85) (Nat.le_of_ble_eq_true rfl) (Nat.le_of_ble_eq_true rfl) rfl rfl rfl (vM_of F T.1 T.2 y4 (4 : Int32) _ e6) rfl rfl ?_
      refine ei_c hb dX6_bringsHome_40 (v := (1 : Int32)) (pc' := 41) (by decide) rfl ?_
      by_cases c7 : x5 = (1 : Int32)
      · rw [if_pos c7] at h
        refine ei_icF hb dX6_bringsHome_41 (pc' := 44) (t := 165) (decide_eq_false (fun q => q c7)) (by decide) rfl ?_
        refine ei_aln hb dX6_bringsHome_44 (pc' := 45) rfl rfl ?_
        refine ei_il hb dX6_bringsHome_45 (pc' := 47) rfl rfl ?_
        refine ei_iln hb dX6_bringsHome_47 (pc' := 48) rfl rfl ?_
        refine ei_iln hb dX6_bringsHome_48 (pc' := 49) rfl rfl ?_
        obtain ⟨x8, e9, h⟩ := Option.bind_eq_some_iff.mp h
        refine ei_cv hb dX6_bringsHome_49 (pc' := 52) (M1 := (qz_mk T.1 T.2)) (as := [.inl y4, .inl a0, .inl a1]) (rest := []) (st' := [.inl x8]) hcn qz_c_6_57 qz_k_96 (qz_q_111_96) (Nat.le_of_ble_eq_true rfl) (Nat.le_of_ble_eq_true rfl) rfl rfl rfl (vM_isOn F T.1 T.2 y4 a0 a1 _ e9) rfl rfl ?_
        by_cases c10 : x8 = 0
        · rw [if_pos c10] at h
          refine ei_ifT hb dX6_bringsHome_52 (pc' := 165) (decide_eq_true c10) (by decide) ?_
          refine ei_inc hb dX6_bringsHome_165 (v := (y4 + 1)) (pc' := 168) (ls' := [some (.inr (some ((6, 0, 0) : qz_N))), some (.inl a0), some (.inl a1), some (.inl y3), some (.inl (y4 + 1)), d5]) rfl rfl rfl rfl ?_
          refine ei_go hb dX6_bringsHome_168 (pc' := 21) (by decide) ?_
          exact ih y3 (y4 + 1) T _ h _
        · rw [if_neg c10] at h
          refine ei_ifF hb dX6_bringsHome_52 (pc' := 55) (t := 165) (decide_eq_false c10) (by decide) rfl ?_
          refine ei_aln hb dX6_bringsHome_55 (pc' := 56) rfl rfl ?_
          refine ei_gr hb dX6_bringsHome_56 (pc' := 59) (x := some ((22, 0, 0) : qz_N)) hcn qz_f_6_25 rfl rfl rfl rfl ?_
          refine ei_il hb dX6_bringsHome_59 (pc' := 61) rfl rfl ?_
          by_cases c11 : qz_xi y4 30 = true
          · rw [if_pos c11] at h
            refine ei_ba hb dX6_bringsHome_61 (pc' := 62) (x := (T.1 ((22, 0, 0) : qz_N) (y4).toNatClampNeg)) rfl c11 rfl rfl ?_
            refine ei_is hb dX6_bringsHome_62 (pc' := 64) (ls' := [some (.inr (some ((6, 0, 0) : qz_N))), some (.inl a0), some (.inl a1), some (.inl y3), some (.inl y4), some (.inl (T.1 ((22, 0, 0) : qz_N) (y4).toNatClampNeg))]) (Nat.le_of_ble_eq_true rfl) rfl rfl ?_
            refine ei_aln hb dX6_bringsHome_64 (pc' := 65) rfl rfl ?_
            refine ei_il hb dX6_bringsHome_65 (pc' := 67) rfl rfl ?_
            refine ei_il hb dX6_bringsHome_67 (pc' := 69) rfl rfl ?_
            by_cases c12 : (T.1 ((22, 0, 0) : qz_N) (y4).toNatClampNeg) = 0
            · rw [if_pos c12] at h
              refine ei_ifT hb dX6_bringsHome_69 (pc' := 76) (decide_eq_true c12) (by decide) ?_
              refine ei_b hb dX6_bringsHome_76 (v := (6 : Int32)) (pc' := 78) (by decide) rfl ?_
              refine ei_aln hb dX6_bringsHome_78 (pc' := 79) rfl rfl ?_
              refine ei_il hb dX6_bringsHome_79 (pc' := 81) rfl rfl ?_
              refine ei_il hb dX6_bringsHome_81 (pc' := 83) rfl rfl ?_
              refine ei_ifT hb dX6_bringsHome_83 (pc' := 90) (decide_eq_true c12) (by decide) ?_
              refine ei_b hb dX6_bringsHome_90 (v := (6 : Int32)) (pc' := 92) (by decide) rfl ?_
              obtain ⟨x13, e14, h⟩ := Option.bind_eq_some_iff.mp h
              refine ei_cv hb dX6_bringsHome_92 (pc' := 95) (M1 := (qz_mk T.1 T.2)) (as := [.inl y4, .inl (6 : Int32)]) (rest := [.inl (6 : Int32), .inl y4, .inr (some ((6, 0, 0) : qz_N))]) (st' := [.inl x13, .inl (6 : Int32), .inl y4, .inr (some ((6, 0, 0) : qz_N))]) hcn qz_c_6_40 qz_k_85 (qz_q_111_85) (Nat.le_of_ble_eq_true rfl) (Nat.le_of_ble_eq_true rfl) rfl rfl rfl (vM_of F T.1 T.2 y4 (6 : Int32) _ e14) rfl rfl ?_
              refine ei_c hb dX6_bringsHome_95 (v := (1 : Int32)) (pc' := 96) (by decide) rfl ?_
              refine ei_add hb dX6_bringsHome_96 (pc' := 97) rfl ?_
              obtain ⟨R15, e16, h⟩ := Option.bind_eq_some_iff.mp h
              refine ei_cv hb dX6_bringsHome_97 (pc' := 100) (M1 := (qz_mk R15.1 R15.2)) (as := [.inl y4, .inl (6 : Int32), .inl (x13 + (1 : Int32))]) (rest := []) (st' := []) hcn qz_c_6_82 qz_k_86 (qz_q_111_86) (Nat.le_of_ble_eq_true rfl) (Nat.le_of_ble_eq_true rfl) rfl rfl rfl (vM_lay F T y4 (6 : Int32) (x13 + (1 : Int32)) _ e16) rfl rfl ?_
              refine ei_aln hb dX6_bringsHome_100 (pc' := 101) rfl rfl ?_
              refine ei_gr hb dX6_bringsHome_101 (pc' := 104) (x := some ((17, 0, 0) : qz_N)) hcn qz_f_6_7 rfl rfl rfl rfl ?_
              refine ei_il hb dX6_bringsHome_104 (pc' := 106) rfl rfl ?_
              refine ei_ifT hb dX6_bringsHome_106 (pc' := 114) (decide_eq_true c12) (by decide) ?_
              refine ei_b hb dX6_bringsHome_114 (v := (9 : Int32)) (pc' := 116) (by decide) rfl ?_
              refine ei_dup2 hb dX6_bringsHome_116 (pc' := 117) rfl ?_
              refine ei_ia hb dX6_bringsHome_117 (pc' := 118) (x := (R15.1 ((17, 0, 0) : qz_N) 9)) rfl (show qz_xi (9 : Int32) 283 = true by decide) rfl rfl ?_
              refine ei_c hb dX6_bringsHome_118 (v := (1 : Int32)) (pc' := 119) (by decide) rfl ?_
              refine ei_add hb dX6_bringsHome_119 (pc' := 120) rfl ?_
              obtain ⟨S17, eS17⟩ : ∃ q, q = qz_wr R15 ((17, 0, 0) : qz_N) 9 ((R15.1 ((17, 0, 0) : qz_N) 9) + (1 : Int32)) := ⟨_, rfl⟩
              rw [qz_let, ← eS17] at h
              refine ei_ist hb dX6_bringsHome_120 (pc' := 121) (M1 := (qz_mk S17.1 S17.2)) rfl (Nat.le_of_ble_eq_true rfl) (show qz_xi (9 : Int32) 283 = true by decide) (by rw [eS17]; rfl) rfl ?_
              refine ei_aln hb dX6_bringsHome_121 (pc' := 122) rfl rfl ?_
              refine ei_gr hb dX6_bringsHome_122 (pc' := 125) (x := some ((17, 0, 0) : qz_N)) hcn qz_f_6_7 rfl rfl rfl rfl ?_
              refine ei_b hb dX6_bringsHome_125 (v := (12 : Int32)) (pc' := 127) (by decide) rfl ?_
              refine ei_dup2 hb dX6_bringsHome_127 (pc' := 128) rfl ?_
              refine ei_ia hb dX6_bringsHome_128 (pc' := 129) (x := (S17.1 ((17, 0, 0) : qz_N) 12)) rfl (show qz_xi (12 : Int32) 283 = true by decide) rfl rfl ?_
              refine ei_il hb dX6_bringsHome_129 (pc' := 131) rfl rfl ?_
              refine ei_ifT hb dX6_bringsHome_131 (pc' := 138) (decide_eq_true c12) (by decide) ?_
              refine ei_b hb dX6_bringsHome_138 (v := (8 : Int32)) (pc' := 140) (by decide) rfl ?_
              refine ei_c hb dX6_bringsHome_140 (v := (3 : Int32)) (pc' := 141) (by decide) rfl ?_
              refine ei_aln hb dX6_bringsHome_141 (pc' := 142) rfl rfl ?_
              refine ei_il hb dX6_bringsHome_142 (pc' := 144) rfl rfl ?_
              refine ei_c hb dX6_bringsHome_144 (v := (3 : Int32)) (pc' := 145) (by decide) rfl ?_
              obtain ⟨x18, e19, h⟩ := Option.bind_eq_some_iff.mp h
              refine ei_cv hb dX6_bringsHome_145 (pc' := 148) (M1 := (qz_mk S17.1 S17.2)) (as := [.inl y4, .inl (3 : Int32)]) (rest := [.inl (3 : Int32), .inl (8 : Int32), .inl (S17.1 ((17, 0, 0) : qz_N) 12), .inl (12 : Int32), .inr (some ((17, 0, 0) : qz_N))]) (st' := [.inl x18, .inl (3 : Int32), .inl (8 : Int32), .inl (S17.1 ((17, 0, 0) : qz_N) 12), .inl (12 : Int32), .inr (some ((17, 0, 0) : qz_N))]) hcn qz_c_6_40 qz_k_85 (qz_q_111_85) (Nat.le_of_ble_eq_true rfl) (Nat.le_of_ble_eq_true rfl) rfl rfl rfl (vM_of F S17.1 S17.2 y4 (3 : Int32) _ e19) rfl rfl ?_
              refine ei_mul hb dX6_bringsHome_148 (pc' := 149) rfl ?_
              refine ei_add hb dX6_bringsHome_149 (pc' := 150) rfl ?_
              refine ei_add hb dX6_bringsHome_150 (pc' := 151) rfl ?_
              obtain ⟨S20, eS20⟩ : ∃ q, q = qz_wr S17 ((17, 0, 0) : qz_N) 12 ((S17.1 ((17, 0, 0) : qz_N) 12) + ((8 : Int32) + ((3 : Int32) * x18))) := ⟨_, rfl⟩
              rw [qz_let, ← eS20] at h
              refine ei_ist hb dX6_bringsHome_151 (pc' := 152) (M1 := (qz_mk S20.1 S20.2)) rfl (Nat.le_of_ble_eq_true rfl) (show qz_xi (12 : Int32) 283 = true by decide) (by rw [eS20]; rfl) rfl ?_
              refine ei_iln hb dX6_bringsHome_152 (pc' := 153) rfl rfl ?_
              refine ei_il hb dX6_bringsHome_153 (pc' := 155) rfl rfl ?_
              refine ei_ifT hb dX6_bringsHome_155 (pc' := 162) (decide_eq_true c12) (by decide) ?_
              refine ei_c hb dX6_bringsHome_162 (v := (1 : Int32)) (pc' := 163) (by decide) rfl ?_
              refine ei_add hb dX6_bringsHome_163 (pc' := 164) rfl ?_
              refine ei_isn hb dX6_bringsHome_164 (pc' := 165) (ls' := [some (.inr (some ((6, 0, 0) : qz_N))), some (.inl a0), some (.inl a1), some (.inl (y3 + (1 : Int32))), some (.inl y4), some (.inl (T.1 ((22, 0, 0) : qz_N) (y4).toNatClampNeg))]) (Nat.le_of_ble_eq_true rfl) rfl rfl ?_
              refine ei_inc hb dX6_bringsHome_165 (v := (y4 + 1)) (pc' := 168) (ls' := [some (.inr (some ((6, 0, 0) : qz_N))), some (.inl a0), some (.inl a1), some (.inl (y3 + (1 : Int32))), some (.inl (y4 + 1)), some (.inl (T.1 ((22, 0, 0) : qz_N) (y4).toNatClampNeg))]) rfl rfl rfl rfl ?_
              refine ei_go hb dX6_bringsHome_168 (pc' := 21) (by decide) ?_
              exact ih (y3 + (1 : Int32)) (y4 + 1) S20 _ h _
            · rw [if_neg c12] at h
              refine ei_ifF hb dX6_bringsHome_69 (pc' := 72) (t := 76) (decide_eq_false c12) (by decide) rfl ?_
              refine ei_c hb dX6_bringsHome_72 (v := (5 : Int32)) (pc' := 73) (by decide) rfl ?_
              refine ei_go hb dX6_bringsHome_73 (pc' := 78) (by decide) ?_
              refine ei_aln hb dX6_bringsHome_78 (pc' := 79) rfl rfl ?_
              refine ei_il hb dX6_bringsHome_79 (pc' := 81) rfl rfl ?_
              refine ei_il hb dX6_bringsHome_81 (pc' := 83) rfl rfl ?_
              refine ei_ifF hb dX6_bringsHome_83 (pc' := 86) (t := 90) (decide_eq_false c12) (by decide) rfl ?_
              refine ei_c hb dX6_bringsHome_86 (v := (5 : Int32)) (pc' := 87) (by decide) rfl ?_
              refine ei_go hb dX6_bringsHome_87 (pc' := 92) (by decide) ?_
              obtain ⟨x21, e22, h⟩ := Option.bind_eq_some_iff.mp h
              refine ei_cv hb dX6_bringsHome_92 (pc' := 95) (M1 := (qz_mk T.1 T.2)) (as := [.inl y4, .inl (5 : Int32)]) (rest := [.inl (5 : Int32), .inl y4, .inr (some ((6, 0, 0) : qz_N))]) (st' := [.inl x21, .inl (5 : Int32), .inl y4, .inr (some ((6, 0, 0) : qz_N))]) hcn qz_c_6_40 qz_k_85 (qz_q_111_85) (Nat.le_of_ble_eq_true rfl) (Nat.le_of_ble_eq_true rfl) rfl rfl rfl (vM_of F T.1 T.2 y4 (5 : Int32) _ e22) rfl rfl ?_
              refine ei_c hb dX6_bringsHome_95 (v := (1 : Int32)) (pc' := 96) (by decide) rfl ?_
              refine ei_add hb dX6_bringsHome_96 (pc' := 97) rfl ?_
              obtain ⟨R23, e24, h⟩ := Option.bind_eq_some_iff.mp h
              refine ei_cv hb dX6_bringsHome_97 (pc' := 100) (M1 := (qz_mk R23.1 R23.2)) (as := [.inl y4, .inl (5 : Int32), .inl (x21 + (1 : Int32))]) (rest := []) (st' := []) hcn qz_c_6_82 qz_k_86 (qz_q_111_86) (Nat.le_of_ble_eq_true rfl) (Nat.le_of_ble_eq_true rfl) rfl rfl rfl (vM_lay F T y4 (5 : Int32) (x21 + (1 : Int32)) _ e24) rfl rfl ?_
              refine ei_aln hb dX6_bringsHome_100 (pc' := 101) rfl rfl ?_
              refine ei_gr hb dX6_bringsHome_101 (pc' := 104) (x := some ((17, 0, 0) : qz_N)) hcn qz_f_6_7 rfl rfl rfl rfl ?_
              refine ei_il hb dX6_bringsHome_104 (pc' := 106) rfl rfl ?_
              refine ei_ifF hb dX6_bringsHome_106 (pc' := 109) (t := 114) (decide_eq_false c12) (by decide) rfl ?_
              refine ei_b hb dX6_bringsHome_109 (v := (8 : Int32)) (pc' := 111) (by decide) rfl ?_
              refine ei_go hb dX6_bringsHome_111 (pc' := 116) (by decide) ?_
              refine ei_dup2 hb dX6_bringsHome_116 (pc' := 117) rfl ?_
              refine ei_ia hb dX6_bringsHome_117 (pc' := 118) (x := (R23.1 ((17, 0, 0) : qz_N) 8)) rfl (show qz_xi (8 : Int32) 283 = true by decide) rfl rfl ?_
              refine ei_c hb dX6_bringsHome_118 (v := (1 : Int32)) (pc' := 119) (by decide) rfl ?_
              refine ei_add hb dX6_bringsHome_119 (pc' := 120) rfl ?_
              obtain ⟨S25, eS25⟩ : ∃ q, q = qz_wr R23 ((17, 0, 0) : qz_N) 8 ((R23.1 ((17, 0, 0) : qz_N) 8) + (1 : Int32)) := ⟨_, rfl⟩
              rw [qz_let, ← eS25] at h
              refine ei_ist hb dX6_bringsHome_120 (pc' := 121) (M1 := (qz_mk S25.1 S25.2)) rfl (Nat.le_of_ble_eq_true rfl) (show qz_xi (8 : Int32) 283 = true by decide) (by rw [eS25]; rfl) rfl ?_
              refine ei_aln hb dX6_bringsHome_121 (pc' := 122) rfl rfl ?_
              refine ei_gr hb dX6_bringsHome_122 (pc' := 125) (x := some ((17, 0, 0) : qz_N)) hcn qz_f_6_7 rfl rfl rfl rfl ?_
              refine ei_b hb dX6_bringsHome_125 (v := (12 : Int32)) (pc' := 127) (by decide) rfl ?_
              refine ei_dup2 hb dX6_bringsHome_127 (pc' := 128) rfl ?_
              refine ei_ia hb dX6_bringsHome_128 (pc' := 129) (x := (S25.1 ((17, 0, 0) : qz_N) 12)) rfl (show qz_xi (12 : Int32) 283 = true by decide) rfl rfl ?_
              refine ei_il hb dX6_bringsHome_129 (pc' := 131) rfl rfl ?_
              refine ei_ifF hb dX6_bringsHome_131 (pc' := 134) (t := 138) (decide_eq_false c12) (by decide) rfl ?_
              refine ei_c hb dX6_bringsHome_134 (v := (0 : Int32)) (pc' := 135) (by decide) rfl ?_
              refine ei_go hb dX6_bringsHome_135 (pc' := 150) (by decide) ?_
              refine ei_add hb dX6_bringsHome_150 (pc' := 151) rfl ?_
              obtain ⟨S26, eS26⟩ : ∃ q, q = qz_wr S25 ((17, 0, 0) : qz_N) 12 ((S25.1 ((17, 0, 0) : qz_N) 12) + (0 : Int32)) := ⟨_, rfl⟩
              rw [qz_let, ← eS26] at h
              refine ei_ist hb dX6_bringsHome_151 (pc' := 152) (M1 := (qz_mk S26.1 S26.2)) rfl (Nat.le_of_ble_eq_true rfl) (show qz_xi (12 : Int32) 283 = true by decide) (by rw [eS26]; rfl) rfl ?_
              refine ei_iln hb dX6_bringsHome_152 (pc' := 153) rfl rfl ?_
              refine ei_il hb dX6_bringsHome_153 (pc' := 155) rfl rfl ?_
              refine ei_ifF hb dX6_bringsHome_155 (pc' := 158) (t := 162) (decide_eq_false c12) (by decide) rfl ?_
              refine ei_c hb dX6_bringsHome_158 (v := (0 : Int32)) (pc' := 159) (by decide) rfl ?_
              refine ei_go hb dX6_bringsHome_159 (pc' := 163) (by decide) ?_
              refine ei_add hb dX6_bringsHome_163 (pc' := 164) rfl ?_
              refine ei_isn hb dX6_bringsHome_164 (pc' := 165) (ls' := [some (.inr (some ((6, 0, 0) : qz_N))), some (.inl a0), some (.inl a1), some (.inl (y3 + (0 : Int32))), some (.inl y4), some (.inl (T.1 ((22, 0, 0) : qz_N) (y4).toNatClampNeg))]) (Nat.le_of_ble_eq_true rfl) rfl rfl ?_
              refine ei_inc hb dX6_bringsHome_165 (v := (y4 + 1)) (pc' := 168) (ls' := [some (.inr (some ((6, 0, 0) : qz_N))), some (.inl a0), some (.inl a1), some (.inl (y3 + (0 : Int32))), some (.inl (y4 + 1)), some (.inl (T.1 ((22, 0, 0) : qz_N) (y4).toNatClampNeg))]) rfl rfl rfl rfl ?_
              refine ei_go hb dX6_bringsHome_168 (pc' := 21) (by decide) ?_
              exact ih (y3 + (0 : Int32)) (y4 + 1) S26 _ h _
          · rw [if_neg c11] at h
            cases h
      · rw [if_neg c7] at h
        refine ei_icT hb dX6_bringsHome_41 (pc' := 165) (decide_eq_true c7) (by decide) ?_
        refine ei_inc hb dX6_bringsHome_165 (v := (y4 + 1)) (pc' := 168) (ls' := [some (.inr (some ((6, 0, 0) : qz_N))), some (.inl a0), some (.inl a1), some (.inl y3), some (.inl (y4 + 1)), d5]) rfl rfl rfl rfl ?_
        refine ei_go hb dX6_bringsHome_168 (pc' := 21) (by decide) ?_
        exact ih y3 (y4 + 1) T _ h _
set_option maxHeartbeats 4000000 in
theorem vM_bringsHome (F : Nat) (S : qz_S) (a0 : Int32) (a1 : Int32) (r : Int32 × qz_S) (h : (gM_bringsHome F S a0 a1) = some r) : qz_E 111 0 (qz_in0 111 [.inr (some ((6, 0, 0) : qz_N)), .inl a0, .inl a1]) [] (qz_mk S.1 S.2) (some (.inl r.1)) (qz_mk r.2.1 r.2.2) := by
  have hb : qz_b 111 = cX6_bringsHome := rfl
  have hcn : qz_cn 111 = 6 := rfl
  show qz_E 111 0 [some (.inr (some ((6, 0, 0) : qz_N))), some (.inl a0), some (.inl a1), none, none, none] [] _ _ _
  rw [gM_bringsHome] at h
  refine ei_c hb dX6_bringsHome_0 (v := (0 : Int32)) (pc' := 1) (by decide) rfl ?_
  refine ei_isn hb dX6_bringsHome_1 (pc' := 2) (ls' := [some (.inr (some ((6, 0, 0) : qz_N))), some (.inl a0), some (.inl a1), some (.inl (0 : Int32)), none, none]) (Nat.le_of_ble_eq_true rfl) rfl rfl ?_
  refine ei_aln hb dX6_bringsHome_2 (pc' := 3) rfl rfl ?_
  refine ei_gr hb dX6_bringsHome_3 (pc' := 6) (x := some ((17, 0, 0) : qz_N)) hcn qz_f_6_7 rfl rfl rfl rfl ?_
  refine ei_b hb dX6_bringsHome_6 (v := (11 : Int32)) (pc' := 8) (by decide) rfl ?_
  refine ei_dup2 hb dX6_bringsHome_8 (pc' := 9) rfl ?_
  refine ei_ia hb dX6_bringsHome_9 (pc' := 10) (x := (S.1 ((17, 0, 0) : qz_N) 11)) rfl (show qz_xi (11 : Int32) 283 = true by decide) rfl rfl ?_
  refine ei_aln hb dX6_bringsHome_10 (pc' := 11) rfl rfl ?_
  refine ei_iln hb dX6_bringsHome_11 (pc' := 12) rfl rfl ?_
  refine ei_iln hb dX6_bringsHome_12 (pc' := 13) rfl rfl ?_
  obtain ⟨R1, e2, h⟩ := Option.bind_eq_some_iff.mp h
  refine ei_cv hb dX6_bringsHome_13 (pc' := 16) (M1 := (qz_mk R1.2.1 R1.2.2)) (as := [.inl a0, .inl a1]) (rest := [.inl (S.1 ((17, 0, 0) : qz_N) 11), .inl (11 : Int32), .inr (some ((17, 0, 0) : qz_N))]) (st' := [.inl R1.1, .inl (S.1 ((17, 0, 0) : qz_N) 11), .inl (11 : Int32), .inr (some ((17, 0, 0) : qz_N))]) hcn qz_c_6_106 qz_k_109 (qz_q_111_109) (Nat.le_of_ble_eq_true rfl) (Nat.le_of_ble_eq_true rfl) rfl rfl rfl (vM_costOf F S a0 a1 _ e2) rfl rfl ?_
  refine ei_add hb dX6_bringsHome_16 (pc' := 17) rfl ?_
  obtain ⟨S3, eS3⟩ : ∃ q, q = qz_wr R1.2 ((17, 0, 0) : qz_N) 11 ((S.1 ((17, 0, 0) : qz_N) 11) + R1.1) := ⟨_, rfl⟩
  rw [qz_let, ← eS3] at h
  refine ei_ist hb dX6_bringsHome_17 (pc' := 18) (M1 := (qz_mk S3.1 S3.2)) rfl (Nat.le_of_ble_eq_true rfl) (show qz_xi (11 : Int32) 283 = true by decide) (by rw [eS3]; rfl) rfl ?_
  refine ei_c hb dX6_bringsHome_18 (v := (0 : Int32)) (pc' := 19) (by decide) rfl ?_
  refine ei_is hb dX6_bringsHome_19 (pc' := 21) (ls' := [some (.inr (some ((6, 0, 0) : qz_N))), some (.inl a0), some (.inl a1), some (.inl (0 : Int32)), some (.inl (0 : Int32)), none]) (Nat.le_of_ble_eq_true rfl) rfl rfl ?_
  refine vM_bringsHome_L21 F a0 a1 _ ?_ F (0 : Int32) (0 : Int32) S3 _ h _
  intro y327 y428 T29 r h d30
  refine ei_iln hb dX6_bringsHome_171 (pc' := 172) rfl rfl ?_
  have h := Option.some.inj h
  subst h
  exact ei_reti hb dX6_bringsHome_172 rfl
def gM_addEnd (F : Nat) (S : qz_S) (a0 : Int32) : Option (Int32 × qz_S) :=
  qz_let (qz_wr S ((6, 0, 0) : qz_N) 0 (0 : Int32)) fun S1 => if (gM_in S1.1 a0 (0 : Int32) (1439 : Int32)) = 0 then (some ((-2 : Int32), S1)) else (if (S1.1 ((17, 0, 0) : qz_N) 4) = (10 : Int32) then (some ((-3 : Int32), S1)) else (Option.bind (gM_records F S1) fun R4 => if qz_xi ((13 : Int32) + (R4.1 ((17, 0, 0) : qz_N) 4)) 283 = true then (qz_let (qz_wr R4 ((17, 0, 0) : qz_N) (((13 : Int32) + (R4.1 ((17, 0, 0) : qz_N) 4))).toNatClampNeg a0) fun S7 => qz_let (qz_wr S7 ((17, 0, 0) : qz_N) 4 ((S7.1 ((17, 0, 0) : qz_N) 4) + (1 : Int32))) fun S8 => some (((S8.1 ((17, 0, 0) : qz_N) 4) - (1 : Int32)), S8)) else none))
set_option maxHeartbeats 4000000 in
theorem vM_addEnd (F : Nat) (S : qz_S) (a0 : Int32) (r : Int32 × qz_S) (h : (gM_addEnd F S a0) = some r) : qz_E 112 0 (qz_in0 112 [.inr (some ((6, 0, 0) : qz_N)), .inl a0]) [] (qz_mk S.1 S.2) (some (.inl r.1)) (qz_mk r.2.1 r.2.2) := by
  have hb : qz_b 112 = cX6_addEnd := rfl
  have hcn : qz_cn 112 = 6 := rfl
  show qz_E 112 0 [some (.inr (some ((6, 0, 0) : qz_N))), some (.inl a0)] [] _ _ _
  rw [gM_addEnd] at h
  refine ei_aln hb dX6_addEnd_0 (pc' := 1) rfl rfl ?_
  refine ei_c hb dX6_addEnd_1 (v := (0 : Int32)) (pc' := 2) (by decide) rfl ?_
  obtain ⟨S1, eS1⟩ : ∃ q, q = qz_wr S ((6, 0, 0) : qz_N) 0 (0 : Int32) := ⟨_, rfl⟩
  rw [qz_let, ← eS1] at h
  refine ei_pi hb dX6_addEnd_2 (pc' := 5) (M1 := (qz_mk S1.1 S1.2)) hcn qz_f_6_32 rfl rfl (fun q => by cases q) rfl (by rw [eS1]; rfl) rfl ?_
  refine ei_iln hb dX6_addEnd_5 (pc' := 6) rfl rfl ?_
  refine ei_c hb dX6_addEnd_6 (v := (0 : Int32)) (pc' := 7) (by decide) rfl ?_
  refine ei_s hb dX6_addEnd_7 (v := (1439 : Int32)) (pc' := 10) (by decide) rfl ?_
  refine ei_cs hb dX6_addEnd_10 (pc' := 13) (M1 := (qz_mk S1.1 S1.2)) (as := [.inl a0, .inl (0 : Int32), .inl (1439 : Int32)]) (rest := []) (st' := [.inl (gM_in S1.1 a0 (0 : Int32) (1439 : Int32))]) hcn qz_c_6_36 rfl qz_k_84 (qz_q_112_84) (Nat.le_of_ble_eq_true rfl) (Nat.le_of_ble_eq_true rfl) rfl rfl (vM_in S1.1 S1.2 a0 (0 : Int32) (1439 : Int32)) rfl rfl ?_
  by_cases c2 : (gM_in S1.1 a0 (0 : Int32) (1439 : Int32)) = 0
  · rw [if_pos c2] at h
    refine ei_ifF hb dX6_addEnd_13 (pc' := 16) (t := 19) (decide_eq_false (fun q => q c2)) (by decide) rfl ?_
    refine ei_b hb dX6_addEnd_16 (v := (-2 : Int32)) (pc' := 18) (by decide) rfl ?_
    have h := Option.some.inj h
    subst h
    exact ei_reti hb dX6_addEnd_18 rfl
  · rw [if_neg c2] at h
    refine ei_ifT hb dX6_addEnd_13 (pc' := 19) (decide_eq_true c2) (by decide) ?_
    refine ei_aln hb dX6_addEnd_19 (pc' := 20) rfl rfl ?_
    refine ei_gr hb dX6_addEnd_20 (pc' := 23) (x := some ((17, 0, 0) : qz_N)) hcn qz_f_6_7 rfl rfl rfl rfl ?_
    refine ei_c hb dX6_addEnd_23 (v := (4 : Int32)) (pc' := 24) (by decide) rfl ?_
    refine ei_ia hb dX6_addEnd_24 (pc' := 25) (x := (S1.1 ((17, 0, 0) : qz_N) 4)) rfl (show qz_xi (4 : Int32) 283 = true by decide) rfl rfl ?_
    refine ei_b hb dX6_addEnd_25 (v := (10 : Int32)) (pc' := 27) (by decide) rfl ?_
    by_cases c3 : (S1.1 ((17, 0, 0) : qz_N) 4) = (10 : Int32)
    · rw [if_pos c3] at h
      refine ei_icF hb dX6_addEnd_27 (pc' := 30) (t := 33) (decide_eq_false (fun q => q c3)) (by decide) rfl ?_
      refine ei_b hb dX6_addEnd_30 (v := (-3 : Int32)) (pc' := 32) (by decide) rfl ?_
      have h := Option.some.inj h
      subst h
      exact ei_reti hb dX6_addEnd_32 rfl
    · rw [if_neg c3] at h
      refine ei_icT hb dX6_addEnd_27 (pc' := 33) (decide_eq_true c3) (by decide) ?_
      refine ei_aln hb dX6_addEnd_33 (pc' := 34) rfl rfl ?_
      obtain ⟨R4, e5, h⟩ := Option.bind_eq_some_iff.mp h
      refine ei_cv hb dX6_addEnd_34 (pc' := 37) (M1 := (qz_mk R4.1 R4.2)) (as := []) (rest := []) (st' := []) hcn qz_c_6_109 qz_k_93 (qz_q_112_93) (Nat.le_of_ble_eq_true rfl) (Nat.le_of_ble_eq_true rfl) rfl rfl rfl (vM_records F S1 _ e5) rfl rfl ?_
      refine ei_aln hb dX6_addEnd_37 (pc' := 38) rfl rfl ?_
      refine ei_gr hb dX6_addEnd_38 (pc' := 41) (x := some ((17, 0, 0) : qz_N)) hcn qz_f_6_7 rfl rfl rfl rfl ?_
      refine ei_b hb dX6_addEnd_41 (v := (13 : Int32)) (pc' := 43) (by decide) rfl ?_
      refine ei_aln hb dX6_addEnd_43 (pc' := 44) rfl rfl ?_
      refine ei_gr hb dX6_addEnd_44 (pc' := 47) (x := some ((17, 0, 0) : qz_N)) hcn qz_f_6_7 rfl rfl rfl rfl ?_
      refine ei_c hb dX6_addEnd_47 (v := (4 : Int32)) (pc' := 48) (by decide) rfl ?_
      refine ei_ia hb dX6_addEnd_48 (pc' := 49) (x := (R4.1 ((17, 0, 0) : qz_N) 4)) rfl (show qz_xi (4 : Int32) 283 = true by decide) rfl rfl ?_
      refine ei_add hb dX6_addEnd_49 (pc' := 50) rfl ?_
      refine ei_iln hb dX6_addEnd_50 (pc' := 51) rfl rfl ?_
      by_cases c6 : qz_xi ((13 : Int32) + (R4.1 ((17, 0, 0) : qz_N) 4)) 283 = true
      · rw [if_pos c6] at h
        obtain ⟨S7, eS7⟩ : ∃ q, q = qz_wr R4 ((17, 0, 0) : qz_N) (((13 : Int32) + (R4.1 ((17, 0, 0) : qz_N) 4))).toNatClampNeg a0 := ⟨_, rfl⟩
        rw [qz_let, ← eS7] at h
        refine ei_ist hb dX6_addEnd_51 (pc' := 52) (M1 := (qz_mk S7.1 S7.2)) rfl (Nat.le_of_ble_eq_true rfl) c6 (by rw [eS7]; rfl) rfl ?_
        refine ei_aln hb dX6_addEnd_52 (pc' := 53) rfl rfl ?_
        refine ei_gr hb dX6_addEnd_53 (pc' := 56) (x := some ((17, 0, 0) : qz_N)) hcn qz_f_6_7 rfl rfl rfl rfl ?_
        refine ei_c hb dX6_addEnd_56 (v := (4 : Int32)) (pc' := 57) (by decide) rfl ?_
        refine ei_dup2 hb dX6_addEnd_57 (pc' := 58) rfl ?_
        refine ei_ia hb dX6_addEnd_58 (pc' := 59) (x := (S7.1 ((17, 0, 0) : qz_N) 4)) rfl (show qz_xi (4 : Int32) 283 = true by decide) rfl rfl ?_
        refine ei_c hb dX6_addEnd_59 (v := (1 : Int32)) (pc' := 60) (by decide) rfl ?_
        refine ei_add hb dX6_addEnd_60 (pc' := 61) rfl ?_
        obtain ⟨S8, eS8⟩ : ∃ q, q = qz_wr S7 ((17, 0, 0) : qz_N) 4 ((S7.1 ((17, 0, 0) : qz_N) 4) + (1 : Int32)) := ⟨_, rfl⟩
        rw [qz_let, ← eS8] at h
        refine ei_ist hb dX6_addEnd_61 (pc' := 62) (M1 := (qz_mk S8.1 S8.2)) rfl (Nat.le_of_ble_eq_true rfl) (show qz_xi (4 : Int32) 283 = true by decide) (by rw [eS8]; rfl) rfl ?_
        refine ei_aln hb dX6_addEnd_62 (pc' := 63) rfl rfl ?_
        refine ei_gr hb dX6_addEnd_63 (pc' := 66) (x := some ((17, 0, 0) : qz_N)) hcn qz_f_6_7 rfl rfl rfl rfl ?_
        refine ei_c hb dX6_addEnd_66 (v := (4 : Int32)) (pc' := 67) (by decide) rfl ?_
        refine ei_ia hb dX6_addEnd_67 (pc' := 68) (x := (S8.1 ((17, 0, 0) : qz_N) 4)) rfl (show qz_xi (4 : Int32) 283 = true by decide) rfl rfl ?_
        refine ei_c hb dX6_addEnd_68 (v := (1 : Int32)) (pc' := 69) (by decide) rfl ?_
        refine ei_sub hb dX6_addEnd_69 (pc' := 70) rfl ?_
        have h := Option.some.inj h
        subst h
        exact ei_reti hb dX6_addEnd_70 rfl
      · rw [if_neg c6] at h
        cases h
def gM_books_L23 (F : Nat) (a0 : Int32) (a1 : Int32) (a2 : Int32) (S : qz_S) (x1 : Int32) (K : (Int32 → qz_S → Option (Int32 × qz_S))) : Nat → Int32 → qz_S → Option (Int32 × qz_S)
  | 0, _, _ => none
  | n + 1, y6, T => if (8 : Int32) ≤ y6 then (K y6 T) else (Option.bind (gM_lay F T (S.1 ((17, 0, 0) : qz_N) 6) y6 (0 : Int32)) fun R4 => (gM_books_L23 F a0 a1 a2 S x1 K) n (y6 + 1) R4)
def gM_books (F : Nat) (S : qz_S) (a0 : Int32) (a1 : Int32) (a2 : Int32) : Option (Int32 × qz_S) :=
  Option.bind (gM_reasonBut F S.1 a1 a0 a2 (-5 : Int32)) fun x1 => gM_books_L23 F a0 a1 a2 S x1 (fun y66 T7 => Option.bind (gM_lay F T7 (S.1 ((17, 0, 0) : qz_N) 6) (0 : Int32) (T7.1 ((17, 0, 0) : qz_N) 5)) fun R8 => Option.bind (gM_lay F R8 (S.1 ((17, 0, 0) : qz_N) 6) (1 : Int32) a0) fun R10 => Option.bind (gM_lay F R10 (S.1 ((17, 0, 0) : qz_N) 6) (2 : Int32) a1) fun R12 => Option.bind (gM_lay F R12 (S.1 ((17, 0, 0) : qz_N) 6) (3 : Int32) a2) fun R14 => if x1 = 0 then (Option.bind (gM_lay F R14 (S.1 ((17, 0, 0) : qz_N) 6) (4 : Int32) (1 : Int32)) fun R17 => qz_let (qz_wr R17 ((17, 0, 0) : qz_N) 6 ((R17.1 ((17, 0, 0) : qz_N) 6) + (1 : Int32))) fun S19 => qz_let (qz_wr S19 ((17, 0, 0) : qz_N) 5 ((S19.1 ((17, 0, 0) : qz_N) 5) + (1 : Int32))) fun S20 => some (((S20.1 ((17, 0, 0) : qz_N) 5) - (1 : Int32)), S20)) else (Option.bind (gM_lay F R14 (S.1 ((17, 0, 0) : qz_N) 6) (4 : Int32) (0 : Int32)) fun R21 => qz_let (qz_wr R21 ((17, 0, 0) : qz_N) 6 ((R21.1 ((17, 0, 0) : qz_N) 6) + (1 : Int32))) fun S23 => qz_let (qz_wr S23 ((17, 0, 0) : qz_N) 5 ((S23.1 ((17, 0, 0) : qz_N) 5) + (1 : Int32))) fun S24 => some (((S24.1 ((17, 0, 0) : qz_N) 5) - (1 : Int32)), S24))) F (0 : Int32) S
set_option maxHeartbeats 4000000 in
theorem vM_books_L23 (F : Nat) (a0 : Int32) (a1 : Int32) (a2 : Int32) (S : qz_S) (x1 : Int32) (K : (Int32 → qz_S → Option (Int32 × qz_S))) (hK : ∀ (y6 : Int32) (T : qz_S) (r : Int32 × qz_S), K y6 T = some r → qz_E 113 45 [some (.inr (some ((6, 0, 0) : qz_N))), some (.inl a0), some (.inl a1), some (.inl a2), some (.inl x1), some (.inl (S.1 ((17, 0, 0) : qz_N) 6)), some (.inl y6)] [] (qz_mk T.1 T.2) (some (.inl r.1)) (qz_mk r.2.1 r.2.2)) : ∀ (n : Nat) (y6 : Int32) (T : qz_S) (r : Int32 × qz_S), gM_books_L23 F a0 a1 a2 S x1 K n y6 T = some r → qz_E 113 23 [some (.inr (some ((6, 0, 0) : qz_N))), some (.inl a0), some (.inl a1), some (.inl a2), some (.inl x1), some (.inl (S.1 ((17, 0, 0) : qz_N) 6)), some (.inl y6)] [] (qz_mk T.1 T.2) (some (.inl r.1)) (qz_mk r.2.1 r.2.2) := by
  have hb : qz_b 113 = cX6_books := rfl
  have hcn : qz_cn 113 = 6 := rfl
  intro n
  induction n with
  | zero =>
    intro y6 T r h
    cases h
  | succ n ih =>
    intro y6 T r h
    rw [gM_books_L23] at h
    refine ei_il hb dX6_books_23 (pc' := 25) rfl rfl ?_
    refine ei_b hb dX6_books_25 (v := (8 : Int32)) (pc' := 27) (by decide) rfl ?_
    by_cases c3 : (8 : Int32) ≤ y6
    · rw [if_pos c3] at h
      refine ei_icT hb dX6_books_27 (pc' := 45) (decide_eq_true c3) (by decide) ?_
      exact hK y6 T _ h
    · rw [if_neg c3] at h
      refine ei_icF hb dX6_books_27 (pc' := 30) (t := 45) (decide_eq_false c3) (by decide) rfl ?_
      refine ei_aln hb dX6_books_30 (pc' := 31) rfl rfl ?_
      refine ei_il hb dX6_books_31 (pc' := 33) rfl rfl ?_
      refine ei_il hb dX6_books_33 (pc' := 35) rfl rfl ?_
      refine ei_c hb dX6_books_35 (v := (0 : Int32)) (pc' := 36) (by decide) rfl ?_
      obtain ⟨R4, e5, h⟩ := Option.bind_eq_some_iff.mp h
      refine ei_cv hb dX6_books_36 (pc' := 39) (M1 := (qz_mk R4.1 R4.2)) (as := [.inl (S.1 ((17, 0, 0) : qz_N) 6), .inl y6, .inl (0 : Int32)]) (rest := []) (st' := []) hcn qz_c_6_82 qz_k_86 (qz_q_113_86) (Nat.le_of_ble_eq_true rfl) (Nat.le_of_ble_eq_true rfl) rfl rfl rfl (vM_lay F T (S.1 ((17, 0, 0) : qz_N) 6) y6 (0 : Int32) _ e5) rfl rfl ?_
      refine ei_inc hb dX6_books_39 (v := (y6 + 1)) (pc' := 42) (ls' := [some (.inr (some ((6, 0, 0) : qz_N))), some (.inl a0), some (.inl a1), some (.inl a2), some (.inl x1), some (.inl (S.1 ((17, 0, 0) : qz_N) 6)), some (.inl (y6 + 1))]) rfl rfl rfl rfl ?_
      refine ei_go hb dX6_books_42 (pc' := 23) (by decide) ?_
      exact ih (y6 + 1) R4 _ h
set_option maxHeartbeats 4000000 in
theorem vM_books (F : Nat) (S : qz_S) (a0 : Int32) (a1 : Int32) (a2 : Int32) (r : Int32 × qz_S) (h : (gM_books F S a0 a1 a2) = some r) : qz_E 113 0 (qz_in0 113 [.inr (some ((6, 0, 0) : qz_N)), .inl a0, .inl a1, .inl a2]) [] (qz_mk S.1 S.2) (some (.inl r.1)) (qz_mk r.2.1 r.2.2) := by
  have hb : qz_b 113 = cX6_books := rfl
  have hcn : qz_cn 113 = 6 := rfl
  show qz_E 113 0 [some (.inr (some ((6, 0, 0) : qz_N))), some (.inl a0), some (.inl a1), some (.inl a2), none, none, none] [] _ _ _
  rw [gM_books] at h
  refine ei_aln hb dX6_books_0 (pc' := 1) rfl rfl ?_
  refine ei_iln hb dX6_books_1 (pc' := 2) rfl rfl ?_
  refine ei_iln hb dX6_books_2 (pc' := 3) rfl rfl ?_
  refine ei_iln hb dX6_books_3 (pc' := 4) rfl rfl ?_
  refine ei_b hb dX6_books_4 (v := (-5 : Int32)) (pc' := 6) (by decide) rfl ?_
  obtain ⟨x1, e2, h⟩ := Option.bind_eq_some_iff.mp h
  refine ei_cv hb dX6_books_6 (pc' := 9) (M1 := (qz_mk S.1 S.2)) (as := [.inl a1, .inl a0, .inl a2, .inl (-5 : Int32)]) (rest := []) (st' := [.inl x1]) hcn qz_c_6_79 qz_k_99 (qz_q_113_99) (Nat.le_of_ble_eq_true rfl) (Nat.le_of_ble_eq_true rfl) rfl rfl rfl (vM_reasonBut F S.1 S.2 a1 a0 a2 (-5 : Int32) _ e2) rfl rfl ?_
  refine ei_is hb dX6_books_9 (pc' := 11) (ls' := [some (.inr (some ((6, 0, 0) : qz_N))), some (.inl a0), some (.inl a1), some (.inl a2), some (.inl x1), none, none]) (Nat.le_of_ble_eq_true rfl) rfl rfl ?_
  refine ei_aln hb dX6_books_11 (pc' := 12) rfl rfl ?_
  refine ei_gr hb dX6_books_12 (pc' := 15) (x := some ((17, 0, 0) : qz_N)) hcn qz_f_6_7 rfl rfl rfl rfl ?_
  refine ei_b hb dX6_books_15 (v := (6 : Int32)) (pc' := 17) (by decide) rfl ?_
  refine ei_ia hb dX6_books_17 (pc' := 18) (x := (S.1 ((17, 0, 0) : qz_N) 6)) rfl (show qz_xi (6 : Int32) 283 = true by decide) rfl rfl ?_
  refine ei_is hb dX6_books_18 (pc' := 20) (ls' := [some (.inr (some ((6, 0, 0) : qz_N))), some (.inl a0), some (.inl a1), some (.inl a2), some (.inl x1), some (.inl (S.1 ((17, 0, 0) : qz_N) 6)), none]) (Nat.le_of_ble_eq_true rfl) rfl rfl ?_
  refine ei_c hb dX6_books_20 (v := (0 : Int32)) (pc' := 21) (by decide) rfl ?_
  refine ei_is hb dX6_books_21 (pc' := 23) (ls' := [some (.inr (some ((6, 0, 0) : qz_N))), some (.inl a0), some (.inl a1), some (.inl a2), some (.inl x1), some (.inl (S.1 ((17, 0, 0) : qz_N) 6)), some (.inl (0 : Int32))]) (Nat.le_of_ble_eq_true rfl) rfl rfl ?_
  refine vM_books_L23 F a0 a1 a2 S x1 _ ?_ F (0 : Int32) S _ h
  intro y66 T7 r h
  refine ei_aln hb dX6_books_45 (pc' := 46) rfl rfl ?_
  refine ei_il hb dX6_books_46 (pc' := 48) rfl rfl ?_
  refine ei_c hb dX6_books_48 (v := (0 : Int32)) (pc' := 49) (by decide) rfl ?_
  refine ei_aln hb dX6_books_49 (pc' := 50) rfl rfl ?_
  refine ei_gr hb dX6_books_50 (pc' := 53) (x := some ((17, 0, 0) : qz_N)) hcn qz_f_6_7 rfl rfl rfl rfl ?_
  refine ei_c hb dX6_books_53 (v := (5 : Int32)) (pc' := 54) (by decide) rfl ?_
  refine ei_ia hb dX6_books_54 (pc' := 55) (x := (T7.1 ((17, 0, 0) : qz_N) 5)) rfl (show qz_xi (5 : Int32) 283 = true by decide) rfl rfl ?_
  obtain ⟨R8, e9, h⟩ := Option.bind_eq_some_iff.mp h
  refine ei_cv hb dX6_books_55 (pc' := 58) (M1 := (qz_mk R8.1 R8.2)) (as := [.inl (S.1 ((17, 0, 0) : qz_N) 6), .inl (0 : Int32), .inl (T7.1 ((17, 0, 0) : qz_N) 5)]) (rest := []) (st' := []) hcn qz_c_6_82 qz_k_86 (qz_q_113_86) (Nat.le_of_ble_eq_true rfl) (Nat.le_of_ble_eq_true rfl) rfl rfl rfl (vM_lay F T7 (S.1 ((17, 0, 0) : qz_N) 6) (0 : Int32) (T7.1 ((17, 0, 0) : qz_N) 5) _ e9) rfl rfl ?_
  refine ei_aln hb dX6_books_58 (pc' := 59) rfl rfl ?_
  refine ei_il hb dX6_books_59 (pc' := 61) rfl rfl ?_
  refine ei_c hb dX6_books_61 (v := (1 : Int32)) (pc' := 62) (by decide) rfl ?_
  refine ei_iln hb dX6_books_62 (pc' := 63) rfl rfl ?_
  obtain ⟨R10, e11, h⟩ := Option.bind_eq_some_iff.mp h
  refine ei_cv hb dX6_books_63 (pc' := 66) (M1 := (qz_mk R10.1 R10.2)) (as := [.inl (S.1 ((17, 0, 0) : qz_N) 6), .inl (1 : Int32), .inl a0]) (rest := []) (st' := []) hcn qz_c_6_82 qz_k_86 (qz_q_113_86) (Nat.le_of_ble_eq_true rfl) (Nat.le_of_ble_eq_true rfl) rfl rfl rfl (vM_lay F R8 (S.1 ((17, 0, 0) : qz_N) 6) (1 : Int32) a0 _ e11) rfl rfl ?_
  refine ei_aln hb dX6_books_66 (pc' := 67) rfl rfl ?_
  refine ei_il hb dX6_books_67 (pc' := 69) rfl rfl ?_
  refine ei_c hb dX6_books_69 (v := (2 : Int32)) (pc' := 70) (by decide) rfl ?_
  refine ei_iln hb dX6_books_70 (pc' := 71) rfl rfl ?_
  obtain ⟨R12, e13, h⟩ := Option.bind_eq_some_iff.mp h
  refine ei_cv hb dX6_books_71 (pc' := 74) (M1 := (qz_mk R12.1 R12.2)) (as := [.inl (S.1 ((17, 0, 0) : qz_N) 6), .inl (2 : Int32), .inl a1]) (rest := []) (st' := []) hcn qz_c_6_82 qz_k_86 (qz_q_113_86) (Nat.le_of_ble_eq_true rfl) (Nat.le_of_ble_eq_true rfl) rfl rfl rfl (vM_lay F R10 (S.1 ((17, 0, 0) : qz_N) 6) (2 : Int32) a1 _ e13) rfl rfl ?_
  refine ei_aln hb dX6_books_74 (pc' := 75) rfl rfl ?_
  refine ei_il hb dX6_books_75 (pc' := 77) rfl rfl ?_
  refine ei_c hb dX6_books_77 (v := (3 : Int32)) (pc' := 78) (by decide) rfl ?_
  refine ei_iln hb dX6_books_78 (pc' := 79) rfl rfl ?_
  obtain ⟨R14, e15, h⟩ := Option.bind_eq_some_iff.mp h
  refine ei_cv hb dX6_books_79 (pc' := 82) (M1 := (qz_mk R14.1 R14.2)) (as := [.inl (S.1 ((17, 0, 0) : qz_N) 6), .inl (3 : Int32), .inl a2]) (rest := []) (st' := []) hcn qz_c_6_82 qz_k_86 (qz_q_113_86) (Nat.le_of_ble_eq_true rfl) (Nat.le_of_ble_eq_true rfl) rfl rfl rfl (vM_lay F R12 (S.1 ((17, 0, 0) : qz_N) 6) (3 : Int32) a2 _ e15) rfl rfl ?_
  refine ei_aln hb dX6_books_82 (pc' := 83) rfl rfl ?_
  refine ei_il hb dX6_books_83 (pc' := 85) rfl rfl ?_
  refine ei_c hb dX6_books_85 (v := (4 : Int32)) (pc' := 86) (by decide) rfl ?_
  refine ei_il hb dX6_books_86 (pc' := 88) rfl rfl ?_
  by_cases c16 : x1 = 0
  · rw [if_pos c16] at h
    refine ei_ifF hb dX6_books_88 (pc' := 91) (t := 95) (decide_eq_false (fun q => q c16)) (by decide) rfl ?_
    refine ei_c hb dX6_books_91 (v := (1 : Int32)) (pc' := 92) (by decide) rfl ?_
    refine ei_go hb dX6_books_92 (pc' := 96) (by decide) ?_
    obtain ⟨R17, e18, h⟩ := Option.bind_eq_some_iff.mp h
    refine ei_cv hb dX6_books_96 (pc' := 99) (M1 := (qz_mk R17.1 R17.2)) (as := [.inl (S.1 ((17, 0, 0) : qz_N) 6), .inl (4 : Int32), .inl (1 : Int32)]) (rest := []) (st' := []) hcn qz_c_6_82 qz_k_86 (qz_q_113_86) (Nat.le_of_ble_eq_true rfl) (Nat.le_of_ble_eq_true rfl) rfl rfl rfl (vM_lay F R14 (S.1 ((17, 0, 0) : qz_N) 6) (4 : Int32) (1 : Int32) _ e18) rfl rfl ?_
    refine ei_aln hb dX6_books_99 (pc' := 100) rfl rfl ?_
    refine ei_gr hb dX6_books_100 (pc' := 103) (x := some ((17, 0, 0) : qz_N)) hcn qz_f_6_7 rfl rfl rfl rfl ?_
    refine ei_b hb dX6_books_103 (v := (6 : Int32)) (pc' := 105) (by decide) rfl ?_
    refine ei_dup2 hb dX6_books_105 (pc' := 106) rfl ?_
    refine ei_ia hb dX6_books_106 (pc' := 107) (x := (R17.1 ((17, 0, 0) : qz_N) 6)) rfl (show qz_xi (6 : Int32) 283 = true by decide) rfl rfl ?_
    refine ei_c hb dX6_books_107 (v := (1 : Int32)) (pc' := 108) (by decide) rfl ?_
    refine ei_add hb dX6_books_108 (pc' := 109) rfl ?_
    obtain ⟨S19, eS19⟩ : ∃ q, q = qz_wr R17 ((17, 0, 0) : qz_N) 6 ((R17.1 ((17, 0, 0) : qz_N) 6) + (1 : Int32)) := ⟨_, rfl⟩
    rw [qz_let, ← eS19] at h
    refine ei_ist hb dX6_books_109 (pc' := 110) (M1 := (qz_mk S19.1 S19.2)) rfl (Nat.le_of_ble_eq_true rfl) (show qz_xi (6 : Int32) 283 = true by decide) (by rw [eS19]; rfl) rfl ?_
    refine ei_aln hb dX6_books_110 (pc' := 111) rfl rfl ?_
    refine ei_gr hb dX6_books_111 (pc' := 114) (x := some ((17, 0, 0) : qz_N)) hcn qz_f_6_7 rfl rfl rfl rfl ?_
    refine ei_c hb dX6_books_114 (v := (5 : Int32)) (pc' := 115) (by decide) rfl ?_
    refine ei_dup2 hb dX6_books_115 (pc' := 116) rfl ?_
    refine ei_ia hb dX6_books_116 (pc' := 117) (x := (S19.1 ((17, 0, 0) : qz_N) 5)) rfl (show qz_xi (5 : Int32) 283 = true by decide) rfl rfl ?_
    refine ei_c hb dX6_books_117 (v := (1 : Int32)) (pc' := 118) (by decide) rfl ?_
    refine ei_add hb dX6_books_118 (pc' := 119) rfl ?_
    obtain ⟨S20, eS20⟩ : ∃ q, q = qz_wr S19 ((17, 0, 0) : qz_N) 5 ((S19.1 ((17, 0, 0) : qz_N) 5) + (1 : Int32)) := ⟨_, rfl⟩
    rw [qz_let, ← eS20] at h
    refine ei_ist hb dX6_books_119 (pc' := 120) (M1 := (qz_mk S20.1 S20.2)) rfl (Nat.le_of_ble_eq_true rfl) (show qz_xi (5 : Int32) 283 = true by decide) (by rw [eS20]; rfl) rfl ?_
    refine ei_aln hb dX6_books_120 (pc' := 121) rfl rfl ?_
    refine ei_gr hb dX6_books_121 (pc' := 124) (x := some ((17, 0, 0) : qz_N)) hcn qz_f_6_7 rfl rfl rfl rfl ?_
    refine ei_c hb dX6_books_124 (v := (5 : Int32)) (pc' := 125) (by decide) rfl ?_
    refine ei_ia hb dX6_books_125 (pc' := 126) (x := (S20.1 ((17, 0, 0) : qz_N) 5)) rfl (show qz_xi (5 : Int32) 283 = true by decide) rfl rfl ?_
    refine ei_c hb dX6_books_126 (v := (1 : Int32)) (pc' := 127) (by decide) rfl ?_
    refine ei_sub hb dX6_books_127 (pc' := 128) rfl ?_
    have h := Option.some.inj h
    subst h
    exact ei_reti hb dX6_books_128 rfl
  · rw [if_neg c16] at h
    refine ei_ifT hb dX6_books_88 (pc' := 95) (decide_eq_true c16) (by decide) ?_
    refine ei_c hb dX6_books_95 (v := (0 : Int32)) (pc' := 96) (by decide) rfl ?_
    obtain ⟨R21, e22, h⟩ := Option.bind_eq_some_iff.mp h
    refine ei_cv hb dX6_books_96 (pc' := 99) (M1 := (qz_mk R21.1 R21.2)) (as := [.inl (S.1 ((17, 0, 0) : qz_N) 6), .inl (4 : Int32), .inl (0 : Int32)]) (rest := []) (st' := []) hcn qz_c_6_82 qz_k_86 (qz_q_113_86) (Nat.le_of_ble_eq_true rfl) (Nat.le_of_ble_eq_true rfl) rfl rfl rfl (vM_lay F R14 (S.1 ((17, 0, 0) : qz_N) 6) (4 : Int32) (0 : Int32) _ e22) rfl rfl ?_
    refine ei_aln hb dX6_books_99 (pc' := 100) rfl rfl ?_
    refine ei_gr hb dX6_books_100 (pc' := 103) (x := some ((17, 0, 0) : qz_N)) hcn qz_f_6_7 rfl rfl rfl rfl ?_
    refine ei_b hb dX6_books_103 (v := (6 : Int32)) (pc' := 105) (by decide) rfl ?_
    refine ei_dup2 hb dX6_books_105 (pc' := 106) rfl ?_
    refine ei_ia hb dX6_books_106 (pc' := 107) (x := (R21.1 ((17, 0, 0) : qz_N) 6)) rfl (show qz_xi (6 : Int32) 283 = true by decide) rfl rfl ?_
    refine ei_c hb dX6_books_107 (v := (1 : Int32)) (pc' := 108) (by decide) rfl ?_
    refine ei_add hb dX6_books_108 (pc' := 109) rfl ?_
    obtain ⟨S23, eS23⟩ : ∃ q, q = qz_wr R21 ((17, 0, 0) : qz_N) 6 ((R21.1 ((17, 0, 0) : qz_N) 6) + (1 : Int32)) := ⟨_, rfl⟩
    rw [qz_let, ← eS23] at h
    refine ei_ist hb dX6_books_109 (pc' := 110) (M1 := (qz_mk S23.1 S23.2)) rfl (Nat.le_of_ble_eq_true rfl) (show qz_xi (6 : Int32) 283 = true by decide) (by rw [eS23]; rfl) rfl ?_
    refine ei_aln hb dX6_books_110 (pc' := 111) rfl rfl ?_
    refine ei_gr hb dX6_books_111 (pc' := 114) (x := some ((17, 0, 0) : qz_N)) hcn qz_f_6_7 rfl rfl rfl rfl ?_
    refine ei_c hb dX6_books_114 (v := (5 : Int32)) (pc' := 115) (by decide) rfl ?_
    refine ei_dup2 hb dX6_books_115 (pc' := 116) rfl ?_
    refine ei_ia hb dX6_books_116 (pc' := 117) (x := (S23.1 ((17, 0, 0) : qz_N) 5)) rfl (show qz_xi (5 : Int32) 283 = true by decide) rfl rfl ?_
    refine ei_c hb dX6_books_117 (v := (1 : Int32)) (pc' := 118) (by decide) rfl ?_
    refine ei_add hb dX6_books_118 (pc' := 119) rfl ?_
    obtain ⟨S24, eS24⟩ : ∃ q, q = qz_wr S23 ((17, 0, 0) : qz_N) 5 ((S23.1 ((17, 0, 0) : qz_N) 5) + (1 : Int32)) := ⟨_, rfl⟩
    rw [qz_let, ← eS24] at h
    refine ei_ist hb dX6_books_119 (pc' := 120) (M1 := (qz_mk S24.1 S24.2)) rfl (Nat.le_of_ble_eq_true rfl) (show qz_xi (5 : Int32) 283 = true by decide) (by rw [eS24]; rfl) rfl ?_
    refine ei_aln hb dX6_books_120 (pc' := 121) rfl rfl ?_
    refine ei_gr hb dX6_books_121 (pc' := 124) (x := some ((17, 0, 0) : qz_N)) hcn qz_f_6_7 rfl rfl rfl rfl ?_
    refine ei_c hb dX6_books_124 (v := (5 : Int32)) (pc' := 125) (by decide) rfl ?_
    refine ei_ia hb dX6_books_125 (pc' := 126) (x := (S24.1 ((17, 0, 0) : qz_N) 5)) rfl (show qz_xi (5 : Int32) 283 = true by decide) rfl rfl ?_
    refine ei_c hb dX6_books_126 (v := (1 : Int32)) (pc' := 127) (by decide) rfl ?_
    refine ei_sub hb dX6_books_127 (pc' := 128) rfl ?_
    have h := Option.some.inj h
    subst h
    exact ei_reti hb dX6_books_128 rfl
def gM_book (F : Nat) (S : qz_S) (a0 : Int32) (a1 : Int32) (a2 : Int32) : Option (Int32 × qz_S) :=
  qz_let (qz_wr S ((6, 0, 0) : qz_N) 0 (0 : Int32)) fun S1 => Option.bind (gM_isEnd F S1.1 a0) fun x2 => if x2 = 0 then (some ((-1 : Int32), S1)) else (if (gM_isLine S1.1 a1) = 0 then (some ((-1 : Int32), S1)) else (if (gM_isStop S1.1 a2) = 0 then (some ((-1 : Int32), S1)) else (if (S1.1 ((17, 0, 0) : qz_N) 6) = (30 : Int32) then (some ((-3 : Int32), S1)) else (Option.bind (gM_records F S1) fun R8 => Option.bind (gM_books F R8 a0 a1 a2) fun R10 => some (R10.1, R10.2)))))
set_option maxHeartbeats 4000000 in
theorem vM_book (F : Nat) (S : qz_S) (a0 : Int32) (a1 : Int32) (a2 : Int32) (r : Int32 × qz_S) (h : (gM_book F S a0 a1 a2) = some r) : qz_E 114 0 (qz_in0 114 [.inr (some ((6, 0, 0) : qz_N)), .inl a0, .inl a1, .inl a2]) [] (qz_mk S.1 S.2) (some (.inl r.1)) (qz_mk r.2.1 r.2.2) := by
  have hb : qz_b 114 = cX6_book := rfl
  have hcn : qz_cn 114 = 6 := rfl
  show qz_E 114 0 [some (.inr (some ((6, 0, 0) : qz_N))), some (.inl a0), some (.inl a1), some (.inl a2)] [] _ _ _
  rw [gM_book] at h
  refine ei_aln hb dX6_book_0 (pc' := 1) rfl rfl ?_
  refine ei_c hb dX6_book_1 (v := (0 : Int32)) (pc' := 2) (by decide) rfl ?_
  obtain ⟨S1, eS1⟩ : ∃ q, q = qz_wr S ((6, 0, 0) : qz_N) 0 (0 : Int32) := ⟨_, rfl⟩
  rw [qz_let, ← eS1] at h
  refine ei_pi hb dX6_book_2 (pc' := 5) (M1 := (qz_mk S1.1 S1.2)) hcn qz_f_6_32 rfl rfl (fun q => by cases q) rfl (by rw [eS1]; rfl) rfl ?_
  refine ei_aln hb dX6_book_5 (pc' := 6) rfl rfl ?_
  refine ei_iln hb dX6_book_6 (pc' := 7) rfl rfl ?_
  obtain ⟨x2, e3, h⟩ := Option.bind_eq_some_iff.mp h
  refine ei_cv hb dX6_book_7 (pc' := 10) (M1 := (qz_mk S1.1 S1.2)) (as := [.inl a0]) (rest := []) (st' := [.inl x2]) hcn qz_c_6_60 qz_k_87 (qz_q_114_87) (Nat.le_of_ble_eq_true rfl) (Nat.le_of_ble_eq_true rfl) rfl rfl rfl (vM_isEnd F S1.1 S1.2 a0 _ e3) rfl rfl ?_
  by_cases c4 : x2 = 0
  · rw [if_pos c4] at h
    refine ei_ifT hb dX6_book_10 (pc' := 27) (decide_eq_true c4) (by decide) ?_
    refine ei_c hb dX6_book_27 (v := (-1 : Int32)) (pc' := 28) (by decide) rfl ?_
    have h := Option.some.inj h
    subst h
    exact ei_reti hb dX6_book_28 rfl
  · rw [if_neg c4] at h
    refine ei_ifF hb dX6_book_10 (pc' := 13) (t := 27) (decide_eq_false c4) (by decide) rfl ?_
    refine ei_iln hb dX6_book_13 (pc' := 14) rfl rfl ?_
    refine ei_cs hb dX6_book_14 (pc' := 17) (M1 := (qz_mk S1.1 S1.2)) (as := [.inl a1]) (rest := []) (st' := [.inl (gM_isLine S1.1 a1)]) hcn qz_c_6_112 rfl qz_k_88 (qz_q_114_88) (Nat.le_of_ble_eq_true rfl) (Nat.le_of_ble_eq_true rfl) rfl rfl (vM_isLine S1.1 S1.2 a1) rfl rfl ?_
    by_cases c5 : (gM_isLine S1.1 a1) = 0
    · rw [if_pos c5] at h
      refine ei_ifT hb dX6_book_17 (pc' := 27) (decide_eq_true c5) (by decide) ?_
      refine ei_c hb dX6_book_27 (v := (-1 : Int32)) (pc' := 28) (by decide) rfl ?_
      have h := Option.some.inj h
      subst h
      exact ei_reti hb dX6_book_28 rfl
    · rw [if_neg c5] at h
      refine ei_ifF hb dX6_book_17 (pc' := 20) (t := 27) (decide_eq_false c5) (by decide) rfl ?_
      refine ei_iln hb dX6_book_20 (pc' := 21) rfl rfl ?_
      refine ei_cs hb dX6_book_21 (pc' := 24) (M1 := (qz_mk S1.1 S1.2)) (as := [.inl a2]) (rest := []) (st' := [.inl (gM_isStop S1.1 a2)]) hcn qz_c_6_115 rfl qz_k_89 (qz_q_114_89) (Nat.le_of_ble_eq_true rfl) (Nat.le_of_ble_eq_true rfl) rfl rfl (vM_isStop S1.1 S1.2 a2) rfl rfl ?_
      by_cases c6 : (gM_isStop S1.1 a2) = 0
      · rw [if_pos c6] at h
        refine ei_ifF hb dX6_book_24 (pc' := 27) (t := 29) (decide_eq_false (fun q => q c6)) (by decide) rfl ?_
        refine ei_c hb dX6_book_27 (v := (-1 : Int32)) (pc' := 28) (by decide) rfl ?_
        have h := Option.some.inj h
        subst h
        exact ei_reti hb dX6_book_28 rfl
      · rw [if_neg c6] at h
        refine ei_ifT hb dX6_book_24 (pc' := 29) (decide_eq_true c6) (by decide) ?_
        refine ei_aln hb dX6_book_29 (pc' := 30) rfl rfl ?_
        refine ei_gr hb dX6_book_30 (pc' := 33) (x := some ((17, 0, 0) : qz_N)) hcn qz_f_6_7 rfl rfl rfl rfl ?_
        refine ei_b hb dX6_book_33 (v := (6 : Int32)) (pc' := 35) (by decide) rfl ?_
        refine ei_ia hb dX6_book_35 (pc' := 36) (x := (S1.1 ((17, 0, 0) : qz_N) 6)) rfl (show qz_xi (6 : Int32) 283 = true by decide) rfl rfl ?_
        refine ei_b hb dX6_book_36 (v := (30 : Int32)) (pc' := 38) (by decide) rfl ?_
        by_cases c7 : (S1.1 ((17, 0, 0) : qz_N) 6) = (30 : Int32)
        · rw [if_pos c7] at h
          refine ei_icF hb dX6_book_38 (pc' := 41) (t := 44) (decide_eq_false (fun q => q c7)) (by decide) rfl ?_
          refine ei_b hb dX6_book_41 (v := (-3 : Int32)) (pc' := 43) (by decide) rfl ?_
          have h := Option.some.inj h
          subst h
          exact ei_reti hb dX6_book_43 rfl
        · rw [if_neg c7] at h
          refine ei_icT hb dX6_book_38 (pc' := 44) (decide_eq_true c7) (by decide) ?_
          refine ei_aln hb dX6_book_44 (pc' := 45) rfl rfl ?_
          obtain ⟨R8, e9, h⟩ := Option.bind_eq_some_iff.mp h
          refine ei_cv hb dX6_book_45 (pc' := 48) (M1 := (qz_mk R8.1 R8.2)) (as := []) (rest := []) (st' := []) hcn qz_c_6_109 qz_k_93 (qz_q_114_93) (Nat.le_of_ble_eq_true rfl) (Nat.le_of_ble_eq_true rfl) rfl rfl rfl (vM_records F S1 _ e9) rfl rfl ?_
          refine ei_aln hb dX6_book_48 (pc' := 49) rfl rfl ?_
          refine ei_iln hb dX6_book_49 (pc' := 50) rfl rfl ?_
          refine ei_iln hb dX6_book_50 (pc' := 51) rfl rfl ?_
          refine ei_iln hb dX6_book_51 (pc' := 52) rfl rfl ?_
          obtain ⟨R10, e11, h⟩ := Option.bind_eq_some_iff.mp h
          refine ei_cv hb dX6_book_52 (pc' := 55) (M1 := (qz_mk R10.2.1 R10.2.2)) (as := [.inl a0, .inl a1, .inl a2]) (rest := []) (st' := [.inl R10.1]) hcn qz_c_6_118 qz_k_113 (qz_q_114_113) (Nat.le_of_ble_eq_true rfl) (Nat.le_of_ble_eq_true rfl) rfl rfl rfl (vM_books F R8 a0 a1 a2 _ e11) rfl rfl ?_
          have h := Option.some.inj h
          subst h
          exact ei_reti hb dX6_book_55 rfl
def gM_sign (F : Nat) (f : qz_F)  : Option (Int32) :=
  if (f ((6, 0, 0) : qz_N) 7) ≤ (f ((6, 0, 0) : qz_N) 11) then (some (0 : Int32)) else (if qz_xi (f ((6, 0, 0) : qz_N) 11) 60 = true then (some (f ((20, 0, 0) : qz_N) ((f ((6, 0, 0) : qz_N) 11)).toNatClampNeg)) else none)
set_option maxHeartbeats 4000000 in
theorem vM_sign (F : Nat) (f : qz_F) (p : Nat → Nat)  (r : Int32) (h : (gM_sign F f) = some r) : qz_E 126 0 (qz_in0 126 [.inr (some ((6, 0, 0) : qz_N))]) [] (qz_mk f p) (some (.inl r)) (qz_mk f p) := by
  have hb : qz_b 126 = cX6_sign := rfl
  have hcn : qz_cn 126 = 6 := rfl
  show qz_E 126 0 [some (.inr (some ((6, 0, 0) : qz_N)))] [] _ _ _
  rw [gM_sign] at h
  refine ei_aln hb dX6_sign_0 (pc' := 1) rfl rfl ?_
  refine ei_gi hb dX6_sign_1 (pc' := 4) (x := (f ((6, 0, 0) : qz_N) 11)) hcn qz_f_6_155 rfl rfl rfl rfl ?_
  refine ei_aln hb dX6_sign_4 (pc' := 5) rfl rfl ?_
  refine ei_gi hb dX6_sign_5 (pc' := 8) (x := (f ((6, 0, 0) : qz_N) 7)) hcn qz_f_6_152 rfl rfl rfl rfl ?_
  by_cases c1 : (f ((6, 0, 0) : qz_N) 7) ≤ (f ((6, 0, 0) : qz_N) 11)
  · rw [if_pos c1] at h
    refine ei_icT hb dX6_sign_8 (pc' := 23) (decide_eq_true c1) (by decide) ?_
    refine ei_c hb dX6_sign_23 (v := (0 : Int32)) (pc' := 24) (by decide) rfl ?_
    have h := Option.some.inj h
    subst h
    exact ei_reti hb dX6_sign_24 rfl
  · rw [if_neg c1] at h
    refine ei_icF hb dX6_sign_8 (pc' := 11) (t := 23) (decide_eq_false c1) (by decide) rfl ?_
    refine ei_aln hb dX6_sign_11 (pc' := 12) rfl rfl ?_
    refine ei_gr hb dX6_sign_12 (pc' := 15) (x := some ((20, 0, 0) : qz_N)) hcn qz_f_6_19 rfl rfl rfl rfl ?_
    refine ei_aln hb dX6_sign_15 (pc' := 16) rfl rfl ?_
    refine ei_gi hb dX6_sign_16 (pc' := 19) (x := (f ((6, 0, 0) : qz_N) 11)) hcn qz_f_6_155 rfl rfl rfl rfl ?_
    by_cases c2 : qz_xi (f ((6, 0, 0) : qz_N) 11) 60 = true
    · rw [if_pos c2] at h
      refine ei_ia hb dX6_sign_19 (pc' := 20) (x := (f ((20, 0, 0) : qz_N) ((f ((6, 0, 0) : qz_N) 11)).toNatClampNeg)) rfl c2 rfl rfl ?_
      refine ei_go hb dX6_sign_20 (pc' := 24) (by decide) ?_
      have h := Option.some.inj h
      subst h
      exact ei_reti hb dX6_sign_24 rfl
    · rw [if_neg c2] at h
      cases h
def gM_readsStop (F : Nat) (S : qz_S) (a0 : Int32) (a1 : Int32) : Option (qz_S) :=
  if qz_xi ((3 : Int32) * (S.1 ((6, 0, 0) : qz_N) 14)) 180 = true then (qz_let (qz_wr S ((23, 0, 0) : qz_N) (((3 : Int32) * (S.1 ((6, 0, 0) : qz_N) 14))).toNatClampNeg a0) fun S2 => if qz_xi (((3 : Int32) * (S2.1 ((6, 0, 0) : qz_N) 14)) + (1 : Int32)) 180 = true then (qz_let (qz_wr S2 ((23, 0, 0) : qz_N) ((((3 : Int32) * (S2.1 ((6, 0, 0) : qz_N) 14)) + (1 : Int32))).toNatClampNeg a1) fun S4 => Option.bind (gM_sign F S4.1) fun x5 => if qz_xi (((3 : Int32) * (S4.1 ((6, 0, 0) : qz_N) 14)) + (2 : Int32)) 180 = true then (qz_let (qz_wr S4 ((23, 0, 0) : qz_N) ((((3 : Int32) * (S4.1 ((6, 0, 0) : qz_N) 14)) + (2 : Int32))).toNatClampNeg (x5 - (48 : Int32))) fun S8 => qz_let (qz_wr S8 ((6, 0, 0) : qz_N) 14 ((S8.1 ((6, 0, 0) : qz_N) 14) + (1 : Int32))) fun S9 => qz_let (qz_wr S9 ((6, 0, 0) : qz_N) 11 ((S9.1 ((6, 0, 0) : qz_N) 11) + (1 : Int32))) fun S10 => some S10) else none) else none) else none
set_option maxHeartbeats 4000000 in
theorem vM_readsStop (F : Nat) (S : qz_S) (a0 : Int32) (a1 : Int32) (r : qz_S) (h : (gM_readsStop F S a0 a1) = some r) : qz_E 127 0 (qz_in0 127 [.inr (some ((6, 0, 0) : qz_N)), .inl a0, .inl a1]) [] (qz_mk S.1 S.2) none (qz_mk r.1 r.2) := by
  have hb : qz_b 127 = cX6_readsStop := rfl
  have hcn : qz_cn 127 = 6 := rfl
  show qz_E 127 0 [some (.inr (some ((6, 0, 0) : qz_N))), some (.inl a0), some (.inl a1)] [] _ _ _
  rw [gM_readsStop] at h
  refine ei_aln hb dX6_readsStop_0 (pc' := 1) rfl rfl ?_
  refine ei_gr hb dX6_readsStop_1 (pc' := 4) (x := some ((23, 0, 0) : qz_N)) hcn qz_f_6_29 rfl rfl rfl rfl ?_
  refine ei_c hb dX6_readsStop_4 (v := (3 : Int32)) (pc' := 5) (by decide) rfl ?_
  refine ei_aln hb dX6_readsStop_5 (pc' := 6) rfl rfl ?_
  refine ei_gi hb dX6_readsStop_6 (pc' := 9) (x := (S.1 ((6, 0, 0) : qz_N) 14)) hcn qz_f_6_124 rfl rfl rfl rfl ?_
  refine ei_mul hb dX6_readsStop_9 (pc' := 10) rfl ?_
  refine ei_iln hb dX6_readsStop_10 (pc' := 11) rfl rfl ?_
  by_cases c1 : qz_xi ((3 : Int32) * (S.1 ((6, 0, 0) : qz_N) 14)) 180 = true
  · rw [if_pos c1] at h
    obtain ⟨S2, eS2⟩ : ∃ q, q = qz_wr S ((23, 0, 0) : qz_N) (((3 : Int32) * (S.1 ((6, 0, 0) : qz_N) 14))).toNatClampNeg a0 := ⟨_, rfl⟩
    rw [qz_let, ← eS2] at h
    refine ei_ist hb dX6_readsStop_11 (pc' := 12) (M1 := (qz_mk S2.1 S2.2)) rfl (Nat.le_of_ble_eq_true rfl) c1 (by rw [eS2]; rfl) rfl ?_
    refine ei_aln hb dX6_readsStop_12 (pc' := 13) rfl rfl ?_
    refine ei_gr hb dX6_readsStop_13 (pc' := 16) (x := some ((23, 0, 0) : qz_N)) hcn qz_f_6_29 rfl rfl rfl rfl ?_
    refine ei_c hb dX6_readsStop_16 (v := (3 : Int32)) (pc' := 17) (by decide) rfl ?_
    refine ei_aln hb dX6_readsStop_17 (pc' := 18) rfl rfl ?_
    refine ei_gi hb dX6_readsStop_18 (pc' := 21) (x := (S2.1 ((6, 0, 0) : qz_N) 14)) hcn qz_f_6_124 rfl rfl rfl rfl ?_
    refine ei_mul hb dX6_readsStop_21 (pc' := 22) rfl ?_
    refine ei_c hb dX6_readsStop_22 (v := (1 : Int32)) (pc' := 23) (by decide) rfl ?_
    refine ei_add hb dX6_readsStop_23 (pc' := 24) rfl ?_
    refine ei_iln hb dX6_readsStop_24 (pc' := 25) rfl rfl ?_
    by_cases c3 : qz_xi (((3 : Int32) * (S2.1 ((6, 0, 0) : qz_N) 14)) + (1 : Int32)) 180 = true
    · rw [if_pos c3] at h
      obtain ⟨S4, eS4⟩ : ∃ q, q = qz_wr S2 ((23, 0, 0) : qz_N) ((((3 : Int32) * (S2.1 ((6, 0, 0) : qz_N) 14)) + (1 : Int32))).toNatClampNeg a1 := ⟨_, rfl⟩
      rw [qz_let, ← eS4] at h
      refine ei_ist hb dX6_readsStop_25 (pc' := 26) (M1 := (qz_mk S4.1 S4.2)) rfl (Nat.le_of_ble_eq_true rfl) c3 (by rw [eS4]; rfl) rfl ?_
      refine ei_aln hb dX6_readsStop_26 (pc' := 27) rfl rfl ?_
      refine ei_gr hb dX6_readsStop_27 (pc' := 30) (x := some ((23, 0, 0) : qz_N)) hcn qz_f_6_29 rfl rfl rfl rfl ?_
      refine ei_c hb dX6_readsStop_30 (v := (3 : Int32)) (pc' := 31) (by decide) rfl ?_
      refine ei_aln hb dX6_readsStop_31 (pc' := 32) rfl rfl ?_
      refine ei_gi hb dX6_readsStop_32 (pc' := 35) (x := (S4.1 ((6, 0, 0) : qz_N) 14)) hcn qz_f_6_124 rfl rfl rfl rfl ?_
      refine ei_mul hb dX6_readsStop_35 (pc' := 36) rfl ?_
      refine ei_c hb dX6_readsStop_36 (v := (2 : Int32)) (pc' := 37) (by decide) rfl ?_
      refine ei_add hb dX6_readsStop_37 (pc' := 38) rfl ?_
      refine ei_aln hb dX6_readsStop_38 (pc' := 39) rfl rfl ?_
      obtain ⟨x5, e6, h⟩ := Option.bind_eq_some_iff.mp h
      refine ei_cv hb dX6_readsStop_39 (pc' := 42) (M1 := (qz_mk S4.1 S4.2)) (as := []) (rest := [.inl (((3 : Int32) * (S4.1 ((6, 0, 0) : qz_N) 14)) + (2 : Int32)), .inr (some ((23, 0, 0) : qz_N))]) (st' := [.inl x5, .inl (((3 : Int32) * (S4.1 ((6, 0, 0) : qz_N) 14)) + (2 : Int32)), .inr (some ((23, 0, 0) : qz_N))]) hcn qz_c_6_158 qz_k_126 (qz_q_127_126) (Nat.le_of_ble_eq_true rfl) (Nat.le_of_ble_eq_true rfl) rfl rfl rfl (vM_sign F S4.1 S4.2 _ e6) rfl rfl ?_
      refine ei_b hb dX6_readsStop_42 (v := (48 : Int32)) (pc' := 44) (by decide) rfl ?_
      refine ei_sub hb dX6_readsStop_44 (pc' := 45) rfl ?_
      by_cases c7 : qz_xi (((3 : Int32) * (S4.1 ((6, 0, 0) : qz_N) 14)) + (2 : Int32)) 180 = true
      · rw [if_pos c7] at h
        obtain ⟨S8, eS8⟩ : ∃ q, q = qz_wr S4 ((23, 0, 0) : qz_N) ((((3 : Int32) * (S4.1 ((6, 0, 0) : qz_N) 14)) + (2 : Int32))).toNatClampNeg (x5 - (48 : Int32)) := ⟨_, rfl⟩
        rw [qz_let, ← eS8] at h
        refine ei_ist hb dX6_readsStop_45 (pc' := 46) (M1 := (qz_mk S8.1 S8.2)) rfl (Nat.le_of_ble_eq_true rfl) c7 (by rw [eS8]; rfl) rfl ?_
        refine ei_aln hb dX6_readsStop_46 (pc' := 47) rfl rfl ?_
        refine ei_dup hb dX6_readsStop_47 (pc' := 48) rfl ?_
        refine ei_gi hb dX6_readsStop_48 (pc' := 51) (x := (S8.1 ((6, 0, 0) : qz_N) 14)) hcn qz_f_6_124 rfl rfl rfl rfl ?_
        refine ei_c hb dX6_readsStop_51 (v := (1 : Int32)) (pc' := 52) (by decide) rfl ?_
        refine ei_add hb dX6_readsStop_52 (pc' := 53) rfl ?_
        obtain ⟨S9, eS9⟩ : ∃ q, q = qz_wr S8 ((6, 0, 0) : qz_N) 14 ((S8.1 ((6, 0, 0) : qz_N) 14) + (1 : Int32)) := ⟨_, rfl⟩
        rw [qz_let, ← eS9] at h
        refine ei_pi hb dX6_readsStop_53 (pc' := 56) (M1 := (qz_mk S9.1 S9.2)) hcn qz_f_6_124 rfl rfl (fun q => by cases q) rfl (by rw [eS9]; rfl) rfl ?_
        refine ei_aln hb dX6_readsStop_56 (pc' := 57) rfl rfl ?_
        refine ei_dup hb dX6_readsStop_57 (pc' := 58) rfl ?_
        refine ei_gi hb dX6_readsStop_58 (pc' := 61) (x := (S9.1 ((6, 0, 0) : qz_N) 11)) hcn qz_f_6_155 rfl rfl rfl rfl ?_
        refine ei_c hb dX6_readsStop_61 (v := (1 : Int32)) (pc' := 62) (by decide) rfl ?_
        refine ei_add hb dX6_readsStop_62 (pc' := 63) rfl ?_
        obtain ⟨S10, eS10⟩ : ∃ q, q = qz_wr S9 ((6, 0, 0) : qz_N) 11 ((S9.1 ((6, 0, 0) : qz_N) 11) + (1 : Int32)) := ⟨_, rfl⟩
        rw [qz_let, ← eS10] at h
        refine ei_pi hb dX6_readsStop_63 (pc' := 66) (M1 := (qz_mk S10.1 S10.2)) hcn qz_f_6_155 rfl rfl (fun q => by cases q) rfl (by rw [eS10]; rfl) rfl ?_
        have h := Option.some.inj h
        subst h
        exact ei_retv hb dX6_readsStop_66 rfl
      · rw [if_neg c7] at h
        cases h
    · rw [if_neg c3] at h
      cases h
  · rw [if_neg c1] at h
    cases h
def gM_readsBooking_L128 (F : Nat) (x5 : Int32) (x9 : Int32) (K : (qz_S → Option (qz_S))) : Nat → qz_S → Option (qz_S)
  | 0, _ => none
  | n + 1, T => if (T.1 ((6, 0, 0) : qz_N) 12) = 0 then (K T) else (Option.bind (gM_sign F T.1) fun x18 => if (gM_in T.1 x18 (49 : Int32) (57 : Int32)) = 0 then (K T) else (Option.bind (gM_readsStop F T (x5 - (48 : Int32)) (x9 - (97 : Int32))) fun R21 => (gM_readsBooking_L128 F x5 x9 K) n R21))
def gM_readsBooking_L128b (F : Nat) (x5 : Int32) (x9 : Int32) (K : (qz_S → Option (qz_S))) : Nat → qz_S → Option (qz_S)
  | 0, _ => none
  | n + 1, T => if (T.1 ((6, 0, 0) : qz_N) 12) = 0 then (K T) else (Option.bind (gM_sign F T.1) fun x29 => if (gM_in T.1 x29 (49 : Int32) (57 : Int32)) = 0 then (K T) else (Option.bind (gM_readsStop F T (x5 - (48 : Int32)) (x9 - (97 : Int32))) fun R32 => (gM_readsBooking_L128b F x5 x9 K) n R32))
def gM_readsBooking_L128bb (F : Nat) (x5 : Int32) (x9 : Int32) (K : (qz_S → Option (qz_S))) : Nat → qz_S → Option (qz_S)
  | 0, _ => none
  | n + 1, T => if (T.1 ((6, 0, 0) : qz_N) 12) = 0 then (K T) else (Option.bind (gM_sign F T.1) fun x37 => if (gM_in T.1 x37 (49 : Int32) (57 : Int32)) = 0 then (K T) else (Option.bind (gM_readsStop F T (x5 - (48 : Int32)) (x9 - (97 : Int32))) fun R40 => (gM_readsBooking_L128bb F x5 x9 K) n R40))
def gM_readsBooking_L128bbb (F : Nat) (x5 : Int32) (x9 : Int32) (K : (qz_S → Option (qz_S))) : Nat → qz_S → Option (qz_S)
  | 0, _ => none
  | n + 1, T => if (T.1 ((6, 0, 0) : qz_N) 12) = 0 then (K T) else (Option.bind (gM_sign F T.1) fun x47 => if (gM_in T.1 x47 (49 : Int32) (57 : Int32)) = 0 then (K T) else (Option.bind (gM_readsStop F T (x5 - (48 : Int32)) (x9 - (97 : Int32))) fun R50 => (gM_readsBooking_L128bbb F x5 x9 K) n R50))
def gM_readsBooking_L128bbbb (F : Nat) (x5 : Int32) (x9 : Int32) (K : (qz_S → Option (qz_S))) : Nat → qz_S → Option (qz_S)
  | 0, _ => none
  | n + 1, T => if (T.1 ((6, 0, 0) : qz_N) 12) = 0 then (K T) else (Option.bind (gM_sign F T.1) fun x58 => if (gM_in T.1 x58 (49 : Int32) (57 : Int32)) = 0 then (K T) else (Option.bind (gM_readsStop F T (x5 - (48 : Int32)) (x9 - (97 : Int32))) fun R61 => (gM_readsBooking_L128bbbb F x5 x9 K) n R61))
def gM_readsBooking_L128bbbbb (F : Nat) (x5 : Int32) (x9 : Int32) (K : (qz_S → Option (qz_S))) : Nat → qz_S → Option (qz_S)
  | 0, _ => none
  | n + 1, T => if (T.1 ((6, 0, 0) : qz_N) 12) = 0 then (K T) else (Option.bind (gM_sign F T.1) fun x66 => if (gM_in T.1 x66 (49 : Int32) (57 : Int32)) = 0 then (K T) else (Option.bind (gM_readsStop F T (x5 - (48 : Int32)) (x9 - (97 : Int32))) fun R69 => (gM_readsBooking_L128bbbbb F x5 x9 K) n R69))
def gM_readsBooking_L128bbbbbb (F : Nat) (x5 : Int32) (x9 : Int32) (K : (qz_S → Option (qz_S))) : Nat → qz_S → Option (qz_S)
  | 0, _ => none
  | n + 1, T => if (T.1 ((6, 0, 0) : qz_N) 12) = 0 then (K T) else (Option.bind (gM_sign F T.1) fun x79 => if (gM_in T.1 x79 (49 : Int32) (57 : Int32)) = 0 then (K T) else (Option.bind (gM_readsStop F T (x5 - (48 : Int32)) (x9 - (97 : Int32))) fun R82 => (gM_readsBooking_L128bbbbbb F x5 x9 K) n R82))
def gM_readsBooking_L128bbbbbbb (F : Nat) (x5 : Int32) (x9 : Int32) (K : (qz_S → Option (qz_S))) : Nat → qz_S → Option (qz_S)
  | 0, _ => none
  | n + 1, T => if (T.1 ((6, 0, 0) : qz_N) 12) = 0 then (K T) else (Option.bind (gM_sign F T.1) fun x90 => if (gM_in T.1 x90 (49 : Int32) (57 : Int32)) = 0 then (K T) else (Option.bind (gM_readsStop F T (x5 - (48 : Int32)) (x9 - (97 : Int32))) fun R93 => (gM_readsBooking_L128bbbbbbb F x5 x9 K) n R93))
def gM_readsBooking_L128bbbbbbbb (F : Nat) (x5 : Int32) (x9 : Int32) (K : (qz_S → Option (qz_S))) : Nat → qz_S → Option (qz_S)
  | 0, _ => none
  | n + 1, T => if (T.1 ((6, 0, 0) : qz_N) 12) = 0 then (K T) else (Option.bind (gM_sign F T.1) fun x98 => if (gM_in T.1 x98 (49 : Int32) (57 : Int32)) = 0 then (K T) else (Option.bind (gM_readsStop F T (x5 - (48 : Int32)) (x9 - (97 : Int32))) fun R101 => (gM_readsBooking_L128bbbbbbbb F x5 x9 K) n R101))
def gM_readsBooking_L128bbbbbbbbb (F : Nat) (x5 : Int32) (x9 : Int32) (K : (qz_S → Option (qz_S))) : Nat → qz_S → Option (qz_S)
  | 0, _ => none
  | n + 1, T => if (T.1 ((6, 0, 0) : qz_N) 12) = 0 then (K T) else (Option.bind (gM_sign F T.1) fun x108 => if (gM_in T.1 x108 (49 : Int32) (57 : Int32)) = 0 then (K T) else (Option.bind (gM_readsStop F T (x5 - (48 : Int32)) (x9 - (97 : Int32))) fun R111 => (gM_readsBooking_L128bbbbbbbbb F x5 x9 K) n R111))
def gM_readsBooking_L128bbbbbbbbbb (F : Nat) (x5 : Int32) (x9 : Int32) (K : (qz_S → Option (qz_S))) : Nat → qz_S → Option (qz_S)
  | 0, _ => none
  | n + 1, T => if (T.1 ((6, 0, 0) : qz_N) 12) = 0 then (K T) else (Option.bind (gM_sign F T.1) fun x119 => if (gM_in T.1 x119 (49 : Int32) (57 : Int32)) = 0 then (K T) else (Option.bind (gM_readsStop F T (x5 - (48 : Int32)) (x9 - (97 : Int32))) fun R122 => (gM_readsBooking_L128bbbbbbbbbb F x5 x9 K) n R122))
def gM_readsBooking_L128bbbbbbbbbbb (F : Nat) (x5 : Int32) (x9 : Int32) (K : (qz_S → Option (qz_S))) : Nat → qz_S → Option (qz_S)
  | 0, _ => none
  | n + 1, T => if (T.1 ((6, 0, 0) : qz_N) 12) = 0 then (K T) else (Option.bind (gM_sign F T.1) fun x127 => if (gM_in T.1 x127 (49 : Int32) (57 : Int32)) = 0 then (K T) else (Option.bind (gM_readsStop F T (x5 - (48 : Int32)) (x9 - (97 : Int32))) fun R130 => (gM_readsBooking_L128bbbbbbbbbbb F x5 x9 K) n R130))
def gM_readsBooking_L128bbbbbbbbbbbb (F : Nat) (x5 : Int32) (x9 : Int32) (K : (qz_S → Option (qz_S))) : Nat → qz_S → Option (qz_S)
  | 0, _ => none
  | n + 1, T => if (T.1 ((6, 0, 0) : qz_N) 12) = 0 then (K T) else (Option.bind (gM_sign F T.1) fun x140 => if (gM_in T.1 x140 (49 : Int32) (57 : Int32)) = 0 then (K T) else (Option.bind (gM_readsStop F T (x5 - (48 : Int32)) (x9 - (97 : Int32))) fun R143 => (gM_readsBooking_L128bbbbbbbbbbbb F x5 x9 K) n R143))
def gM_readsBooking_L128bbbbbbbbbbbbb (F : Nat) (x5 : Int32) (x9 : Int32) (K : (qz_S → Option (qz_S))) : Nat → qz_S → Option (qz_S)
  | 0, _ => none
  | n + 1, T => if (T.1 ((6, 0, 0) : qz_N) 12) = 0 then (K T) else (Option.bind (gM_sign F T.1) fun x151 => if (gM_in T.1 x151 (49 : Int32) (57 : Int32)) = 0 then (K T) else (Option.bind (gM_readsStop F T (x5 - (48 : Int32)) (x9 - (97 : Int32))) fun R154 => (gM_readsBooking_L128bbbbbbbbbbbbb F x5 x9 K) n R154))
def gM_readsBooking_L128bbbbbbbbbbbbbb (F : Nat) (x5 : Int32) (x9 : Int32) (K : (qz_S → Option (qz_S))) : Nat → qz_S → Option (qz_S)
  | 0, _ => none
  | n + 1, T => if (T.1 ((6, 0, 0) : qz_N) 12) = 0 then (K T) else (Option.bind (gM_sign F T.1) fun x159 => if (gM_in T.1 x159 (49 : Int32) (57 : Int32)) = 0 then (K T) else (Option.bind (gM_readsStop F T (x5 - (48 : Int32)) (x9 - (97 : Int32))) fun R162 => (gM_readsBooking_L128bbbbbbbbbbbbbb F x5 x9 K) n R162))
def gM_readsBooking_L128bbbbbbbbbbbbbbb (F : Nat) (x5 : Int32) (x9 : Int32) (K : (qz_S → Option (qz_S))) : Nat → qz_S → Option (qz_S)
  | 0, _ => none
  | n + 1, T => if (T.1 ((6, 0, 0) : qz_N) 12) = 0 then (K T) else (Option.bind (gM_sign F T.1) fun x169 => if (gM_in T.1 x169 (49 : Int32) (57 : Int32)) = 0 then (K T) else (Option.bind (gM_readsStop F T (x5 - (48 : Int32)) (x9 - (97 : Int32))) fun R172 => (gM_readsBooking_L128bbbbbbbbbbbbbbb F x5 x9 K) n R172))
def gM_readsBooking_L128bbbbbbbbbbbbbbbb (F : Nat) (x5 : Int32) (x9 : Int32) (K : (qz_S → Option (qz_S))) : Nat → qz_S → Option (qz_S)
  | 0, _ => none
  | n + 1, T => if (T.1 ((6, 0, 0) : qz_N) 12) = 0 then (K T) else (Option.bind (gM_sign F T.1) fun x180 => if (gM_in T.1 x180 (49 : Int32) (57 : Int32)) = 0 then (K T) else (Option.bind (gM_readsStop F T (x5 - (48 : Int32)) (x9 - (97 : Int32))) fun R183 => (gM_readsBooking_L128bbbbbbbbbbbbbbbb F x5 x9 K) n R183))
def gM_readsBooking_L128bbbbbbbbbbbbbbbbb (F : Nat) (x5 : Int32) (x9 : Int32) (K : (qz_S → Option (qz_S))) : Nat → qz_S → Option (qz_S)
  | 0, _ => none
  | n + 1, T => if (T.1 ((6, 0, 0) : qz_N) 12) = 0 then (K T) else (Option.bind (gM_sign F T.1) fun x188 => if (gM_in T.1 x188 (49 : Int32) (57 : Int32)) = 0 then (K T) else (Option.bind (gM_readsStop F T (x5 - (48 : Int32)) (x9 - (97 : Int32))) fun R191 => (gM_readsBooking_L128bbbbbbbbbbbbbbbbb F x5 x9 K) n R191))
def gM_readsBooking_L128bbbbbbbbbbbbbbbbbb (F : Nat) (x5 : Int32) (x9 : Int32) (K : (qz_S → Option (qz_S))) : Nat → qz_S → Option (qz_S)
  | 0, _ => none
  | n + 1, T => if (T.1 ((6, 0, 0) : qz_N) 12) = 0 then (K T) else (Option.bind (gM_sign F T.1) fun x200 => if (gM_in T.1 x200 (49 : Int32) (57 : Int32)) = 0 then (K T) else (Option.bind (gM_readsStop F T (x5 - (48 : Int32)) (x9 - (97 : Int32))) fun R203 => (gM_readsBooking_L128bbbbbbbbbbbbbbbbbb F x5 x9 K) n R203))
def gM_readsBooking_L128bbbbbbbbbbbbbbbbbbb (F : Nat) (x5 : Int32) (x9 : Int32) (K : (qz_S → Option (qz_S))) : Nat → qz_S → Option (qz_S)
  | 0, _ => none
  | n + 1, T => if (T.1 ((6, 0, 0) : qz_N) 12) = 0 then (K T) else (Option.bind (gM_sign F T.1) fun x211 => if (gM_in T.1 x211 (49 : Int32) (57 : Int32)) = 0 then (K T) else (Option.bind (gM_readsStop F T (x5 - (48 : Int32)) (x9 - (97 : Int32))) fun R214 => (gM_readsBooking_L128bbbbbbbbbbbbbbbbbbb F x5 x9 K) n R214))
def gM_readsBooking_L128bbbbbbbbbbbbbbbbbbbb (F : Nat) (x5 : Int32) (x9 : Int32) (K : (qz_S → Option (qz_S))) : Nat → qz_S → Option (qz_S)
  | 0, _ => none
  | n + 1, T => if (T.1 ((6, 0, 0) : qz_N) 12) = 0 then (K T) else (Option.bind (gM_sign F T.1) fun x219 => if (gM_in T.1 x219 (49 : Int32) (57 : Int32)) = 0 then (K T) else (Option.bind (gM_readsStop F T (x5 - (48 : Int32)) (x9 - (97 : Int32))) fun R222 => (gM_readsBooking_L128bbbbbbbbbbbbbbbbbbbb F x5 x9 K) n R222))
def gM_readsBooking_L128bbbbbbbbbbbbbbbbbbbbb (F : Nat) (x5 : Int32) (x9 : Int32) (K : (qz_S → Option (qz_S))) : Nat → qz_S → Option (qz_S)
  | 0, _ => none
  | n + 1, T => if (T.1 ((6, 0, 0) : qz_N) 12) = 0 then (K T) else (Option.bind (gM_sign F T.1) fun x229 => if (gM_in T.1 x229 (49 : Int32) (57 : Int32)) = 0 then (K T) else (Option.bind (gM_readsStop F T (x5 - (48 : Int32)) (x9 - (97 : Int32))) fun R232 => (gM_readsBooking_L128bbbbbbbbbbbbbbbbbbbbb F x5 x9 K) n R232))
def gM_readsBooking_L128bbbbbbbbbbbbbbbbbbbbbb (F : Nat) (x5 : Int32) (x9 : Int32) (K : (qz_S → Option (qz_S))) : Nat → qz_S → Option (qz_S)
  | 0, _ => none
  | n + 1, T => if (T.1 ((6, 0, 0) : qz_N) 12) = 0 then (K T) else (Option.bind (gM_sign F T.1) fun x240 => if (gM_in T.1 x240 (49 : Int32) (57 : Int32)) = 0 then (K T) else (Option.bind (gM_readsStop F T (x5 - (48 : Int32)) (x9 - (97 : Int32))) fun R243 => (gM_readsBooking_L128bbbbbbbbbbbbbbbbbbbbbb F x5 x9 K) n R243))
def gM_readsBooking_L128bbbbbbbbbbbbbbbbbbbbbbb (F : Nat) (x5 : Int32) (x9 : Int32) (K : (qz_S → Option (qz_S))) : Nat → qz_S → Option (qz_S)
  | 0, _ => none
  | n + 1, T => if (T.1 ((6, 0, 0) : qz_N) 12) = 0 then (K T) else (Option.bind (gM_sign F T.1) fun x248 => if (gM_in T.1 x248 (49 : Int32) (57 : Int32)) = 0 then (K T) else (Option.bind (gM_readsStop F T (x5 - (48 : Int32)) (x9 - (97 : Int32))) fun R251 => (gM_readsBooking_L128bbbbbbbbbbbbbbbbbbbbbbb F x5 x9 K) n R251))
def gM_readsBooking_L128bbbbbbbbbbbbbbbbbbbbbbbb (F : Nat) (x5 : Int32) (x255 : Int32) (K : (qz_S → Option (qz_S))) : Nat → qz_S → Option (qz_S)
  | 0, _ => none
  | n + 1, T => if (T.1 ((6, 0, 0) : qz_N) 12) = 0 then (K T) else (Option.bind (gM_sign F T.1) fun x264 => if (gM_in T.1 x264 (49 : Int32) (57 : Int32)) = 0 then (K T) else (Option.bind (gM_readsStop F T (x5 - (48 : Int32)) (x255 - (97 : Int32))) fun R267 => (gM_readsBooking_L128bbbbbbbbbbbbbbbbbbbbbbbb F x5 x255 K) n R267))
def gM_readsBooking_L128bbbbbbbbbbbbbbbbbbbbbbbbb (F : Nat) (x5 : Int32) (x255 : Int32) (K : (qz_S → Option (qz_S))) : Nat → qz_S → Option (qz_S)
  | 0, _ => none
  | n + 1, T => if (T.1 ((6, 0, 0) : qz_N) 12) = 0 then (K T) else (Option.bind (gM_sign F T.1) fun x275 => if (gM_in T.1 x275 (49 : Int32) (57 : Int32)) = 0 then (K T) else (Option.bind (gM_readsStop F T (x5 - (48 : Int32)) (x255 - (97 : Int32))) fun R278 => (gM_readsBooking_L128bbbbbbbbbbbbbbbbbbbbbbbbb F x5 x255 K) n R278))
def gM_readsBooking_L128bbbbbbbbbbbbbbbbbbbbbbbbbb (F : Nat) (x5 : Int32) (x255 : Int32) (K : (qz_S → Option (qz_S))) : Nat → qz_S → Option (qz_S)
  | 0, _ => none
  | n + 1, T => if (T.1 ((6, 0, 0) : qz_N) 12) = 0 then (K T) else (Option.bind (gM_sign F T.1) fun x283 => if (gM_in T.1 x283 (49 : Int32) (57 : Int32)) = 0 then (K T) else (Option.bind (gM_readsStop F T (x5 - (48 : Int32)) (x255 - (97 : Int32))) fun R286 => (gM_readsBooking_L128bbbbbbbbbbbbbbbbbbbbbbbbbb F x5 x255 K) n R286))
def gM_readsBooking_L128bbbbbbbbbbbbbbbbbbbbbbbbbbb (F : Nat) (x5 : Int32) (x255 : Int32) (K : (qz_S → Option (qz_S))) : Nat → qz_S → Option (qz_S)
  | 0, _ => none
  | n + 1, T => if (T.1 ((6, 0, 0) : qz_N) 12) = 0 then (K T) else (Option.bind (gM_sign F T.1) fun x293 => if (gM_in T.1 x293 (49 : Int32) (57 : Int32)) = 0 then (K T) else (Option.bind (gM_readsStop F T (x5 - (48 : Int32)) (x255 - (97 : Int32))) fun R296 => (gM_readsBooking_L128bbbbbbbbbbbbbbbbbbbbbbbbbbb F x5 x255 K) n R296))
def gM_readsBooking_L128bbbbbbbbbbbbbbbbbbbbbbbbbbbb (F : Nat) (x5 : Int32) (x255 : Int32) (K : (qz_S → Option (qz_S))) : Nat → qz_S → Option (qz_S)
  | 0, _ => none
  | n + 1, T => if (T.1 ((6, 0, 0) : qz_N) 12) = 0 then (K T) else (Option.bind (gM_sign F T.1) fun x304 => if (gM_in T.1 x304 (49 : Int32) (57 : Int32)) = 0 then (K T) else (Option.bind (gM_readsStop F T (x5 - (48 : Int32)) (x255 - (97 : Int32))) fun R307 => (gM_readsBooking_L128bbbbbbbbbbbbbbbbbbbbbbbbbbbb F x5 x255 K) n R307))
def gM_readsBooking_L128bbbbbbbbbbbbbbbbbbbbbbbbbbbbb (F : Nat) (x5 : Int32) (x255 : Int32) (K : (qz_S → Option (qz_S))) : Nat → qz_S → Option (qz_S)
  | 0, _ => none
  | n + 1, T => if (T.1 ((6, 0, 0) : qz_N) 12) = 0 then (K T) else (Option.bind (gM_sign F T.1) fun x312 => if (gM_in T.1 x312 (49 : Int32) (57 : Int32)) = 0 then (K T) else (Option.bind (gM_readsStop F T (x5 - (48 : Int32)) (x255 - (97 : Int32))) fun R315 => (gM_readsBooking_L128bbbbbbbbbbbbbbbbbbbbbbbbbbbbb F x5 x255 K) n R315))
def gM_readsBooking_L128bbbbbbbbbbbbbbbbbbbbbbbbbbbbbb (F : Nat) (x5 : Int32) (x255 : Int32) (K : (qz_S → Option (qz_S))) : Nat → qz_S → Option (qz_S)
  | 0, _ => none
  | n + 1, T => if (T.1 ((6, 0, 0) : qz_N) 12) = 0 then (K T) else (Option.bind (gM_sign F T.1) fun x325 => if (gM_in T.1 x325 (49 : Int32) (57 : Int32)) = 0 then (K T) else (Option.bind (gM_readsStop F T (x5 - (48 : Int32)) (x255 - (97 : Int32))) fun R328 => (gM_readsBooking_L128bbbbbbbbbbbbbbbbbbbbbbbbbbbbbb F x5 x255 K) n R328))
def gM_readsBooking_L128bbbbbbbbbbbbbbbbbbbbbbbbbbbbbbb (F : Nat) (x5 : Int32) (x255 : Int32) (K : (qz_S → Option (qz_S))) : Nat → qz_S → Option (qz_S)
  | 0, _ => none
  | n + 1, T => if (T.1 ((6, 0, 0) : qz_N) 12) = 0 then (K T) else (Option.bind (gM_sign F T.1) fun x336 => if (gM_in T.1 x336 (49 : Int32) (57 : Int32)) = 0 then (K T) else (Option.bind (gM_readsStop F T (x5 - (48 : Int32)) (x255 - (97 : Int32))) fun R339 => (gM_readsBooking_L128bbbbbbbbbbbbbbbbbbbbbbbbbbbbbbb F x5 x255 K) n R339))
def gM_readsBooking_L128bbbbbbbbbbbbbbbbbbbbbbbbbbbbbbbb (F : Nat) (x5 : Int32) (x255 : Int32) (K : (qz_S → Option (qz_S))) : Nat → qz_S → Option (qz_S)
  | 0, _ => none
  | n + 1, T => if (T.1 ((6, 0, 0) : qz_N) 12) = 0 then (K T) else (Option.bind (gM_sign F T.1) fun x344 => if (gM_in T.1 x344 (49 : Int32) (57 : Int32)) = 0 then (K T) else (Option.bind (gM_readsStop F T (x5 - (48 : Int32)) (x255 - (97 : Int32))) fun R347 => (gM_readsBooking_L128bbbbbbbbbbbbbbbbbbbbbbbbbbbbbbbb F x5 x255 K) n R347))
def gM_readsBooking_L128bbbbbbbbbbbbbbbbbbbbbbbbbbbbbbbbb (F : Nat) (x5 : Int32) (x255 : Int32) (K : (qz_S → Option (qz_S))) : Nat → qz_S → Option (qz_S)
  | 0, _ => none
  | n + 1, T => if (T.1 ((6, 0, 0) : qz_N) 12) = 0 then (K T) else (Option.bind (gM_sign F T.1) fun x354 => if (gM_in T.1 x354 (49 : Int32) (57 : Int32)) = 0 then (K T) else (Option.bind (gM_readsStop F T (x5 - (48 : Int32)) (x255 - (97 : Int32))) fun R357 => (gM_readsBooking_L128bbbbbbbbbbbbbbbbbbbbbbbbbbbbbbbbb F x5 x255 K) n R357))
def gM_readsBooking_L128bbbbbbbbbbbbbbbbbbbbbbbbbbbbbbbbbb (F : Nat) (x5 : Int32) (x255 : Int32) (K : (qz_S → Option (qz_S))) : Nat → qz_S → Option (qz_S)
  | 0, _ => none
  | n + 1, T => if (T.1 ((6, 0, 0) : qz_N) 12) = 0 then (K T) else (Option.bind (gM_sign F T.1) fun x365 => if (gM_in T.1 x365 (49 : Int32) (57 : Int32)) = 0 then (K T) else (Option.bind (gM_readsStop F T (x5 - (48 : Int32)) (x255 - (97 : Int32))) fun R368 => (gM_readsBooking_L128bbbbbbbbbbbbbbbbbbbbbbbbbbbbbbbbbb F x5 x255 K) n R368))
def gM_readsBooking_L128bbbbbbbbbbbbbbbbbbbbbbbbbbbbbbbbbbb (F : Nat) (x5 : Int32) (x255 : Int32) (K : (qz_S → Option (qz_S))) : Nat → qz_S → Option (qz_S)
  | 0, _ => none
  | n + 1, T => if (T.1 ((6, 0, 0) : qz_N) 12) = 0 then (K T) else (Option.bind (gM_sign F T.1) fun x373 => if (gM_in T.1 x373 (49 : Int32) (57 : Int32)) = 0 then (K T) else (Option.bind (gM_readsStop F T (x5 - (48 : Int32)) (x255 - (97 : Int32))) fun R376 => (gM_readsBooking_L128bbbbbbbbbbbbbbbbbbbbbbbbbbbbbbbbbbb F x5 x255 K) n R376))
def gM_readsBooking_L128bbbbbbbbbbbbbbbbbbbbbbbbbbbbbbbbbbbb (F : Nat) (x5 : Int32) (x255 : Int32) (K : (qz_S → Option (qz_S))) : Nat → qz_S → Option (qz_S)
  | 0, _ => none
  | n + 1, T => if (T.1 ((6, 0, 0) : qz_N) 12) = 0 then (K T) else (Option.bind (gM_sign F T.1) fun x386 => if (gM_in T.1 x386 (49 : Int32) (57 : Int32)) = 0 then (K T) else (Option.bind (gM_readsStop F T (x5 - (48 : Int32)) (x255 - (97 : Int32))) fun R389 => (gM_readsBooking_L128bbbbbbbbbbbbbbbbbbbbbbbbbbbbbbbbbbbb F x5 x255 K) n R389))
def gM_readsBooking_L128bbbbbbbbbbbbbbbbbbbbbbbbbbbbbbbbbbbbb (F : Nat) (x5 : Int32) (x255 : Int32) (K : (qz_S → Option (qz_S))) : Nat → qz_S → Option (qz_S)
  | 0, _ => none
  | n + 1, T => if (T.1 ((6, 0, 0) : qz_N) 12) = 0 then (K T) else (Option.bind (gM_sign F T.1) fun x397 => if (gM_in T.1 x397 (49 : Int32) (57 : Int32)) = 0 then (K T) else (Option.bind (gM_readsStop F T (x5 - (48 : Int32)) (x255 - (97 : Int32))) fun R400 => (gM_readsBooking_L128bbbbbbbbbbbbbbbbbbbbbbbbbbbbbbbbbbbbb F x5 x255 K) n R400))
def gM_readsBooking_L128bbbbbbbbbbbbbbbbbbbbbbbbbbbbbbbbbbbbbb (F : Nat) (x5 : Int32) (x255 : Int32) (K : (qz_S → Option (qz_S))) : Nat → qz_S → Option (qz_S)
  | 0, _ => none
  | n + 1, T => if (T.1 ((6, 0, 0) : qz_N) 12) = 0 then (K T) else (Option.bind (gM_sign F T.1) fun x405 => if (gM_in T.1 x405 (49 : Int32) (57 : Int32)) = 0 then (K T) else (Option.bind (gM_readsStop F T (x5 - (48 : Int32)) (x255 - (97 : Int32))) fun R408 => (gM_readsBooking_L128bbbbbbbbbbbbbbbbbbbbbbbbbbbbbbbbbbbbbb F x5 x255 K) n R408))
def gM_readsBooking_L128bbbbbbbbbbbbbbbbbbbbbbbbbbbbbbbbbbbbbbb (F : Nat) (x5 : Int32) (x255 : Int32) (K : (qz_S → Option (qz_S))) : Nat → qz_S → Option (qz_S)
  | 0, _ => none
  | n + 1, T => if (T.1 ((6, 0, 0) : qz_N) 12) = 0 then (K T) else (Option.bind (gM_sign F T.1) fun x415 => if (gM_in T.1 x415 (49 : Int32) (57 : Int32)) = 0 then (K T) else (Option.bind (gM_readsStop F T (x5 - (48 : Int32)) (x255 - (97 : Int32))) fun R418 => (gM_readsBooking_L128bbbbbbbbbbbbbbbbbbbbbbbbbbbbbbbbbbbbbbb F x5 x255 K) n R418))
def gM_readsBooking_L128bbbbbbbbbbbbbbbbbbbbbbbbbbbbbbbbbbbbbbbb (F : Nat) (x5 : Int32) (x255 : Int32) (K : (qz_S → Option (qz_S))) : Nat → qz_S → Option (qz_S)
  | 0, _ => none
  | n + 1, T => if (T.1 ((6, 0, 0) : qz_N) 12) = 0 then (K T) else (Option.bind (gM_sign F T.1) fun x426 => if (gM_in T.1 x426 (49 : Int32) (57 : Int32)) = 0 then (K T) else (Option.bind (gM_readsStop F T (x5 - (48 : Int32)) (x255 - (97 : Int32))) fun R429 => (gM_readsBooking_L128bbbbbbbbbbbbbbbbbbbbbbbbbbbbbbbbbbbbbbbb F x5 x255 K) n R429))
def gM_readsBooking_L128bbbbbbbbbbbbbbbbbbbbbbbbbbbbbbbbbbbbbbbbb (F : Nat) (x5 : Int32) (x255 : Int32) (K : (qz_S → Option (qz_S))) : Nat → qz_S → Option (qz_S)
  | 0, _ => none
  | n + 1, T => if (T.1 ((6, 0, 0) : qz_N) 12) = 0 then (K T) else (Option.bind (gM_sign F T.1) fun x434 => if (gM_in T.1 x434 (49 : Int32) (57 : Int32)) = 0 then (K T) else (Option.bind (gM_readsStop F T (x5 - (48 : Int32)) (x255 - (97 : Int32))) fun R437 => (gM_readsBooking_L128bbbbbbbbbbbbbbbbbbbbbbbbbbbbbbbbbbbbbbbbb F x5 x255 K) n R437))
def gM_readsBooking_L128bbbbbbbbbbbbbbbbbbbbbbbbbbbbbbbbbbbbbbbbbb (F : Nat) (x5 : Int32) (x255 : Int32) (K : (qz_S → Option (qz_S))) : Nat → qz_S → Option (qz_S)
  | 0, _ => none
  | n + 1, T => if (T.1 ((6, 0, 0) : qz_N) 12) = 0 then (K T) else (Option.bind (gM_sign F T.1) fun x446 => if (gM_in T.1 x446 (49 : Int32) (57 : Int32)) = 0 then (K T) else (Option.bind (gM_readsStop F T (x5 - (48 : Int32)) (x255 - (97 : Int32))) fun R449 => (gM_readsBooking_L128bbbbbbbbbbbbbbbbbbbbbbbbbbbbbbbbbbbbbbbbbb F x5 x255 K) n R449))
def gM_readsBooking_L128bbbbbbbbbbbbbbbbbbbbbbbbbbbbbbbbbbbbbbbbbbb (F : Nat) (x5 : Int32) (x255 : Int32) (K : (qz_S → Option (qz_S))) : Nat → qz_S → Option (qz_S)
  | 0, _ => none
  | n + 1, T => if (T.1 ((6, 0, 0) : qz_N) 12) = 0 then (K T) else (Option.bind (gM_sign F T.1) fun x457 => if (gM_in T.1 x457 (49 : Int32) (57 : Int32)) = 0 then (K T) else (Option.bind (gM_readsStop F T (x5 - (48 : Int32)) (x255 - (97 : Int32))) fun R460 => (gM_readsBooking_L128bbbbbbbbbbbbbbbbbbbbbbbbbbbbbbbbbbbbbbbbbbb F x5 x255 K) n R460))
def gM_readsBooking_L128bbbbbbbbbbbbbbbbbbbbbbbbbbbbbbbbbbbbbbbbbbbb (F : Nat) (x5 : Int32) (x255 : Int32) (K : (qz_S → Option (qz_S))) : Nat → qz_S → Option (qz_S)
  | 0, _ => none
  | n + 1, T => if (T.1 ((6, 0, 0) : qz_N) 12) = 0 then (K T) else (Option.bind (gM_sign F T.1) fun x465 => if (gM_in T.1 x465 (49 : Int32) (57 : Int32)) = 0 then (K T) else (Option.bind (gM_readsStop F T (x5 - (48 : Int32)) (x255 - (97 : Int32))) fun R468 => (gM_readsBooking_L128bbbbbbbbbbbbbbbbbbbbbbbbbbbbbbbbbbbbbbbbbbbb F x5 x255 K) n R468))
def gM_readsBooking_L128bbbbbbbbbbbbbbbbbbbbbbbbbbbbbbbbbbbbbbbbbbbbb (F : Nat) (x5 : Int32) (x255 : Int32) (K : (qz_S → Option (qz_S))) : Nat → qz_S → Option (qz_S)
  | 0, _ => none
  | n + 1, T => if (T.1 ((6, 0, 0) : qz_N) 12) = 0 then (K T) else (Option.bind (gM_sign F T.1) fun x475 => if (gM_in T.1 x475 (49 : Int32) (57 : Int32)) = 0 then (K T) else (Option.bind (gM_readsStop F T (x5 - (48 : Int32)) (x255 - (97 : Int32))) fun R478 => (gM_readsBooking_L128bbbbbbbbbbbbbbbbbbbbbbbbbbbbbbbbbbbbbbbbbbbbb F x5 x255 K) n R478))
def gM_readsBooking_L128bbbbbbbbbbbbbbbbbbbbbbbbbbbbbbbbbbbbbbbbbbbbbb (F : Nat) (x5 : Int32) (x255 : Int32) (K : (qz_S → Option (qz_S))) : Nat → qz_S → Option (qz_S)
  | 0, _ => none
  | n + 1, T => if (T.1 ((6, 0, 0) : qz_N) 12) = 0 then (K T) else (Option.bind (gM_sign F T.1) fun x486 => if (gM_in T.1 x486 (49 : Int32) (57 : Int32)) = 0 then (K T) else (Option.bind (gM_readsStop F T (x5 - (48 : Int32)) (x255 - (97 : Int32))) fun R489 => (gM_readsBooking_L128bbbbbbbbbbbbbbbbbbbbbbbbbbbbbbbbbbbbbbbbbbbbbb F x5 x255 K) n R489))
def gM_readsBooking_L128bbbbbbbbbbbbbbbbbbbbbbbbbbbbbbbbbbbbbbbbbbbbbbb (F : Nat) (x5 : Int32) (x255 : Int32) (K : (qz_S → Option (qz_S))) : Nat → qz_S → Option (qz_S)
  | 0, _ => none
  | n + 1, T => if (T.1 ((6, 0, 0) : qz_N) 12) = 0 then (K T) else (Option.bind (gM_sign F T.1) fun x494 => if (gM_in T.1 x494 (49 : Int32) (57 : Int32)) = 0 then (K T) else (Option.bind (gM_readsStop F T (x5 - (48 : Int32)) (x255 - (97 : Int32))) fun R497 => (gM_readsBooking_L128bbbbbbbbbbbbbbbbbbbbbbbbbbbbbbbbbbbbbbbbbbbbbbb F x5 x255 K) n R497))
def gM_readsBooking (F : Nat) (S : qz_S)  : Option (qz_S) :=
  Option.bind (gM_sign F S.1) fun x1 => if (gM_in S.1 x1 (48 : Int32) (57 : Int32)) = 0 ∨ (gM_in S.1 x1 (48 : Int32) (57 : Int32)) = 1 then (qz_let (qz_wr S ((6, 0, 0) : qz_N) 12 (gM_in S.1 x1 (48 : Int32) (57 : Int32))) fun S3 => Option.bind (gM_sign F S3.1) fun x5 => if (S3.1 ((6, 0, 0) : qz_N) 12) = 0 then (qz_let (qz_wr S3 ((6, 0, 0) : qz_N) 11 ((S3.1 ((6, 0, 0) : qz_N) 11) + (0 : Int32))) fun S8 => Option.bind (gM_sign F S8.1) fun x9 => if (S8.1 ((6, 0, 0) : qz_N) 12) = 0 then (qz_let (qz_wr S8 ((6, 0, 0) : qz_N) 12 (0 : Int32)) fun S12 => if (S12.1 ((6, 0, 0) : qz_N) 12) = 0 then (qz_let (qz_wr S12 ((6, 0, 0) : qz_N) 11 ((S12.1 ((6, 0, 0) : qz_N) 11) + (0 : Int32))) fun S14 => if (S14.1 ((6, 0, 0) : qz_N) 12) = 0 then (qz_let (qz_wr S14 ((6, 0, 0) : qz_N) 12 (0 : Int32)) fun S16 => gM_readsBooking_L128 F x5 x9 (fun T23 => some T23) F S16) else (Option.bind (gM_sign F S14.1) fun x24 => if (gM_in S14.1 x24 (49 : Int32) (57 : Int32)) = 0 then (qz_let (qz_wr S14 ((6, 0, 0) : qz_N) 12 (0 : Int32)) fun S27 => gM_readsBooking_L128b F x5 x9 (fun T34 => some T34) F S27) else (qz_let (qz_wr S14 ((6, 0, 0) : qz_N) 12 (1 : Int32)) fun S35 => gM_readsBooking_L128bb F x5 x9 (fun T42 => some T42) F S35))) else (qz_let (qz_wr S12 ((6, 0, 0) : qz_N) 11 ((S12.1 ((6, 0, 0) : qz_N) 11) + (1 : Int32))) fun S43 => if (S43.1 ((6, 0, 0) : qz_N) 12) = 0 then (qz_let (qz_wr S43 ((6, 0, 0) : qz_N) 12 (0 : Int32)) fun S45 => gM_readsBooking_L128bbb F x5 x9 (fun T52 => some T52) F S45) else (Option.bind (gM_sign F S43.1) fun x53 => if (gM_in S43.1 x53 (49 : Int32) (57 : Int32)) = 0 then (qz_let (qz_wr S43 ((6, 0, 0) : qz_N) 12 (0 : Int32)) fun S56 => gM_readsBooking_L128bbbb F x5 x9 (fun T63 => some T63) F S56) else (qz_let (qz_wr S43 ((6, 0, 0) : qz_N) 12 (1 : Int32)) fun S64 => gM_readsBooking_L128bbbbb F x5 x9 (fun T71 => some T71) F S64)))) else (if x9 = (97 : Int32) then (qz_let (qz_wr S8 ((6, 0, 0) : qz_N) 12 (1 : Int32)) fun S73 => if (S73.1 ((6, 0, 0) : qz_N) 12) = 0 then (qz_let (qz_wr S73 ((6, 0, 0) : qz_N) 11 ((S73.1 ((6, 0, 0) : qz_N) 11) + (0 : Int32))) fun S75 => if (S75.1 ((6, 0, 0) : qz_N) 12) = 0 then (qz_let (qz_wr S75 ((6, 0, 0) : qz_N) 12 (0 : Int32)) fun S77 => gM_readsBooking_L128bbbbbb F x5 x9 (fun T84 => some T84) F S77) else (Option.bind (gM_sign F S75.1) fun x85 => if (gM_in S75.1 x85 (49 : Int32) (57 : Int32)) = 0 then (qz_let (qz_wr S75 ((6, 0, 0) : qz_N) 12 (0 : Int32)) fun S88 => gM_readsBooking_L128bbbbbbb F x5 x9 (fun T95 => some T95) F S88) else (qz_let (qz_wr S75 ((6, 0, 0) : qz_N) 12 (1 : Int32)) fun S96 => gM_readsBooking_L128bbbbbbbb F x5 x9 (fun T103 => some T103) F S96))) else (qz_let (qz_wr S73 ((6, 0, 0) : qz_N) 11 ((S73.1 ((6, 0, 0) : qz_N) 11) + (1 : Int32))) fun S104 => if (S104.1 ((6, 0, 0) : qz_N) 12) = 0 then (qz_let (qz_wr S104 ((6, 0, 0) : qz_N) 12 (0 : Int32)) fun S106 => gM_readsBooking_L128bbbbbbbbb F x5 x9 (fun T113 => some T113) F S106) else (Option.bind (gM_sign F S104.1) fun x114 => if (gM_in S104.1 x114 (49 : Int32) (57 : Int32)) = 0 then (qz_let (qz_wr S104 ((6, 0, 0) : qz_N) 12 (0 : Int32)) fun S117 => gM_readsBooking_L128bbbbbbbbbb F x5 x9 (fun T124 => some T124) F S117) else (qz_let (qz_wr S104 ((6, 0, 0) : qz_N) 12 (1 : Int32)) fun S125 => gM_readsBooking_L128bbbbbbbbbbb F x5 x9 (fun T132 => some T132) F S125)))) else (if x9 = (98 : Int32) then (qz_let (qz_wr S8 ((6, 0, 0) : qz_N) 12 (1 : Int32)) fun S134 => if (S134.1 ((6, 0, 0) : qz_N) 12) = 0 then (qz_let (qz_wr S134 ((6, 0, 0) : qz_N) 11 ((S134.1 ((6, 0, 0) : qz_N) 11) + (0 : Int32))) fun S136 => if (S136.1 ((6, 0, 0) : qz_N) 12) = 0 then (qz_let (qz_wr S136 ((6, 0, 0) : qz_N) 12 (0 : Int32)) fun S138 => gM_readsBooking_L128bbbbbbbbbbbb F x5 x9 (fun T145 => some T145) F S138) else (Option.bind (gM_sign F S136.1) fun x146 => if (gM_in S136.1 x146 (49 : Int32) (57 : Int32)) = 0 then (qz_let (qz_wr S136 ((6, 0, 0) : qz_N) 12 (0 : Int32)) fun S149 => gM_readsBooking_L128bbbbbbbbbbbbb F x5 x9 (fun T156 => some T156) F S149) else (qz_let (qz_wr S136 ((6, 0, 0) : qz_N) 12 (1 : Int32)) fun S157 => gM_readsBooking_L128bbbbbbbbbbbbbb F x5 x9 (fun T164 => some T164) F S157))) else (qz_let (qz_wr S134 ((6, 0, 0) : qz_N) 11 ((S134.1 ((6, 0, 0) : qz_N) 11) + (1 : Int32))) fun S165 => if (S165.1 ((6, 0, 0) : qz_N) 12) = 0 then (qz_let (qz_wr S165 ((6, 0, 0) : qz_N) 12 (0 : Int32)) fun S167 => gM_readsBooking_L128bbbbbbbbbbbbbbb F x5 x9 (fun T174 => some T174) F S167) else (Option.bind (gM_sign F S165.1) fun x175 => if (gM_in S165.1 x175 (49 : Int32) (57 : Int32)) = 0 then (qz_let (qz_wr S165 ((6, 0, 0) : qz_N) 12 (0 : Int32)) fun S178 => gM_readsBooking_L128bbbbbbbbbbbbbbbb F x5 x9 (fun T185 => some T185) F S178) else (qz_let (qz_wr S165 ((6, 0, 0) : qz_N) 12 (1 : Int32)) fun S186 => gM_readsBooking_L128bbbbbbbbbbbbbbbbb F x5 x9 (fun T193 => some T193) F S186)))) else (qz_let (qz_wr S8 ((6, 0, 0) : qz_N) 12 (0 : Int32)) fun S194 => if (S194.1 ((6, 0, 0) : qz_N) 12) = 0 then (qz_let (qz_wr S194 ((6, 0, 0) : qz_N) 11 ((S194.1 ((6, 0, 0) : qz_N) 11) + (0 : Int32))) fun S196 => if (S196.1 ((6, 0, 0) : qz_N) 12) = 0 then (qz_let (qz_wr S196 ((6, 0, 0) : qz_N) 12 (0 : Int32)) fun S198 => gM_readsBooking_L128bbbbbbbbbbbbbbbbbb F x5 x9 (fun T205 => some T205) F S198) else (Option.bind (gM_sign F S196.1) fun x206 => if (gM_in S196.1 x206 (49 : Int32) (57 : Int32)) = 0 then (qz_let (qz_wr S196 ((6, 0, 0) : qz_N) 12 (0 : Int32)) fun S209 => gM_readsBooking_L128bbbbbbbbbbbbbbbbbbb F x5 x9 (fun T216 => some T216) F S209) else (qz_let (qz_wr S196 ((6, 0, 0) : qz_N) 12 (1 : Int32)) fun S217 => gM_readsBooking_L128bbbbbbbbbbbbbbbbbbbb F x5 x9 (fun T224 => some T224) F S217))) else (qz_let (qz_wr S194 ((6, 0, 0) : qz_N) 11 ((S194.1 ((6, 0, 0) : qz_N) 11) + (1 : Int32))) fun S225 => if (S225.1 ((6, 0, 0) : qz_N) 12) = 0 then (qz_let (qz_wr S225 ((6, 0, 0) : qz_N) 12 (0 : Int32)) fun S227 => gM_readsBooking_L128bbbbbbbbbbbbbbbbbbbbb F x5 x9 (fun T234 => some T234) F S227) else (Option.bind (gM_sign F S225.1) fun x235 => if (gM_in S225.1 x235 (49 : Int32) (57 : Int32)) = 0 then (qz_let (qz_wr S225 ((6, 0, 0) : qz_N) 12 (0 : Int32)) fun S238 => gM_readsBooking_L128bbbbbbbbbbbbbbbbbbbbbb F x5 x9 (fun T245 => some T245) F S238) else (qz_let (qz_wr S225 ((6, 0, 0) : qz_N) 12 (1 : Int32)) fun S246 => gM_readsBooking_L128bbbbbbbbbbbbbbbbbbbbbbb F x5 x9 (fun T253 => some T253) F S246))))))) else (qz_let (qz_wr S3 ((6, 0, 0) : qz_N) 11 ((S3.1 ((6, 0, 0) : qz_N) 11) + (1 : Int32))) fun S254 => Option.bind (gM_sign F S254.1) fun x255 => if (S254.1 ((6, 0, 0) : qz_N) 12) = 0 then (qz_let (qz_wr S254 ((6, 0, 0) : qz_N) 12 (0 : Int32)) fun S258 => if (S258.1 ((6, 0, 0) : qz_N) 12) = 0 then (qz_let (qz_wr S258 ((6, 0, 0) : qz_N) 11 ((S258.1 ((6, 0, 0) : qz_N) 11) + (0 : Int32))) fun S260 => if (S260.1 ((6, 0, 0) : qz_N) 12) = 0 then (qz_let (qz_wr S260 ((6, 0, 0) : qz_N) 12 (0 : Int32)) fun S262 => gM_readsBooking_L128bbbbbbbbbbbbbbbbbbbbbbbb F x5 x255 (fun T269 => some T269) F S262) else (Option.bind (gM_sign F S260.1) fun x270 => if (gM_in S260.1 x270 (49 : Int32) (57 : Int32)) = 0 then (qz_let (qz_wr S260 ((6, 0, 0) : qz_N) 12 (0 : Int32)) fun S273 => gM_readsBooking_L128bbbbbbbbbbbbbbbbbbbbbbbbb F x5 x255 (fun T280 => some T280) F S273) else (qz_let (qz_wr S260 ((6, 0, 0) : qz_N) 12 (1 : Int32)) fun S281 => gM_readsBooking_L128bbbbbbbbbbbbbbbbbbbbbbbbbb F x5 x255 (fun T288 => some T288) F S281))) else (qz_let (qz_wr S258 ((6, 0, 0) : qz_N) 11 ((S258.1 ((6, 0, 0) : qz_N) 11) + (1 : Int32))) fun S289 => if (S289.1 ((6, 0, 0) : qz_N) 12) = 0 then (qz_let (qz_wr S289 ((6, 0, 0) : qz_N) 12 (0 : Int32)) fun S291 => gM_readsBooking_L128bbbbbbbbbbbbbbbbbbbbbbbbbbb F x5 x255 (fun T298 => some T298) F S291) else (Option.bind (gM_sign F S289.1) fun x299 => if (gM_in S289.1 x299 (49 : Int32) (57 : Int32)) = 0 then (qz_let (qz_wr S289 ((6, 0, 0) : qz_N) 12 (0 : Int32)) fun S302 => gM_readsBooking_L128bbbbbbbbbbbbbbbbbbbbbbbbbbbb F x5 x255 (fun T309 => some T309) F S302) else (qz_let (qz_wr S289 ((6, 0, 0) : qz_N) 12 (1 : Int32)) fun S310 => gM_readsBooking_L128bbbbbbbbbbbbbbbbbbbbbbbbbbbbb F x5 x255 (fun T317 => some T317) F S310)))) else (if x255 = (97 : Int32) then (qz_let (qz_wr S254 ((6, 0, 0) : qz_N) 12 (1 : Int32)) fun S319 => if (S319.1 ((6, 0, 0) : qz_N) 12) = 0 then (qz_let (qz_wr S319 ((6, 0, 0) : qz_N) 11 ((S319.1 ((6, 0, 0) : qz_N) 11) + (0 : Int32))) fun S321 => if (S321.1 ((6, 0, 0) : qz_N) 12) = 0 then (qz_let (qz_wr S321 ((6, 0, 0) : qz_N) 12 (0 : Int32)) fun S323 => gM_readsBooking_L128bbbbbbbbbbbbbbbbbbbbbbbbbbbbbb F x5 x255 (fun T330 => some T330) F S323) else (Option.bind (gM_sign F S321.1) fun x331 => if (gM_in S321.1 x331 (49 : Int32) (57 : Int32)) = 0 then (qz_let (qz_wr S321 ((6, 0, 0) : qz_N) 12 (0 : Int32)) fun S334 => gM_readsBooking_L128bbbbbbbbbbbbbbbbbbbbbbbbbbbbbbb F x5 x255 (fun T341 => some T341) F S334) else (qz_let (qz_wr S321 ((6, 0, 0) : qz_N) 12 (1 : Int32)) fun S342 => gM_readsBooking_L128bbbbbbbbbbbbbbbbbbbbbbbbbbbbbbbb F x5 x255 (fun T349 => some T349) F S342))) else (qz_let (qz_wr S319 ((6, 0, 0) : qz_N) 11 ((S319.1 ((6, 0, 0) : qz_N) 11) + (1 : Int32))) fun S350 => if (S350.1 ((6, 0, 0) : qz_N) 12) = 0 then (qz_let (qz_wr S350 ((6, 0, 0) : qz_N) 12 (0 : Int32)) fun S352 => gM_readsBooking_L128bbbbbbbbbbbbbbbbbbbbbbbbbbbbbbbbb F x5 x255 (fun T359 => some T359) F S352) else (Option.bind (gM_sign F S350.1) fun x360 => if (gM_in S350.1 x360 (49 : Int32) (57 : Int32)) = 0 then (qz_let (qz_wr S350 ((6, 0, 0) : qz_N) 12 (0 : Int32)) fun S363 => gM_readsBooking_L128bbbbbbbbbbbbbbbbbbbbbbbbbbbbbbbbbb F x5 x255 (fun T370 => some T370) F S363) else (qz_let (qz_wr S350 ((6, 0, 0) : qz_N) 12 (1 : Int32)) fun S371 => gM_readsBooking_L128bbbbbbbbbbbbbbbbbbbbbbbbbbbbbbbbbbb F x5 x255 (fun T378 => some T378) F S371)))) else (if x255 = (98 : Int32) then (qz_let (qz_wr S254 ((6, 0, 0) : qz_N) 12 (1 : Int32)) fun S380 => if (S380.1 ((6, 0, 0) : qz_N) 12) = 0 then (qz_let (qz_wr S380 ((6, 0, 0) : qz_N) 11 ((S380.1 ((6, 0, 0) : qz_N) 11) + (0 : Int32))) fun S382 => if (S382.1 ((6, 0, 0) : qz_N) 12) = 0 then (qz_let (qz_wr S382 ((6, 0, 0) : qz_N) 12 (0 : Int32)) fun S384 => gM_readsBooking_L128bbbbbbbbbbbbbbbbbbbbbbbbbbbbbbbbbbbb F x5 x255 (fun T391 => some T391) F S384) else (Option.bind (gM_sign F S382.1) fun x392 => if (gM_in S382.1 x392 (49 : Int32) (57 : Int32)) = 0 then (qz_let (qz_wr S382 ((6, 0, 0) : qz_N) 12 (0 : Int32)) fun S395 => gM_readsBooking_L128bbbbbbbbbbbbbbbbbbbbbbbbbbbbbbbbbbbbb F x5 x255 (fun T402 => some T402) F S395) else (qz_let (qz_wr S382 ((6, 0, 0) : qz_N) 12 (1 : Int32)) fun S403 => gM_readsBooking_L128bbbbbbbbbbbbbbbbbbbbbbbbbbbbbbbbbbbbbb F x5 x255 (fun T410 => some T410) F S403))) else (qz_let (qz_wr S380 ((6, 0, 0) : qz_N) 11 ((S380.1 ((6, 0, 0) : qz_N) 11) + (1 : Int32))) fun S411 => if (S411.1 ((6, 0, 0) : qz_N) 12) = 0 then (qz_let (qz_wr S411 ((6, 0, 0) : qz_N) 12 (0 : Int32)) fun S413 => gM_readsBooking_L128bbbbbbbbbbbbbbbbbbbbbbbbbbbbbbbbbbbbbbb F x5 x255 (fun T420 => some T420) F S413) else (Option.bind (gM_sign F S411.1) fun x421 => if (gM_in S411.1 x421 (49 : Int32) (57 : Int32)) = 0 then (qz_let (qz_wr S411 ((6, 0, 0) : qz_N) 12 (0 : Int32)) fun S424 => gM_readsBooking_L128bbbbbbbbbbbbbbbbbbbbbbbbbbbbbbbbbbbbbbbb F x5 x255 (fun T431 => some T431) F S424) else (qz_let (qz_wr S411 ((6, 0, 0) : qz_N) 12 (1 : Int32)) fun S432 => gM_readsBooking_L128bbbbbbbbbbbbbbbbbbbbbbbbbbbbbbbbbbbbbbbbb F x5 x255 (fun T439 => some T439) F S432)))) else (qz_let (qz_wr S254 ((6, 0, 0) : qz_N) 12 (0 : Int32)) fun S440 => if (S440.1 ((6, 0, 0) : qz_N) 12) = 0 then (qz_let (qz_wr S440 ((6, 0, 0) : qz_N) 11 ((S440.1 ((6, 0, 0) : qz_N) 11) + (0 : Int32))) fun S442 => if (S442.1 ((6, 0, 0) : qz_N) 12) = 0 then (qz_let (qz_wr S442 ((6, 0, 0) : qz_N) 12 (0 : Int32)) fun S444 => gM_readsBooking_L128bbbbbbbbbbbbbbbbbbbbbbbbbbbbbbbbbbbbbbbbbb F x5 x255 (fun T451 => some T451) F S444) else (Option.bind (gM_sign F S442.1) fun x452 => if (gM_in S442.1 x452 (49 : Int32) (57 : Int32)) = 0 then (qz_let (qz_wr S442 ((6, 0, 0) : qz_N) 12 (0 : Int32)) fun S455 => gM_readsBooking_L128bbbbbbbbbbbbbbbbbbbbbbbbbbbbbbbbbbbbbbbbbbb F x5 x255 (fun T462 => some T462) F S455) else (qz_let (qz_wr S442 ((6, 0, 0) : qz_N) 12 (1 : Int32)) fun S463 => gM_readsBooking_L128bbbbbbbbbbbbbbbbbbbbbbbbbbbbbbbbbbbbbbbbbbbb F x5 x255 (fun T470 => some T470) F S463))) else (qz_let (qz_wr S440 ((6, 0, 0) : qz_N) 11 ((S440.1 ((6, 0, 0) : qz_N) 11) + (1 : Int32))) fun S471 => if (S471.1 ((6, 0, 0) : qz_N) 12) = 0 then (qz_let (qz_wr S471 ((6, 0, 0) : qz_N) 12 (0 : Int32)) fun S473 => gM_readsBooking_L128bbbbbbbbbbbbbbbbbbbbbbbbbbbbbbbbbbbbbbbbbbbbb F x5 x255 (fun T480 => some T480) F S473) else (Option.bind (gM_sign F S471.1) fun x481 => if (gM_in S471.1 x481 (49 : Int32) (57 : Int32)) = 0 then (qz_let (qz_wr S471 ((6, 0, 0) : qz_N) 12 (0 : Int32)) fun S484 => gM_readsBooking_L128bbbbbbbbbbbbbbbbbbbbbbbbbbbbbbbbbbbbbbbbbbbbbb F x5 x255 (fun T491 => some T491) F S484) else (qz_let (qz_wr S471 ((6, 0, 0) : qz_N) 12 (1 : Int32)) fun S492 => gM_readsBooking_L128bbbbbbbbbbbbbbbbbbbbbbbbbbbbbbbbbbbbbbbbbbbbbbb F x5 x255 (fun T499 => some T499) F S492)))))))) else none
set_option maxHeartbeats 4000000 in
theorem vM_readsBooking_L128 (F : Nat) (x5 : Int32) (x9 : Int32) (K : (qz_S → Option (qz_S))) (hK : ∀ (T : qz_S) (r : qz_S), K T = some r → qz_E 128 161 [some (.inr (some ((6, 0, 0) : qz_N))), some (.inl (x5 - (48 : Int32))), some (.inl x9)] [] (qz_mk T.1 T.2) none (qz_mk r.1 r.2)) : ∀ (n : Nat) (T : qz_S) (r : qz_S), gM_readsBooking_L128 F x5 x9 K n T = some r → qz_E 128 128 [some (.inr (some ((6, 0, 0) : qz_N))), some (.inl (x5 - (48 : Int32))), some (.inl x9)] [] (qz_mk T.1 T.2) none (qz_mk r.1 r.2) := by
  have hb : qz_b 128 = cX6_readsBooking := rfl
  have hcn : qz_cn 128 = 6 := rfl
  intro n
  induction n with
  | zero =>
    intro T r h
    cases h
  | succ n ih =>
    intro T r h
    rw [gM_readsBooking_L128] at h
    refine ei_aln hb dX6_readsBooking_128 (pc' := 129) rfl rfl ?_
    refine ei_gi hb dX6_readsBooking_129 (pc' := 132) (x := (T.1 ((6, 0, 0) : qz_N) 12)) hcn qz_f_6_161 rfl rfl rfl rfl ?_
    by_cases c17 : (T.1 ((6, 0, 0) : qz_N) 12) = 0
    · rw [if_pos c17] at h
      refine ei_ifT hb dX6_readsBooking_132 (pc' := 161) (decide_eq_true c17) (by decide) ?_
      exact hK T _ h
    · rw [if_neg c17] at h
      refine ei_ifF hb dX6_readsBooking_132 (pc' := 135) (t := 161) (decide_eq_false c17) (by decide) rfl ?_
      refine ei_aln hb dX6_readsBooking_135 (pc' := 136) rfl rfl ?_
      obtain ⟨x18, e19, h⟩ := Option.bind_eq_some_iff.mp h
      refine ei_cv hb dX6_readsBooking_136 (pc' := 139) (M1 := (qz_mk T.1 T.2)) (as := []) (rest := []) (st' := [.inl x18]) hcn qz_c_6_158 qz_k_126 (qz_q_128_126) (Nat.le_of_ble_eq_true rfl) (Nat.le_of_ble_eq_true rfl) rfl rfl rfl (vM_sign F T.1 T.2 _ e19) rfl rfl ?_
      refine ei_b hb dX6_readsBooking_139 (v := (49 : Int32)) (pc' := 141) (by decide) rfl ?_
      refine ei_b hb dX6_readsBooking_141 (v := (57 : Int32)) (pc' := 143) (by decide) rfl ?_
      refine ei_cs hb dX6_readsBooking_143 (pc' := 146) (M1 := (qz_mk T.1 T.2)) (as := [.inl x18, .inl (49 : Int32), .inl (57 : Int32)]) (rest := []) (st' := [.inl (gM_in T.1 x18 (49 : Int32) (57 : Int32))]) hcn qz_c_6_36 rfl qz_k_84 (qz_q_128_84) (Nat.le_of_ble_eq_true rfl) (Nat.le_of_ble_eq_true rfl) rfl rfl (vM_in T.1 T.2 x18 (49 : Int32) (57 : Int32)) rfl rfl ?_
      by_cases c20 : (gM_in T.1 x18 (49 : Int32) (57 : Int32)) = 0
      · rw [if_pos c20] at h
        refine ei_ifT hb dX6_readsBooking_146 (pc' := 161) (decide_eq_true c20) (by decide) ?_
        exact hK T _ h
      · rw [if_neg c20] at h
        refine ei_ifF hb dX6_readsBooking_146 (pc' := 149) (t := 161) (decide_eq_false c20) (by decide) rfl ?_
        refine ei_aln hb dX6_readsBooking_149 (pc' := 150) rfl rfl ?_
        refine ei_iln hb dX6_readsBooking_150 (pc' := 151) rfl rfl ?_
        refine ei_iln hb dX6_readsBooking_151 (pc' := 152) rfl rfl ?_
        refine ei_b hb dX6_readsBooking_152 (v := (97 : Int32)) (pc' := 154) (by decide) rfl ?_
        refine ei_sub hb dX6_readsBooking_154 (pc' := 155) rfl ?_
        obtain ⟨R21, e22, h⟩ := Option.bind_eq_some_iff.mp h
        refine ei_cv hb dX6_readsBooking_155 (pc' := 158) (M1 := (qz_mk R21.1 R21.2)) (as := [.inl (x5 - (48 : Int32)), .inl (x9 - (97 : Int32))]) (rest := []) (st' := []) hcn qz_c_6_165 qz_k_127 (qz_q_128_127) (Nat.le_of_ble_eq_true rfl) (Nat.le_of_ble_eq_true rfl) rfl rfl rfl (vM_readsStop F T (x5 - (48 : Int32)) (x9 - (97 : Int32)) _ e22) rfl rfl ?_
        refine ei_go hb dX6_readsBooking_158 (pc' := 128) (by decide) ?_
        exact ih R21 _ h
set_option maxHeartbeats 4000000 in
theorem vM_readsBooking_L128b (F : Nat) (x5 : Int32) (x9 : Int32) (K : (qz_S → Option (qz_S))) (hK : ∀ (T : qz_S) (r : qz_S), K T = some r → qz_E 128 161 [some (.inr (some ((6, 0, 0) : qz_N))), some (.inl (x5 - (48 : Int32))), some (.inl x9)] [] (qz_mk T.1 T.2) none (qz_mk r.1 r.2)) : ∀ (n : Nat) (T : qz_S) (r : qz_S), gM_readsBooking_L128b F x5 x9 K n T = some r → qz_E 128 128 [some (.inr (some ((6, 0, 0) : qz_N))), some (.inl (x5 - (48 : Int32))), some (.inl x9)] [] (qz_mk T.1 T.2) none (qz_mk r.1 r.2) := by
  have hb : qz_b 128 = cX6_readsBooking := rfl
  have hcn : qz_cn 128 = 6 := rfl
  intro n
  induction n with
  | zero =>
    intro T r h
    cases h
  | succ n ih =>
    intro T r h
    rw [gM_readsBooking_L128b] at h
    refine ei_aln hb dX6_readsBooking_128 (pc' := 129) rfl rfl ?_
    refine ei_gi hb dX6_readsBooking_129 (pc' := 132) (x := (T.1 ((6, 0, 0) : qz_N) 12)) hcn qz_f_6_161 rfl rfl rfl rfl ?_
    by_cases c28 : (T.1 ((6, 0, 0) : qz_N) 12) = 0
    · rw [if_pos c28] at h
      refine ei_ifT hb dX6_readsBooking_132 (pc' := 161) (decide_eq_true c28) (by decide) ?_
      exact hK T _ h
    · rw [if_neg c28] at h
      refine ei_ifF hb dX6_readsBooking_132 (pc' := 135) (t := 161) (decide_eq_false c28) (by decide) rfl ?_
      refine ei_aln hb dX6_readsBooking_135 (pc' := 136) rfl rfl ?_
      obtain ⟨x29, e30, h⟩ := Option.bind_eq_some_iff.mp h
      refine ei_cv hb dX6_readsBooking_136 (pc' := 139) (M1 := (qz_mk T.1 T.2)) (as := []) (rest := []) (st' := [.inl x29]) hcn qz_c_6_158 qz_k_126 (qz_q_128_126) (Nat.le_of_ble_eq_true rfl) (Nat.le_of_ble_eq_true rfl) rfl rfl rfl (vM_sign F T.1 T.2 _ e30) rfl rfl ?_
      refine ei_b hb dX6_readsBooking_139 (v := (49 : Int32)) (pc' := 141) (by decide) rfl ?_
      refine ei_b hb dX6_readsBooking_141 (v := (57 : Int32)) (pc' := 143) (by decide) rfl ?_
      refine ei_cs hb dX6_readsBooking_143 (pc' := 146) (M1 := (qz_mk T.1 T.2)) (as := [.inl x29, .inl (49 : Int32), .inl (57 : Int32)]) (rest := []) (st' := [.inl (gM_in T.1 x29 (49 : Int32) (57 : Int32))]) hcn qz_c_6_36 rfl qz_k_84 (qz_q_128_84) (Nat.le_of_ble_eq_true rfl) (Nat.le_of_ble_eq_true rfl) rfl rfl (vM_in T.1 T.2 x29 (49 : Int32) (57 : Int32)) rfl rfl ?_
      by_cases c31 : (gM_in T.1 x29 (49 : Int32) (57 : Int32)) = 0
      · rw [if_pos c31] at h
        refine ei_ifT hb dX6_readsBooking_146 (pc' := 161) (decide_eq_true c31) (by decide) ?_
        exact hK T _ h
      · rw [if_neg c31] at h
        refine ei_ifF hb dX6_readsBooking_146 (pc' := 149) (t := 161) (decide_eq_false c31) (by decide) rfl ?_
        refine ei_aln hb dX6_readsBooking_149 (pc' := 150) rfl rfl ?_
        refine ei_iln hb dX6_readsBooking_150 (pc' := 151) rfl rfl ?_
        refine ei_iln hb dX6_readsBooking_151 (pc' := 152) rfl rfl ?_
        refine ei_b hb dX6_readsBooking_152 (v := (97 : Int32)) (pc' := 154) (by decide) rfl ?_
        refine ei_sub hb dX6_readsBooking_154 (pc' := 155) rfl ?_
        obtain ⟨R32, e33, h⟩ := Option.bind_eq_some_iff.mp h
        refine ei_cv hb dX6_readsBooking_155 (pc' := 158) (M1 := (qz_mk R32.1 R32.2)) (as := [.inl (x5 - (48 : Int32)), .inl (x9 - (97 : Int32))]) (rest := []) (st' := []) hcn qz_c_6_165 qz_k_127 (qz_q_128_127) (Nat.le_of_ble_eq_true rfl) (Nat.le_of_ble_eq_true rfl) rfl rfl rfl (vM_readsStop F T (x5 - (48 : Int32)) (x9 - (97 : Int32)) _ e33) rfl rfl ?_
        refine ei_go hb dX6_readsBooking_158 (pc' := 128) (by decide) ?_
        exact ih R32 _ h
set_option maxHeartbeats 4000000 in
theorem vM_readsBooking_L128bb (F : Nat) (x5 : Int32) (x9 : Int32) (K : (qz_S → Option (qz_S))) (hK : ∀ (T : qz_S) (r : qz_S), K T = some r → qz_E 128 161 [some (.inr (some ((6, 0, 0) : qz_N))), some (.inl (x5 - (48 : Int32))), some (.inl x9)] [] (qz_mk T.1 T.2) none (qz_mk r.1 r.2)) : ∀ (n : Nat) (T : qz_S) (r : qz_S), gM_readsBooking_L128bb F x5 x9 K n T = some r → qz_E 128 128 [some (.inr (some ((6, 0, 0) : qz_N))), some (.inl (x5 - (48 : Int32))), some (.inl x9)] [] (qz_mk T.1 T.2) none (qz_mk r.1 r.2) := by
  have hb : qz_b 128 = cX6_readsBooking := rfl
  have hcn : qz_cn 128 = 6 := rfl
  intro n
  induction n with
  | zero =>
    intro T r h
    cases h
  | succ n ih =>
    intro T r h
    rw [gM_readsBooking_L128bb] at h
    refine ei_aln hb dX6_readsBooking_128 (pc' := 129) rfl rfl ?_
    refine ei_gi hb dX6_readsBooking_129 (pc' := 132) (x := (T.1 ((6, 0, 0) : qz_N) 12)) hcn qz_f_6_161 rfl rfl rfl rfl ?_
    by_cases c36 : (T.1 ((6, 0, 0) : qz_N) 12) = 0
    · rw [if_pos c36] at h
      refine ei_ifT hb dX6_readsBooking_132 (pc' := 161) (decide_eq_true c36) (by decide) ?_
      exact hK T _ h
    · rw [if_neg c36] at h
      refine ei_ifF hb dX6_readsBooking_132 (pc' := 135) (t := 161) (decide_eq_false c36) (by decide) rfl ?_
      refine ei_aln hb dX6_readsBooking_135 (pc' := 136) rfl rfl ?_
      obtain ⟨x37, e38, h⟩ := Option.bind_eq_some_iff.mp h
      refine ei_cv hb dX6_readsBooking_136 (pc' := 139) (M1 := (qz_mk T.1 T.2)) (as := []) (rest := []) (st' := [.inl x37]) hcn qz_c_6_158 qz_k_126 (qz_q_128_126) (Nat.le_of_ble_eq_true rfl) (Nat.le_of_ble_eq_true rfl) rfl rfl rfl (vM_sign F T.1 T.2 _ e38) rfl rfl ?_
      refine ei_b hb dX6_readsBooking_139 (v := (49 : Int32)) (pc' := 141) (by decide) rfl ?_
      refine ei_b hb dX6_readsBooking_141 (v := (57 : Int32)) (pc' := 143) (by decide) rfl ?_
      refine ei_cs hb dX6_readsBooking_143 (pc' := 146) (M1 := (qz_mk T.1 T.2)) (as := [.inl x37, .inl (49 : Int32), .inl (57 : Int32)]) (rest := []) (st' := [.inl (gM_in T.1 x37 (49 : Int32) (57 : Int32))]) hcn qz_c_6_36 rfl qz_k_84 (qz_q_128_84) (Nat.le_of_ble_eq_true rfl) (Nat.le_of_ble_eq_true rfl) rfl rfl (vM_in T.1 T.2 x37 (49 : Int32) (57 : Int32)) rfl rfl ?_
      by_cases c39 : (gM_in T.1 x37 (49 : Int32) (57 : Int32)) = 0
      · rw [if_pos c39] at h
        refine ei_ifT hb dX6_readsBooking_146 (pc' := 161) (decide_eq_true c39) (by decide) ?_
        exact hK T _ h
      · rw [if_neg c39] at h
        refine ei_ifF hb dX6_readsBooking_146 (pc' := 149) (t := 161) (decide_eq_false c39) (by decide) rfl ?_
        refine ei_aln hb dX6_readsBooking_149 (pc' := 150) rfl rfl ?_
        refine ei_iln hb dX6_readsBooking_150 (pc' := 151) rfl rfl ?_
        refine ei_iln hb dX6_readsBooking_151 (pc' := 152) rfl rfl ?_
        refine ei_b hb dX6_readsBooking_152 (v := (97 : Int32)) (pc' := 154) (by decide) rfl ?_
        refine ei_sub hb dX6_readsBooking_154 (pc' := 155) rfl ?_
        obtain ⟨R40, e41, h⟩ := Option.bind_eq_some_iff.mp h
        refine ei_cv hb dX6_readsBooking_155 (pc' := 158) (M1 := (qz_mk R40.1 R40.2)) (as := [.inl (x5 - (48 : Int32)), .inl (x9 - (97 : Int32))]) (rest := []) (st' := []) hcn qz_c_6_165 qz_k_127 (qz_q_128_127) (Nat.le_of_ble_eq_true rfl) (Nat.le_of_ble_eq_true rfl) rfl rfl rfl (vM_readsStop F T (x5 - (48 : Int32)) (x9 - (97 : Int32)) _ e41) rfl rfl ?_
        refine ei_go hb dX6_readsBooking_158 (pc' := 128) (by decide) ?_
        exact ih R40 _ h
set_option maxHeartbeats 4000000 in
theorem vM_readsBooking_L128bbb (F : Nat) (x5 : Int32) (x9 : Int32) (K : (qz_S → Option (qz_S))) (hK : ∀ (T : qz_S) (r : qz_S), K T = some r → qz_E 128 161 [some (.inr (some ((6, 0, 0) : qz_N))), some (.inl (x5 - (48 : Int32))), some (.inl x9)] [] (qz_mk T.1 T.2) none (qz_mk r.1 r.2)) : ∀ (n : Nat) (T : qz_S) (r : qz_S), gM_readsBooking_L128bbb F x5 x9 K n T = some r → qz_E 128 128 [some (.inr (some ((6, 0, 0) : qz_N))), some (.inl (x5 - (48 : Int32))), some (.inl x9)] [] (qz_mk T.1 T.2) none (qz_mk r.1 r.2) := by
  have hb : qz_b 128 = cX6_readsBooking := rfl
  have hcn : qz_cn 128 = 6 := rfl
  intro n
  induction n with
  | zero =>
    intro T r h
    cases h
  | succ n ih =>
    intro T r h
    rw [gM_readsBooking_L128bbb] at h
    refine ei_aln hb dX6_readsBooking_128 (pc' := 129) rfl rfl ?_
    refine ei_gi hb dX6_readsBooking_129 (pc' := 132) (x := (T.1 ((6, 0, 0) : qz_N) 12)) hcn qz_f_6_161 rfl rfl rfl rfl ?_
    by_cases c46 : (T.1 ((6, 0, 0) : qz_N) 12) = 0
    · rw [if_pos c46] at h
      refine ei_ifT hb dX6_readsBooking_132 (pc' := 161) (decide_eq_true c46) (by decide) ?_
      exact hK T _ h
    · rw [if_neg c46] at h
      refine ei_ifF hb dX6_readsBooking_132 (pc' := 135) (t := 161) (decide_eq_false c46) (by decide) rfl ?_
      refine ei_aln hb dX6_readsBooking_135 (pc' := 136) rfl rfl ?_
      obtain ⟨x47, e48, h⟩ := Option.bind_eq_some_iff.mp h
      refine ei_cv hb dX6_readsBooking_136 (pc' := 139) (M1 := (qz_mk T.1 T.2)) (as := []) (rest := []) (st' := [.inl x47]) hcn qz_c_6_158 qz_k_126 (qz_q_128_126) (Nat.le_of_ble_eq_true rfl) (Nat.le_of_ble_eq_true rfl) rfl rfl rfl (vM_sign F T.1 T.2 _ e48) rfl rfl ?_
      refine ei_b hb dX6_readsBooking_139 (v := (49 : Int32)) (pc' := 141) (by decide) rfl ?_
      refine ei_b hb dX6_readsBooking_141 (v := (57 : Int32)) (pc' := 143) (by decide) rfl ?_
      refine ei_cs hb dX6_readsBooking_143 (pc' := 146) (M1 := (qz_mk T.1 T.2)) (as := [.inl x47, .inl (49 : Int32), .inl (57 : Int32)]) (rest := []) (st' := [.inl (gM_in T.1 x47 (49 : Int32) (57 : Int32))]) hcn qz_c_6_36 rfl qz_k_84 (qz_q_128_84) (Nat.le_of_ble_eq_true rfl) (Nat.le_of_ble_eq_true rfl) rfl rfl (vM_in T.1 T.2 x47 (49 : Int32) (57 : Int32)) rfl rfl ?_
      by_cases c49 : (gM_in T.1 x47 (49 : Int32) (57 : Int32)) = 0
      · rw [if_pos c49] at h
        refine ei_ifT hb dX6_readsBooking_146 (pc' := 161) (decide_eq_true c49) (by decide) ?_
        exact hK T _ h
      · rw [if_neg c49] at h
        refine ei_ifF hb dX6_readsBooking_146 (pc' := 149) (t := 161) (decide_eq_false c49) (by decide) rfl ?_
        refine ei_aln hb dX6_readsBooking_149 (pc' := 150) rfl rfl ?_
        refine ei_iln hb dX6_readsBooking_150 (pc' := 151) rfl rfl ?_
        refine ei_iln hb dX6_readsBooking_151 (pc' := 152) rfl rfl ?_
        refine ei_b hb dX6_readsBooking_152 (v := (97 : Int32)) (pc' := 154) (by decide) rfl ?_
        refine ei_sub hb dX6_readsBooking_154 (pc' := 155) rfl ?_
        obtain ⟨R50, e51, h⟩ := Option.bind_eq_some_iff.mp h
        refine ei_cv hb dX6_readsBooking_155 (pc' := 158) (M1 := (qz_mk R50.1 R50.2)) (as := [.inl (x5 - (48 : Int32)), .inl (x9 - (97 : Int32))]) (rest := []) (st' := []) hcn qz_c_6_165 qz_k_127 (qz_q_128_127) (Nat.le_of_ble_eq_true rfl) (Nat.le_of_ble_eq_true rfl) rfl rfl rfl (vM_readsStop F T (x5 - (48 : Int32)) (x9 - (97 : Int32)) _ e51) rfl rfl ?_
        refine ei_go hb dX6_readsBooking_158 (pc' := 128) (by decide) ?_
        exact ih R50 _ h
set_option maxHeartbeats 4000000 in
theorem vM_readsBooking_L128bbbb (F : Nat) (x5 : Int32) (x9 : Int32) (K : (qz_S → Option (qz_S))) (hK : ∀ (T : qz_S) (r : qz_S), K T = some r → qz_E 128 161 [some (.inr (some ((6, 0, 0) : qz_N))), some (.inl (x5 - (48 : Int32))), some (.inl x9)] [] (qz_mk T.1 T.2) none (qz_mk r.1 r.2)) : ∀ (n : Nat) (T : qz_S) (r : qz_S), gM_readsBooking_L128bbbb F x5 x9 K n T = some r → qz_E 128 128 [some (.inr (some ((6, 0, 0) : qz_N))), some (.inl (x5 - (48 : Int32))), some (.inl x9)] [] (qz_mk T.1 T.2) none (qz_mk r.1 r.2) := by
  have hb : qz_b 128 = cX6_readsBooking := rfl
  have hcn : qz_cn 128 = 6 := rfl
  intro n
  induction n with
  | zero =>
    intro T r h
    cases h
  | succ n ih =>
    intro T r h
    rw [gM_readsBooking_L128bbbb] at h
    refine ei_aln hb dX6_readsBooking_128 (pc' := 129) rfl rfl ?_
    refine ei_gi hb dX6_readsBooking_129 (pc' := 132) (x := (T.1 ((6, 0, 0) : qz_N) 12)) hcn qz_f_6_161 rfl rfl rfl rfl ?_
    by_cases c57 : (T.1 ((6, 0, 0) : qz_N) 12) = 0
    · rw [if_pos c57] at h
      refine ei_ifT hb dX6_readsBooking_132 (pc' := 161) (decide_eq_true c57) (by decide) ?_
      exact hK T _ h
    · rw [if_neg c57] at h
      refine ei_ifF hb dX6_readsBooking_132 (pc' := 135) (t := 161) (decide_eq_false c57) (by decide) rfl ?_
      refine ei_aln hb dX6_readsBooking_135 (pc' := 136) rfl rfl ?_
      obtain ⟨x58, e59, h⟩ := Option.bind_eq_some_iff.mp h
      refine ei_cv hb dX6_readsBooking_136 (pc' := 139) (M1 := (qz_mk T.1 T.2)) (as := []) (rest := []) (st' := [.inl x58]) hcn qz_c_6_158 qz_k_126 (qz_q_128_126) (Nat.le_of_ble_eq_true rfl) (Nat.le_of_ble_eq_true rfl) rfl rfl rfl (vM_sign F T.1 T.2 _ e59) rfl rfl ?_
      refine ei_b hb dX6_readsBooking_139 (v := (49 : Int32)) (pc' := 141) (by decide) rfl ?_
      refine ei_b hb dX6_readsBooking_141 (v := (57 : Int32)) (pc' := 143) (by decide) rfl ?_
      refine ei_cs hb dX6_readsBooking_143 (pc' := 146) (M1 := (qz_mk T.1 T.2)) (as := [.inl x58, .inl (49 : Int32), .inl (57 : Int32)]) (rest := []) (st' := [.inl (gM_in T.1 x58 (49 : Int32) (57 : Int32))]) hcn qz_c_6_36 rfl qz_k_84 (qz_q_128_84) (Nat.le_of_ble_eq_true rfl) (Nat.le_of_ble_eq_true rfl) rfl rfl (vM_in T.1 T.2 x58 (49 : Int32) (57 : Int32)) rfl rfl ?_
      by_cases c60 : (gM_in T.1 x58 (49 : Int32) (57 : Int32)) = 0
      · rw [if_pos c60] at h
        refine ei_ifT hb dX6_readsBooking_146 (pc' := 161) (decide_eq_true c60) (by decide) ?_
        exact hK T _ h
      · rw [if_neg c60] at h
        refine ei_ifF hb dX6_readsBooking_146 (pc' := 149) (t := 161) (decide_eq_false c60) (by decide) rfl ?_
        refine ei_aln hb dX6_readsBooking_149 (pc' := 150) rfl rfl ?_
        refine ei_iln hb dX6_readsBooking_150 (pc' := 151) rfl rfl ?_
        refine ei_iln hb dX6_readsBooking_151 (pc' := 152) rfl rfl ?_
        refine ei_b hb dX6_readsBooking_152 (v := (97 : Int32)) (pc' := 154) (by decide) rfl ?_
        refine ei_sub hb dX6_readsBooking_154 (pc' := 155) rfl ?_
        obtain ⟨R61, e62, h⟩ := Option.bind_eq_some_iff.mp h
        refine ei_cv hb dX6_readsBooking_155 (pc' := 158) (M1 := (qz_mk R61.1 R61.2)) (as := [.inl (x5 - (48 : Int32)), .inl (x9 - (97 : Int32))]) (rest := []) (st' := []) hcn qz_c_6_165 qz_k_127 (qz_q_128_127) (Nat.le_of_ble_eq_true rfl) (Nat.le_of_ble_eq_true rfl) rfl rfl rfl (vM_readsStop F T (x5 - (48 : Int32)) (x9 - (97 : Int32)) _ e62) rfl rfl ?_
        refine ei_go hb dX6_readsBooking_158 (pc' := 128) (by decide) ?_
        exact ih R61 _ h
set_option maxHeartbeats 4000000 in
theorem vM_readsBooking_L128bbbbb (F : Nat) (x5 : Int32) (x9 : Int32) (K : (qz_S → Option (qz_S))) (hK : ∀ (T : qz_S) (r : qz_S), K T = some r → qz_E 128 161 [some (.inr (some ((6, 0, 0) : qz_N))), some (.inl (x5 - (48 : Int32))), some (.inl x9)] [] (qz_mk T.1 T.2) none (qz_mk r.1 r.2)) : ∀ (n : Nat) (T : qz_S) (r : qz_S), gM_readsBooking_L128bbbbb F x5 x9 K n T = some r → qz_E 128 128 [some (.inr (some ((6, 0, 0) : qz_N))), some (.inl (x5 - (48 : Int32))), some (.inl x9)] [] (qz_mk T.1 T.2) none (qz_mk r.1 r.2) := by
  have hb : qz_b 128 = cX6_readsBooking := rfl
  have hcn : qz_cn 128 = 6 := rfl
  intro n
  induction n with
  | zero =>
    intro T r h
    cases h
  | succ n ih =>
    intro T r h
    rw [gM_readsBooking_L128bbbbb] at h
    refine ei_aln hb dX6_readsBooking_128 (pc' := 129) rfl rfl ?_
    refine ei_gi hb dX6_readsBooking_129 (pc' := 132) (x := (T.1 ((6, 0, 0) : qz_N) 12)) hcn qz_f_6_161 rfl rfl rfl rfl ?_
    by_cases c65 : (T.1 ((6, 0, 0) : qz_N) 12) = 0
    · rw [if_pos c65] at h
      refine ei_ifT hb dX6_readsBooking_132 (pc' := 161) (decide_eq_true c65) (by decide) ?_
      exact hK T _ h
    · rw [if_neg c65] at h
      refine ei_ifF hb dX6_readsBooking_132 (pc' := 135) (t := 161) (decide_eq_false c65) (by decide) rfl ?_
      refine ei_aln hb dX6_readsBooking_135 (pc' := 136) rfl rfl ?_
      obtain ⟨x66, e67, h⟩ := Option.bind_eq_some_iff.mp h
      refine ei_cv hb dX6_readsBooking_136 (pc' := 139) (M1 := (qz_mk T.1 T.2)) (as := []) (rest := []) (st' := [.inl x66]) hcn qz_c_6_158 qz_k_126 (qz_q_128_126) (Nat.le_of_ble_eq_true rfl) (Nat.le_of_ble_eq_true rfl) rfl rfl rfl (vM_sign F T.1 T.2 _ e67) rfl rfl ?_
      refine ei_b hb dX6_readsBooking_139 (v := (49 : Int32)) (pc' := 141) (by decide) rfl ?_
      refine ei_b hb dX6_readsBooking_141 (v := (57 : Int32)) (pc' := 143) (by decide) rfl ?_
      refine ei_cs hb dX6_readsBooking_143 (pc' := 146) (M1 := (qz_mk T.1 T.2)) (as := [.inl x66, .inl (49 : Int32), .inl (57 : Int32)]) (rest := []) (st' := [.inl (gM_in T.1 x66 (49 : Int32) (57 : Int32))]) hcn qz_c_6_36 rfl qz_k_84 (qz_q_128_84) (Nat.le_of_ble_eq_true rfl) (Nat.le_of_ble_eq_true rfl) rfl rfl (vM_in T.1 T.2 x66 (49 : Int32) (57 : Int32)) rfl rfl ?_
      by_cases c68 : (gM_in T.1 x66 (49 : Int32) (57 : Int32)) = 0
      · rw [if_pos c68] at h
        refine ei_ifT hb dX6_readsBooking_146 (pc' := 161) (decide_eq_true c68) (by decide) ?_
        exact hK T _ h
      · rw [if_neg c68] at h
        refine ei_ifF hb dX6_readsBooking_146 (pc' := 149) (t := 161) (decide_eq_false c68) (by decide) rfl ?_
        refine ei_aln hb dX6_readsBooking_149 (pc' := 150) rfl rfl ?_
        refine ei_iln hb dX6_readsBooking_150 (pc' := 151) rfl rfl ?_
        refine ei_iln hb dX6_readsBooking_151 (pc' := 152) rfl rfl ?_
        refine ei_b hb dX6_readsBooking_152 (v := (97 : Int32)) (pc' := 154) (by decide) rfl ?_
        refine ei_sub hb dX6_readsBooking_154 (pc' := 155) rfl ?_
        obtain ⟨R69, e70, h⟩ := Option.bind_eq_some_iff.mp h
        refine ei_cv hb dX6_readsBooking_155 (pc' := 158) (M1 := (qz_mk R69.1 R69.2)) (as := [.inl (x5 - (48 : Int32)), .inl (x9 - (97 : Int32))]) (rest := []) (st' := []) hcn qz_c_6_165 qz_k_127 (qz_q_128_127) (Nat.le_of_ble_eq_true rfl) (Nat.le_of_ble_eq_true rfl) rfl rfl rfl (vM_readsStop F T (x5 - (48 : Int32)) (x9 - (97 : Int32)) _ e70) rfl rfl ?_
        refine ei_go hb dX6_readsBooking_158 (pc' := 128) (by decide) ?_
        exact ih R69 _ h
set_option maxHeartbeats 4000000 in
theorem vM_readsBooking_L128bbbbbb (F : Nat) (x5 : Int32) (x9 : Int32) (K : (qz_S → Option (qz_S))) (hK : ∀ (T : qz_S) (r : qz_S), K T = some r → qz_E 128 161 [some (.inr (some ((6, 0, 0) : qz_N))), some (.inl (x5 - (48 : Int32))), some (.inl x9)] [] (qz_mk T.1 T.2) none (qz_mk r.1 r.2)) : ∀ (n : Nat) (T : qz_S) (r : qz_S), gM_readsBooking_L128bbbbbb F x5 x9 K n T = some r → qz_E 128 128 [some (.inr (some ((6, 0, 0) : qz_N))), some (.inl (x5 - (48 : Int32))), some (.inl x9)] [] (qz_mk T.1 T.2) none (qz_mk r.1 r.2) := by
  have hb : qz_b 128 = cX6_readsBooking := rfl
  have hcn : qz_cn 128 = 6 := rfl
  intro n
  induction n with
  | zero =>
    intro T r h
    cases h
  | succ n ih =>
    intro T r h
    rw [gM_readsBooking_L128bbbbbb] at h
    refine ei_aln hb dX6_readsBooking_128 (pc' := 129) rfl rfl ?_
    refine ei_gi hb dX6_readsBooking_129 (pc' := 132) (x := (T.1 ((6, 0, 0) : qz_N) 12)) hcn qz_f_6_161 rfl rfl rfl rfl ?_
    by_cases c78 : (T.1 ((6, 0, 0) : qz_N) 12) = 0
    · rw [if_pos c78] at h
      refine ei_ifT hb dX6_readsBooking_132 (pc' := 161) (decide_eq_true c78) (by decide) ?_
      exact hK T _ h
    · rw [if_neg c78] at h
      refine ei_ifF hb dX6_readsBooking_132 (pc' := 135) (t := 161) (decide_eq_false c78) (by decide) rfl ?_
      refine ei_aln hb dX6_readsBooking_135 (pc' := 136) rfl rfl ?_
      obtain ⟨x79, e80, h⟩ := Option.bind_eq_some_iff.mp h
      refine ei_cv hb dX6_readsBooking_136 (pc' := 139) (M1 := (qz_mk T.1 T.2)) (as := []) (rest := []) (st' := [.inl x79]) hcn qz_c_6_158 qz_k_126 (qz_q_128_126) (Nat.le_of_ble_eq_true rfl) (Nat.le_of_ble_eq_true rfl) rfl rfl rfl (vM_sign F T.1 T.2 _ e80) rfl rfl ?_
      refine ei_b hb dX6_readsBooking_139 (v := (49 : Int32)) (pc' := 141) (by decide) rfl ?_
      refine ei_b hb dX6_readsBooking_141 (v := (57 : Int32)) (pc' := 143) (by decide) rfl ?_
      refine ei_cs hb dX6_readsBooking_143 (pc' := 146) (M1 := (qz_mk T.1 T.2)) (as := [.inl x79, .inl (49 : Int32), .inl (57 : Int32)]) (rest := []) (st' := [.inl (gM_in T.1 x79 (49 : Int32) (57 : Int32))]) hcn qz_c_6_36 rfl qz_k_84 (qz_q_128_84) (Nat.le_of_ble_eq_true rfl) (Nat.le_of_ble_eq_true rfl) rfl rfl (vM_in T.1 T.2 x79 (49 : Int32) (57 : Int32)) rfl rfl ?_
      by_cases c81 : (gM_in T.1 x79 (49 : Int32) (57 : Int32)) = 0
      · rw [if_pos c81] at h
        refine ei_ifT hb dX6_readsBooking_146 (pc' := 161) (decide_eq_true c81) (by decide) ?_
        exact hK T _ h
      · rw [if_neg c81] at h
        refine ei_ifF hb dX6_readsBooking_146 (pc' := 149) (t := 161) (decide_eq_false c81) (by decide) rfl ?_
        refine ei_aln hb dX6_readsBooking_149 (pc' := 150) rfl rfl ?_
        refine ei_iln hb dX6_readsBooking_150 (pc' := 151) rfl rfl ?_
        refine ei_iln hb dX6_readsBooking_151 (pc' := 152) rfl rfl ?_
        refine ei_b hb dX6_readsBooking_152 (v := (97 : Int32)) (pc' := 154) (by decide) rfl ?_
        refine ei_sub hb dX6_readsBooking_154 (pc' := 155) rfl ?_
        obtain ⟨R82, e83, h⟩ := Option.bind_eq_some_iff.mp h
        refine ei_cv hb dX6_readsBooking_155 (pc' := 158) (M1 := (qz_mk R82.1 R82.2)) (as := [.inl (x5 - (48 : Int32)), .inl (x9 - (97 : Int32))]) (rest := []) (st' := []) hcn qz_c_6_165 qz_k_127 (qz_q_128_127) (Nat.le_of_ble_eq_true rfl) (Nat.le_of_ble_eq_true rfl) rfl rfl rfl (vM_readsStop F T (x5 - (48 : Int32)) (x9 - (97 : Int32)) _ e83) rfl rfl ?_
        refine ei_go hb dX6_readsBooking_158 (pc' := 128) (by decide) ?_
        exact ih R82 _ h
set_option maxHeartbeats 4000000 in
theorem vM_readsBooking_L128bbbbbbb (F : Nat) (x5 : Int32) (x9 : Int32) (K : (qz_S → Option (qz_S))) (hK : ∀ (T : qz_S) (r : qz_S), K T = some r → qz_E 128 161 [some (.inr (some ((6, 0, 0) : qz_N))), some (.inl (x5 - (48 : Int32))), some (.inl x9)] [] (qz_mk T.1 T.2) none (qz_mk r.1 r.2)) : ∀ (n : Nat) (T : qz_S) (r : qz_S), gM_readsBooking_L128bbbbbbb F x5 x9 K n T = some r → qz_E 128 128 [some (.inr (some ((6, 0, 0) : qz_N))), some (.inl (x5 - (48 : Int32))), some (.inl x9)] [] (qz_mk T.1 T.2) none (qz_mk r.1 r.2) := by
  have hb : qz_b 128 = cX6_readsBooking := rfl
  have hcn : qz_cn 128 = 6 := rfl
  intro n
  induction n with
  | zero =>
    intro T r h
    cases h
  | succ n ih =>
    intro T r h
    rw [gM_readsBooking_L128bbbbbbb] at h
    refine ei_aln hb dX6_readsBooking_128 (pc' := 129) rfl rfl ?_
    refine ei_gi hb dX6_readsBooking_129 (pc' := 132) (x := (T.1 ((6, 0, 0) : qz_N) 12)) hcn qz_f_6_161 rfl rfl rfl rfl ?_
    by_cases c89 : (T.1 ((6, 0, 0) : qz_N) 12) = 0
    · rw [if_pos c89] at h
      refine ei_ifT hb dX6_readsBooking_132 (pc' := 161) (decide_eq_true c89) (by decide) ?_
      exact hK T _ h
    · rw [if_neg c89] at h
      refine ei_ifF hb dX6_readsBooking_132 (pc' := 135) (t := 161) (decide_eq_false c89) (by decide) rfl ?_
      refine ei_aln hb dX6_readsBooking_135 (pc' := 136) rfl rfl ?_
      obtain ⟨x90, e91, h⟩ := Option.bind_eq_some_iff.mp h
      refine ei_cv hb dX6_readsBooking_136 (pc' := 139) (M1 := (qz_mk T.1 T.2)) (as := []) (rest := []) (st' := [.inl x90]) hcn qz_c_6_158 qz_k_126 (qz_q_128_126) (Nat.le_of_ble_eq_true rfl) (Nat.le_of_ble_eq_true rfl) rfl rfl rfl (vM_sign F T.1 T.2 _ e91) rfl rfl ?_
      refine ei_b hb dX6_readsBooking_139 (v := (49 : Int32)) (pc' := 141) (by decide) rfl ?_
      refine ei_b hb dX6_readsBooking_141 (v := (57 : Int32)) (pc' := 143) (by decide) rfl ?_
      refine ei_cs hb dX6_readsBooking_143 (pc' := 146) (M1 := (qz_mk T.1 T.2)) (as := [.inl x90, .inl (49 : Int32), .inl (57 : Int32)]) (rest := []) (st' := [.inl (gM_in T.1 x90 (49 : Int32) (57 : Int32))]) hcn qz_c_6_36 rfl qz_k_84 (qz_q_128_84) (Nat.le_of_ble_eq_true rfl) (Nat.le_of_ble_eq_true rfl) rfl rfl (vM_in T.1 T.2 x90 (49 : Int32) (57 : Int32)) rfl rfl ?_
      by_cases c92 : (gM_in T.1 x90 (49 : Int32) (57 : Int32)) = 0
      · rw [if_pos c92] at h
        refine ei_ifT hb dX6_readsBooking_146 (pc' := 161) (decide_eq_true c92) (by decide) ?_
        exact hK T _ h
      · rw [if_neg c92] at h
        refine ei_ifF hb dX6_readsBooking_146 (pc' := 149) (t := 161) (decide_eq_false c92) (by decide) rfl ?_
        refine ei_aln hb dX6_readsBooking_149 (pc' := 150) rfl rfl ?_
        refine ei_iln hb dX6_readsBooking_150 (pc' := 151) rfl rfl ?_
        refine ei_iln hb dX6_readsBooking_151 (pc' := 152) rfl rfl ?_
        refine ei_b hb dX6_readsBooking_152 (v := (97 : Int32)) (pc' := 154) (by decide) rfl ?_
        refine ei_sub hb dX6_readsBooking_154 (pc' := 155) rfl ?_
        obtain ⟨R93, e94, h⟩ := Option.bind_eq_some_iff.mp h
        refine ei_cv hb dX6_readsBooking_155 (pc' := 158) (M1 := (qz_mk R93.1 R93.2)) (as := [.inl (x5 - (48 : Int32)), .inl (x9 - (97 : Int32))]) (rest := []) (st' := []) hcn qz_c_6_165 qz_k_127 (qz_q_128_127) (Nat.le_of_ble_eq_true rfl) (Nat.le_of_ble_eq_true rfl) rfl rfl rfl (vM_readsStop F T (x5 - (48 : Int32)) (x9 - (97 : Int32)) _ e94) rfl rfl ?_
        refine ei_go hb dX6_readsBooking_158 (pc' := 128) (by decide) ?_
        exact ih R93 _ h
set_option maxHeartbeats 4000000 in
theorem vM_readsBooking_L128bbbbbbbb (F : Nat) (x5 : Int32) (x9 : Int32) (K : (qz_S → Option (qz_S))) (hK : ∀ (T : qz_S) (r : qz_S), K T = some r → qz_E 128 161 [some (.inr (some ((6, 0, 0) : qz_N))), some (.inl (x5 - (48 : Int32))), some (.inl x9)] [] (qz_mk T.1 T.2) none (qz_mk r.1 r.2)) : ∀ (n : Nat) (T : qz_S) (r : qz_S), gM_readsBooking_L128bbbbbbbb F x5 x9 K n T = some r → qz_E 128 128 [some (.inr (some ((6, 0, 0) : qz_N))), some (.inl (x5 - (48 : Int32))), some (.inl x9)] [] (qz_mk T.1 T.2) none (qz_mk r.1 r.2) := by
  have hb : qz_b 128 = cX6_readsBooking := rfl
  have hcn : qz_cn 128 = 6 := rfl
  intro n
  induction n with
  | zero =>
    intro T r h
    cases h
  | succ n ih =>
    intro T r h
    rw [gM_readsBooking_L128bbbbbbbb] at h
    refine ei_aln hb dX6_readsBooking_128 (pc' := 129) rfl rfl ?_
    refine ei_gi hb dX6_readsBooking_129 (pc' := 132) (x := (T.1 ((6, 0, 0) : qz_N) 12)) hcn qz_f_6_161 rfl rfl rfl rfl ?_
    by_cases c97 : (T.1 ((6, 0, 0) : qz_N) 12) = 0
    · rw [if_pos c97] at h
      refine ei_ifT hb dX6_readsBooking_132 (pc' := 161) (decide_eq_true c97) (by decide) ?_
      exact hK T _ h
    · rw [if_neg c97] at h
      refine ei_ifF hb dX6_readsBooking_132 (pc' := 135) (t := 161) (decide_eq_false c97) (by decide) rfl ?_
      refine ei_aln hb dX6_readsBooking_135 (pc' := 136) rfl rfl ?_
      obtain ⟨x98, e99, h⟩ := Option.bind_eq_some_iff.mp h
      refine ei_cv hb dX6_readsBooking_136 (pc' := 139) (M1 := (qz_mk T.1 T.2)) (as := []) (rest := []) (st' := [.inl x98]) hcn qz_c_6_158 qz_k_126 (qz_q_128_126) (Nat.le_of_ble_eq_true rfl) (Nat.le_of_ble_eq_true rfl) rfl rfl rfl (vM_sign F T.1 T.2 _ e99) rfl rfl ?_
      refine ei_b hb dX6_readsBooking_139 (v := (49 : Int32)) (pc' := 141) (by decide) rfl ?_
      refine ei_b hb dX6_readsBooking_141 (v := (57 : Int32)) (pc' := 143) (by decide) rfl ?_
      refine ei_cs hb dX6_readsBooking_143 (pc' := 146) (M1 := (qz_mk T.1 T.2)) (as := [.inl x98, .inl (49 : Int32), .inl (57 : Int32)]) (rest := []) (st' := [.inl (gM_in T.1 x98 (49 : Int32) (57 : Int32))]) hcn qz_c_6_36 rfl qz_k_84 (qz_q_128_84) (Nat.le_of_ble_eq_true rfl) (Nat.le_of_ble_eq_true rfl) rfl rfl (vM_in T.1 T.2 x98 (49 : Int32) (57 : Int32)) rfl rfl ?_
      by_cases c100 : (gM_in T.1 x98 (49 : Int32) (57 : Int32)) = 0
      · rw [if_pos c100] at h
        refine ei_ifT hb dX6_readsBooking_146 (pc' := 161) (decide_eq_true c100) (by decide) ?_
        exact hK T _ h
      · rw [if_neg c100] at h
        refine ei_ifF hb dX6_readsBooking_146 (pc' := 149) (t := 161) (decide_eq_false c100) (by decide) rfl ?_
        refine ei_aln hb dX6_readsBooking_149 (pc' := 150) rfl rfl ?_
        refine ei_iln hb dX6_readsBooking_150 (pc' := 151) rfl rfl ?_
        refine ei_iln hb dX6_readsBooking_151 (pc' := 152) rfl rfl ?_
        refine ei_b hb dX6_readsBooking_152 (v := (97 : Int32)) (pc' := 154) (by decide) rfl ?_
        refine ei_sub hb dX6_readsBooking_154 (pc' := 155) rfl ?_
        obtain ⟨R101, e102, h⟩ := Option.bind_eq_some_iff.mp h
        refine ei_cv hb dX6_readsBooking_155 (pc' := 158) (M1 := (qz_mk R101.1 R101.2)) (as := [.inl (x5 - (48 : Int32)), .inl (x9 - (97 : Int32))]) (rest := []) (st' := []) hcn qz_c_6_165 qz_k_127 (qz_q_128_127) (Nat.le_of_ble_eq_true rfl) (Nat.le_of_ble_eq_true rfl) rfl rfl rfl (vM_readsStop F T (x5 - (48 : Int32)) (x9 - (97 : Int32)) _ e102) rfl rfl ?_
        refine ei_go hb dX6_readsBooking_158 (pc' := 128) (by decide) ?_
        exact ih R101 _ h
set_option maxHeartbeats 4000000 in
theorem vM_readsBooking_L128bbbbbbbbb (F : Nat) (x5 : Int32) (x9 : Int32) (K : (qz_S → Option (qz_S))) (hK : ∀ (T : qz_S) (r : qz_S), K T = some r → qz_E 128 161 [some (.inr (some ((6, 0, 0) : qz_N))), some (.inl (x5 - (48 : Int32))), some (.inl x9)] [] (qz_mk T.1 T.2) none (qz_mk r.1 r.2)) : ∀ (n : Nat) (T : qz_S) (r : qz_S), gM_readsBooking_L128bbbbbbbbb F x5 x9 K n T = some r → qz_E 128 128 [some (.inr (some ((6, 0, 0) : qz_N))), some (.inl (x5 - (48 : Int32))), some (.inl x9)] [] (qz_mk T.1 T.2) none (qz_mk r.1 r.2) := by
  have hb : qz_b 128 = cX6_readsBooking := rfl
  have hcn : qz_cn 128 = 6 := rfl
  intro n
  induction n with
  | zero =>
    intro T r h
    cases h
  | succ n ih =>
    intro T r h
    rw [gM_readsBooking_L128bbbbbbbbb] at h
    refine ei_aln hb dX6_readsBooking_128 (pc' := 129) rfl rfl ?_
    refine ei_gi hb dX6_readsBooking_129 (pc' := 132) (x := (T.1 ((6, 0, 0) : qz_N) 12)) hcn qz_f_6_161 rfl rfl rfl rfl ?_
    by_cases c107 : (T.1 ((6, 0, 0) : qz_N) 12) = 0
    · rw [if_pos c107] at h
      refine ei_ifT hb dX6_readsBooking_132 (pc' := 161) (decide_eq_true c107) (by decide) ?_
      exact hK T _ h
    · rw [if_neg c107] at h
      refine ei_ifF hb dX6_readsBooking_132 (pc' := 135) (t := 161) (decide_eq_false c107) (by decide) rfl ?_
      refine ei_aln hb dX6_readsBooking_135 (pc' := 136) rfl rfl ?_
      obtain ⟨x108, e109, h⟩ := Option.bind_eq_some_iff.mp h
      refine ei_cv hb dX6_readsBooking_136 (pc' := 139) (M1 := (qz_mk T.1 T.2)) (as := []) (rest := []) (st' := [.inl x108]) hcn qz_c_6_158 qz_k_126 (qz_q_128_126) (Nat.le_of_ble_eq_true rfl) (Nat.le_of_ble_eq_true rfl) rfl rfl rfl (vM_sign F T.1 T.2 _ e109) rfl rfl ?_
      refine ei_b hb dX6_readsBooking_139 (v := (49 : Int32)) (pc' := 141) (by decide) rfl ?_
      refine ei_b hb dX6_readsBooking_141 (v := (57 : Int32)) (pc' := 143) (by decide) rfl ?_
      refine ei_cs hb dX6_readsBooking_143 (pc' := 146) (M1 := (qz_mk T.1 T.2)) (as := [.inl x108, .inl (49 : Int32), .inl (57 : Int32)]) (rest := []) (st' := [.inl (gM_in T.1 x108 (49 : Int32) (57 : Int32))]) hcn qz_c_6_36 rfl qz_k_84 (qz_q_128_84) (Nat.le_of_ble_eq_true rfl) (Nat.le_of_ble_eq_true rfl) rfl rfl (vM_in T.1 T.2 x108 (49 : Int32) (57 : Int32)) rfl rfl ?_
      by_cases c110 : (gM_in T.1 x108 (49 : Int32) (57 : Int32)) = 0
      · rw [if_pos c110] at h
        refine ei_ifT hb dX6_readsBooking_146 (pc' := 161) (decide_eq_true c110) (by decide) ?_
        exact hK T _ h
      · rw [if_neg c110] at h
        refine ei_ifF hb dX6_readsBooking_146 (pc' := 149) (t := 161) (decide_eq_false c110) (by decide) rfl ?_
        refine ei_aln hb dX6_readsBooking_149 (pc' := 150) rfl rfl ?_
        refine ei_iln hb dX6_readsBooking_150 (pc' := 151) rfl rfl ?_
        refine ei_iln hb dX6_readsBooking_151 (pc' := 152) rfl rfl ?_
        refine ei_b hb dX6_readsBooking_152 (v := (97 : Int32)) (pc' := 154) (by decide) rfl ?_
        refine ei_sub hb dX6_readsBooking_154 (pc' := 155) rfl ?_
        obtain ⟨R111, e112, h⟩ := Option.bind_eq_some_iff.mp h
        refine ei_cv hb dX6_readsBooking_155 (pc' := 158) (M1 := (qz_mk R111.1 R111.2)) (as := [.inl (x5 - (48 : Int32)), .inl (x9 - (97 : Int32))]) (rest := []) (st' := []) hcn qz_c_6_165 qz_k_127 (qz_q_128_127) (Nat.le_of_ble_eq_true rfl) (Nat.le_of_ble_eq_true rfl) rfl rfl rfl (vM_readsStop F T (x5 - (48 : Int32)) (x9 - (97 : Int32)) _ e112) rfl rfl ?_
        refine ei_go hb dX6_readsBooking_158 (pc' := 128) (by decide) ?_
        exact ih R111 _ h
set_option maxHeartbeats 4000000 in
theorem vM_readsBooking_L128bbbbbbbbbb (F : Nat) (x5 : Int32) (x9 : Int32) (K : (qz_S → Option (qz_S))) (hK : ∀ (T : qz_S) (r : qz_S), K T = some r → qz_E 128 161 [some (.inr (some ((6, 0, 0) : qz_N))), some (.inl (x5 - (48 : Int32))), some (.inl x9)] [] (qz_mk T.1 T.2) none (qz_mk r.1 r.2)) : ∀ (n : Nat) (T : qz_S) (r : qz_S), gM_readsBooking_L128bbbbbbbbbb F x5 x9 K n T = some r → qz_E 128 128 [some (.inr (some ((6, 0, 0) : qz_N))), some (.inl (x5 - (48 : Int32))), some (.inl x9)] [] (qz_mk T.1 T.2) none (qz_mk r.1 r.2) := by
  have hb : qz_b 128 = cX6_readsBooking := rfl
  have hcn : qz_cn 128 = 6 := rfl
  intro n
  induction n with
  | zero =>
    intro T r h
    cases h
  | succ n ih =>
    intro T r h
    rw [gM_readsBooking_L128bbbbbbbbbb] at h
    refine ei_aln hb dX6_readsBooking_128 (pc' := 129) rfl rfl ?_
    refine ei_gi hb dX6_readsBooking_129 (pc' := 132) (x := (T.1 ((6, 0, 0) : qz_N) 12)) hcn qz_f_6_161 rfl rfl rfl rfl ?_
    by_cases c118 : (T.1 ((6, 0, 0) : qz_N) 12) = 0
    · rw [if_pos c118] at h
      refine ei_ifT hb dX6_readsBooking_132 (pc' := 161) (decide_eq_true c118) (by decide) ?_
      exact hK T _ h
    · rw [if_neg c118] at h
      refine ei_ifF hb dX6_readsBooking_132 (pc' := 135) (t := 161) (decide_eq_false c118) (by decide) rfl ?_
      refine ei_aln hb dX6_readsBooking_135 (pc' := 136) rfl rfl ?_
      obtain ⟨x119, e120, h⟩ := Option.bind_eq_some_iff.mp h
      refine ei_cv hb dX6_readsBooking_136 (pc' := 139) (M1 := (qz_mk T.1 T.2)) (as := []) (rest := []) (st' := [.inl x119]) hcn qz_c_6_158 qz_k_126 (qz_q_128_126) (Nat.le_of_ble_eq_true rfl) (Nat.le_of_ble_eq_true rfl) rfl rfl rfl (vM_sign F T.1 T.2 _ e120) rfl rfl ?_
      refine ei_b hb dX6_readsBooking_139 (v := (49 : Int32)) (pc' := 141) (by decide) rfl ?_
      refine ei_b hb dX6_readsBooking_141 (v := (57 : Int32)) (pc' := 143) (by decide) rfl ?_
      refine ei_cs hb dX6_readsBooking_143 (pc' := 146) (M1 := (qz_mk T.1 T.2)) (as := [.inl x119, .inl (49 : Int32), .inl (57 : Int32)]) (rest := []) (st' := [.inl (gM_in T.1 x119 (49 : Int32) (57 : Int32))]) hcn qz_c_6_36 rfl qz_k_84 (qz_q_128_84) (Nat.le_of_ble_eq_true rfl) (Nat.le_of_ble_eq_true rfl) rfl rfl (vM_in T.1 T.2 x119 (49 : Int32) (57 : Int32)) rfl rfl ?_
      by_cases c121 : (gM_in T.1 x119 (49 : Int32) (57 : Int32)) = 0
      · rw [if_pos c121] at h
        refine ei_ifT hb dX6_readsBooking_146 (pc' := 161) (decide_eq_true c121) (by decide) ?_
        exact hK T _ h
      · rw [if_neg c121] at h
        refine ei_ifF hb dX6_readsBooking_146 (pc' := 149) (t := 161) (decide_eq_false c121) (by decide) rfl ?_
        refine ei_aln hb dX6_readsBooking_149 (pc' := 150) rfl rfl ?_
        refine ei_iln hb dX6_readsBooking_150 (pc' := 151) rfl rfl ?_
        refine ei_iln hb dX6_readsBooking_151 (pc' := 152) rfl rfl ?_
        refine ei_b hb dX6_readsBooking_152 (v := (97 : Int32)) (pc' := 154) (by decide) rfl ?_
        refine ei_sub hb dX6_readsBooking_154 (pc' := 155) rfl ?_
        obtain ⟨R122, e123, h⟩ := Option.bind_eq_some_iff.mp h
        refine ei_cv hb dX6_readsBooking_155 (pc' := 158) (M1 := (qz_mk R122.1 R122.2)) (as := [.inl (x5 - (48 : Int32)), .inl (x9 - (97 : Int32))]) (rest := []) (st' := []) hcn qz_c_6_165 qz_k_127 (qz_q_128_127) (Nat.le_of_ble_eq_true rfl) (Nat.le_of_ble_eq_true rfl) rfl rfl rfl (vM_readsStop F T (x5 - (48 : Int32)) (x9 - (97 : Int32)) _ e123) rfl rfl ?_
        refine ei_go hb dX6_readsBooking_158 (pc' := 128) (by decide) ?_
        exact ih R122 _ h
set_option maxHeartbeats 4000000 in
theorem vM_readsBooking_L128bbbbbbbbbbb (F : Nat) (x5 : Int32) (x9 : Int32) (K : (qz_S → Option (qz_S))) (hK : ∀ (T : qz_S) (r : qz_S), K T = some r → qz_E 128 161 [some (.inr (some ((6, 0, 0) : qz_N))), some (.inl (x5 - (48 : Int32))), some (.inl x9)] [] (qz_mk T.1 T.2) none (qz_mk r.1 r.2)) : ∀ (n : Nat) (T : qz_S) (r : qz_S), gM_readsBooking_L128bbbbbbbbbbb F x5 x9 K n T = some r → qz_E 128 128 [some (.inr (some ((6, 0, 0) : qz_N))), some (.inl (x5 - (48 : Int32))), some (.inl x9)] [] (qz_mk T.1 T.2) none (qz_mk r.1 r.2) := by
  have hb : qz_b 128 = cX6_readsBooking := rfl
  have hcn : qz_cn 128 = 6 := rfl
  intro n
  induction n with
  | zero =>
    intro T r h
    cases h
  | succ n ih =>
    intro T r h
    rw [gM_readsBooking_L128bbbbbbbbbbb] at h
    refine ei_aln hb dX6_readsBooking_128 (pc' := 129) rfl rfl ?_
    refine ei_gi hb dX6_readsBooking_129 (pc' := 132) (x := (T.1 ((6, 0, 0) : qz_N) 12)) hcn qz_f_6_161 rfl rfl rfl rfl ?_
    by_cases c126 : (T.1 ((6, 0, 0) : qz_N) 12) = 0
    · rw [if_pos c126] at h
      refine ei_ifT hb dX6_readsBooking_132 (pc' := 161) (decide_eq_true c126) (by decide) ?_
      exact hK T _ h
    · rw [if_neg c126] at h
      refine ei_ifF hb dX6_readsBooking_132 (pc' := 135) (t := 161) (decide_eq_false c126) (by decide) rfl ?_
      refine ei_aln hb dX6_readsBooking_135 (pc' := 136) rfl rfl ?_
      obtain ⟨x127, e128, h⟩ := Option.bind_eq_some_iff.mp h
      refine ei_cv hb dX6_readsBooking_136 (pc' := 139) (M1 := (qz_mk T.1 T.2)) (as := []) (rest := []) (st' := [.inl x127]) hcn qz_c_6_158 qz_k_126 (qz_q_128_126) (Nat.le_of_ble_eq_true rfl) (Nat.le_of_ble_eq_true rfl) rfl rfl rfl (vM_sign F T.1 T.2 _ e128) rfl rfl ?_
      refine ei_b hb dX6_readsBooking_139 (v := (49 : Int32)) (pc' := 141) (by decide) rfl ?_
      refine ei_b hb dX6_readsBooking_141 (v := (57 : Int32)) (pc' := 143) (by decide) rfl ?_
      refine ei_cs hb dX6_readsBooking_143 (pc' := 146) (M1 := (qz_mk T.1 T.2)) (as := [.inl x127, .inl (49 : Int32), .inl (57 : Int32)]) (rest := []) (st' := [.inl (gM_in T.1 x127 (49 : Int32) (57 : Int32))]) hcn qz_c_6_36 rfl qz_k_84 (qz_q_128_84) (Nat.le_of_ble_eq_true rfl) (Nat.le_of_ble_eq_true rfl) rfl rfl (vM_in T.1 T.2 x127 (49 : Int32) (57 : Int32)) rfl rfl ?_
      by_cases c129 : (gM_in T.1 x127 (49 : Int32) (57 : Int32)) = 0
      · rw [if_pos c129] at h
        refine ei_ifT hb dX6_readsBooking_146 (pc' := 161) (decide_eq_true c129) (by decide) ?_
        exact hK T _ h
      · rw [if_neg c129] at h
        refine ei_ifF hb dX6_readsBooking_146 (pc' := 149) (t := 161) (decide_eq_false c129) (by decide) rfl ?_
        refine ei_aln hb dX6_readsBooking_149 (pc' := 150) rfl rfl ?_
        refine ei_iln hb dX6_readsBooking_150 (pc' := 151) rfl rfl ?_
        refine ei_iln hb dX6_readsBooking_151 (pc' := 152) rfl rfl ?_
        refine ei_b hb dX6_readsBooking_152 (v := (97 : Int32)) (pc' := 154) (by decide) rfl ?_
        refine ei_sub hb dX6_readsBooking_154 (pc' := 155) rfl ?_
        obtain ⟨R130, e131, h⟩ := Option.bind_eq_some_iff.mp h
        refine ei_cv hb dX6_readsBooking_155 (pc' := 158) (M1 := (qz_mk R130.1 R130.2)) (as := [.inl (x5 - (48 : Int32)), .inl (x9 - (97 : Int32))]) (rest := []) (st' := []) hcn qz_c_6_165 qz_k_127 (qz_q_128_127) (Nat.le_of_ble_eq_true rfl) (Nat.le_of_ble_eq_true rfl) rfl rfl rfl (vM_readsStop F T (x5 - (48 : Int32)) (x9 - (97 : Int32)) _ e131) rfl rfl ?_
        refine ei_go hb dX6_readsBooking_158 (pc' := 128) (by decide) ?_
        exact ih R130 _ h
set_option maxHeartbeats 4000000 in
theorem vM_readsBooking_L128bbbbbbbbbbbb (F : Nat) (x5 : Int32) (x9 : Int32) (K : (qz_S → Option (qz_S))) (hK : ∀ (T : qz_S) (r : qz_S), K T = some r → qz_E 128 161 [some (.inr (some ((6, 0, 0) : qz_N))), some (.inl (x5 - (48 : Int32))), some (.inl x9)] [] (qz_mk T.1 T.2) none (qz_mk r.1 r.2)) : ∀ (n : Nat) (T : qz_S) (r : qz_S), gM_readsBooking_L128bbbbbbbbbbbb F x5 x9 K n T = some r → qz_E 128 128 [some (.inr (some ((6, 0, 0) : qz_N))), some (.inl (x5 - (48 : Int32))), some (.inl x9)] [] (qz_mk T.1 T.2) none (qz_mk r.1 r.2) := by
  have hb : qz_b 128 = cX6_readsBooking := rfl
  have hcn : qz_cn 128 = 6 := rfl
  intro n
  induction n with
  | zero =>
    intro T r h
    cases h
  | succ n ih =>
    intro T r h
    rw [gM_readsBooking_L128bbbbbbbbbbbb] at h
    refine ei_aln hb dX6_readsBooking_128 (pc' := 129) rfl rfl ?_
    refine ei_gi hb dX6_readsBooking_129 (pc' := 132) (x := (T.1 ((6, 0, 0) : qz_N) 12)) hcn qz_f_6_161 rfl rfl rfl rfl ?_
    by_cases c139 : (T.1 ((6, 0, 0) : qz_N) 12) = 0
    · rw [if_pos c139] at h
      refine ei_ifT hb dX6_readsBooking_132 (pc' := 161) (decide_eq_true c139) (by decide) ?_
      exact hK T _ h
    · rw [if_neg c139] at h
      refine ei_ifF hb dX6_readsBooking_132 (pc' := 135) (t := 161) (decide_eq_false c139) (by decide) rfl ?_
      refine ei_aln hb dX6_readsBooking_135 (pc' := 136) rfl rfl ?_
      obtain ⟨x140, e141, h⟩ := Option.bind_eq_some_iff.mp h
      refine ei_cv hb dX6_readsBooking_136 (pc' := 139) (M1 := (qz_mk T.1 T.2)) (as := []) (rest := []) (st' := [.inl x140]) hcn qz_c_6_158 qz_k_126 (qz_q_128_126) (Nat.le_of_ble_eq_true rfl) (Nat.le_of_ble_eq_true rfl) rfl rfl rfl (vM_sign F T.1 T.2 _ e141) rfl rfl ?_
      refine ei_b hb dX6_readsBooking_139 (v := (49 : Int32)) (pc' := 141) (by decide) rfl ?_
      refine ei_b hb dX6_readsBooking_141 (v := (57 : Int32)) (pc' := 143) (by decide) rfl ?_
      refine ei_cs hb dX6_readsBooking_143 (pc' := 146) (M1 := (qz_mk T.1 T.2)) (as := [.inl x140, .inl (49 : Int32), .inl (57 : Int32)]) (rest := []) (st' := [.inl (gM_in T.1 x140 (49 : Int32) (57 : Int32))]) hcn qz_c_6_36 rfl qz_k_84 (qz_q_128_84) (Nat.le_of_ble_eq_true rfl) (Nat.le_of_ble_eq_true rfl) rfl rfl (vM_in T.1 T.2 x140 (49 : Int32) (57 : Int32)) rfl rfl ?_
      by_cases c142 : (gM_in T.1 x140 (49 : Int32) (57 : Int32)) = 0
      · rw [if_pos c142] at h
        refine ei_ifT hb dX6_readsBooking_146 (pc' := 161) (decide_eq_true c142) (by decide) ?_
        exact hK T _ h
      · rw [if_neg c142] at h
        refine ei_ifF hb dX6_readsBooking_146 (pc' := 149) (t := 161) (decide_eq_false c142) (by decide) rfl ?_
        refine ei_aln hb dX6_readsBooking_149 (pc' := 150) rfl rfl ?_
        refine ei_iln hb dX6_readsBooking_150 (pc' := 151) rfl rfl ?_
        refine ei_iln hb dX6_readsBooking_151 (pc' := 152) rfl rfl ?_
        refine ei_b hb dX6_readsBooking_152 (v := (97 : Int32)) (pc' := 154) (by decide) rfl ?_
        refine ei_sub hb dX6_readsBooking_154 (pc' := 155) rfl ?_
        obtain ⟨R143, e144, h⟩ := Option.bind_eq_some_iff.mp h
        refine ei_cv hb dX6_readsBooking_155 (pc' := 158) (M1 := (qz_mk R143.1 R143.2)) (as := [.inl (x5 - (48 : Int32)), .inl (x9 - (97 : Int32))]) (rest := []) (st' := []) hcn qz_c_6_165 qz_k_127 (qz_q_128_127) (Nat.le_of_ble_eq_true rfl) (Nat.le_of_ble_eq_true rfl) rfl rfl rfl (vM_readsStop F T (x5 - (48 : Int32)) (x9 - (97 : Int32)) _ e144) rfl rfl ?_
        refine ei_go hb dX6_readsBooking_158 (pc' := 128) (by decide) ?_
        exact ih R143 _ h
set_option maxHeartbeats 4000000 in
theorem vM_readsBooking_L128bbbbbbbbbbbbb (F : Nat) (x5 : Int32) (x9 : Int32) (K : (qz_S → Option (qz_S))) (hK : ∀ (T : qz_S) (r : qz_S), K T = some r → qz_E 128 161 [some (.inr (some ((6, 0, 0) : qz_N))), some (.inl (x5 - (48 : Int32))), some (.inl x9)] [] (qz_mk T.1 T.2) none (qz_mk r.1 r.2)) : ∀ (n : Nat) (T : qz_S) (r : qz_S), gM_readsBooking_L128bbbbbbbbbbbbb F x5 x9 K n T = some r → qz_E 128 128 [some (.inr (some ((6, 0, 0) : qz_N))), some (.inl (x5 - (48 : Int32))), some (.inl x9)] [] (qz_mk T.1 T.2) none (qz_mk r.1 r.2) := by
  have hb : qz_b 128 = cX6_readsBooking := rfl
  have hcn : qz_cn 128 = 6 := rfl
  intro n
  induction n with
  | zero =>
    intro T r h
    cases h
  | succ n ih =>
    intro T r h
    rw [gM_readsBooking_L128bbbbbbbbbbbbb] at h
    refine ei_aln hb dX6_readsBooking_128 (pc' := 129) rfl rfl ?_
    refine ei_gi hb dX6_readsBooking_129 (pc' := 132) (x := (T.1 ((6, 0, 0) : qz_N) 12)) hcn qz_f_6_161 rfl rfl rfl rfl ?_
    by_cases c150 : (T.1 ((6, 0, 0) : qz_N) 12) = 0
    · rw [if_pos c150] at h
      refine ei_ifT hb dX6_readsBooking_132 (pc' := 161) (decide_eq_true c150) (by decide) ?_
      exact hK T _ h
    · rw [if_neg c150] at h
      refine ei_ifF hb dX6_readsBooking_132 (pc' := 135) (t := 161) (decide_eq_false c150) (by decide) rfl ?_
      refine ei_aln hb dX6_readsBooking_135 (pc' := 136) rfl rfl ?_
      obtain ⟨x151, e152, h⟩ := Option.bind_eq_some_iff.mp h
      refine ei_cv hb dX6_readsBooking_136 (pc' := 139) (M1 := (qz_mk T.1 T.2)) (as := []) (rest := []) (st' := [.inl x151]) hcn qz_c_6_158 qz_k_126 (qz_q_128_126) (Nat.le_of_ble_eq_true rfl) (Nat.le_of_ble_eq_true rfl) rfl rfl rfl (vM_sign F T.1 T.2 _ e152) rfl rfl ?_
      refine ei_b hb dX6_readsBooking_139 (v := (49 : Int32)) (pc' := 141) (by decide) rfl ?_
      refine ei_b hb dX6_readsBooking_141 (v := (57 : Int32)) (pc' := 143) (by decide) rfl ?_
      refine ei_cs hb dX6_readsBooking_143 (pc' := 146) (M1 := (qz_mk T.1 T.2)) (as := [.inl x151, .inl (49 : Int32), .inl (57 : Int32)]) (rest := []) (st' := [.inl (gM_in T.1 x151 (49 : Int32) (57 : Int32))]) hcn qz_c_6_36 rfl qz_k_84 (qz_q_128_84) (Nat.le_of_ble_eq_true rfl) (Nat.le_of_ble_eq_true rfl) rfl rfl (vM_in T.1 T.2 x151 (49 : Int32) (57 : Int32)) rfl rfl ?_
      by_cases c153 : (gM_in T.1 x151 (49 : Int32) (57 : Int32)) = 0
      · rw [if_pos c153] at h
        refine ei_ifT hb dX6_readsBooking_146 (pc' := 161) (decide_eq_true c153) (by decide) ?_
        exact hK T _ h
      · rw [if_neg c153] at h
        refine ei_ifF hb dX6_readsBooking_146 (pc' := 149) (t := 161) (decide_eq_false c153) (by decide) rfl ?_
        refine ei_aln hb dX6_readsBooking_149 (pc' := 150) rfl rfl ?_
        refine ei_iln hb dX6_readsBooking_150 (pc' := 151) rfl rfl ?_
        refine ei_iln hb dX6_readsBooking_151 (pc' := 152) rfl rfl ?_
        refine ei_b hb dX6_readsBooking_152 (v := (97 : Int32)) (pc' := 154) (by decide) rfl ?_
        refine ei_sub hb dX6_readsBooking_154 (pc' := 155) rfl ?_
        obtain ⟨R154, e155, h⟩ := Option.bind_eq_some_iff.mp h
        refine ei_cv hb dX6_readsBooking_155 (pc' := 158) (M1 := (qz_mk R154.1 R154.2)) (as := [.inl (x5 - (48 : Int32)), .inl (x9 - (97 : Int32))]) (rest := []) (st' := []) hcn qz_c_6_165 qz_k_127 (qz_q_128_127) (Nat.le_of_ble_eq_true rfl) (Nat.le_of_ble_eq_true rfl) rfl rfl rfl (vM_readsStop F T (x5 - (48 : Int32)) (x9 - (97 : Int32)) _ e155) rfl rfl ?_
        refine ei_go hb dX6_readsBooking_158 (pc' := 128) (by decide) ?_
        exact ih R154 _ h
set_option maxHeartbeats 4000000 in
theorem vM_readsBooking_L128bbbbbbbbbbbbbb (F : Nat) (x5 : Int32) (x9 : Int32) (K : (qz_S → Option (qz_S))) (hK : ∀ (T : qz_S) (r : qz_S), K T = some r → qz_E 128 161 [some (.inr (some ((6, 0, 0) : qz_N))), some (.inl (x5 - (48 : Int32))), some (.inl x9)] [] (qz_mk T.1 T.2) none (qz_mk r.1 r.2)) : ∀ (n : Nat) (T : qz_S) (r : qz_S), gM_readsBooking_L128bbbbbbbbbbbbbb F x5 x9 K n T = some r → qz_E 128 128 [some (.inr (some ((6, 0, 0) : qz_N))), some (.inl (x5 - (48 : Int32))), some (.inl x9)] [] (qz_mk T.1 T.2) none (qz_mk r.1 r.2) := by
  have hb : qz_b 128 = cX6_readsBooking := rfl
  have hcn : qz_cn 128 = 6 := rfl
  intro n
  induction n with
  | zero =>
    intro T r h
    cases h
  | succ n ih =>
    intro T r h
    rw [gM_readsBooking_L128bbbbbbbbbbbbbb] at h
    refine ei_aln hb dX6_readsBooking_128 (pc' := 129) rfl rfl ?_
    refine ei_gi hb dX6_readsBooking_129 (pc' := 132) (x := (T.1 ((6, 0, 0) : qz_N) 12)) hcn qz_f_6_161 rfl rfl rfl rfl ?_
    by_cases c158 : (T.1 ((6, 0, 0) : qz_N) 12) = 0
    · rw [if_pos c158] at h
      refine ei_ifT hb dX6_readsBooking_132 (pc' := 161) (decide_eq_true c158) (by decide) ?_
      exact hK T _ h
    · rw [if_neg c158] at h
      refine ei_ifF hb dX6_readsBooking_132 (pc' := 135) (t := 161) (decide_eq_false c158) (by decide) rfl ?_
      refine ei_aln hb dX6_readsBooking_135 (pc' := 136) rfl rfl ?_
      obtain ⟨x159, e160, h⟩ := Option.bind_eq_some_iff.mp h
      refine ei_cv hb dX6_readsBooking_136 (pc' := 139) (M1 := (qz_mk T.1 T.2)) (as := []) (rest := []) (st' := [.inl x159]) hcn qz_c_6_158 qz_k_126 (qz_q_128_126) (Nat.le_of_ble_eq_true rfl) (Nat.le_of_ble_eq_true rfl) rfl rfl rfl (vM_sign F T.1 T.2 _ e160) rfl rfl ?_
      refine ei_b hb dX6_readsBooking_139 (v := (49 : Int32)) (pc' := 141) (by decide) rfl ?_
      refine ei_b hb dX6_readsBooking_141 (v := (57 : Int32)) (pc' := 143) (by decide) rfl ?_
      refine ei_cs hb dX6_readsBooking_143 (pc' := 146) (M1 := (qz_mk T.1 T.2)) (as := [.inl x159, .inl (49 : Int32), .inl (57 : Int32)]) (rest := []) (st' := [.inl (gM_in T.1 x159 (49 : Int32) (57 : Int32))]) hcn qz_c_6_36 rfl qz_k_84 (qz_q_128_84) (Nat.le_of_ble_eq_true rfl) (Nat.le_of_ble_eq_true rfl) rfl rfl (vM_in T.1 T.2 x159 (49 : Int32) (57 : Int32)) rfl rfl ?_
      by_cases c161 : (gM_in T.1 x159 (49 : Int32) (57 : Int32)) = 0
      · rw [if_pos c161] at h
        refine ei_ifT hb dX6_readsBooking_146 (pc' := 161) (decide_eq_true c161) (by decide) ?_
        exact hK T _ h
      · rw [if_neg c161] at h
        refine ei_ifF hb dX6_readsBooking_146 (pc' := 149) (t := 161) (decide_eq_false c161) (by decide) rfl ?_
        refine ei_aln hb dX6_readsBooking_149 (pc' := 150) rfl rfl ?_
        refine ei_iln hb dX6_readsBooking_150 (pc' := 151) rfl rfl ?_
        refine ei_iln hb dX6_readsBooking_151 (pc' := 152) rfl rfl ?_
        refine ei_b hb dX6_readsBooking_152 (v := (97 : Int32)) (pc' := 154) (by decide) rfl ?_
        refine ei_sub hb dX6_readsBooking_154 (pc' := 155) rfl ?_
        obtain ⟨R162, e163, h⟩ := Option.bind_eq_some_iff.mp h
        refine ei_cv hb dX6_readsBooking_155 (pc' := 158) (M1 := (qz_mk R162.1 R162.2)) (as := [.inl (x5 - (48 : Int32)), .inl (x9 - (97 : Int32))]) (rest := []) (st' := []) hcn qz_c_6_165 qz_k_127 (qz_q_128_127) (Nat.le_of_ble_eq_true rfl) (Nat.le_of_ble_eq_true rfl) rfl rfl rfl (vM_readsStop F T (x5 - (48 : Int32)) (x9 - (97 : Int32)) _ e163) rfl rfl ?_
        refine ei_go hb dX6_readsBooking_158 (pc' := 128) (by decide) ?_
        exact ih R162 _ h
set_option maxHeartbeats 4000000 in
theorem vM_readsBooking_L128bbbbbbbbbbbbbbb (F : Nat) (x5 : Int32) (x9 : Int32) (K : (qz_S → Option (qz_S))) (hK : ∀ (T : qz_S) (r : qz_S), K T = some r → qz_E 128 161 [some (.inr (some ((6, 0, 0) : qz_N))), some (.inl (x5 - (48 : Int32))), some (.inl x9)] [] (qz_mk T.1 T.2) none (qz_mk r.1 r.2)) : ∀ (n : Nat) (T : qz_S) (r : qz_S), gM_readsBooking_L128bbbbbbbbbbbbbbb F x5 x9 K n T = some r → qz_E 128 128 [some (.inr (some ((6, 0, 0) : qz_N))), some (.inl (x5 - (48 : Int32))), some (.inl x9)] [] (qz_mk T.1 T.2) none (qz_mk r.1 r.2) := by
  have hb : qz_b 128 = cX6_readsBooking := rfl
  have hcn : qz_cn 128 = 6 := rfl
  intro n
  induction n with
  | zero =>
    intro T r h
    cases h
  | succ n ih =>
    intro T r h
    rw [gM_readsBooking_L128bbbbbbbbbbbbbbb] at h
    refine ei_aln hb dX6_readsBooking_128 (pc' := 129) rfl rfl ?_
    refine ei_gi hb dX6_readsBooking_129 (pc' := 132) (x := (T.1 ((6, 0, 0) : qz_N) 12)) hcn qz_f_6_161 rfl rfl rfl rfl ?_
    by_cases c168 : (T.1 ((6, 0, 0) : qz_N) 12) = 0
    · rw [if_pos c168] at h
      refine ei_ifT hb dX6_readsBooking_132 (pc' := 161) (decide_eq_true c168) (by decide) ?_
      exact hK T _ h
    · rw [if_neg c168] at h
      refine ei_ifF hb dX6_readsBooking_132 (pc' := 135) (t := 161) (decide_eq_false c168) (by decide) rfl ?_
      refine ei_aln hb dX6_readsBooking_135 (pc' := 136) rfl rfl ?_
      obtain ⟨x169, e170, h⟩ := Option.bind_eq_some_iff.mp h
      refine ei_cv hb dX6_readsBooking_136 (pc' := 139) (M1 := (qz_mk T.1 T.2)) (as := []) (rest := []) (st' := [.inl x169]) hcn qz_c_6_158 qz_k_126 (qz_q_128_126) (Nat.le_of_ble_eq_true rfl) (Nat.le_of_ble_eq_true rfl) rfl rfl rfl (vM_sign F T.1 T.2 _ e170) rfl rfl ?_
      refine ei_b hb dX6_readsBooking_139 (v := (49 : Int32)) (pc' := 141) (by decide) rfl ?_
      refine ei_b hb dX6_readsBooking_141 (v := (57 : Int32)) (pc' := 143) (by decide) rfl ?_
      refine ei_cs hb dX6_readsBooking_143 (pc' := 146) (M1 := (qz_mk T.1 T.2)) (as := [.inl x169, .inl (49 : Int32), .inl (57 : Int32)]) (rest := []) (st' := [.inl (gM_in T.1 x169 (49 : Int32) (57 : Int32))]) hcn qz_c_6_36 rfl qz_k_84 (qz_q_128_84) (Nat.le_of_ble_eq_true rfl) (Nat.le_of_ble_eq_true rfl) rfl rfl (vM_in T.1 T.2 x169 (49 : Int32) (57 : Int32)) rfl rfl ?_
      by_cases c171 : (gM_in T.1 x169 (49 : Int32) (57 : Int32)) = 0
      · rw [if_pos c171] at h
        refine ei_ifT hb dX6_readsBooking_146 (pc' := 161) (decide_eq_true c171) (by decide) ?_
        exact hK T _ h
      · rw [if_neg c171] at h
        refine ei_ifF hb dX6_readsBooking_146 (pc' := 149) (t := 161) (decide_eq_false c171) (by decide) rfl ?_
        refine ei_aln hb dX6_readsBooking_149 (pc' := 150) rfl rfl ?_
        refine ei_iln hb dX6_readsBooking_150 (pc' := 151) rfl rfl ?_
        refine ei_iln hb dX6_readsBooking_151 (pc' := 152) rfl rfl ?_
        refine ei_b hb dX6_readsBooking_152 (v := (97 : Int32)) (pc' := 154) (by decide) rfl ?_
        refine ei_sub hb dX6_readsBooking_154 (pc' := 155) rfl ?_
        obtain ⟨R172, e173, h⟩ := Option.bind_eq_some_iff.mp h
        refine ei_cv hb dX6_readsBooking_155 (pc' := 158) (M1 := (qz_mk R172.1 R172.2)) (as := [.inl (x5 - (48 : Int32)), .inl (x9 - (97 : Int32))]) (rest := []) (st' := []) hcn qz_c_6_165 qz_k_127 (qz_q_128_127) (Nat.le_of_ble_eq_true rfl) (Nat.le_of_ble_eq_true rfl) rfl rfl rfl (vM_readsStop F T (x5 - (48 : Int32)) (x9 - (97 : Int32)) _ e173) rfl rfl ?_
        refine ei_go hb dX6_readsBooking_158 (pc' := 128) (by decide) ?_
        exact ih R172 _ h
set_option maxHeartbeats 4000000 in
theorem vM_readsBooking_L128bbbbbbbbbbbbbbbb (F : Nat) (x5 : Int32) (x9 : Int32) (K : (qz_S → Option (qz_S))) (hK : ∀ (T : qz_S) (r : qz_S), K T = some r → qz_E 128 161 [some (.inr (some ((6, 0, 0) : qz_N))), some (.inl (x5 - (48 : Int32))), some (.inl x9)] [] (qz_mk T.1 T.2) none (qz_mk r.1 r.2)) : ∀ (n : Nat) (T : qz_S) (r : qz_S), gM_readsBooking_L128bbbbbbbbbbbbbbbb F x5 x9 K n T = some r → qz_E 128 128 [some (.inr (some ((6, 0, 0) : qz_N))), some (.inl (x5 - (48 : Int32))), some (.inl x9)] [] (qz_mk T.1 T.2) none (qz_mk r.1 r.2) := by
  have hb : qz_b 128 = cX6_readsBooking := rfl
  have hcn : qz_cn 128 = 6 := rfl
  intro n
  induction n with
  | zero =>
    intro T r h
    cases h
  | succ n ih =>
    intro T r h
    rw [gM_readsBooking_L128bbbbbbbbbbbbbbbb] at h
    refine ei_aln hb dX6_readsBooking_128 (pc' := 129) rfl rfl ?_
    refine ei_gi hb dX6_readsBooking_129 (pc' := 132) (x := (T.1 ((6, 0, 0) : qz_N) 12)) hcn qz_f_6_161 rfl rfl rfl rfl ?_
    by_cases c179 : (T.1 ((6, 0, 0) : qz_N) 12) = 0
    · rw [if_pos c179] at h
      refine ei_ifT hb dX6_readsBooking_132 (pc' := 161) (decide_eq_true c179) (by decide) ?_
      exact hK T _ h
    · rw [if_neg c179] at h
      refine ei_ifF hb dX6_readsBooking_132 (pc' := 135) (t := 161) (decide_eq_false c179) (by decide) rfl ?_
      refine ei_aln hb dX6_readsBooking_135 (pc' := 136) rfl rfl ?_
      obtain ⟨x180, e181, h⟩ := Option.bind_eq_some_iff.mp h
      refine ei_cv hb dX6_readsBooking_136 (pc' := 139) (M1 := (qz_mk T.1 T.2)) (as := []) (rest := []) (st' := [.inl x180]) hcn qz_c_6_158 qz_k_126 (qz_q_128_126) (Nat.le_of_ble_eq_true rfl) (Nat.le_of_ble_eq_true rfl) rfl rfl rfl (vM_sign F T.1 T.2 _ e181) rfl rfl ?_
      refine ei_b hb dX6_readsBooking_139 (v := (49 : Int32)) (pc' := 141) (by decide) rfl ?_
      refine ei_b hb dX6_readsBooking_141 (v := (57 : Int32)) (pc' := 143) (by decide) rfl ?_
      refine ei_cs hb dX6_readsBooking_143 (pc' := 146) (M1 := (qz_mk T.1 T.2)) (as := [.inl x180, .inl (49 : Int32), .inl (57 : Int32)]) (rest := []) (st' := [.inl (gM_in T.1 x180 (49 : Int32) (57 : Int32))]) hcn qz_c_6_36 rfl qz_k_84 (qz_q_128_84) (Nat.le_of_ble_eq_true rfl) (Nat.le_of_ble_eq_true rfl) rfl rfl (vM_in T.1 T.2 x180 (49 : Int32) (57 : Int32)) rfl rfl ?_
      by_cases c182 : (gM_in T.1 x180 (49 : Int32) (57 : Int32)) = 0
      · rw [if_pos c182] at h
        refine ei_ifT hb dX6_readsBooking_146 (pc' := 161) (decide_eq_true c182) (by decide) ?_
        exact hK T _ h
      · rw [if_neg c182] at h
        refine ei_ifF hb dX6_readsBooking_146 (pc' := 149) (t := 161) (decide_eq_false c182) (by decide) rfl ?_
        refine ei_aln hb dX6_readsBooking_149 (pc' := 150) rfl rfl ?_
        refine ei_iln hb dX6_readsBooking_150 (pc' := 151) rfl rfl ?_
        refine ei_iln hb dX6_readsBooking_151 (pc' := 152) rfl rfl ?_
        refine ei_b hb dX6_readsBooking_152 (v := (97 : Int32)) (pc' := 154) (by decide) rfl ?_
        refine ei_sub hb dX6_readsBooking_154 (pc' := 155) rfl ?_
        obtain ⟨R183, e184, h⟩ := Option.bind_eq_some_iff.mp h
        refine ei_cv hb dX6_readsBooking_155 (pc' := 158) (M1 := (qz_mk R183.1 R183.2)) (as := [.inl (x5 - (48 : Int32)), .inl (x9 - (97 : Int32))]) (rest := []) (st' := []) hcn qz_c_6_165 qz_k_127 (qz_q_128_127) (Nat.le_of_ble_eq_true rfl) (Nat.le_of_ble_eq_true rfl) rfl rfl rfl (vM_readsStop F T (x5 - (48 : Int32)) (x9 - (97 : Int32)) _ e184) rfl rfl ?_
        refine ei_go hb dX6_readsBooking_158 (pc' := 128) (by decide) ?_
        exact ih R183 _ h
set_option maxHeartbeats 4000000 in
theorem vM_readsBooking_L128bbbbbbbbbbbbbbbbb (F : Nat) (x5 : Int32) (x9 : Int32) (K : (qz_S → Option (qz_S))) (hK : ∀ (T : qz_S) (r : qz_S), K T = some r → qz_E 128 161 [some (.inr (some ((6, 0, 0) : qz_N))), some (.inl (x5 - (48 : Int32))), some (.inl x9)] [] (qz_mk T.1 T.2) none (qz_mk r.1 r.2)) : ∀ (n : Nat) (T : qz_S) (r : qz_S), gM_readsBooking_L128bbbbbbbbbbbbbbbbb F x5 x9 K n T = some r → qz_E 128 128 [some (.inr (some ((6, 0, 0) : qz_N))), some (.inl (x5 - (48 : Int32))), some (.inl x9)] [] (qz_mk T.1 T.2) none (qz_mk r.1 r.2) := by
  have hb : qz_b 128 = cX6_readsBooking := rfl
  have hcn : qz_cn 128 = 6 := rfl
  intro n
  induction n with
  | zero =>
    intro T r h
    cases h
  | succ n ih =>
    intro T r h
    rw [gM_readsBooking_L128bbbbbbbbbbbbbbbbb] at h
    refine ei_aln hb dX6_readsBooking_128 (pc' := 129) rfl rfl ?_
    refine ei_gi hb dX6_readsBooking_129 (pc' := 132) (x := (T.1 ((6, 0, 0) : qz_N) 12)) hcn qz_f_6_161 rfl rfl rfl rfl ?_
    by_cases c187 : (T.1 ((6, 0, 0) : qz_N) 12) = 0
    · rw [if_pos c187] at h
      refine ei_ifT hb dX6_readsBooking_132 (pc' := 161) (decide_eq_true c187) (by decide) ?_
      exact hK T _ h
    · rw [if_neg c187] at h
      refine ei_ifF hb dX6_readsBooking_132 (pc' := 135) (t := 161) (decide_eq_false c187) (by decide) rfl ?_
      refine ei_aln hb dX6_readsBooking_135 (pc' := 136) rfl rfl ?_
      obtain ⟨x188, e189, h⟩ := Option.bind_eq_some_iff.mp h
      refine ei_cv hb dX6_readsBooking_136 (pc' := 139) (M1 := (qz_mk T.1 T.2)) (as := []) (rest := []) (st' := [.inl x188]) hcn qz_c_6_158 qz_k_126 (qz_q_128_126) (Nat.le_of_ble_eq_true rfl) (Nat.le_of_ble_eq_true rfl) rfl rfl rfl (vM_sign F T.1 T.2 _ e189) rfl rfl ?_
      refine ei_b hb dX6_readsBooking_139 (v := (49 : Int32)) (pc' := 141) (by decide) rfl ?_
      refine ei_b hb dX6_readsBooking_141 (v := (57 : Int32)) (pc' := 143) (by decide) rfl ?_
      refine ei_cs hb dX6_readsBooking_143 (pc' := 146) (M1 := (qz_mk T.1 T.2)) (as := [.inl x188, .inl (49 : Int32), .inl (57 : Int32)]) (rest := []) (st' := [.inl (gM_in T.1 x188 (49 : Int32) (57 : Int32))]) hcn qz_c_6_36 rfl qz_k_84 (qz_q_128_84) (Nat.le_of_ble_eq_true rfl) (Nat.le_of_ble_eq_true rfl) rfl rfl (vM_in T.1 T.2 x188 (49 : Int32) (57 : Int32)) rfl rfl ?_
      by_cases c190 : (gM_in T.1 x188 (49 : Int32) (57 : Int32)) = 0
      · rw [if_pos c190] at h
        refine ei_ifT hb dX6_readsBooking_146 (pc' := 161) (decide_eq_true c190) (by decide) ?_
        exact hK T _ h
      · rw [if_neg c190] at h
        refine ei_ifF hb dX6_readsBooking_146 (pc' := 149) (t := 161) (decide_eq_false c190) (by decide) rfl ?_
        refine ei_aln hb dX6_readsBooking_149 (pc' := 150) rfl rfl ?_
        refine ei_iln hb dX6_readsBooking_150 (pc' := 151) rfl rfl ?_
        refine ei_iln hb dX6_readsBooking_151 (pc' := 152) rfl rfl ?_
        refine ei_b hb dX6_readsBooking_152 (v := (97 : Int32)) (pc' := 154) (by decide) rfl ?_
        refine ei_sub hb dX6_readsBooking_154 (pc' := 155) rfl ?_
        obtain ⟨R191, e192, h⟩ := Option.bind_eq_some_iff.mp h
        refine ei_cv hb dX6_readsBooking_155 (pc' := 158) (M1 := (qz_mk R191.1 R191.2)) (as := [.inl (x5 - (48 : Int32)), .inl (x9 - (97 : Int32))]) (rest := []) (st' := []) hcn qz_c_6_165 qz_k_127 (qz_q_128_127) (Nat.le_of_ble_eq_true rfl) (Nat.le_of_ble_eq_true rfl) rfl rfl rfl (vM_readsStop F T (x5 - (48 : Int32)) (x9 - (97 : Int32)) _ e192) rfl rfl ?_
        refine ei_go hb dX6_readsBooking_158 (pc' := 128) (by decide) ?_
        exact ih R191 _ h
set_option maxHeartbeats 4000000 in
theorem vM_readsBooking_L128bbbbbbbbbbbbbbbbbb (F : Nat) (x5 : Int32) (x9 : Int32) (K : (qz_S → Option (qz_S))) (hK : ∀ (T : qz_S) (r : qz_S), K T = some r → qz_E 128 161 [some (.inr (some ((6, 0, 0) : qz_N))), some (.inl (x5 - (48 : Int32))), some (.inl x9)] [] (qz_mk T.1 T.2) none (qz_mk r.1 r.2)) : ∀ (n : Nat) (T : qz_S) (r : qz_S), gM_readsBooking_L128bbbbbbbbbbbbbbbbbb F x5 x9 K n T = some r → qz_E 128 128 [some (.inr (some ((6, 0, 0) : qz_N))), some (.inl (x5 - (48 : Int32))), some (.inl x9)] [] (qz_mk T.1 T.2) none (qz_mk r.1 r.2) := by
  have hb : qz_b 128 = cX6_readsBooking := rfl
  have hcn : qz_cn 128 = 6 := rfl
  intro n
  induction n with
  | zero =>
    intro T r h
    cases h
  | succ n ih =>
    intro T r h
    rw [gM_readsBooking_L128bbbbbbbbbbbbbbbbbb] at h
    refine ei_aln hb dX6_readsBooking_128 (pc' := 129) rfl rfl ?_
    refine ei_gi hb dX6_readsBooking_129 (pc' := 132) (x := (T.1 ((6, 0, 0) : qz_N) 12)) hcn qz_f_6_161 rfl rfl rfl rfl ?_
    by_cases c199 : (T.1 ((6, 0, 0) : qz_N) 12) = 0
    · rw [if_pos c199] at h
      refine ei_ifT hb dX6_readsBooking_132 (pc' := 161) (decide_eq_true c199) (by decide) ?_
      exact hK T _ h
    · rw [if_neg c199] at h
      refine ei_ifF hb dX6_readsBooking_132 (pc' := 135) (t := 161) (decide_eq_false c199) (by decide) rfl ?_
      refine ei_aln hb dX6_readsBooking_135 (pc' := 136) rfl rfl ?_
      obtain ⟨x200, e201, h⟩ := Option.bind_eq_some_iff.mp h
      refine ei_cv hb dX6_readsBooking_136 (pc' := 139) (M1 := (qz_mk T.1 T.2)) (as := []) (rest := []) (st' := [.inl x200]) hcn qz_c_6_158 qz_k_126 (qz_q_128_126) (Nat.le_of_ble_eq_true rfl) (Nat.le_of_ble_eq_true rfl) rfl rfl rfl (vM_sign F T.1 T.2 _ e201) rfl rfl ?_
      refine ei_b hb dX6_readsBooking_139 (v := (49 : Int32)) (pc' := 141) (by decide) rfl ?_
      refine ei_b hb dX6_readsBooking_141 (v := (57 : Int32)) (pc' := 143) (by decide) rfl ?_
      refine ei_cs hb dX6_readsBooking_143 (pc' := 146) (M1 := (qz_mk T.1 T.2)) (as := [.inl x200, .inl (49 : Int32), .inl (57 : Int32)]) (rest := []) (st' := [.inl (gM_in T.1 x200 (49 : Int32) (57 : Int32))]) hcn qz_c_6_36 rfl qz_k_84 (qz_q_128_84) (Nat.le_of_ble_eq_true rfl) (Nat.le_of_ble_eq_true rfl) rfl rfl (vM_in T.1 T.2 x200 (49 : Int32) (57 : Int32)) rfl rfl ?_
      by_cases c202 : (gM_in T.1 x200 (49 : Int32) (57 : Int32)) = 0
      · rw [if_pos c202] at h
        refine ei_ifT hb dX6_readsBooking_146 (pc' := 161) (decide_eq_true c202) (by decide) ?_
        exact hK T _ h
      · rw [if_neg c202] at h
        refine ei_ifF hb dX6_readsBooking_146 (pc' := 149) (t := 161) (decide_eq_false c202) (by decide) rfl ?_
        refine ei_aln hb dX6_readsBooking_149 (pc' := 150) rfl rfl ?_
        refine ei_iln hb dX6_readsBooking_150 (pc' := 151) rfl rfl ?_
        refine ei_iln hb dX6_readsBooking_151 (pc' := 152) rfl rfl ?_
        refine ei_b hb dX6_readsBooking_152 (v := (97 : Int32)) (pc' := 154) (by decide) rfl ?_
        refine ei_sub hb dX6_readsBooking_154 (pc' := 155) rfl ?_
        obtain ⟨R203, e204, h⟩ := Option.bind_eq_some_iff.mp h
        refine ei_cv hb dX6_readsBooking_155 (pc' := 158) (M1 := (qz_mk R203.1 R203.2)) (as := [.inl (x5 - (48 : Int32)), .inl (x9 - (97 : Int32))]) (rest := []) (st' := []) hcn qz_c_6_165 qz_k_127 (qz_q_128_127) (Nat.le_of_ble_eq_true rfl) (Nat.le_of_ble_eq_true rfl) rfl rfl rfl (vM_readsStop F T (x5 - (48 : Int32)) (x9 - (97 : Int32)) _ e204) rfl rfl ?_
        refine ei_go hb dX6_readsBooking_158 (pc' := 128) (by decide) ?_
        exact ih R203 _ h
set_option maxHeartbeats 4000000 in
theorem vM_readsBooking_L128bbbbbbbbbbbbbbbbbbb (F : Nat) (x5 : Int32) (x9 : Int32) (K : (qz_S → Option (qz_S))) (hK : ∀ (T : qz_S) (r : qz_S), K T = some r → qz_E 128 161 [some (.inr (some ((6, 0, 0) : qz_N))), some (.inl (x5 - (48 : Int32))), some (.inl x9)] [] (qz_mk T.1 T.2) none (qz_mk r.1 r.2)) : ∀ (n : Nat) (T : qz_S) (r : qz_S), gM_readsBooking_L128bbbbbbbbbbbbbbbbbbb F x5 x9 K n T = some r → qz_E 128 128 [some (.inr (some ((6, 0, 0) : qz_N))), some (.inl (x5 - (48 : Int32))), some (.inl x9)] [] (qz_mk T.1 T.2) none (qz_mk r.1 r.2) := by
  have hb : qz_b 128 = cX6_readsBooking := rfl
  have hcn : qz_cn 128 = 6 := rfl
  intro n
  induction n with
  | zero =>
    intro T r h
    cases h
  | succ n ih =>
    intro T r h
    rw [gM_readsBooking_L128bbbbbbbbbbbbbbbbbbb] at h
    refine ei_aln hb dX6_readsBooking_128 (pc' := 129) rfl rfl ?_
    refine ei_gi hb dX6_readsBooking_129 (pc' := 132) (x := (T.1 ((6, 0, 0) : qz_N) 12)) hcn qz_f_6_161 rfl rfl rfl rfl ?_
    by_cases c210 : (T.1 ((6, 0, 0) : qz_N) 12) = 0
    · rw [if_pos c210] at h
      refine ei_ifT hb dX6_readsBooking_132 (pc' := 161) (decide_eq_true c210) (by decide) ?_
      exact hK T _ h
    · rw [if_neg c210] at h
      refine ei_ifF hb dX6_readsBooking_132 (pc' := 135) (t := 161) (decide_eq_false c210) (by decide) rfl ?_
      refine ei_aln hb dX6_readsBooking_135 (pc' := 136) rfl rfl ?_
      obtain ⟨x211, e212, h⟩ := Option.bind_eq_some_iff.mp h
      refine ei_cv hb dX6_readsBooking_136 (pc' := 139) (M1 := (qz_mk T.1 T.2)) (as := []) (rest := []) (st' := [.inl x211]) hcn qz_c_6_158 qz_k_126 (qz_q_128_126) (Nat.le_of_ble_eq_true rfl) (Nat.le_of_ble_eq_true rfl) rfl rfl rfl (vM_sign F T.1 T.2 _ e212) rfl rfl ?_
      refine ei_b hb dX6_readsBooking_139 (v := (49 : Int32)) (pc' := 141) (by decide) rfl ?_
      refine ei_b hb dX6_readsBooking_141 (v := (57 : Int32)) (pc' := 143) (by decide) rfl ?_
      refine ei_cs hb dX6_readsBooking_143 (pc' := 146) (M1 := (qz_mk T.1 T.2)) (as := [.inl x211, .inl (49 : Int32), .inl (57 : Int32)]) (rest := []) (st' := [.inl (gM_in T.1 x211 (49 : Int32) (57 : Int32))]) hcn qz_c_6_36 rfl qz_k_84 (qz_q_128_84) (Nat.le_of_ble_eq_true rfl) (Nat.le_of_ble_eq_true rfl) rfl rfl (vM_in T.1 T.2 x211 (49 : Int32) (57 : Int32)) rfl rfl ?_
      by_cases c213 : (gM_in T.1 x211 (49 : Int32) (57 : Int32)) = 0
      · rw [if_pos c213] at h
        refine ei_ifT hb dX6_readsBooking_146 (pc' := 161) (decide_eq_true c213) (by decide) ?_
        exact hK T _ h
      · rw [if_neg c213] at h
        refine ei_ifF hb dX6_readsBooking_146 (pc' := 149) (t := 161) (decide_eq_false c213) (by decide) rfl ?_
        refine ei_aln hb dX6_readsBooking_149 (pc' := 150) rfl rfl ?_
        refine ei_iln hb dX6_readsBooking_150 (pc' := 151) rfl rfl ?_
        refine ei_iln hb dX6_readsBooking_151 (pc' := 152) rfl rfl ?_
        refine ei_b hb dX6_readsBooking_152 (v := (97 : Int32)) (pc' := 154) (by decide) rfl ?_
        refine ei_sub hb dX6_readsBooking_154 (pc' := 155) rfl ?_
        obtain ⟨R214, e215, h⟩ := Option.bind_eq_some_iff.mp h
        refine ei_cv hb dX6_readsBooking_155 (pc' := 158) (M1 := (qz_mk R214.1 R214.2)) (as := [.inl (x5 - (48 : Int32)), .inl (x9 - (97 : Int32))]) (rest := []) (st' := []) hcn qz_c_6_165 qz_k_127 (qz_q_128_127) (Nat.le_of_ble_eq_true rfl) (Nat.le_of_ble_eq_true rfl) rfl rfl rfl (vM_readsStop F T (x5 - (48 : Int32)) (x9 - (97 : Int32)) _ e215) rfl rfl ?_
        refine ei_go hb dX6_readsBooking_158 (pc' := 128) (by decide) ?_
        exact ih R214 _ h
set_option maxHeartbeats 4000000 in
theorem vM_readsBooking_L128bbbbbbbbbbbbbbbbbbbb (F : Nat) (x5 : Int32) (x9 : Int32) (K : (qz_S → Option (qz_S))) (hK : ∀ (T : qz_S) (r : qz_S), K T = some r → qz_E 128 161 [some (.inr (some ((6, 0, 0) : qz_N))), some (.inl (x5 - (48 : Int32))), some (.inl x9)] [] (qz_mk T.1 T.2) none (qz_mk r.1 r.2)) : ∀ (n : Nat) (T : qz_S) (r : qz_S), gM_readsBooking_L128bbbbbbbbbbbbbbbbbbbb F x5 x9 K n T = some r → qz_E 128 128 [some (.inr (some ((6, 0, 0) : qz_N))), some (.inl (x5 - (48 : Int32))), some (.inl x9)] [] (qz_mk T.1 T.2) none (qz_mk r.1 r.2) := by
  have hb : qz_b 128 = cX6_readsBooking := rfl
  have hcn : qz_cn 128 = 6 := rfl
  intro n
  induction n with
  | zero =>
    intro T r h
    cases h
  | succ n ih =>
    intro T r h
    rw [gM_readsBooking_L128bbbbbbbbbbbbbbbbbbbb] at h
    refine ei_aln hb dX6_readsBooking_128 (pc' := 129) rfl rfl ?_
    refine ei_gi hb dX6_readsBooking_129 (pc' := 132) (x := (T.1 ((6, 0, 0) : qz_N) 12)) hcn qz_f_6_161 rfl rfl rfl rfl ?_
    by_cases c218 : (T.1 ((6, 0, 0) : qz_N) 12) = 0
    · rw [if_pos c218] at h
      refine ei_ifT hb dX6_readsBooking_132 (pc' := 161) (decide_eq_true c218) (by decide) ?_
      exact hK T _ h
    · rw [if_neg c218] at h
      refine ei_ifF hb dX6_readsBooking_132 (pc' := 135) (t := 161) (decide_eq_false c218) (by decide) rfl ?_
      refine ei_aln hb dX6_readsBooking_135 (pc' := 136) rfl rfl ?_
      obtain ⟨x219, e220, h⟩ := Option.bind_eq_some_iff.mp h
      refine ei_cv hb dX6_readsBooking_136 (pc' := 139) (M1 := (qz_mk T.1 T.2)) (as := []) (rest := []) (st' := [.inl x219]) hcn qz_c_6_158 qz_k_126 (qz_q_128_126) (Nat.le_of_ble_eq_true rfl) (Nat.le_of_ble_eq_true rfl) rfl rfl rfl (vM_sign F T.1 T.2 _ e220) rfl rfl ?_
      refine ei_b hb dX6_readsBooking_139 (v := (49 : Int32)) (pc' := 141) (by decide) rfl ?_
      refine ei_b hb dX6_readsBooking_141 (v := (57 : Int32)) (pc' := 143) (by decide) rfl ?_
      refine ei_cs hb dX6_readsBooking_143 (pc' := 146) (M1 := (qz_mk T.1 T.2)) (as := [.inl x219, .inl (49 : Int32), .inl (57 : Int32)]) (rest := []) (st' := [.inl (gM_in T.1 x219 (49 : Int32) (57 : Int32))]) hcn qz_c_6_36 rfl qz_k_84 (qz_q_128_84) (Nat.le_of_ble_eq_true rfl) (Nat.le_of_ble_eq_true rfl) rfl rfl (vM_in T.1 T.2 x219 (49 : Int32) (57 : Int32)) rfl rfl ?_
      by_cases c221 : (gM_in T.1 x219 (49 : Int32) (57 : Int32)) = 0
      · rw [if_pos c221] at h
        refine ei_ifT hb dX6_readsBooking_146 (pc' := 161) (decide_eq_true c221) (by decide) ?_
        exact hK T _ h
      · rw [if_neg c221] at h
        refine ei_ifF hb dX6_readsBooking_146 (pc' := 149) (t := 161) (decide_eq_false c221) (by decide) rfl ?_
        refine ei_aln hb dX6_readsBooking_149 (pc' := 150) rfl rfl ?_
        refine ei_iln hb dX6_readsBooking_150 (pc' := 151) rfl rfl ?_
        refine ei_iln hb dX6_readsBooking_151 (pc' := 152) rfl rfl ?_
        refine ei_b hb dX6_readsBooking_152 (v := (97 : Int32)) (pc' := 154) (by decide) rfl ?_
        refine ei_sub hb dX6_readsBooking_154 (pc' := 155) rfl ?_
        obtain ⟨R222, e223, h⟩ := Option.bind_eq_some_iff.mp h
        refine ei_cv hb dX6_readsBooking_155 (pc' := 158) (M1 := (qz_mk R222.1 R222.2)) (as := [.inl (x5 - (48 : Int32)), .inl (x9 - (97 : Int32))]) (rest := []) (st' := []) hcn qz_c_6_165 qz_k_127 (qz_q_128_127) (Nat.le_of_ble_eq_true rfl) (Nat.le_of_ble_eq_true rfl) rfl rfl rfl (vM_readsStop F T (x5 - (48 : Int32)) (x9 - (97 : Int32)) _ e223) rfl rfl ?_
        refine ei_go hb dX6_readsBooking_158 (pc' := 128) (by decide) ?_
        exact ih R222 _ h
set_option maxHeartbeats 4000000 in
theorem vM_readsBooking_L128bbbbbbbbbbbbbbbbbbbbb (F : Nat) (x5 : Int32) (x9 : Int32) (K : (qz_S → Option (qz_S))) (hK : ∀ (T : qz_S) (r : qz_S), K T = some r → qz_E 128 161 [some (.inr (some ((6, 0, 0) : qz_N))), some (.inl (x5 - (48 : Int32))), some (.inl x9)] [] (qz_mk T.1 T.2) none (qz_mk r.1 r.2)) : ∀ (n : Nat) (T : qz_S) (r : qz_S), gM_readsBooking_L128bbbbbbbbbbbbbbbbbbbbb F x5 x9 K n T = some r → qz_E 128 128 [some (.inr (some ((6, 0, 0) : qz_N))), some (.inl (x5 - (48 : Int32))), some (.inl x9)] [] (qz_mk T.1 T.2) none (qz_mk r.1 r.2) := by
  have hb : qz_b 128 = cX6_readsBooking := rfl
  have hcn : qz_cn 128 = 6 := rfl
  intro n
  induction n with
  | zero =>
    intro T r h
    cases h
  | succ n ih =>
    intro T r h
    rw [gM_readsBooking_L128bbbbbbbbbbbbbbbbbbbbb] at h
    refine ei_aln hb dX6_readsBooking_128 (pc' := 129) rfl rfl ?_
    refine ei_gi hb dX6_readsBooking_129 (pc' := 132) (x := (T.1 ((6, 0, 0) : qz_N) 12)) hcn qz_f_6_161 rfl rfl rfl rfl ?_
    by_cases c228 : (T.1 ((6, 0, 0) : qz_N) 12) = 0
    · rw [if_pos c228] at h
      refine ei_ifT hb dX6_readsBooking_132 (pc' := 161) (decide_eq_true c228) (by decide) ?_
      exact hK T _ h
    · rw [if_neg c228] at h
      refine ei_ifF hb dX6_readsBooking_132 (pc' := 135) (t := 161) (decide_eq_false c228) (by decide) rfl ?_
      refine ei_aln hb dX6_readsBooking_135 (pc' := 136) rfl rfl ?_
      obtain ⟨x229, e230, h⟩ := Option.bind_eq_some_iff.mp h
      refine ei_cv hb dX6_readsBooking_136 (pc' := 139) (M1 := (qz_mk T.1 T.2)) (as := []) (rest := []) (st' := [.inl x229]) hcn qz_c_6_158 qz_k_126 (qz_q_128_126) (Nat.le_of_ble_eq_true rfl) (Nat.le_of_ble_eq_true rfl) rfl rfl rfl (vM_sign F T.1 T.2 _ e230) rfl rfl ?_
      refine ei_b hb dX6_readsBooking_139 (v := (49 : Int32)) (pc' := 141) (by decide) rfl ?_
      refine ei_b hb dX6_readsBooking_141 (v := (57 : Int32)) (pc' := 143) (by decide) rfl ?_
      refine ei_cs hb dX6_readsBooking_143 (pc' := 146) (M1 := (qz_mk T.1 T.2)) (as := [.inl x229, .inl (49 : Int32), .inl (57 : Int32)]) (rest := []) (st' := [.inl (gM_in T.1 x229 (49 : Int32) (57 : Int32))]) hcn qz_c_6_36 rfl qz_k_84 (qz_q_128_84) (Nat.le_of_ble_eq_true rfl) (Nat.le_of_ble_eq_true rfl) rfl rfl (vM_in T.1 T.2 x229 (49 : Int32) (57 : Int32)) rfl rfl ?_
      by_cases c231 : (gM_in T.1 x229 (49 : Int32) (57 : Int32)) = 0
      · rw [if_pos c231] at h
        refine ei_ifT hb dX6_readsBooking_146 (pc' := 161) (decide_eq_true c231) (by decide) ?_
        exact hK T _ h
      · rw [if_neg c231] at h
        refine ei_ifF hb dX6_readsBooking_146 (pc' := 149) (t := 161) (decide_eq_false c231) (by decide) rfl ?_
        refine ei_aln hb dX6_readsBooking_149 (pc' := 150) rfl rfl ?_
        refine ei_iln hb dX6_readsBooking_150 (pc' := 151) rfl rfl ?_
        refine ei_iln hb dX6_readsBooking_151 (pc' := 152) rfl rfl ?_
        refine ei_b hb dX6_readsBooking_152 (v := (97 : Int32)) (pc' := 154) (by decide) rfl ?_
        refine ei_sub hb dX6_readsBooking_154 (pc' := 155) rfl ?_
        obtain ⟨R232, e233, h⟩ := Option.bind_eq_some_iff.mp h
        refine ei_cv hb dX6_readsBooking_155 (pc' := 158) (M1 := (qz_mk R232.1 R232.2)) (as := [.inl (x5 - (48 : Int32)), .inl (x9 - (97 : Int32))]) (rest := []) (st' := []) hcn qz_c_6_165 qz_k_127 (qz_q_128_127) (Nat.le_of_ble_eq_true rfl) (Nat.le_of_ble_eq_true rfl) rfl rfl rfl (vM_readsStop F T (x5 - (48 : Int32)) (x9 - (97 : Int32)) _ e233) rfl rfl ?_
        refine ei_go hb dX6_readsBooking_158 (pc' := 128) (by decide) ?_
        exact ih R232 _ h
set_option maxHeartbeats 4000000 in
theorem vM_readsBooking_L128bbbbbbbbbbbbbbbbbbbbbb (F : Nat) (x5 : Int32) (x9 : Int32) (K : (qz_S → Option (qz_S))) (hK : ∀ (T : qz_S) (r : qz_S), K T = some r → qz_E 128 161 [some (.inr (some ((6, 0, 0) : qz_N))), some (.inl (x5 - (48 : Int32))), some (.inl x9)] [] (qz_mk T.1 T.2) none (qz_mk r.1 r.2)) : ∀ (n : Nat) (T : qz_S) (r : qz_S), gM_readsBooking_L128bbbbbbbbbbbbbbbbbbbbbb F x5 x9 K n T = some r → qz_E 128 128 [some (.inr (some ((6, 0, 0) : qz_N))), some (.inl (x5 - (48 : Int32))), some (.inl x9)] [] (qz_mk T.1 T.2) none (qz_mk r.1 r.2) := by
  have hb : qz_b 128 = cX6_readsBooking := rfl
  have hcn : qz_cn 128 = 6 := rfl
  intro n
  induction n with
  | zero =>
    intro T r h
    cases h
  | succ n ih =>
    intro T r h
    rw [gM_readsBooking_L128bbbbbbbbbbbbbbbbbbbbbb] at h
    refine ei_aln hb dX6_readsBooking_128 (pc' := 129) rfl rfl ?_
    refine ei_gi hb dX6_readsBooking_129 (pc' := 132) (x := (T.1 ((6, 0, 0) : qz_N) 12)) hcn qz_f_6_161 rfl rfl rfl rfl ?_
    by_cases c239 : (T.1 ((6, 0, 0) : qz_N) 12) = 0
    · rw [if_pos c239] at h
      refine ei_ifT hb dX6_readsBooking_132 (pc' := 161) (decide_eq_true c239) (by decide) ?_
      exact hK T _ h
    · rw [if_neg c239] at h
      refine ei_ifF hb dX6_readsBooking_132 (pc' := 135) (t := 161) (decide_eq_false c239) (by decide) rfl ?_
      refine ei_aln hb dX6_readsBooking_135 (pc' := 136) rfl rfl ?_
      obtain ⟨x240, e241, h⟩ := Option.bind_eq_some_iff.mp h
      refine ei_cv hb dX6_readsBooking_136 (pc' := 139) (M1 := (qz_mk T.1 T.2)) (as := []) (rest := []) (st' := [.inl x240]) hcn qz_c_6_158 qz_k_126 (qz_q_128_126) (Nat.le_of_ble_eq_true rfl) (Nat.le_of_ble_eq_true rfl) rfl rfl rfl (vM_sign F T.1 T.2 _ e241) rfl rfl ?_
      refine ei_b hb dX6_readsBooking_139 (v := (49 : Int32)) (pc' := 141) (by decide) rfl ?_
      refine ei_b hb dX6_readsBooking_141 (v := (57 : Int32)) (pc' := 143) (by decide) rfl ?_
      refine ei_cs hb dX6_readsBooking_143 (pc' := 146) (M1 := (qz_mk T.1 T.2)) (as := [.inl x240, .inl (49 : Int32), .inl (57 : Int32)]) (rest := []) (st' := [.inl (gM_in T.1 x240 (49 : Int32) (57 : Int32))]) hcn qz_c_6_36 rfl qz_k_84 (qz_q_128_84) (Nat.le_of_ble_eq_true rfl) (Nat.le_of_ble_eq_true rfl) rfl rfl (vM_in T.1 T.2 x240 (49 : Int32) (57 : Int32)) rfl rfl ?_
      by_cases c242 : (gM_in T.1 x240 (49 : Int32) (57 : Int32)) = 0
      · rw [if_pos c242] at h
        refine ei_ifT hb dX6_readsBooking_146 (pc' := 161) (decide_eq_true c242) (by decide) ?_
        exact hK T _ h
      · rw [if_neg c242] at h
        refine ei_ifF hb dX6_readsBooking_146 (pc' := 149) (t := 161) (decide_eq_false c242) (by decide) rfl ?_
        refine ei_aln hb dX6_readsBooking_149 (pc' := 150) rfl rfl ?_
        refine ei_iln hb dX6_readsBooking_150 (pc' := 151) rfl rfl ?_
        refine ei_iln hb dX6_readsBooking_151 (pc' := 152) rfl rfl ?_
        refine ei_b hb dX6_readsBooking_152 (v := (97 : Int32)) (pc' := 154) (by decide) rfl ?_
        refine ei_sub hb dX6_readsBooking_154 (pc' := 155) rfl ?_
        obtain ⟨R243, e244, h⟩ := Option.bind_eq_some_iff.mp h
        refine ei_cv hb dX6_readsBooking_155 (pc' := 158) (M1 := (qz_mk R243.1 R243.2)) (as := [.inl (x5 - (48 : Int32)), .inl (x9 - (97 : Int32))]) (rest := []) (st' := []) hcn qz_c_6_165 qz_k_127 (qz_q_128_127) (Nat.le_of_ble_eq_true rfl) (Nat.le_of_ble_eq_true rfl) rfl rfl rfl (vM_readsStop F T (x5 - (48 : Int32)) (x9 - (97 : Int32)) _ e244) rfl rfl ?_
        refine ei_go hb dX6_readsBooking_158 (pc' := 128) (by decide) ?_
        exact ih R243 _ h
set_option maxHeartbeats 4000000 in
theorem vM_readsBooking_L128bbbbbbbbbbbbbbbbbbbbbbb (F : Nat) (x5 : Int32) (x9 : Int32) (K : (qz_S → Option (qz_S))) (hK : ∀ (T : qz_S) (r : qz_S), K T = some r → qz_E 128 161 [some (.inr (some ((6, 0, 0) : qz_N))), some (.inl (x5 - (48 : Int32))), some (.inl x9)] [] (qz_mk T.1 T.2) none (qz_mk r.1 r.2)) : ∀ (n : Nat) (T : qz_S) (r : qz_S), gM_readsBooking_L128bbbbbbbbbbbbbbbbbbbbbbb F x5 x9 K n T = some r → qz_E 128 128 [some (.inr (some ((6, 0, 0) : qz_N))), some (.inl (x5 - (48 : Int32))), some (.inl x9)] [] (qz_mk T.1 T.2) none (qz_mk r.1 r.2) := by
  have hb : qz_b 128 = cX6_readsBooking := rfl
  have hcn : qz_cn 128 = 6 := rfl
  intro n
  induction n with
  | zero =>
    intro T r h
    cases h
  | succ n ih =>
    intro T r h
    rw [gM_readsBooking_L128bbbbbbbbbbbbbbbbbbbbbbb] at h
    refine ei_aln hb dX6_readsBooking_128 (pc' := 129) rfl rfl ?_
    refine ei_gi hb dX6_readsBooking_129 (pc' := 132) (x := (T.1 ((6, 0, 0) : qz_N) 12)) hcn qz_f_6_161 rfl rfl rfl rfl ?_
    by_cases c247 : (T.1 ((6, 0, 0) : qz_N) 12) = 0
    · rw [if_pos c247] at h
      refine ei_ifT hb dX6_readsBooking_132 (pc' := 161) (decide_eq_true c247) (by decide) ?_
      exact hK T _ h
    · rw [if_neg c247] at h
      refine ei_ifF hb dX6_readsBooking_132 (pc' := 135) (t := 161) (decide_eq_false c247) (by decide) rfl ?_
      refine ei_aln hb dX6_readsBooking_135 (pc' := 136) rfl rfl ?_
      obtain ⟨x248, e249, h⟩ := Option.bind_eq_some_iff.mp h
      refine ei_cv hb dX6_readsBooking_136 (pc' := 139) (M1 := (qz_mk T.1 T.2)) (as := []) (rest := []) (st' := [.inl x248]) hcn qz_c_6_158 qz_k_126 (qz_q_128_126) (Nat.le_of_ble_eq_true rfl) (Nat.le_of_ble_eq_true rfl) rfl rfl rfl (vM_sign F T.1 T.2 _ e249) rfl rfl ?_
      refine ei_b hb dX6_readsBooking_139 (v := (49 : Int32)) (pc' := 141) (by decide) rfl ?_
      refine ei_b hb dX6_readsBooking_141 (v := (57 : Int32)) (pc' := 143) (by decide) rfl ?_
      refine ei_cs hb dX6_readsBooking_143 (pc' := 146) (M1 := (qz_mk T.1 T.2)) (as := [.inl x248, .inl (49 : Int32), .inl (57 : Int32)]) (rest := []) (st' := [.inl (gM_in T.1 x248 (49 : Int32) (57 : Int32))]) hcn qz_c_6_36 rfl qz_k_84 (qz_q_128_84) (Nat.le_of_ble_eq_true rfl) (Nat.le_of_ble_eq_true rfl) rfl rfl (vM_in T.1 T.2 x248 (49 : Int32) (57 : Int32)) rfl rfl ?_
      by_cases c250 : (gM_in T.1 x248 (49 : Int32) (57 : Int32)) = 0
      · rw [if_pos c250] at h
        refine ei_ifT hb dX6_readsBooking_146 (pc' := 161) (decide_eq_true c250) (by decide) ?_
        exact hK T _ h
      · rw [if_neg c250] at h
        refine ei_ifF hb dX6_readsBooking_146 (pc' := 149) (t := 161) (decide_eq_false c250) (by decide) rfl ?_
        refine ei_aln hb dX6_readsBooking_149 (pc' := 150) rfl rfl ?_
        refine ei_iln hb dX6_readsBooking_150 (pc' := 151) rfl rfl ?_
        refine ei_iln hb dX6_readsBooking_151 (pc' := 152) rfl rfl ?_
        refine ei_b hb dX6_readsBooking_152 (v := (97 : Int32)) (pc' := 154) (by decide) rfl ?_
        refine ei_sub hb dX6_readsBooking_154 (pc' := 155) rfl ?_
        obtain ⟨R251, e252, h⟩ := Option.bind_eq_some_iff.mp h
        refine ei_cv hb dX6_readsBooking_155 (pc' := 158) (M1 := (qz_mk R251.1 R251.2)) (as := [.inl (x5 - (48 : Int32)), .inl (x9 - (97 : Int32))]) (rest := []) (st' := []) hcn qz_c_6_165 qz_k_127 (qz_q_128_127) (Nat.le_of_ble_eq_true rfl) (Nat.le_of_ble_eq_true rfl) rfl rfl rfl (vM_readsStop F T (x5 - (48 : Int32)) (x9 - (97 : Int32)) _ e252) rfl rfl ?_
        refine ei_go hb dX6_readsBooking_158 (pc' := 128) (by decide) ?_
        exact ih R251 _ h
set_option maxHeartbeats 4000000 in
theorem vM_readsBooking_L128bbbbbbbbbbbbbbbbbbbbbbbb (F : Nat) (x5 : Int32) (x255 : Int32) (K : (qz_S → Option (qz_S))) (hK : ∀ (T : qz_S) (r : qz_S), K T = some r → qz_E 128 161 [some (.inr (some ((6, 0, 0) : qz_N))), some (.inl (x5 - (48 : Int32))), some (.inl x255)] [] (qz_mk T.1 T.2) none (qz_mk r.1 r.2)) : ∀ (n : Nat) (T : qz_S) (r : qz_S), gM_readsBooking_L128bbbbbbbbbbbbbbbbbbbbbbbb F x5 x255 K n T = some r → qz_E 128 128 [some (.inr (some ((6, 0, 0) : qz_N))), some (.inl (x5 - (48 : Int32))), some (.inl x255)] [] (qz_mk T.1 T.2) none (qz_mk r.1 r.2) := by
  have hb : qz_b 128 = cX6_readsBooking := rfl
  have hcn : qz_cn 128 = 6 := rfl
  intro n
  induction n with
  | zero =>
    intro T r h
    cases h
  | succ n ih =>
    intro T r h
    rw [gM_readsBooking_L128bbbbbbbbbbbbbbbbbbbbbbbb] at h
    refine ei_aln hb dX6_readsBooking_128 (pc' := 129) rfl rfl ?_
    refine ei_gi hb dX6_readsBooking_129 (pc' := 132) (x := (T.1 ((6, 0, 0) : qz_N) 12)) hcn qz_f_6_161 rfl rfl rfl rfl ?_
    by_cases c263 : (T.1 ((6, 0, 0) : qz_N) 12) = 0
    · rw [if_pos c263] at h
      refine ei_ifT hb dX6_readsBooking_132 (pc' := 161) (decide_eq_true c263) (by decide) ?_
      exact hK T _ h
    · rw [if_neg c263] at h
      refine ei_ifF hb dX6_readsBooking_132 (pc' := 135) (t := 161) (decide_eq_false c263) (by decide) rfl ?_
      refine ei_aln hb dX6_readsBooking_135 (pc' := 136) rfl rfl ?_
      obtain ⟨x264, e265, h⟩ := Option.bind_eq_some_iff.mp h
      refine ei_cv hb dX6_readsBooking_136 (pc' := 139) (M1 := (qz_mk T.1 T.2)) (as := []) (rest := []) (st' := [.inl x264]) hcn qz_c_6_158 qz_k_126 (qz_q_128_126) (Nat.le_of_ble_eq_true rfl) (Nat.le_of_ble_eq_true rfl) rfl rfl rfl (vM_sign F T.1 T.2 _ e265) rfl rfl ?_
      refine ei_b hb dX6_readsBooking_139 (v := (49 : Int32)) (pc' := 141) (by decide) rfl ?_
      refine ei_b hb dX6_readsBooking_141 (v := (57 : Int32)) (pc' := 143) (by decide) rfl ?_
      refine ei_cs hb dX6_readsBooking_143 (pc' := 146) (M1 := (qz_mk T.1 T.2)) (as := [.inl x264, .inl (49 : Int32), .inl (57 : Int32)]) (rest := []) (st' := [.inl (gM_in T.1 x264 (49 : Int32) (57 : Int32))]) hcn qz_c_6_36 rfl qz_k_84 (qz_q_128_84) (Nat.le_of_ble_eq_true rfl) (Nat.le_of_ble_eq_true rfl) rfl rfl (vM_in T.1 T.2 x264 (49 : Int32) (57 : Int32)) rfl rfl ?_
      by_cases c266 : (gM_in T.1 x264 (49 : Int32) (57 : Int32)) = 0
      · rw [if_pos c266] at h
        refine ei_ifT hb dX6_readsBooking_146 (pc' := 161) (decide_eq_true c266) (by decide) ?_
        exact hK T _ h
      · rw [if_neg c266] at h
        refine ei_ifF hb dX6_readsBooking_146 (pc' := 149) (t := 161) (decide_eq_false c266) (by decide) rfl ?_
        refine ei_aln hb dX6_readsBooking_149 (pc' := 150) rfl rfl ?_
        refine ei_iln hb dX6_readsBooking_150 (pc' := 151) rfl rfl ?_
        refine ei_iln hb dX6_readsBooking_151 (pc' := 152) rfl rfl ?_
        refine ei_b hb dX6_readsBooking_152 (v := (97 : Int32)) (pc' := 154) (by decide) rfl ?_
        refine ei_sub hb dX6_readsBooking_154 (pc' := 155) rfl ?_
        obtain ⟨R267, e268, h⟩ := Option.bind_eq_some_iff.mp h
        refine ei_cv hb dX6_readsBooking_155 (pc' := 158) (M1 := (qz_mk R267.1 R267.2)) (as := [.inl (x5 - (48 : Int32)), .inl (x255 - (97 : Int32))]) (rest := []) (st' := []) hcn qz_c_6_165 qz_k_127 (qz_q_128_127) (Nat.le_of_ble_eq_true rfl) (Nat.le_of_ble_eq_true rfl) rfl rfl rfl (vM_readsStop F T (x5 - (48 : Int32)) (x255 - (97 : Int32)) _ e268) rfl rfl ?_
        refine ei_go hb dX6_readsBooking_158 (pc' := 128) (by decide) ?_
        exact ih R267 _ h
set_option maxHeartbeats 4000000 in
theorem vM_readsBooking_L128bbbbbbbbbbbbbbbbbbbbbbbbb (F : Nat) (x5 : Int32) (x255 : Int32) (K : (qz_S → Option (qz_S))) (hK : ∀ (T : qz_S) (r : qz_S), K T = some r → qz_E 128 161 [some (.inr (some ((6, 0, 0) : qz_N))), some (.inl (x5 - (48 : Int32))), some (.inl x255)] [] (qz_mk T.1 T.2) none (qz_mk r.1 r.2)) : ∀ (n : Nat) (T : qz_S) (r : qz_S), gM_readsBooking_L128bbbbbbbbbbbbbbbbbbbbbbbbb F x5 x255 K n T = some r → qz_E 128 128 [some (.inr (some ((6, 0, 0) : qz_N))), some (.inl (x5 - (48 : Int32))), some (.inl x255)] [] (qz_mk T.1 T.2) none (qz_mk r.1 r.2) := by
  have hb : qz_b 128 = cX6_readsBooking := rfl
  have hcn : qz_cn 128 = 6 := rfl
  intro n
  induction n with
  | zero =>
    intro T r h
    cases h
  | succ n ih =>
    intro T r h
    rw [gM_readsBooking_L128bbbbbbbbbbbbbbbbbbbbbbbbb] at h
    refine ei_aln hb dX6_readsBooking_128 (pc' := 129) rfl rfl ?_
    refine ei_gi hb dX6_readsBooking_129 (pc' := 132) (x := (T.1 ((6, 0, 0) : qz_N) 12)) hcn qz_f_6_161 rfl rfl rfl rfl ?_
    by_cases c274 : (T.1 ((6, 0, 0) : qz_N) 12) = 0
    · rw [if_pos c274] at h
      refine ei_ifT hb dX6_readsBooking_132 (pc' := 161) (decide_eq_true c274) (by decide) ?_
      exact hK T _ h
    · rw [if_neg c274] at h
      refine ei_ifF hb dX6_readsBooking_132 (pc' := 135) (t := 161) (decide_eq_false c274) (by decide) rfl ?_
      refine ei_aln hb dX6_readsBooking_135 (pc' := 136) rfl rfl ?_
      obtain ⟨x275, e276, h⟩ := Option.bind_eq_some_iff.mp h
      refine ei_cv hb dX6_readsBooking_136 (pc' := 139) (M1 := (qz_mk T.1 T.2)) (as := []) (rest := []) (st' := [.inl x275]) hcn qz_c_6_158 qz_k_126 (qz_q_128_126) (Nat.le_of_ble_eq_true rfl) (Nat.le_of_ble_eq_true rfl) rfl rfl rfl (vM_sign F T.1 T.2 _ e276) rfl rfl ?_
      refine ei_b hb dX6_readsBooking_139 (v := (49 : Int32)) (pc' := 141) (by decide) rfl ?_
      refine ei_b hb dX6_readsBooking_141 (v := (57 : Int32)) (pc' := 143) (by decide) rfl ?_
      refine ei_cs hb dX6_readsBooking_143 (pc' := 146) (M1 := (qz_mk T.1 T.2)) (as := [.inl x275, .inl (49 : Int32), .inl (57 : Int32)]) (rest := []) (st' := [.inl (gM_in T.1 x275 (49 : Int32) (57 : Int32))]) hcn qz_c_6_36 rfl qz_k_84 (qz_q_128_84) (Nat.le_of_ble_eq_true rfl) (Nat.le_of_ble_eq_true rfl) rfl rfl (vM_in T.1 T.2 x275 (49 : Int32) (57 : Int32)) rfl rfl ?_
      by_cases c277 : (gM_in T.1 x275 (49 : Int32) (57 : Int32)) = 0
      · rw [if_pos c277] at h
        refine ei_ifT hb dX6_readsBooking_146 (pc' := 161) (decide_eq_true c277) (by decide) ?_
        exact hK T _ h
      · rw [if_neg c277] at h
        refine ei_ifF hb dX6_readsBooking_146 (pc' := 149) (t := 161) (decide_eq_false c277) (by decide) rfl ?_
        refine ei_aln hb dX6_readsBooking_149 (pc' := 150) rfl rfl ?_
        refine ei_iln hb dX6_readsBooking_150 (pc' := 151) rfl rfl ?_
        refine ei_iln hb dX6_readsBooking_151 (pc' := 152) rfl rfl ?_
        refine ei_b hb dX6_readsBooking_152 (v := (97 : Int32)) (pc' := 154) (by decide) rfl ?_
        refine ei_sub hb dX6_readsBooking_154 (pc' := 155) rfl ?_
        obtain ⟨R278, e279, h⟩ := Option.bind_eq_some_iff.mp h
        refine ei_cv hb dX6_readsBooking_155 (pc' := 158) (M1 := (qz_mk R278.1 R278.2)) (as := [.inl (x5 - (48 : Int32)), .inl (x255 - (97 : Int32))]) (rest := []) (st' := []) hcn qz_c_6_165 qz_k_127 (qz_q_128_127) (Nat.le_of_ble_eq_true rfl) (Nat.le_of_ble_eq_true rfl) rfl rfl rfl (vM_readsStop F T (x5 - (48 : Int32)) (x255 - (97 : Int32)) _ e279) rfl rfl ?_
        refine ei_go hb dX6_readsBooking_158 (pc' := 128) (by decide) ?_
        exact ih R278 _ h
set_option maxHeartbeats 4000000 in
theorem vM_readsBooking_L128bbbbbbbbbbbbbbbbbbbbbbbbbb (F : Nat) (x5 : Int32) (x255 : Int32) (K : (qz_S → Option (qz_S))) (hK : ∀ (T : qz_S) (r : qz_S), K T = some r → qz_E 128 161 [some (.inr (some ((6, 0, 0) : qz_N))), some (.inl (x5 - (48 : Int32))), some (.inl x255)] [] (qz_mk T.1 T.2) none (qz_mk r.1 r.2)) : ∀ (n : Nat) (T : qz_S) (r : qz_S), gM_readsBooking_L128bbbbbbbbbbbbbbbbbbbbbbbbbb F x5 x255 K n T = some r → qz_E 128 128 [some (.inr (some ((6, 0, 0) : qz_N))), some (.inl (x5 - (48 : Int32))), some (.inl x255)] [] (qz_mk T.1 T.2) none (qz_mk r.1 r.2) := by
  have hb : qz_b 128 = cX6_readsBooking := rfl
  have hcn : qz_cn 128 = 6 := rfl
  intro n
  induction n with
  | zero =>
    intro T r h
    cases h
  | succ n ih =>
    intro T r h
    rw [gM_readsBooking_L128bbbbbbbbbbbbbbbbbbbbbbbbbb] at h
    refine ei_aln hb dX6_readsBooking_128 (pc' := 129) rfl rfl ?_
    refine ei_gi hb dX6_readsBooking_129 (pc' := 132) (x := (T.1 ((6, 0, 0) : qz_N) 12)) hcn qz_f_6_161 rfl rfl rfl rfl ?_
    by_cases c282 : (T.1 ((6, 0, 0) : qz_N) 12) = 0
    · rw [if_pos c282] at h
      refine ei_ifT hb dX6_readsBooking_132 (pc' := 161) (decide_eq_true c282) (by decide) ?_
      exact hK T _ h
    · rw [if_neg c282] at h
      refine ei_ifF hb dX6_readsBooking_132 (pc' := 135) (t := 161) (decide_eq_false c282) (by decide) rfl ?_
      refine ei_aln hb dX6_readsBooking_135 (pc' := 136) rfl rfl ?_
      obtain ⟨x283, e284, h⟩ := Option.bind_eq_some_iff.mp h
      refine ei_cv hb dX6_readsBooking_136 (pc' := 139) (M1 := (qz_mk T.1 T.2)) (as := []) (rest := []) (st' := [.inl x283]) hcn qz_c_6_158 qz_k_126 (qz_q_128_126) (Nat.le_of_ble_eq_true rfl) (Nat.le_of_ble_eq_true rfl) rfl rfl rfl (vM_sign F T.1 T.2 _ e284) rfl rfl ?_
      refine ei_b hb dX6_readsBooking_139 (v := (49 : Int32)) (pc' := 141) (by decide) rfl ?_
      refine ei_b hb dX6_readsBooking_141 (v := (57 : Int32)) (pc' := 143) (by decide) rfl ?_
      refine ei_cs hb dX6_readsBooking_143 (pc' := 146) (M1 := (qz_mk T.1 T.2)) (as := [.inl x283, .inl (49 : Int32), .inl (57 : Int32)]) (rest := []) (st' := [.inl (gM_in T.1 x283 (49 : Int32) (57 : Int32))]) hcn qz_c_6_36 rfl qz_k_84 (qz_q_128_84) (Nat.le_of_ble_eq_true rfl) (Nat.le_of_ble_eq_true rfl) rfl rfl (vM_in T.1 T.2 x283 (49 : Int32) (57 : Int32)) rfl rfl ?_
      by_cases c285 : (gM_in T.1 x283 (49 : Int32) (57 : Int32)) = 0
      · rw [if_pos c285] at h
        refine ei_ifT hb dX6_readsBooking_146 (pc' := 161) (decide_eq_true c285) (by decide) ?_
        exact hK T _ h
      · rw [if_neg c285] at h
        refine ei_ifF hb dX6_readsBooking_146 (pc' := 149) (t := 161) (decide_eq_false c285) (by decide) rfl ?_
        refine ei_aln hb dX6_readsBooking_149 (pc' := 150) rfl rfl ?_
        refine ei_iln hb dX6_readsBooking_150 (pc' := 151) rfl rfl ?_
        refine ei_iln hb dX6_readsBooking_151 (pc' := 152) rfl rfl ?_
        refine ei_b hb dX6_readsBooking_152 (v := (97 : Int32)) (pc' := 154) (by decide) rfl ?_
        refine ei_sub hb dX6_readsBooking_154 (pc' := 155) rfl ?_
        obtain ⟨R286, e287, h⟩ := Option.bind_eq_some_iff.mp h
        refine ei_cv hb dX6_readsBooking_155 (pc' := 158) (M1 := (qz_mk R286.1 R286.2)) (as := [.inl (x5 - (48 : Int32)), .inl (x255 - (97 : Int32))]) (rest := []) (st' := []) hcn qz_c_6_165 qz_k_127 (qz_q_128_127) (Nat.le_of_ble_eq_true rfl) (Nat.le_of_ble_eq_true rfl) rfl rfl rfl (vM_readsStop F T (x5 - (48 : Int32)) (x255 - (97 : Int32)) _ e287) rfl rfl ?_
        refine ei_go hb dX6_readsBooking_158 (pc' := 128) (by decide) ?_
        exact ih R286 _ h
set_option maxHeartbeats 4000000 in
theorem vM_readsBooking_L128bbbbbbbbbbbbbbbbbbbbbbbbbbb (F : Nat) (x5 : Int32) (x255 : Int32) (K : (qz_S → Option (qz_S))) (hK : ∀ (T : qz_S) (r : qz_S), K T = some r → qz_E 128 161 [some (.inr (some ((6, 0, 0) : qz_N))), some (.inl (x5 - (48 : Int32))), some (.inl x255)] [] (qz_mk T.1 T.2) none (qz_mk r.1 r.2)) : ∀ (n : Nat) (T : qz_S) (r : qz_S), gM_readsBooking_L128bbbbbbbbbbbbbbbbbbbbbbbbbbb F x5 x255 K n T = some r → qz_E 128 128 [some (.inr (some ((6, 0, 0) : qz_N))), some (.inl (x5 - (48 : Int32))), some (.inl x255)] [] (qz_mk T.1 T.2) none (qz_mk r.1 r.2) := by
  have hb : qz_b 128 = cX6_readsBooking := rfl
  have hcn : qz_cn 128 = 6 := rfl
  intro n
  induction n with
  | zero =>
    intro T r h
    cases h
  | succ n ih =>
    intro T r h
    rw [gM_readsBooking_L128bbbbbbbbbbbbbbbbbbbbbbbbbbb] at h
    refine ei_aln hb dX6_readsBooking_128 (pc' := 129) rfl rfl ?_
    refine ei_gi hb dX6_readsBooking_129 (pc' := 132) (x := (T.1 ((6, 0, 0) : qz_N) 12)) hcn qz_f_6_161 rfl rfl rfl rfl ?_
    by_cases c292 : (T.1 ((6, 0, 0) : qz_N) 12) = 0
    · rw [if_pos c292] at h
      refine ei_ifT hb dX6_readsBooking_132 (pc' := 161) (decide_eq_true c292) (by decide) ?_
      exact hK T _ h
    · rw [if_neg c292] at h
      refine ei_ifF hb dX6_readsBooking_132 (pc' := 135) (t := 161) (decide_eq_false c292) (by decide) rfl ?_
      refine ei_aln hb dX6_readsBooking_135 (pc' := 136) rfl rfl ?_
      obtain ⟨x293, e294, h⟩ := Option.bind_eq_some_iff.mp h
      refine ei_cv hb dX6_readsBooking_136 (pc' := 139) (M1 := (qz_mk T.1 T.2)) (as := []) (rest := []) (st' := [.inl x293]) hcn qz_c_6_158 qz_k_126 (qz_q_128_126) (Nat.le_of_ble_eq_true rfl) (Nat.le_of_ble_eq_true rfl) rfl rfl rfl (vM_sign F T.1 T.2 _ e294) rfl rfl ?_
      refine ei_b hb dX6_readsBooking_139 (v := (49 : Int32)) (pc' := 141) (by decide) rfl ?_
      refine ei_b hb dX6_readsBooking_141 (v := (57 : Int32)) (pc' := 143) (by decide) rfl ?_
      refine ei_cs hb dX6_readsBooking_143 (pc' := 146) (M1 := (qz_mk T.1 T.2)) (as := [.inl x293, .inl (49 : Int32), .inl (57 : Int32)]) (rest := []) (st' := [.inl (gM_in T.1 x293 (49 : Int32) (57 : Int32))]) hcn qz_c_6_36 rfl qz_k_84 (qz_q_128_84) (Nat.le_of_ble_eq_true rfl) (Nat.le_of_ble_eq_true rfl) rfl rfl (vM_in T.1 T.2 x293 (49 : Int32) (57 : Int32)) rfl rfl ?_
      by_cases c295 : (gM_in T.1 x293 (49 : Int32) (57 : Int32)) = 0
      · rw [if_pos c295] at h
        refine ei_ifT hb dX6_readsBooking_146 (pc' := 161) (decide_eq_true c295) (by decide) ?_
        exact hK T _ h
      · rw [if_neg c295] at h
        refine ei_ifF hb dX6_readsBooking_146 (pc' := 149) (t := 161) (decide_eq_false c295) (by decide) rfl ?_
        refine ei_aln hb dX6_readsBooking_149 (pc' := 150) rfl rfl ?_
        refine ei_iln hb dX6_readsBooking_150 (pc' := 151) rfl rfl ?_
        refine ei_iln hb dX6_readsBooking_151 (pc' := 152) rfl rfl ?_
        refine ei_b hb dX6_readsBooking_152 (v := (97 : Int32)) (pc' := 154) (by decide) rfl ?_
        refine ei_sub hb dX6_readsBooking_154 (pc' := 155) rfl ?_
        obtain ⟨R296, e297, h⟩ := Option.bind_eq_some_iff.mp h
        refine ei_cv hb dX6_readsBooking_155 (pc' := 158) (M1 := (qz_mk R296.1 R296.2)) (as := [.inl (x5 - (48 : Int32)), .inl (x255 - (97 : Int32))]) (rest := []) (st' := []) hcn qz_c_6_165 qz_k_127 (qz_q_128_127) (Nat.le_of_ble_eq_true rfl) (Nat.le_of_ble_eq_true rfl) rfl rfl rfl (vM_readsStop F T (x5 - (48 : Int32)) (x255 - (97 : Int32)) _ e297) rfl rfl ?_
        refine ei_go hb dX6_readsBooking_158 (pc' := 128) (by decide) ?_
        exact ih R296 _ h
set_option maxHeartbeats 4000000 in
theorem vM_readsBooking_L128bbbbbbbbbbbbbbbbbbbbbbbbbbbb (F : Nat) (x5 : Int32) (x255 : Int32) (K : (qz_S → Option (qz_S))) (hK : ∀ (T : qz_S) (r : qz_S), K T = some r → qz_E 128 161 [some (.inr (some ((6, 0, 0) : qz_N))), some (.inl (x5 - (48 : Int32))), some (.inl x255)] [] (qz_mk T.1 T.2) none (qz_mk r.1 r.2)) : ∀ (n : Nat) (T : qz_S) (r : qz_S), gM_readsBooking_L128bbbbbbbbbbbbbbbbbbbbbbbbbbbb F x5 x255 K n T = some r → qz_E 128 128 [some (.inr (some ((6, 0, 0) : qz_N))), some (.inl (x5 - (48 : Int32))), some (.inl x255)] [] (qz_mk T.1 T.2) none (qz_mk r.1 r.2) := by
  have hb : qz_b 128 = cX6_readsBooking := rfl
  have hcn : qz_cn 128 = 6 := rfl
  intro n
  induction n with
  | zero =>
    intro T r h
    cases h
  | succ n ih =>
    intro T r h
    rw [gM_readsBooking_L128bbbbbbbbbbbbbbbbbbbbbbbbbbbb] at h
    refine ei_aln hb dX6_readsBooking_128 (pc' := 129) rfl rfl ?_
    refine ei_gi hb dX6_readsBooking_129 (pc' := 132) (x := (T.1 ((6, 0, 0) : qz_N) 12)) hcn qz_f_6_161 rfl rfl rfl rfl ?_
    by_cases c303 : (T.1 ((6, 0, 0) : qz_N) 12) = 0
    · rw [if_pos c303] at h
      refine ei_ifT hb dX6_readsBooking_132 (pc' := 161) (decide_eq_true c303) (by decide) ?_
      exact hK T _ h
    · rw [if_neg c303] at h
      refine ei_ifF hb dX6_readsBooking_132 (pc' := 135) (t := 161) (decide_eq_false c303) (by decide) rfl ?_
      refine ei_aln hb dX6_readsBooking_135 (pc' := 136) rfl rfl ?_
      obtain ⟨x304, e305, h⟩ := Option.bind_eq_some_iff.mp h
      refine ei_cv hb dX6_readsBooking_136 (pc' := 139) (M1 := (qz_mk T.1 T.2)) (as := []) (rest := []) (st' := [.inl x304]) hcn qz_c_6_158 qz_k_126 (qz_q_128_126) (Nat.le_of_ble_eq_true rfl) (Nat.le_of_ble_eq_true rfl) rfl rfl rfl (vM_sign F T.1 T.2 _ e305) rfl rfl ?_
      refine ei_b hb dX6_readsBooking_139 (v := (49 : Int32)) (pc' := 141) (by decide) rfl ?_
      refine ei_b hb dX6_readsBooking_141 (v := (57 : Int32)) (pc' := 143) (by decide) rfl ?_
      refine ei_cs hb dX6_readsBooking_143 (pc' := 146) (M1 := (qz_mk T.1 T.2)) (as := [.inl x304, .inl (49 : Int32), .inl (57 : Int32)]) (rest := []) (st' := [.inl (gM_in T.1 x304 (49 : Int32) (57 : Int32))]) hcn qz_c_6_36 rfl qz_k_84 (qz_q_128_84) (Nat.le_of_ble_eq_true rfl) (Nat.le_of_ble_eq_true rfl) rfl rfl (vM_in T.1 T.2 x304 (49 : Int32) (57 : Int32)) rfl rfl ?_
      by_cases c306 : (gM_in T.1 x304 (49 : Int32) (57 : Int32)) = 0
      · rw [if_pos c306] at h
        refine ei_ifT hb dX6_readsBooking_146 (pc' := 161) (decide_eq_true c306) (by decide) ?_
        exact hK T _ h
      · rw [if_neg c306] at h
        refine ei_ifF hb dX6_readsBooking_146 (pc' := 149) (t := 161) (decide_eq_false c306) (by decide) rfl ?_
        refine ei_aln hb dX6_readsBooking_149 (pc' := 150) rfl rfl ?_
        refine ei_iln hb dX6_readsBooking_150 (pc' := 151) rfl rfl ?_
        refine ei_iln hb dX6_readsBooking_151 (pc' := 152) rfl rfl ?_
        refine ei_b hb dX6_readsBooking_152 (v := (97 : Int32)) (pc' := 154) (by decide) rfl ?_
        refine ei_sub hb dX6_readsBooking_154 (pc' := 155) rfl ?_
        obtain ⟨R307, e308, h⟩ := Option.bind_eq_some_iff.mp h
        refine ei_cv hb dX6_readsBooking_155 (pc' := 158) (M1 := (qz_mk R307.1 R307.2)) (as := [.inl (x5 - (48 : Int32)), .inl (x255 - (97 : Int32))]) (rest := []) (st' := []) hcn qz_c_6_165 qz_k_127 (qz_q_128_127) (Nat.le_of_ble_eq_true rfl) (Nat.le_of_ble_eq_true rfl) rfl rfl rfl (vM_readsStop F T (x5 - (48 : Int32)) (x255 - (97 : Int32)) _ e308) rfl rfl ?_
        refine ei_go hb dX6_readsBooking_158 (pc' := 128) (by decide) ?_
        exact ih R307 _ h
set_option maxHeartbeats 4000000 in
theorem vM_readsBooking_L128bbbbbbbbbbbbbbbbbbbbbbbbbbbbb (F : Nat) (x5 : Int32) (x255 : Int32) (K : (qz_S → Option (qz_S))) (hK : ∀ (T : qz_S) (r : qz_S), K T = some r → qz_E 128 161 [some (.inr (some ((6, 0, 0) : qz_N))), some (.inl (x5 - (48 : Int32))), some (.inl x255)] [] (qz_mk T.1 T.2) none (qz_mk r.1 r.2)) : ∀ (n : Nat) (T : qz_S) (r : qz_S), gM_readsBooking_L128bbbbbbbbbbbbbbbbbbbbbbbbbbbbb F x5 x255 K n T = some r → qz_E 128 128 [some (.inr (some ((6, 0, 0) : qz_N))), some (.inl (x5 - (48 : Int32))), some (.inl x255)] [] (qz_mk T.1 T.2) none (qz_mk r.1 r.2) := by
  have hb : qz_b 128 = cX6_readsBooking := rfl
  have hcn : qz_cn 128 = 6 := rfl
  intro n
  induction n with
  | zero =>
    intro T r h
    cases h
  | succ n ih =>
    intro T r h
    rw [gM_readsBooking_L128bbbbbbbbbbbbbbbbbbbbbbbbbbbbb] at h
    refine ei_aln hb dX6_readsBooking_128 (pc' := 129) rfl rfl ?_
    refine ei_gi hb dX6_readsBooking_129 (pc' := 132) (x := (T.1 ((6, 0, 0) : qz_N) 12)) hcn qz_f_6_161 rfl rfl rfl rfl ?_
    by_cases c311 : (T.1 ((6, 0, 0) : qz_N) 12) = 0
    · rw [if_pos c311] at h
      refine ei_ifT hb dX6_readsBooking_132 (pc' := 161) (decide_eq_true c311) (by decide) ?_
      exact hK T _ h
    · rw [if_neg c311] at h
      refine ei_ifF hb dX6_readsBooking_132 (pc' := 135) (t := 161) (decide_eq_false c311) (by decide) rfl ?_
      refine ei_aln hb dX6_readsBooking_135 (pc' := 136) rfl rfl ?_
      obtain ⟨x312, e313, h⟩ := Option.bind_eq_some_iff.mp h
      refine ei_cv hb dX6_readsBooking_136 (pc' := 139) (M1 := (qz_mk T.1 T.2)) (as := []) (rest := []) (st' := [.inl x312]) hcn qz_c_6_158 qz_k_126 (qz_q_128_126) (Nat.le_of_ble_eq_true rfl) (Nat.le_of_ble_eq_true rfl) rfl rfl rfl (vM_sign F T.1 T.2 _ e313) rfl rfl ?_
      refine ei_b hb dX6_readsBooking_139 (v := (49 : Int32)) (pc' := 141) (by decide) rfl ?_
      refine ei_b hb dX6_readsBooking_141 (v := (57 : Int32)) (pc' := 143) (by decide) rfl ?_
      refine ei_cs hb dX6_readsBooking_143 (pc' := 146) (M1 := (qz_mk T.1 T.2)) (as := [.inl x312, .inl (49 : Int32), .inl (57 : Int32)]) (rest := []) (st' := [.inl (gM_in T.1 x312 (49 : Int32) (57 : Int32))]) hcn qz_c_6_36 rfl qz_k_84 (qz_q_128_84) (Nat.le_of_ble_eq_true rfl) (Nat.le_of_ble_eq_true rfl) rfl rfl (vM_in T.1 T.2 x312 (49 : Int32) (57 : Int32)) rfl rfl ?_
      by_cases c314 : (gM_in T.1 x312 (49 : Int32) (57 : Int32)) = 0
      · rw [if_pos c314] at h
        refine ei_ifT hb dX6_readsBooking_146 (pc' := 161) (decide_eq_true c314) (by decide) ?_
        exact hK T _ h
      · rw [if_neg c314] at h
        refine ei_ifF hb dX6_readsBooking_146 (pc' := 149) (t := 161) (decide_eq_false c314) (by decide) rfl ?_
        refine ei_aln hb dX6_readsBooking_149 (pc' := 150) rfl rfl ?_
        refine ei_iln hb dX6_readsBooking_150 (pc' := 151) rfl rfl ?_
        refine ei_iln hb dX6_readsBooking_151 (pc' := 152) rfl rfl ?_
        refine ei_b hb dX6_readsBooking_152 (v := (97 : Int32)) (pc' := 154) (by decide) rfl ?_
        refine ei_sub hb dX6_readsBooking_154 (pc' := 155) rfl ?_
        obtain ⟨R315, e316, h⟩ := Option.bind_eq_some_iff.mp h
        refine ei_cv hb dX6_readsBooking_155 (pc' := 158) (M1 := (qz_mk R315.1 R315.2)) (as := [.inl (x5 - (48 : Int32)), .inl (x255 - (97 : Int32))]) (rest := []) (st' := []) hcn qz_c_6_165 qz_k_127 (qz_q_128_127) (Nat.le_of_ble_eq_true rfl) (Nat.le_of_ble_eq_true rfl) rfl rfl rfl (vM_readsStop F T (x5 - (48 : Int32)) (x255 - (97 : Int32)) _ e316) rfl rfl ?_
        refine ei_go hb dX6_readsBooking_158 (pc' := 128) (by decide) ?_
        exact ih R315 _ h
set_option maxHeartbeats 4000000 in
theorem vM_readsBooking_L128bbbbbbbbbbbbbbbbbbbbbbbbbbbbbb (F : Nat) (x5 : Int32) (x255 : Int32) (K : (qz_S → Option (qz_S))) (hK : ∀ (T : qz_S) (r : qz_S), K T = some r → qz_E 128 161 [some (.inr (some ((6, 0, 0) : qz_N))), some (.inl (x5 - (48 : Int32))), some (.inl x255)] [] (qz_mk T.1 T.2) none (qz_mk r.1 r.2)) : ∀ (n : Nat) (T : qz_S) (r : qz_S), gM_readsBooking_L128bbbbbbbbbbbbbbbbbbbbbbbbbbbbbb F x5 x255 K n T = some r → qz_E 128 128 [some (.inr (some ((6, 0, 0) : qz_N))), some (.inl (x5 - (48 : Int32))), some (.inl x255)] [] (qz_mk T.1 T.2) none (qz_mk r.1 r.2) := by
  have hb : qz_b 128 = cX6_readsBooking := rfl
  have hcn : qz_cn 128 = 6 := rfl
  intro n
  induction n with
  | zero =>
    intro T r h
    cases h
  | succ n ih =>
    intro T r h
    rw [gM_readsBooking_L128bbbbbbbbbbbbbbbbbbbbbbbbbbbbbb] at h
    refine ei_aln hb dX6_readsBooking_128 (pc' := 129) rfl rfl ?_
    refine ei_gi hb dX6_readsBooking_129 (pc' := 132) (x := (T.1 ((6, 0, 0) : qz_N) 12)) hcn qz_f_6_161 rfl rfl rfl rfl ?_
    by_cases c324 : (T.1 ((6, 0, 0) : qz_N) 12) = 0
    · rw [if_pos c324] at h
      refine ei_ifT hb dX6_readsBooking_132 (pc' := 161) (decide_eq_true c324) (by decide) ?_
      exact hK T _ h
    · rw [if_neg c324] at h
      refine ei_ifF hb dX6_readsBooking_132 (pc' := 135) (t := 161) (decide_eq_false c324) (by decide) rfl ?_
      refine ei_aln hb dX6_readsBooking_135 (pc' := 136) rfl rfl ?_
      obtain ⟨x325, e326, h⟩ := Option.bind_eq_some_iff.mp h
      refine ei_cv hb dX6_readsBooking_136 (pc' := 139) (M1 := (qz_mk T.1 T.2)) (as := []) (rest := []) (st' := [.inl x325]) hcn qz_c_6_158 qz_k_126 (qz_q_128_126) (Nat.le_of_ble_eq_true rfl) (Nat.le_of_ble_eq_true rfl) rfl rfl rfl (vM_sign F T.1 T.2 _ e326) rfl rfl ?_
      refine ei_b hb dX6_readsBooking_139 (v := (49 : Int32)) (pc' := 141) (by decide) rfl ?_
      refine ei_b hb dX6_readsBooking_141 (v := (57 : Int32)) (pc' := 143) (by decide) rfl ?_
      refine ei_cs hb dX6_readsBooking_143 (pc' := 146) (M1 := (qz_mk T.1 T.2)) (as := [.inl x325, .inl (49 : Int32), .inl (57 : Int32)]) (rest := []) (st' := [.inl (gM_in T.1 x325 (49 : Int32) (57 : Int32))]) hcn qz_c_6_36 rfl qz_k_84 (qz_q_128_84) (Nat.le_of_ble_eq_true rfl) (Nat.le_of_ble_eq_true rfl) rfl rfl (vM_in T.1 T.2 x325 (49 : Int32) (57 : Int32)) rfl rfl ?_
      by_cases c327 : (gM_in T.1 x325 (49 : Int32) (57 : Int32)) = 0
      · rw [if_pos c327] at h
        refine ei_ifT hb dX6_readsBooking_146 (pc' := 161) (decide_eq_true c327) (by decide) ?_
        exact hK T _ h
      · rw [if_neg c327] at h
        refine ei_ifF hb dX6_readsBooking_146 (pc' := 149) (t := 161) (decide_eq_false c327) (by decide) rfl ?_
        refine ei_aln hb dX6_readsBooking_149 (pc' := 150) rfl rfl ?_
        refine ei_iln hb dX6_readsBooking_150 (pc' := 151) rfl rfl ?_
        refine ei_iln hb dX6_readsBooking_151 (pc' := 152) rfl rfl ?_
        refine ei_b hb dX6_readsBooking_152 (v := (97 : Int32)) (pc' := 154) (by decide) rfl ?_
        refine ei_sub hb dX6_readsBooking_154 (pc' := 155) rfl ?_
        obtain ⟨R328, e329, h⟩ := Option.bind_eq_some_iff.mp h
        refine ei_cv hb dX6_readsBooking_155 (pc' := 158) (M1 := (qz_mk R328.1 R328.2)) (as := [.inl (x5 - (48 : Int32)), .inl (x255 - (97 : Int32))]) (rest := []) (st' := []) hcn qz_c_6_165 qz_k_127 (qz_q_128_127) (Nat.le_of_ble_eq_true rfl) (Nat.le_of_ble_eq_true rfl) rfl rfl rfl (vM_readsStop F T (x5 - (48 : Int32)) (x255 - (97 : Int32)) _ e329) rfl rfl ?_
        refine ei_go hb dX6_readsBooking_158 (pc' := 128) (by decide) ?_
        exact ih R328 _ h
set_option maxHeartbeats 4000000 in
theorem vM_readsBooking_L128bbbbbbbbbbbbbbbbbbbbbbbbbbbbbbb (F : Nat) (x5 : Int32) (x255 : Int32) (K : (qz_S → Option (qz_S))) (hK : ∀ (T : qz_S) (r : qz_S), K T = some r → qz_E 128 161 [some (.inr (some ((6, 0, 0) : qz_N))), some (.inl (x5 - (48 : Int32))), some (.inl x255)] [] (qz_mk T.1 T.2) none (qz_mk r.1 r.2)) : ∀ (n : Nat) (T : qz_S) (r : qz_S), gM_readsBooking_L128bbbbbbbbbbbbbbbbbbbbbbbbbbbbbbb F x5 x255 K n T = some r → qz_E 128 128 [some (.inr (some ((6, 0, 0) : qz_N))), some (.inl (x5 - (48 : Int32))), some (.inl x255)] [] (qz_mk T.1 T.2) none (qz_mk r.1 r.2) := by
  have hb : qz_b 128 = cX6_readsBooking := rfl
  have hcn : qz_cn 128 = 6 := rfl
  intro n
  induction n with
  | zero =>
    intro T r h
    cases h
  | succ n ih =>
    intro T r h
    rw [gM_readsBooking_L128bbbbbbbbbbbbbbbbbbbbbbbbbbbbbbb] at h
    refine ei_aln hb dX6_readsBooking_128 (pc' := 129) rfl rfl ?_
    refine ei_gi hb dX6_readsBooking_129 (pc' := 132) (x := (T.1 ((6, 0, 0) : qz_N) 12)) hcn qz_f_6_161 rfl rfl rfl rfl ?_
    by_cases c335 : (T.1 ((6, 0, 0) : qz_N) 12) = 0
    · rw [if_pos c335] at h
      refine ei_ifT hb dX6_readsBooking_132 (pc' := 161) (decide_eq_true c335) (by decide) ?_
      exact hK T _ h
    · rw [if_neg c335] at h
      refine ei_ifF hb dX6_readsBooking_132 (pc' := 135) (t := 161) (decide_eq_false c335) (by decide) rfl ?_
      refine ei_aln hb dX6_readsBooking_135 (pc' := 136) rfl rfl ?_
      obtain ⟨x336, e337, h⟩ := Option.bind_eq_some_iff.mp h
      refine ei_cv hb dX6_readsBooking_136 (pc' := 139) (M1 := (qz_mk T.1 T.2)) (as := []) (rest := []) (st' := [.inl x336]) hcn qz_c_6_158 qz_k_126 (qz_q_128_126) (Nat.le_of_ble_eq_true rfl) (Nat.le_of_ble_eq_true rfl) rfl rfl rfl (vM_sign F T.1 T.2 _ e337) rfl rfl ?_
      refine ei_b hb dX6_readsBooking_139 (v := (49 : Int32)) (pc' := 141) (by decide) rfl ?_
      refine ei_b hb dX6_readsBooking_141 (v := (57 : Int32)) (pc' := 143) (by decide) rfl ?_
      refine ei_cs hb dX6_readsBooking_143 (pc' := 146) (M1 := (qz_mk T.1 T.2)) (as := [.inl x336, .inl (49 : Int32), .inl (57 : Int32)]) (rest := []) (st' := [.inl (gM_in T.1 x336 (49 : Int32) (57 : Int32))]) hcn qz_c_6_36 rfl qz_k_84 (qz_q_128_84) (Nat.le_of_ble_eq_true rfl) (Nat.le_of_ble_eq_true rfl) rfl rfl (vM_in T.1 T.2 x336 (49 : Int32) (57 : Int32)) rfl rfl ?_
      by_cases c338 : (gM_in T.1 x336 (49 : Int32) (57 : Int32)) = 0
      · rw [if_pos c338] at h
        refine ei_ifT hb dX6_readsBooking_146 (pc' := 161) (decide_eq_true c338) (by decide) ?_
        exact hK T _ h
      · rw [if_neg c338] at h
        refine ei_ifF hb dX6_readsBooking_146 (pc' := 149) (t := 161) (decide_eq_false c338) (by decide) rfl ?_
        refine ei_aln hb dX6_readsBooking_149 (pc' := 150) rfl rfl ?_
        refine ei_iln hb dX6_readsBooking_150 (pc' := 151) rfl rfl ?_
        refine ei_iln hb dX6_readsBooking_151 (pc' := 152) rfl rfl ?_
        refine ei_b hb dX6_readsBooking_152 (v := (97 : Int32)) (pc' := 154) (by decide) rfl ?_
        refine ei_sub hb dX6_readsBooking_154 (pc' := 155) rfl ?_
        obtain ⟨R339, e340, h⟩ := Option.bind_eq_some_iff.mp h
        refine ei_cv hb dX6_readsBooking_155 (pc' := 158) (M1 := (qz_mk R339.1 R339.2)) (as := [.inl (x5 - (48 : Int32)), .inl (x255 - (97 : Int32))]) (rest := []) (st' := []) hcn qz_c_6_165 qz_k_127 (qz_q_128_127) (Nat.le_of_ble_eq_true rfl) (Nat.le_of_ble_eq_true rfl) rfl rfl rfl (vM_readsStop F T (x5 - (48 : Int32)) (x255 - (97 : Int32)) _ e340) rfl rfl ?_
        refine ei_go hb dX6_readsBooking_158 (pc' := 128) (by decide) ?_
        exact ih R339 _ h
set_option maxHeartbeats 4000000 in
theorem vM_readsBooking_L128bbbbbbbbbbbbbbbbbbbbbbbbbbbbbbbb (F : Nat) (x5 : Int32) (x255 : Int32) (K : (qz_S → Option (qz_S))) (hK : ∀ (T : qz_S) (r : qz_S), K T = some r → qz_E 128 161 [some (.inr (some ((6, 0, 0) : qz_N))), some (.inl (x5 - (48 : Int32))), some (.inl x255)] [] (qz_mk T.1 T.2) none (qz_mk r.1 r.2)) : ∀ (n : Nat) (T : qz_S) (r : qz_S), gM_readsBooking_L128bbbbbbbbbbbbbbbbbbbbbbbbbbbbbbbb F x5 x255 K n T = some r → qz_E 128 128 [some (.inr (some ((6, 0, 0) : qz_N))), some (.inl (x5 - (48 : Int32))), some (.inl x255)] [] (qz_mk T.1 T.2) none (qz_mk r.1 r.2) := by
  have hb : qz_b 128 = cX6_readsBooking := rfl
  have hcn : qz_cn 128 = 6 := rfl
  intro n
  induction n with
  | zero =>
    intro T r h
    cases h
  | succ n ih =>
    intro T r h
    rw [gM_readsBooking_L128bbbbbbbbbbbbbbbbbbbbbbbbbbbbbbbb] at h
    refine ei_aln hb dX6_readsBooking_128 (pc' := 129) rfl rfl ?_
    refine ei_gi hb dX6_readsBooking_129 (pc' := 132) (x := (T.1 ((6, 0, 0) : qz_N) 12)) hcn qz_f_6_161 rfl rfl rfl rfl ?_
    by_cases c343 : (T.1 ((6, 0, 0) : qz_N) 12) = 0
    · rw [if_pos c343] at h
      refine ei_ifT hb dX6_readsBooking_132 (pc' := 161) (decide_eq_true c343) (by decide) ?_
      exact hK T _ h
    · rw [if_neg c343] at h
      refine ei_ifF hb dX6_readsBooking_132 (pc' := 135) (t := 161) (decide_eq_false c343) (by decide) rfl ?_
      refine ei_aln hb dX6_readsBooking_135 (pc' := 136) rfl rfl ?_
      obtain ⟨x344, e345, h⟩ := Option.bind_eq_some_iff.mp h
      refine ei_cv hb dX6_readsBooking_136 (pc' := 139) (M1 := (qz_mk T.1 T.2)) (as := []) (rest := []) (st' := [.inl x344]) hcn qz_c_6_158 qz_k_126 (qz_q_128_126) (Nat.le_of_ble_eq_true rfl) (Nat.le_of_ble_eq_true rfl) rfl rfl rfl (vM_sign F T.1 T.2 _ e345) rfl rfl ?_
      refine ei_b hb dX6_readsBooking_139 (v := (49 : Int32)) (pc' := 141) (by decide) rfl ?_
      refine ei_b hb dX6_readsBooking_141 (v := (57 : Int32)) (pc' := 143) (by decide) rfl ?_
      refine ei_cs hb dX6_readsBooking_143 (pc' := 146) (M1 := (qz_mk T.1 T.2)) (as := [.inl x344, .inl (49 : Int32), .inl (57 : Int32)]) (rest := []) (st' := [.inl (gM_in T.1 x344 (49 : Int32) (57 : Int32))]) hcn qz_c_6_36 rfl qz_k_84 (qz_q_128_84) (Nat.le_of_ble_eq_true rfl) (Nat.le_of_ble_eq_true rfl) rfl rfl (vM_in T.1 T.2 x344 (49 : Int32) (57 : Int32)) rfl rfl ?_
      by_cases c346 : (gM_in T.1 x344 (49 : Int32) (57 : Int32)) = 0
      · rw [if_pos c346] at h
        refine ei_ifT hb dX6_readsBooking_146 (pc' := 161) (decide_eq_true c346) (by decide) ?_
        exact hK T _ h
      · rw [if_neg c346] at h
        refine ei_ifF hb dX6_readsBooking_146 (pc' := 149) (t := 161) (decide_eq_false c346) (by decide) rfl ?_
        refine ei_aln hb dX6_readsBooking_149 (pc' := 150) rfl rfl ?_
        refine ei_iln hb dX6_readsBooking_150 (pc' := 151) rfl rfl ?_
        refine ei_iln hb dX6_readsBooking_151 (pc' := 152) rfl rfl ?_
        refine ei_b hb dX6_readsBooking_152 (v := (97 : Int32)) (pc' := 154) (by decide) rfl ?_
        refine ei_sub hb dX6_readsBooking_154 (pc' := 155) rfl ?_
        obtain ⟨R347, e348, h⟩ := Option.bind_eq_some_iff.mp h
        refine ei_cv hb dX6_readsBooking_155 (pc' := 158) (M1 := (qz_mk R347.1 R347.2)) (as := [.inl (x5 - (48 : Int32)), .inl (x255 - (97 : Int32))]) (rest := []) (st' := []) hcn qz_c_6_165 qz_k_127 (qz_q_128_127) (Nat.le_of_ble_eq_true rfl) (Nat.le_of_ble_eq_true rfl) rfl rfl rfl (vM_readsStop F T (x5 - (48 : Int32)) (x255 - (97 : Int32)) _ e348) rfl rfl ?_
        refine ei_go hb dX6_readsBooking_158 (pc' := 128) (by decide) ?_
        exact ih R347 _ h
set_option maxHeartbeats 4000000 in
theorem vM_readsBooking_L128bbbbbbbbbbbbbbbbbbbbbbbbbbbbbbbbb (F : Nat) (x5 : Int32) (x255 : Int32) (K : (qz_S → Option (qz_S))) (hK : ∀ (T : qz_S) (r : qz_S), K T = some r → qz_E 128 161 [some (.inr (some ((6, 0, 0) : qz_N))), some (.inl (x5 - (48 : Int32))), some (.inl x255)] [] (qz_mk T.1 T.2) none (qz_mk r.1 r.2)) : ∀ (n : Nat) (T : qz_S) (r : qz_S), gM_readsBooking_L128bbbbbbbbbbbbbbbbbbbbbbbbbbbbbbbbb F x5 x255 K n T = some r → qz_E 128 128 [some (.inr (some ((6, 0, 0) : qz_N))), some (.inl (x5 - (48 : Int32))), some (.inl x255)] [] (qz_mk T.1 T.2) none (qz_mk r.1 r.2) := by
  have hb : qz_b 128 = cX6_readsBooking := rfl
  have hcn : qz_cn 128 = 6 := rfl
  intro n
  induction n with
  | zero =>
    intro T r h
    cases h
  | succ n ih =>
    intro T r h
    rw [gM_readsBooking_L128bbbbbbbbbbbbbbbbbbbbbbbbbbbbbbbbb] at h
    refine ei_aln hb dX6_readsBooking_128 (pc' := 129) rfl rfl ?_
    refine ei_gi hb dX6_readsBooking_129 (pc' := 132) (x := (T.1 ((6, 0, 0) : qz_N) 12)) hcn qz_f_6_161 rfl rfl rfl rfl ?_
    by_cases c353 : (T.1 ((6, 0, 0) : qz_N) 12) = 0
    · rw [if_pos c353] at h
      refine ei_ifT hb dX6_readsBooking_132 (pc' := 161) (decide_eq_true c353) (by decide) ?_
      exact hK T _ h
    · rw [if_neg c353] at h
      refine ei_ifF hb dX6_readsBooking_132 (pc' := 135) (t := 161) (decide_eq_false c353) (by decide) rfl ?_
      refine ei_aln hb dX6_readsBooking_135 (pc' := 136) rfl rfl ?_
      obtain ⟨x354, e355, h⟩ := Option.bind_eq_some_iff.mp h
      refine ei_cv hb dX6_readsBooking_136 (pc' := 139) (M1 := (qz_mk T.1 T.2)) (as := []) (rest := []) (st' := [.inl x354]) hcn qz_c_6_158 qz_k_126 (qz_q_128_126) (Nat.le_of_ble_eq_true rfl) (Nat.le_of_ble_eq_true rfl) rfl rfl rfl (vM_sign F T.1 T.2 _ e355) rfl rfl ?_
      refine ei_b hb dX6_readsBooking_139 (v := (49 : Int32)) (pc' := 141) (by decide) rfl ?_
      refine ei_b hb dX6_readsBooking_141 (v := (57 : Int32)) (pc' := 143) (by decide) rfl ?_
      refine ei_cs hb dX6_readsBooking_143 (pc' := 146) (M1 := (qz_mk T.1 T.2)) (as := [.inl x354, .inl (49 : Int32), .inl (57 : Int32)]) (rest := []) (st' := [.inl (gM_in T.1 x354 (49 : Int32) (57 : Int32))]) hcn qz_c_6_36 rfl qz_k_84 (qz_q_128_84) (Nat.le_of_ble_eq_true rfl) (Nat.le_of_ble_eq_true rfl) rfl rfl (vM_in T.1 T.2 x354 (49 : Int32) (57 : Int32)) rfl rfl ?_
      by_cases c356 : (gM_in T.1 x354 (49 : Int32) (57 : Int32)) = 0
      · rw [if_pos c356] at h
        refine ei_ifT hb dX6_readsBooking_146 (pc' := 161) (decide_eq_true c356) (by decide) ?_
        exact hK T _ h
      · rw [if_neg c356] at h
        refine ei_ifF hb dX6_readsBooking_146 (pc' := 149) (t := 161) (decide_eq_false c356) (by decide) rfl ?_
        refine ei_aln hb dX6_readsBooking_149 (pc' := 150) rfl rfl ?_
        refine ei_iln hb dX6_readsBooking_150 (pc' := 151) rfl rfl ?_
        refine ei_iln hb dX6_readsBooking_151 (pc' := 152) rfl rfl ?_
        refine ei_b hb dX6_readsBooking_152 (v := (97 : Int32)) (pc' := 154) (by decide) rfl ?_
        refine ei_sub hb dX6_readsBooking_154 (pc' := 155) rfl ?_
        obtain ⟨R357, e358, h⟩ := Option.bind_eq_some_iff.mp h
        refine ei_cv hb dX6_readsBooking_155 (pc' := 158) (M1 := (qz_mk R357.1 R357.2)) (as := [.inl (x5 - (48 : Int32)), .inl (x255 - (97 : Int32))]) (rest := []) (st' := []) hcn qz_c_6_165 qz_k_127 (qz_q_128_127) (Nat.le_of_ble_eq_true rfl) (Nat.le_of_ble_eq_true rfl) rfl rfl rfl (vM_readsStop F T (x5 - (48 : Int32)) (x255 - (97 : Int32)) _ e358) rfl rfl ?_
        refine ei_go hb dX6_readsBooking_158 (pc' := 128) (by decide) ?_
        exact ih R357 _ h
set_option maxHeartbeats 4000000 in
theorem vM_readsBooking_L128bbbbbbbbbbbbbbbbbbbbbbbbbbbbbbbbbb (F : Nat) (x5 : Int32) (x255 : Int32) (K : (qz_S → Option (qz_S))) (hK : ∀ (T : qz_S) (r : qz_S), K T = some r → qz_E 128 161 [some (.inr (some ((6, 0, 0) : qz_N))), some (.inl (x5 - (48 : Int32))), some (.inl x255)] [] (qz_mk T.1 T.2) none (qz_mk r.1 r.2)) : ∀ (n : Nat) (T : qz_S) (r : qz_S), gM_readsBooking_L128bbbbbbbbbbbbbbbbbbbbbbbbbbbbbbbbbb F x5 x255 K n T = some r → qz_E 128 128 [some (.inr (some ((6, 0, 0) : qz_N))), some (.inl (x5 - (48 : Int32))), some (.inl x255)] [] (qz_mk T.1 T.2) none (qz_mk r.1 r.2) := by
  have hb : qz_b 128 = cX6_readsBooking := rfl
  have hcn : qz_cn 128 = 6 := rfl
  intro n
  induction n with
  | zero =>
    intro T r h
    cases h
  | succ n ih =>
    intro T r h
    rw [gM_readsBooking_L128bbbbbbbbbbbbbbbbbbbbbbbbbbbbbbbbbb] at h
    refine ei_aln hb dX6_readsBooking_128 (pc' := 129) rfl rfl ?_
    refine ei_gi hb dX6_readsBooking_129 (pc' := 132) (x := (T.1 ((6, 0, 0) : qz_N) 12)) hcn qz_f_6_161 rfl rfl rfl rfl ?_
    by_cases c364 : (T.1 ((6, 0, 0) : qz_N) 12) = 0
    · rw [if_pos c364] at h
      refine ei_ifT hb dX6_readsBooking_132 (pc' := 161) (decide_eq_true c364) (by decide) ?_
      exact hK T _ h
    · rw [if_neg c364] at h
      refine ei_ifF hb dX6_readsBooking_132 (pc' := 135) (t := 161) (decide_eq_false c364) (by decide) rfl ?_
      refine ei_aln hb dX6_readsBooking_135 (pc' := 136) rfl rfl ?_
      obtain ⟨x365, e366, h⟩ := Option.bind_eq_some_iff.mp h
      refine ei_cv hb dX6_readsBooking_136 (pc' := 139) (M1 := (qz_mk T.1 T.2)) (as := []) (rest := []) (st' := [.inl x365]) hcn qz_c_6_158 qz_k_126 (qz_q_128_126) (Nat.le_of_ble_eq_true rfl) (Nat.le_of_ble_eq_true rfl) rfl rfl rfl (vM_sign F T.1 T.2 _ e366) rfl rfl ?_
      refine ei_b hb dX6_readsBooking_139 (v := (49 : Int32)) (pc' := 141) (by decide) rfl ?_
      refine ei_b hb dX6_readsBooking_141 (v := (57 : Int32)) (pc' := 143) (by decide) rfl ?_
      refine ei_cs hb dX6_readsBooking_143 (pc' := 146) (M1 := (qz_mk T.1 T.2)) (as := [.inl x365, .inl (49 : Int32), .inl (57 : Int32)]) (rest := []) (st' := [.inl (gM_in T.1 x365 (49 : Int32) (57 : Int32))]) hcn qz_c_6_36 rfl qz_k_84 (qz_q_128_84) (Nat.le_of_ble_eq_true rfl) (Nat.le_of_ble_eq_true rfl) rfl rfl (vM_in T.1 T.2 x365 (49 : Int32) (57 : Int32)) rfl rfl ?_
      by_cases c367 : (gM_in T.1 x365 (49 : Int32) (57 : Int32)) = 0
      · rw [if_pos c367] at h
        refine ei_ifT hb dX6_readsBooking_146 (pc' := 161) (decide_eq_true c367) (by decide) ?_
        exact hK T _ h
      · rw [if_neg c367] at h
        refine ei_ifF hb dX6_readsBooking_146 (pc' := 149) (t := 161) (decide_eq_false c367) (by decide) rfl ?_
        refine ei_aln hb dX6_readsBooking_149 (pc' := 150) rfl rfl ?_
        refine ei_iln hb dX6_readsBooking_150 (pc' := 151) rfl rfl ?_
        refine ei_iln hb dX6_readsBooking_151 (pc' := 152) rfl rfl ?_
        refine ei_b hb dX6_readsBooking_152 (v := (97 : Int32)) (pc' := 154) (by decide) rfl ?_
        refine ei_sub hb dX6_readsBooking_154 (pc' := 155) rfl ?_
        obtain ⟨R368, e369, h⟩ := Option.bind_eq_some_iff.mp h
        refine ei_cv hb dX6_readsBooking_155 (pc' := 158) (M1 := (qz_mk R368.1 R368.2)) (as := [.inl (x5 - (48 : Int32)), .inl (x255 - (97 : Int32))]) (rest := []) (st' := []) hcn qz_c_6_165 qz_k_127 (qz_q_128_127) (Nat.le_of_ble_eq_true rfl) (Nat.le_of_ble_eq_true rfl) rfl rfl rfl (vM_readsStop F T (x5 - (48 : Int32)) (x255 - (97 : Int32)) _ e369) rfl rfl ?_
        refine ei_go hb dX6_readsBooking_158 (pc' := 128) (by decide) ?_
        exact ih R368 _ h
set_option maxHeartbeats 4000000 in
theorem vM_readsBooking_L128bbbbbbbbbbbbbbbbbbbbbbbbbbbbbbbbbbb (F : Nat) (x5 : Int32) (x255 : Int32) (K : (qz_S → Option (qz_S))) (hK : ∀ (T : qz_S) (r : qz_S), K T = some r → qz_E 128 161 [some (.inr (some ((6, 0, 0) : qz_N))), some (.inl (x5 - (48 : Int32))), some (.inl x255)] [] (qz_mk T.1 T.2) none (qz_mk r.1 r.2)) : ∀ (n : Nat) (T : qz_S) (r : qz_S), gM_readsBooking_L128bbbbbbbbbbbbbbbbbbbbbbbbbbbbbbbbbbb F x5 x255 K n T = some r → qz_E 128 128 [some (.inr (some ((6, 0, 0) : qz_N))), some (.inl (x5 - (48 : Int32))), some (.inl x255)] [] (qz_mk T.1 T.2) none (qz_mk r.1 r.2) := by
  have hb : qz_b 128 = cX6_readsBooking := rfl
  have hcn : qz_cn 128 = 6 := rfl
  intro n
  induction n with
  | zero =>
    intro T r h
    cases h
  | succ n ih =>
    intro T r h
    rw [gM_readsBooking_L128bbbbbbbbbbbbbbbbbbbbbbbbbbbbbbbbbbb] at h
    refine ei_aln hb dX6_readsBooking_128 (pc' := 129) rfl rfl ?_
    refine ei_gi hb dX6_readsBooking_129 (pc' := 132) (x := (T.1 ((6, 0, 0) : qz_N) 12)) hcn qz_f_6_161 rfl rfl rfl rfl ?_
    by_cases c372 : (T.1 ((6, 0, 0) : qz_N) 12) = 0
    · rw [if_pos c372] at h
      refine ei_ifT hb dX6_readsBooking_132 (pc' := 161) (decide_eq_true c372) (by decide) ?_
      exact hK T _ h
    · rw [if_neg c372] at h
      refine ei_ifF hb dX6_readsBooking_132 (pc' := 135) (t := 161) (decide_eq_false c372) (by decide) rfl ?_
      refine ei_aln hb dX6_readsBooking_135 (pc' := 136) rfl rfl ?_
      obtain ⟨x373, e374, h⟩ := Option.bind_eq_some_iff.mp h
      refine ei_cv hb dX6_readsBooking_136 (pc' := 139) (M1 := (qz_mk T.1 T.2)) (as := []) (rest := []) (st' := [.inl x373]) hcn qz_c_6_158 qz_k_126 (qz_q_128_126) (Nat.le_of_ble_eq_true rfl) (Nat.le_of_ble_eq_true rfl) rfl rfl rfl (vM_sign F T.1 T.2 _ e374) rfl rfl ?_
      refine ei_b hb dX6_readsBooking_139 (v := (49 : Int32)) (pc' := 141) (by decide) rfl ?_
      refine ei_b hb dX6_readsBooking_141 (v := (57 : Int32)) (pc' := 143) (by decide) rfl ?_
      refine ei_cs hb dX6_readsBooking_143 (pc' := 146) (M1 := (qz_mk T.1 T.2)) (as := [.inl x373, .inl (49 : Int32), .inl (57 : Int32)]) (rest := []) (st' := [.inl (gM_in T.1 x373 (49 : Int32) (57 : Int32))]) hcn qz_c_6_36 rfl qz_k_84 (qz_q_128_84) (Nat.le_of_ble_eq_true rfl) (Nat.le_of_ble_eq_true rfl) rfl rfl (vM_in T.1 T.2 x373 (49 : Int32) (57 : Int32)) rfl rfl ?_
      by_cases c375 : (gM_in T.1 x373 (49 : Int32) (57 : Int32)) = 0
      · rw [if_pos c375] at h
        refine ei_ifT hb dX6_readsBooking_146 (pc' := 161) (decide_eq_true c375) (by decide) ?_
        exact hK T _ h
      · rw [if_neg c375] at h
        refine ei_ifF hb dX6_readsBooking_146 (pc' := 149) (t := 161) (decide_eq_false c375) (by decide) rfl ?_
        refine ei_aln hb dX6_readsBooking_149 (pc' := 150) rfl rfl ?_
        refine ei_iln hb dX6_readsBooking_150 (pc' := 151) rfl rfl ?_
        refine ei_iln hb dX6_readsBooking_151 (pc' := 152) rfl rfl ?_
        refine ei_b hb dX6_readsBooking_152 (v := (97 : Int32)) (pc' := 154) (by decide) rfl ?_
        refine ei_sub hb dX6_readsBooking_154 (pc' := 155) rfl ?_
        obtain ⟨R376, e377, h⟩ := Option.bind_eq_some_iff.mp h
        refine ei_cv hb dX6_readsBooking_155 (pc' := 158) (M1 := (qz_mk R376.1 R376.2)) (as := [.inl (x5 - (48 : Int32)), .inl (x255 - (97 : Int32))]) (rest := []) (st' := []) hcn qz_c_6_165 qz_k_127 (qz_q_128_127) (Nat.le_of_ble_eq_true rfl) (Nat.le_of_ble_eq_true rfl) rfl rfl rfl (vM_readsStop F T (x5 - (48 : Int32)) (x255 - (97 : Int32)) _ e377) rfl rfl ?_
        refine ei_go hb dX6_readsBooking_158 (pc' := 128) (by decide) ?_
        exact ih R376 _ h
set_option maxHeartbeats 4000000 in
theorem vM_readsBooking_L128bbbbbbbbbbbbbbbbbbbbbbbbbbbbbbbbbbbb (F : Nat) (x5 : Int32) (x255 : Int32) (K : (qz_S → Option (qz_S))) (hK : ∀ (T : qz_S) (r : qz_S), K T = some r → qz_E 128 161 [some (.inr (some ((6, 0, 0) : qz_N))), some (.inl (x5 - (48 : Int32))), some (.inl x255)] [] (qz_mk T.1 T.2) none (qz_mk r.1 r.2)) : ∀ (n : Nat) (T : qz_S) (r : qz_S), gM_readsBooking_L128bbbbbbbbbbbbbbbbbbbbbbbbbbbbbbbbbbbb F x5 x255 K n T = some r → qz_E 128 128 [some (.inr (some ((6, 0, 0) : qz_N))), some (.inl (x5 - (48 : Int32))), some (.inl x255)] [] (qz_mk T.1 T.2) none (qz_mk r.1 r.2) := by
  have hb : qz_b 128 = cX6_readsBooking := rfl
  have hcn : qz_cn 128 = 6 := rfl
  intro n
  induction n with
  | zero =>
    intro T r h
    cases h
  | succ n ih =>
    intro T r h
    rw [gM_readsBooking_L128bbbbbbbbbbbbbbbbbbbbbbbbbbbbbbbbbbbb] at h
    refine ei_aln hb dX6_readsBooking_128 (pc' := 129) rfl rfl ?_
    refine ei_gi hb dX6_readsBooking_129 (pc' := 132) (x := (T.1 ((6, 0, 0) : qz_N) 12)) hcn qz_f_6_161 rfl rfl rfl rfl ?_
    by_cases c385 : (T.1 ((6, 0, 0) : qz_N) 12) = 0
    · rw [if_pos c385] at h
      refine ei_ifT hb dX6_readsBooking_132 (pc' := 161) (decide_eq_true c385) (by decide) ?_
      exact hK T _ h
    · rw [if_neg c385] at h
      refine ei_ifF hb dX6_readsBooking_132 (pc' := 135) (t := 161) (decide_eq_false c385) (by decide) rfl ?_
      refine ei_aln hb dX6_readsBooking_135 (pc' := 136) rfl rfl ?_
      obtain ⟨x386, e387, h⟩ := Option.bind_eq_some_iff.mp h
      refine ei_cv hb dX6_readsBooking_136 (pc' := 139) (M1 := (qz_mk T.1 T.2)) (as := []) (rest := []) (st' := [.inl x386]) hcn qz_c_6_158 qz_k_126 (qz_q_128_126) (Nat.le_of_ble_eq_true rfl) (Nat.le_of_ble_eq_true rfl) rfl rfl rfl (vM_sign F T.1 T.2 _ e387) rfl rfl ?_
      refine ei_b hb dX6_readsBooking_139 (v := (49 : Int32)) (pc' := 141) (by decide) rfl ?_
      refine ei_b hb dX6_readsBooking_141 (v := (57 : Int32)) (pc' := 143) (by decide) rfl ?_
      refine ei_cs hb dX6_readsBooking_143 (pc' := 146) (M1 := (qz_mk T.1 T.2)) (as := [.inl x386, .inl (49 : Int32), .inl (57 : Int32)]) (rest := []) (st' := [.inl (gM_in T.1 x386 (49 : Int32) (57 : Int32))]) hcn qz_c_6_36 rfl qz_k_84 (qz_q_128_84) (Nat.le_of_ble_eq_true rfl) (Nat.le_of_ble_eq_true rfl) rfl rfl (vM_in T.1 T.2 x386 (49 : Int32) (57 : Int32)) rfl rfl ?_
      by_cases c388 : (gM_in T.1 x386 (49 : Int32) (57 : Int32)) = 0
      · rw [if_pos c388] at h
        refine ei_ifT hb dX6_readsBooking_146 (pc' := 161) (decide_eq_true c388) (by decide) ?_
        exact hK T _ h
      · rw [if_neg c388] at h
        refine ei_ifF hb dX6_readsBooking_146 (pc' := 149) (t := 161) (decide_eq_false c388) (by decide) rfl ?_
        refine ei_aln hb dX6_readsBooking_149 (pc' := 150) rfl rfl ?_
        refine ei_iln hb dX6_readsBooking_150 (pc' := 151) rfl rfl ?_
        refine ei_iln hb dX6_readsBooking_151 (pc' := 152) rfl rfl ?_
        refine ei_b hb dX6_readsBooking_152 (v := (97 : Int32)) (pc' := 154) (by decide) rfl ?_
        refine ei_sub hb dX6_readsBooking_154 (pc' := 155) rfl ?_
        obtain ⟨R389, e390, h⟩ := Option.bind_eq_some_iff.mp h
        refine ei_cv hb dX6_readsBooking_155 (pc' := 158) (M1 := (qz_mk R389.1 R389.2)) (as := [.inl (x5 - (48 : Int32)), .inl (x255 - (97 : Int32))]) (rest := []) (st' := []) hcn qz_c_6_165 qz_k_127 (qz_q_128_127) (Nat.le_of_ble_eq_true rfl) (Nat.le_of_ble_eq_true rfl) rfl rfl rfl (vM_readsStop F T (x5 - (48 : Int32)) (x255 - (97 : Int32)) _ e390) rfl rfl ?_
        refine ei_go hb dX6_readsBooking_158 (pc' := 128) (by decide) ?_
        exact ih R389 _ h
set_option maxHeartbeats 4000000 in
theorem vM_readsBooking_L128bbbbbbbbbbbbbbbbbbbbbbbbbbbbbbbbbbbbb (F : Nat) (x5 : Int32) (x255 : Int32) (K : (qz_S → Option (qz_S))) (hK : ∀ (T : qz_S) (r : qz_S), K T = some r → qz_E 128 161 [some (.inr (some ((6, 0, 0) : qz_N))), some (.inl (x5 - (48 : Int32))), some (.inl x255)] [] (qz_mk T.1 T.2) none (qz_mk r.1 r.2)) : ∀ (n : Nat) (T : qz_S) (r : qz_S), gM_readsBooking_L128bbbbbbbbbbbbbbbbbbbbbbbbbbbbbbbbbbbbb F x5 x255 K n T = some r → qz_E 128 128 [some (.inr (some ((6, 0, 0) : qz_N))), some (.inl (x5 - (48 : Int32))), some (.inl x255)] [] (qz_mk T.1 T.2) none (qz_mk r.1 r.2) := by
  have hb : qz_b 128 = cX6_readsBooking := rfl
  have hcn : qz_cn 128 = 6 := rfl
  intro n
  induction n with
  | zero =>
    intro T r h
    cases h
  | succ n ih =>
    intro T r h
    rw [gM_readsBooking_L128bbbbbbbbbbbbbbbbbbbbbbbbbbbbbbbbbbbbb] at h
    refine ei_aln hb dX6_readsBooking_128 (pc' := 129) rfl rfl ?_
    refine ei_gi hb dX6_readsBooking_129 (pc' := 132) (x := (T.1 ((6, 0, 0) : qz_N) 12)) hcn qz_f_6_161 rfl rfl rfl rfl ?_
    by_cases c396 : (T.1 ((6, 0, 0) : qz_N) 12) = 0
    · rw [if_pos c396] at h
      refine ei_ifT hb dX6_readsBooking_132 (pc' := 161) (decide_eq_true c396) (by decide) ?_
      exact hK T _ h
    · rw [if_neg c396] at h
      refine ei_ifF hb dX6_readsBooking_132 (pc' := 135) (t := 161) (decide_eq_false c396) (by decide) rfl ?_
      refine ei_aln hb dX6_readsBooking_135 (pc' := 136) rfl rfl ?_
      obtain ⟨x397, e398, h⟩ := Option.bind_eq_some_iff.mp h
      refine ei_cv hb dX6_readsBooking_136 (pc' := 139) (M1 := (qz_mk T.1 T.2)) (as := []) (rest := []) (st' := [.inl x397]) hcn qz_c_6_158 qz_k_126 (qz_q_128_126) (Nat.le_of_ble_eq_true rfl) (Nat.le_of_ble_eq_true rfl) rfl rfl rfl (vM_sign F T.1 T.2 _ e398) rfl rfl ?_
      refine ei_b hb dX6_readsBooking_139 (v := (49 : Int32)) (pc' := 141) (by decide) rfl ?_
      refine ei_b hb dX6_readsBooking_141 (v := (57 : Int32)) (pc' := 143) (by decide) rfl ?_
      refine ei_cs hb dX6_readsBooking_143 (pc' := 146) (M1 := (qz_mk T.1 T.2)) (as := [.inl x397, .inl (49 : Int32), .inl (57 : Int32)]) (rest := []) (st' := [.inl (gM_in T.1 x397 (49 : Int32) (57 : Int32))]) hcn qz_c_6_36 rfl qz_k_84 (qz_q_128_84) (Nat.le_of_ble_eq_true rfl) (Nat.le_of_ble_eq_true rfl) rfl rfl (vM_in T.1 T.2 x397 (49 : Int32) (57 : Int32)) rfl rfl ?_
      by_cases c399 : (gM_in T.1 x397 (49 : Int32) (57 : Int32)) = 0
      · rw [if_pos c399] at h
        refine ei_ifT hb dX6_readsBooking_146 (pc' := 161) (decide_eq_true c399) (by decide) ?_
        exact hK T _ h
      · rw [if_neg c399] at h
        refine ei_ifF hb dX6_readsBooking_146 (pc' := 149) (t := 161) (decide_eq_false c399) (by decide) rfl ?_
        refine ei_aln hb dX6_readsBooking_149 (pc' := 150) rfl rfl ?_
        refine ei_iln hb dX6_readsBooking_150 (pc' := 151) rfl rfl ?_
        refine ei_iln hb dX6_readsBooking_151 (pc' := 152) rfl rfl ?_
        refine ei_b hb dX6_readsBooking_152 (v := (97 : Int32)) (pc' := 154) (by decide) rfl ?_
        refine ei_sub hb dX6_readsBooking_154 (pc' := 155) rfl ?_
        obtain ⟨R400, e401, h⟩ := Option.bind_eq_some_iff.mp h
        refine ei_cv hb dX6_readsBooking_155 (pc' := 158) (M1 := (qz_mk R400.1 R400.2)) (as := [.inl (x5 - (48 : Int32)), .inl (x255 - (97 : Int32))]) (rest := []) (st' := []) hcn qz_c_6_165 qz_k_127 (qz_q_128_127) (Nat.le_of_ble_eq_true rfl) (Nat.le_of_ble_eq_true rfl) rfl rfl rfl (vM_readsStop F T (x5 - (48 : Int32)) (x255 - (97 : Int32)) _ e401) rfl rfl ?_
        refine ei_go hb dX6_readsBooking_158 (pc' := 128) (by decide) ?_
        exact ih R400 _ h
set_option maxHeartbeats 4000000 in
theorem vM_readsBooking_L128bbbbbbbbbbbbbbbbbbbbbbbbbbbbbbbbbbbbbb (F : Nat) (x5 : Int32) (x255 : Int32) (K : (qz_S → Option (qz_S))) (hK : ∀ (T : qz_S) (r : qz_S), K T = some r → qz_E 128 161 [some (.inr (some ((6, 0, 0) : qz_N))), some (.inl (x5 - (48 : Int32))), some (.inl x255)] [] (qz_mk T.1 T.2) none (qz_mk r.1 r.2)) : ∀ (n : Nat) (T : qz_S) (r : qz_S), gM_readsBooking_L128bbbbbbbbbbbbbbbbbbbbbbbbbbbbbbbbbbbbbb F x5 x255 K n T = some r → qz_E 128 128 [some (.inr (some ((6, 0, 0) : qz_N))), some (.inl (x5 - (48 : Int32))), some (.inl x255)] [] (qz_mk T.1 T.2) none (qz_mk r.1 r.2) := by
  have hb : qz_b 128 = cX6_readsBooking := rfl
  have hcn : qz_cn 128 = 6 := rfl
  intro n
  induction n with
  | zero =>
    intro T r h
    cases h
  | succ n ih =>
    intro T r h
    rw [gM_readsBooking_L128bbbbbbbbbbbbbbbbbbbbbbbbbbbbbbbbbbbbbb] at h
    refine ei_aln hb dX6_readsBooking_128 (pc' := 129) rfl rfl ?_
    refine ei_gi hb dX6_readsBooking_129 (pc' := 132) (x := (T.1 ((6, 0, 0) : qz_N) 12)) hcn qz_f_6_161 rfl rfl rfl rfl ?_
    by_cases c404 : (T.1 ((6, 0, 0) : qz_N) 12) = 0
    · rw [if_pos c404] at h
      refine ei_ifT hb dX6_readsBooking_132 (pc' := 161) (decide_eq_true c404) (by decide) ?_
      exact hK T _ h
    · rw [if_neg c404] at h
      refine ei_ifF hb dX6_readsBooking_132 (pc' := 135) (t := 161) (decide_eq_false c404) (by decide) rfl ?_
      refine ei_aln hb dX6_readsBooking_135 (pc' := 136) rfl rfl ?_
      obtain ⟨x405, e406, h⟩ := Option.bind_eq_some_iff.mp h
      refine ei_cv hb dX6_readsBooking_136 (pc' := 139) (M1 := (qz_mk T.1 T.2)) (as := []) (rest := []) (st' := [.inl x405]) hcn qz_c_6_158 qz_k_126 (qz_q_128_126) (Nat.le_of_ble_eq_true rfl) (Nat.le_of_ble_eq_true rfl) rfl rfl rfl (vM_sign F T.1 T.2 _ e406) rfl rfl ?_
      refine ei_b hb dX6_readsBooking_139 (v := (49 : Int32)) (pc' := 141) (by decide) rfl ?_
      refine ei_b hb dX6_readsBooking_141 (v := (57 : Int32)) (pc' := 143) (by decide) rfl ?_
      refine ei_cs hb dX6_readsBooking_143 (pc' := 146) (M1 := (qz_mk T.1 T.2)) (as := [.inl x405, .inl (49 : Int32), .inl (57 : Int32)]) (rest := []) (st' := [.inl (gM_in T.1 x405 (49 : Int32) (57 : Int32))]) hcn qz_c_6_36 rfl qz_k_84 (qz_q_128_84) (Nat.le_of_ble_eq_true rfl) (Nat.le_of_ble_eq_true rfl) rfl rfl (vM_in T.1 T.2 x405 (49 : Int32) (57 : Int32)) rfl rfl ?_
      by_cases c407 : (gM_in T.1 x405 (49 : Int32) (57 : Int32)) = 0
      · rw [if_pos c407] at h
        refine ei_ifT hb dX6_readsBooking_146 (pc' := 161) (decide_eq_true c407) (by decide) ?_
        exact hK T _ h
      · rw [if_neg c407] at h
        refine ei_ifF hb dX6_readsBooking_146 (pc' := 149) (t := 161) (decide_eq_false c407) (by decide) rfl ?_
        refine ei_aln hb dX6_readsBooking_149 (pc' := 150) rfl rfl ?_
        refine ei_iln hb dX6_readsBooking_150 (pc' := 151) rfl rfl ?_
        refine ei_iln hb dX6_readsBooking_151 (pc' := 152) rfl rfl ?_
        refine ei_b hb dX6_readsBooking_152 (v := (97 : Int32)) (pc' := 154) (by decide) rfl ?_
        refine ei_sub hb dX6_readsBooking_154 (pc' := 155) rfl ?_
        obtain ⟨R408, e409, h⟩ := Option.bind_eq_some_iff.mp h
        refine ei_cv hb dX6_readsBooking_155 (pc' := 158) (M1 := (qz_mk R408.1 R408.2)) (as := [.inl (x5 - (48 : Int32)), .inl (x255 - (97 : Int32))]) (rest := []) (st' := []) hcn qz_c_6_165 qz_k_127 (qz_q_128_127) (Nat.le_of_ble_eq_true rfl) (Nat.le_of_ble_eq_true rfl) rfl rfl rfl (vM_readsStop F T (x5 - (48 : Int32)) (x255 - (97 : Int32)) _ e409) rfl rfl ?_
        refine ei_go hb dX6_readsBooking_158 (pc' := 128) (by decide) ?_
        exact ih R408 _ h
set_option maxHeartbeats 4000000 in
theorem vM_readsBooking_L128bbbbbbbbbbbbbbbbbbbbbbbbbbbbbbbbbbbbbbb (F : Nat) (x5 : Int32) (x255 : Int32) (K : (qz_S → Option (qz_S))) (hK : ∀ (T : qz_S) (r : qz_S), K T = some r → qz_E 128 161 [some (.inr (some ((6, 0, 0) : qz_N))), some (.inl (x5 - (48 : Int32))), some (.inl x255)] [] (qz_mk T.1 T.2) none (qz_mk r.1 r.2)) : ∀ (n : Nat) (T : qz_S) (r : qz_S), gM_readsBooking_L128bbbbbbbbbbbbbbbbbbbbbbbbbbbbbbbbbbbbbbb F x5 x255 K n T = some r → qz_E 128 128 [some (.inr (some ((6, 0, 0) : qz_N))), some (.inl (x5 - (48 : Int32))), some (.inl x255)] [] (qz_mk T.1 T.2) none (qz_mk r.1 r.2) := by
  have hb : qz_b 128 = cX6_readsBooking := rfl
  have hcn : qz_cn 128 = 6 := rfl
  intro n
  induction n with
  | zero =>
    intro T r h
    cases h
  | succ n ih =>
    intro T r h
    rw [gM_readsBooking_L128bbbbbbbbbbbbbbbbbbbbbbbbbbbbbbbbbbbbbbb] at h
    refine ei_aln hb dX6_readsBooking_128 (pc' := 129) rfl rfl ?_
    refine ei_gi hb dX6_readsBooking_129 (pc' := 132) (x := (T.1 ((6, 0, 0) : qz_N) 12)) hcn qz_f_6_161 rfl rfl rfl rfl ?_
    by_cases c414 : (T.1 ((6, 0, 0) : qz_N) 12) = 0
    · rw [if_pos c414] at h
      refine ei_ifT hb dX6_readsBooking_132 (pc' := 161) (decide_eq_true c414) (by decide) ?_
      exact hK T _ h
    · rw [if_neg c414] at h
      refine ei_ifF hb dX6_readsBooking_132 (pc' := 135) (t := 161) (decide_eq_false c414) (by decide) rfl ?_
      refine ei_aln hb dX6_readsBooking_135 (pc' := 136) rfl rfl ?_
      obtain ⟨x415, e416, h⟩ := Option.bind_eq_some_iff.mp h
      refine ei_cv hb dX6_readsBooking_136 (pc' := 139) (M1 := (qz_mk T.1 T.2)) (as := []) (rest := []) (st' := [.inl x415]) hcn qz_c_6_158 qz_k_126 (qz_q_128_126) (Nat.le_of_ble_eq_true rfl) (Nat.le_of_ble_eq_true rfl) rfl rfl rfl (vM_sign F T.1 T.2 _ e416) rfl rfl ?_
      refine ei_b hb dX6_readsBooking_139 (v := (49 : Int32)) (pc' := 141) (by decide) rfl ?_
      refine ei_b hb dX6_readsBooking_141 (v := (57 : Int32)) (pc' := 143) (by decide) rfl ?_
      refine ei_cs hb dX6_readsBooking_143 (pc' := 146) (M1 := (qz_mk T.1 T.2)) (as := [.inl x415, .inl (49 : Int32), .inl (57 : Int32)]) (rest := []) (st' := [.inl (gM_in T.1 x415 (49 : Int32) (57 : Int32))]) hcn qz_c_6_36 rfl qz_k_84 (qz_q_128_84) (Nat.le_of_ble_eq_true rfl) (Nat.le_of_ble_eq_true rfl) rfl rfl (vM_in T.1 T.2 x415 (49 : Int32) (57 : Int32)) rfl rfl ?_
      by_cases c417 : (gM_in T.1 x415 (49 : Int32) (57 : Int32)) = 0
      · rw [if_pos c417] at h
        refine ei_ifT hb dX6_readsBooking_146 (pc' := 161) (decide_eq_true c417) (by decide) ?_
        exact hK T _ h
      · rw [if_neg c417] at h
        refine ei_ifF hb dX6_readsBooking_146 (pc' := 149) (t := 161) (decide_eq_false c417) (by decide) rfl ?_
        refine ei_aln hb dX6_readsBooking_149 (pc' := 150) rfl rfl ?_
        refine ei_iln hb dX6_readsBooking_150 (pc' := 151) rfl rfl ?_
        refine ei_iln hb dX6_readsBooking_151 (pc' := 152) rfl rfl ?_
        refine ei_b hb dX6_readsBooking_152 (v := (97 : Int32)) (pc' := 154) (by decide) rfl ?_
        refine ei_sub hb dX6_readsBooking_154 (pc' := 155) rfl ?_
        obtain ⟨R418, e419, h⟩ := Option.bind_eq_some_iff.mp h
        refine ei_cv hb dX6_readsBooking_155 (pc' := 158) (M1 := (qz_mk R418.1 R418.2)) (as := [.inl (x5 - (48 : Int32)), .inl (x255 - (97 : Int32))]) (rest := []) (st' := []) hcn qz_c_6_165 qz_k_127 (qz_q_128_127) (Nat.le_of_ble_eq_true rfl) (Nat.le_of_ble_eq_true rfl) rfl rfl rfl (vM_readsStop F T (x5 - (48 : Int32)) (x255 - (97 : Int32)) _ e419) rfl rfl ?_
        refine ei_go hb dX6_readsBooking_158 (pc' := 128) (by decide) ?_
        exact ih R418 _ h
set_option maxHeartbeats 4000000 in
theorem vM_readsBooking_L128bbbbbbbbbbbbbbbbbbbbbbbbbbbbbbbbbbbbbbbb (F : Nat) (x5 : Int32) (x255 : Int32) (K : (qz_S → Option (qz_S))) (hK : ∀ (T : qz_S) (r : qz_S), K T = some r → qz_E 128 161 [some (.inr (some ((6, 0, 0) : qz_N))), some (.inl (x5 - (48 : Int32))), some (.inl x255)] [] (qz_mk T.1 T.2) none (qz_mk r.1 r.2)) : ∀ (n : Nat) (T : qz_S) (r : qz_S), gM_readsBooking_L128bbbbbbbbbbbbbbbbbbbbbbbbbbbbbbbbbbbbbbbb F x5 x255 K n T = some r → qz_E 128 128 [some (.inr (some ((6, 0, 0) : qz_N))), some (.inl (x5 - (48 : Int32))), some (.inl x255)] [] (qz_mk T.1 T.2) none (qz_mk r.1 r.2) := by
  have hb : qz_b 128 = cX6_readsBooking := rfl
  have hcn : qz_cn 128 = 6 := rfl
  intro n
  induction n with
  | zero =>
    intro T r h
    cases h
  | succ n ih =>
    intro T r h
    rw [gM_readsBooking_L128bbbbbbbbbbbbbbbbbbbbbbbbbbbbbbbbbbbbbbbb] at h
    refine ei_aln hb dX6_readsBooking_128 (pc' := 129) rfl rfl ?_
    refine ei_gi hb dX6_readsBooking_129 (pc' := 132) (x := (T.1 ((6, 0, 0) : qz_N) 12)) hcn qz_f_6_161 rfl rfl rfl rfl ?_
    by_cases c425 : (T.1 ((6, 0, 0) : qz_N) 12) = 0
    · rw [if_pos c425] at h
      refine ei_ifT hb dX6_readsBooking_132 (pc' := 161) (decide_eq_true c425) (by decide) ?_
      exact hK T _ h
    · rw [if_neg c425] at h
      refine ei_ifF hb dX6_readsBooking_132 (pc' := 135) (t := 161) (decide_eq_false c425) (by decide) rfl ?_
      refine ei_aln hb dX6_readsBooking_135 (pc' := 136) rfl rfl ?_
      obtain ⟨x426, e427, h⟩ := Option.bind_eq_some_iff.mp h
      refine ei_cv hb dX6_readsBooking_136 (pc' := 139) (M1 := (qz_mk T.1 T.2)) (as := []) (rest := []) (st' := [.inl x426]) hcn qz_c_6_158 qz_k_126 (qz_q_128_126) (Nat.le_of_ble_eq_true rfl) (Nat.le_of_ble_eq_true rfl) rfl rfl rfl (vM_sign F T.1 T.2 _ e427) rfl rfl ?_
      refine ei_b hb dX6_readsBooking_139 (v := (49 : Int32)) (pc' := 141) (by decide) rfl ?_
      refine ei_b hb dX6_readsBooking_141 (v := (57 : Int32)) (pc' := 143) (by decide) rfl ?_
      refine ei_cs hb dX6_readsBooking_143 (pc' := 146) (M1 := (qz_mk T.1 T.2)) (as := [.inl x426, .inl (49 : Int32), .inl (57 : Int32)]) (rest := []) (st' := [.inl (gM_in T.1 x426 (49 : Int32) (57 : Int32))]) hcn qz_c_6_36 rfl qz_k_84 (qz_q_128_84) (Nat.le_of_ble_eq_true rfl) (Nat.le_of_ble_eq_true rfl) rfl rfl (vM_in T.1 T.2 x426 (49 : Int32) (57 : Int32)) rfl rfl ?_
      by_cases c428 : (gM_in T.1 x426 (49 : Int32) (57 : Int32)) = 0
      · rw [if_pos c428] at h
        refine ei_ifT hb dX6_readsBooking_146 (pc' := 161) (decide_eq_true c428) (by decide) ?_
        exact hK T _ h
      · rw [if_neg c428] at h
        refine ei_ifF hb dX6_readsBooking_146 (pc' := 149) (t := 161) (decide_eq_false c428) (by decide) rfl ?_
        refine ei_aln hb dX6_readsBooking_149 (pc' := 150) rfl rfl ?_
        refine ei_iln hb dX6_readsBooking_150 (pc' := 151) rfl rfl ?_
        refine ei_iln hb dX6_readsBooking_151 (pc' := 152) rfl rfl ?_
        refine ei_b hb dX6_readsBooking_152 (v := (97 : Int32)) (pc' := 154) (by decide) rfl ?_
        refine ei_sub hb dX6_readsBooking_154 (pc' := 155) rfl ?_
        obtain ⟨R429, e430, h⟩ := Option.bind_eq_some_iff.mp h
        refine ei_cv hb dX6_readsBooking_155 (pc' := 158) (M1 := (qz_mk R429.1 R429.2)) (as := [.inl (x5 - (48 : Int32)), .inl (x255 - (97 : Int32))]) (rest := []) (st' := []) hcn qz_c_6_165 qz_k_127 (qz_q_128_127) (Nat.le_of_ble_eq_true rfl) (Nat.le_of_ble_eq_true rfl) rfl rfl rfl (vM_readsStop F T (x5 - (48 : Int32)) (x255 - (97 : Int32)) _ e430) rfl rfl ?_
        refine ei_go hb dX6_readsBooking_158 (pc' := 128) (by decide) ?_
        exact ih R429 _ h
set_option maxHeartbeats 4000000 in
theorem vM_readsBooking_L128bbbbbbbbbbbbbbbbbbbbbbbbbbbbbbbbbbbbbbbbb (F : Nat) (x5 : Int32) (x255 : Int32) (K : (qz_S → Option (qz_S))) (hK : ∀ (T : qz_S) (r : qz_S), K T = some r → qz_E 128 161 [some (.inr (some ((6, 0, 0) : qz_N))), some (.inl (x5 - (48 : Int32))), some (.inl x255)] [] (qz_mk T.1 T.2) none (qz_mk r.1 r.2)) : ∀ (n : Nat) (T : qz_S) (r : qz_S), gM_readsBooking_L128bbbbbbbbbbbbbbbbbbbbbbbbbbbbbbbbbbbbbbbbb F x5 x255 K n T = some r → qz_E 128 128 [some (.inr (some ((6, 0, 0) : qz_N))), some (.inl (x5 - (48 : Int32))), some (.inl x255)] [] (qz_mk T.1 T.2) none (qz_mk r.1 r.2) := by
  have hb : qz_b 128 = cX6_readsBooking := rfl
  have hcn : qz_cn 128 = 6 := rfl
  intro n
  induction n with
  | zero =>
    intro T r h
    cases h
  | succ n ih =>
    intro T r h
    rw [gM_readsBooking_L128bbbbbbbbbbbbbbbbbbbbbbbbbbbbbbbbbbbbbbbbb] at h
    refine ei_aln hb dX6_readsBooking_128 (pc' := 129) rfl rfl ?_
    refine ei_gi hb dX6_readsBooking_129 (pc' := 132) (x := (T.1 ((6, 0, 0) : qz_N) 12)) hcn qz_f_6_161 rfl rfl rfl rfl ?_
    by_cases c433 : (T.1 ((6, 0, 0) : qz_N) 12) = 0
    · rw [if_pos c433] at h
      refine ei_ifT hb dX6_readsBooking_132 (pc' := 161) (decide_eq_true c433) (by decide) ?_
      exact hK T _ h
    · rw [if_neg c433] at h
      refine ei_ifF hb dX6_readsBooking_132 (pc' := 135) (t := 161) (decide_eq_false c433) (by decide) rfl ?_
      refine ei_aln hb dX6_readsBooking_135 (pc' := 136) rfl rfl ?_
      obtain ⟨x434, e435, h⟩ := Option.bind_eq_some_iff.mp h
      refine ei_cv hb dX6_readsBooking_136 (pc' := 139) (M1 := (qz_mk T.1 T.2)) (as := []) (rest := []) (st' := [.inl x434]) hcn qz_c_6_158 qz_k_126 (qz_q_128_126) (Nat.le_of_ble_eq_true rfl) (Nat.le_of_ble_eq_true rfl) rfl rfl rfl (vM_sign F T.1 T.2 _ e435) rfl rfl ?_
      refine ei_b hb dX6_readsBooking_139 (v := (49 : Int32)) (pc' := 141) (by decide) rfl ?_
      refine ei_b hb dX6_readsBooking_141 (v := (57 : Int32)) (pc' := 143) (by decide) rfl ?_
      refine ei_cs hb dX6_readsBooking_143 (pc' := 146) (M1 := (qz_mk T.1 T.2)) (as := [.inl x434, .inl (49 : Int32), .inl (57 : Int32)]) (rest := []) (st' := [.inl (gM_in T.1 x434 (49 : Int32) (57 : Int32))]) hcn qz_c_6_36 rfl qz_k_84 (qz_q_128_84) (Nat.le_of_ble_eq_true rfl) (Nat.le_of_ble_eq_true rfl) rfl rfl (vM_in T.1 T.2 x434 (49 : Int32) (57 : Int32)) rfl rfl ?_
      by_cases c436 : (gM_in T.1 x434 (49 : Int32) (57 : Int32)) = 0
      · rw [if_pos c436] at h
        refine ei_ifT hb dX6_readsBooking_146 (pc' := 161) (decide_eq_true c436) (by decide) ?_
        exact hK T _ h
      · rw [if_neg c436] at h
        refine ei_ifF hb dX6_readsBooking_146 (pc' := 149) (t := 161) (decide_eq_false c436) (by decide) rfl ?_
        refine ei_aln hb dX6_readsBooking_149 (pc' := 150) rfl rfl ?_
        refine ei_iln hb dX6_readsBooking_150 (pc' := 151) rfl rfl ?_
        refine ei_iln hb dX6_readsBooking_151 (pc' := 152) rfl rfl ?_
        refine ei_b hb dX6_readsBooking_152 (v := (97 : Int32)) (pc' := 154) (by decide) rfl ?_
        refine ei_sub hb dX6_readsBooking_154 (pc' := 155) rfl ?_
        obtain ⟨R437, e438, h⟩ := Option.bind_eq_some_iff.mp h
        refine ei_cv hb dX6_readsBooking_155 (pc' := 158) (M1 := (qz_mk R437.1 R437.2)) (as := [.inl (x5 - (48 : Int32)), .inl (x255 - (97 : Int32))]) (rest := []) (st' := []) hcn qz_c_6_165 qz_k_127 (qz_q_128_127) (Nat.le_of_ble_eq_true rfl) (Nat.le_of_ble_eq_true rfl) rfl rfl rfl (vM_readsStop F T (x5 - (48 : Int32)) (x255 - (97 : Int32)) _ e438) rfl rfl ?_
        refine ei_go hb dX6_readsBooking_158 (pc' := 128) (by decide) ?_
        exact ih R437 _ h
set_option maxHeartbeats 4000000 in
theorem vM_readsBooking_L128bbbbbbbbbbbbbbbbbbbbbbbbbbbbbbbbbbbbbbbbbb (F : Nat) (x5 : Int32) (x255 : Int32) (K : (qz_S → Option (qz_S))) (hK : ∀ (T : qz_S) (r : qz_S), K T = some r → qz_E 128 161 [some (.inr (some ((6, 0, 0) : qz_N))), some (.inl (x5 - (48 : Int32))), some (.inl x255)] [] (qz_mk T.1 T.2) none (qz_mk r.1 r.2)) : ∀ (n : Nat) (T : qz_S) (r : qz_S), gM_readsBooking_L128bbbbbbbbbbbbbbbbbbbbbbbbbbbbbbbbbbbbbbbbbb F x5 x255 K n T = some r → qz_E 128 128 [some (.inr (some ((6, 0, 0) : qz_N))), some (.inl (x5 - (48 : Int32))), some (.inl x255)] [] (qz_mk T.1 T.2) none (qz_mk r.1 r.2) := by
  have hb : qz_b 128 = cX6_readsBooking := rfl
  have hcn : qz_cn 128 = 6 := rfl
  intro n
  induction n with
  | zero =>
    intro T r h
    cases h
  | succ n ih =>
    intro T r h
    rw [gM_readsBooking_L128bbbbbbbbbbbbbbbbbbbbbbbbbbbbbbbbbbbbbbbbbb] at h
    refine ei_aln hb dX6_readsBooking_128 (pc' := 129) rfl rfl ?_
    refine ei_gi hb dX6_readsBooking_129 (pc' := 132) (x := (T.1 ((6, 0, 0) : qz_N) 12)) hcn qz_f_6_161 rfl rfl rfl rfl ?_
    by_cases c445 : (T.1 ((6, 0, 0) : qz_N) 12) = 0
    · rw [if_pos c445] at h
      refine ei_ifT hb dX6_readsBooking_132 (pc' := 161) (decide_eq_true c445) (by decide) ?_
      exact hK T _ h
    · rw [if_neg c445] at h
      refine ei_ifF hb dX6_readsBooking_132 (pc' := 135) (t := 161) (decide_eq_false c445) (by decide) rfl ?_
      refine ei_aln hb dX6_readsBooking_135 (pc' := 136) rfl rfl ?_
      obtain ⟨x446, e447, h⟩ := Option.bind_eq_some_iff.mp h
      refine ei_cv hb dX6_readsBooking_136 (pc' := 139) (M1 := (qz_mk T.1 T.2)) (as := []) (rest := []) (st' := [.inl x446]) hcn qz_c_6_158 qz_k_126 (qz_q_128_126) (Nat.le_of_ble_eq_true rfl) (Nat.le_of_ble_eq_true rfl) rfl rfl rfl (vM_sign F T.1 T.2 _ e447) rfl rfl ?_
      refine ei_b hb dX6_readsBooking_139 (v := (49 : Int32)) (pc' := 141) (by decide) rfl ?_
      refine ei_b hb dX6_readsBooking_141 (v := (57 : Int32)) (pc' := 143) (by decide) rfl ?_
      refine ei_cs hb dX6_readsBooking_143 (pc' := 146) (M1 := (qz_mk T.1 T.2)) (as := [.inl x446, .inl (49 : Int32), .inl (57 : Int32)]) (rest := []) (st' := [.inl (gM_in T.1 x446 (49 : Int32) (57 : Int32))]) hcn qz_c_6_36 rfl qz_k_84 (qz_q_128_84) (Nat.le_of_ble_eq_true rfl) (Nat.le_of_ble_eq_true rfl) rfl rfl (vM_in T.1 T.2 x446 (49 : Int32) (57 : Int32)) rfl rfl ?_
      by_cases c448 : (gM_in T.1 x446 (49 : Int32) (57 : Int32)) = 0
      · rw [if_pos c448] at h
        refine ei_ifT hb dX6_readsBooking_146 (pc' := 161) (decide_eq_true c448) (by decide) ?_
        exact hK T _ h
      · rw [if_neg c448] at h
        refine ei_ifF hb dX6_readsBooking_146 (pc' := 149) (t := 161) (decide_eq_false c448) (by decide) rfl ?_
        refine ei_aln hb dX6_readsBooking_149 (pc' := 150) rfl rfl ?_
        refine ei_iln hb dX6_readsBooking_150 (pc' := 151) rfl rfl ?_
        refine ei_iln hb dX6_readsBooking_151 (pc' := 152) rfl rfl ?_
        refine ei_b hb dX6_readsBooking_152 (v := (97 : Int32)) (pc' := 154) (by decide) rfl ?_
        refine ei_sub hb dX6_readsBooking_154 (pc' := 155) rfl ?_
        obtain ⟨R449, e450, h⟩ := Option.bind_eq_some_iff.mp h
        refine ei_cv hb dX6_readsBooking_155 (pc' := 158) (M1 := (qz_mk R449.1 R449.2)) (as := [.inl (x5 - (48 : Int32)), .inl (x255 - (97 : Int32))]) (rest := []) (st' := []) hcn qz_c_6_165 qz_k_127 (qz_q_128_127) (Nat.le_of_ble_eq_true rfl) (Nat.le_of_ble_eq_true rfl) rfl rfl rfl (vM_readsStop F T (x5 - (48 : Int32)) (x255 - (97 : Int32)) _ e450) rfl rfl ?_
        refine ei_go hb dX6_readsBooking_158 (pc' := 128) (by decide) ?_
        exact ih R449 _ h
set_option maxHeartbeats 4000000 in
theorem vM_readsBooking_L128bbbbbbbbbbbbbbbbbbbbbbbbbbbbbbbbbbbbbbbbbbb (F : Nat) (x5 : Int32) (x255 : Int32) (K : (qz_S → Option (qz_S))) (hK : ∀ (T : qz_S) (r : qz_S), K T = some r → qz_E 128 161 [some (.inr (some ((6, 0, 0) : qz_N))), some (.inl (x5 - (48 : Int32))), some (.inl x255)] [] (qz_mk T.1 T.2) none (qz_mk r.1 r.2)) : ∀ (n : Nat) (T : qz_S) (r : qz_S), gM_readsBooking_L128bbbbbbbbbbbbbbbbbbbbbbbbbbbbbbbbbbbbbbbbbbb F x5 x255 K n T = some r → qz_E 128 128 [some (.inr (some ((6, 0, 0) : qz_N))), some (.inl (x5 - (48 : Int32))), some (.inl x255)] [] (qz_mk T.1 T.2) none (qz_mk r.1 r.2) := by
  have hb : qz_b 128 = cX6_readsBooking := rfl
  have hcn : qz_cn 128 = 6 := rfl
  intro n
  induction n with
  | zero =>
    intro T r h
    cases h
  | succ n ih =>
    intro T r h
    rw [gM_readsBooking_L128bbbbbbbbbbbbbbbbbbbbbbbbbbbbbbbbbbbbbbbbbbb] at h
    refine ei_aln hb dX6_readsBooking_128 (pc' := 129) rfl rfl ?_
    refine ei_gi hb dX6_readsBooking_129 (pc' := 132) (x := (T.1 ((6, 0, 0) : qz_N) 12)) hcn qz_f_6_161 rfl rfl rfl rfl ?_
    by_cases c456 : (T.1 ((6, 0, 0) : qz_N) 12) = 0
    · rw [if_pos c456] at h
      refine ei_ifT hb dX6_readsBooking_132 (pc' := 161) (decide_eq_true c456) (by decide) ?_
      exact hK T _ h
    · rw [if_neg c456] at h
      refine ei_ifF hb dX6_readsBooking_132 (pc' := 135) (t := 161) (decide_eq_false c456) (by decide) rfl ?_
      refine ei_aln hb dX6_readsBooking_135 (pc' := 136) rfl rfl ?_
      obtain ⟨x457, e458, h⟩ := Option.bind_eq_some_iff.mp h
      refine ei_cv hb dX6_readsBooking_136 (pc' := 139) (M1 := (qz_mk T.1 T.2)) (as := []) (rest := []) (st' := [.inl x457]) hcn qz_c_6_158 qz_k_126 (qz_q_128_126) (Nat.le_of_ble_eq_true rfl) (Nat.le_of_ble_eq_true rfl) rfl rfl rfl (vM_sign F T.1 T.2 _ e458) rfl rfl ?_
      refine ei_b hb dX6_readsBooking_139 (v := (49 : Int32)) (pc' := 141) (by decide) rfl ?_
      refine ei_b hb dX6_readsBooking_141 (v := (57 : Int32)) (pc' := 143) (by decide) rfl ?_
      refine ei_cs hb dX6_readsBooking_143 (pc' := 146) (M1 := (qz_mk T.1 T.2)) (as := [.inl x457, .inl (49 : Int32), .inl (57 : Int32)]) (rest := []) (st' := [.inl (gM_in T.1 x457 (49 : Int32) (57 : Int32))]) hcn qz_c_6_36 rfl qz_k_84 (qz_q_128_84) (Nat.le_of_ble_eq_true rfl) (Nat.le_of_ble_eq_true rfl) rfl rfl (vM_in T.1 T.2 x457 (49 : Int32) (57 : Int32)) rfl rfl ?_
      by_cases c459 : (gM_in T.1 x457 (49 : Int32) (57 : Int32)) = 0
      · rw [if_pos c459] at h
        refine ei_ifT hb dX6_readsBooking_146 (pc' := 161) (decide_eq_true c459) (by decide) ?_
        exact hK T _ h
      · rw [if_neg c459] at h
        refine ei_ifF hb dX6_readsBooking_146 (pc' := 149) (t := 161) (decide_eq_false c459) (by decide) rfl ?_
        refine ei_aln hb dX6_readsBooking_149 (pc' := 150) rfl rfl ?_
        refine ei_iln hb dX6_readsBooking_150 (pc' := 151) rfl rfl ?_
        refine ei_iln hb dX6_readsBooking_151 (pc' := 152) rfl rfl ?_
        refine ei_b hb dX6_readsBooking_152 (v := (97 : Int32)) (pc' := 154) (by decide) rfl ?_
        refine ei_sub hb dX6_readsBooking_154 (pc' := 155) rfl ?_
        obtain ⟨R460, e461, h⟩ := Option.bind_eq_some_iff.mp h
        refine ei_cv hb dX6_readsBooking_155 (pc' := 158) (M1 := (qz_mk R460.1 R460.2)) (as := [.inl (x5 - (48 : Int32)), .inl (x255 - (97 : Int32))]) (rest := []) (st' := []) hcn qz_c_6_165 qz_k_127 (qz_q_128_127) (Nat.le_of_ble_eq_true rfl) (Nat.le_of_ble_eq_true rfl) rfl rfl rfl (vM_readsStop F T (x5 - (48 : Int32)) (x255 - (97 : Int32)) _ e461) rfl rfl ?_
        refine ei_go hb dX6_readsBooking_158 (pc' := 128) (by decide) ?_
        exact ih R460 _ h
set_option maxHeartbeats 4000000 in
theorem vM_readsBooking_L128bbbbbbbbbbbbbbbbbbbbbbbbbbbbbbbbbbbbbbbbbbbb (F : Nat) (x5 : Int32) (x255 : Int32) (K : (qz_S → Option (qz_S))) (hK : ∀ (T : qz_S) (r : qz_S), K T = some r → qz_E 128 161 [some (.inr (some ((6, 0, 0) : qz_N))), some (.inl (x5 - (48 : Int32))), some (.inl x255)] [] (qz_mk T.1 T.2) none (qz_mk r.1 r.2)) : ∀ (n : Nat) (T : qz_S) (r : qz_S), gM_readsBooking_L128bbbbbbbbbbbbbbbbbbbbbbbbbbbbbbbbbbbbbbbbbbbb F x5 x255 K n T = some r → qz_E 128 128 [some (.inr (some ((6, 0, 0) : qz_N))), some (.inl (x5 - (48 : Int32))), some (.inl x255)] [] (qz_mk T.1 T.2) none (qz_mk r.1 r.2) := by
  have hb : qz_b 128 = cX6_readsBooking := rfl
  have hcn : qz_cn 128 = 6 := rfl
  intro n
  induction n with
  | zero =>
    intro T r h
    cases h
  | succ n ih =>
    intro T r h
    rw [gM_readsBooking_L128bbbbbbbbbbbbbbbbbbbbbbbbbbbbbbbbbbbbbbbbbbbb] at h
    refine ei_aln hb dX6_readsBooking_128 (pc' := 129) rfl rfl ?_
    refine ei_gi hb dX6_readsBooking_129 (pc' := 132) (x := (T.1 ((6, 0, 0) : qz_N) 12)) hcn qz_f_6_161 rfl rfl rfl rfl ?_
    by_cases c464 : (T.1 ((6, 0, 0) : qz_N) 12) = 0
    · rw [if_pos c464] at h
      refine ei_ifT hb dX6_readsBooking_132 (pc' := 161) (decide_eq_true c464) (by decide) ?_
      exact hK T _ h
    · rw [if_neg c464] at h
      refine ei_ifF hb dX6_readsBooking_132 (pc' := 135) (t := 161) (decide_eq_false c464) (by decide) rfl ?_
      refine ei_aln hb dX6_readsBooking_135 (pc' := 136) rfl rfl ?_
      obtain ⟨x465, e466, h⟩ := Option.bind_eq_some_iff.mp h
      refine ei_cv hb dX6_readsBooking_136 (pc' := 139) (M1 := (qz_mk T.1 T.2)) (as := []) (rest := []) (st' := [.inl x465]) hcn qz_c_6_158 qz_k_126 (qz_q_128_126) (Nat.le_of_ble_eq_true rfl) (Nat.le_of_ble_eq_true rfl) rfl rfl rfl (vM_sign F T.1 T.2 _ e466) rfl rfl ?_
      refine ei_b hb dX6_readsBooking_139 (v := (49 : Int32)) (pc' := 141) (by decide) rfl ?_
      refine ei_b hb dX6_readsBooking_141 (v := (57 : Int32)) (pc' := 143) (by decide) rfl ?_
      refine ei_cs hb dX6_readsBooking_143 (pc' := 146) (M1 := (qz_mk T.1 T.2)) (as := [.inl x465, .inl (49 : Int32), .inl (57 : Int32)]) (rest := []) (st' := [.inl (gM_in T.1 x465 (49 : Int32) (57 : Int32))]) hcn qz_c_6_36 rfl qz_k_84 (qz_q_128_84) (Nat.le_of_ble_eq_true rfl) (Nat.le_of_ble_eq_true rfl) rfl rfl (vM_in T.1 T.2 x465 (49 : Int32) (57 : Int32)) rfl rfl ?_
      by_cases c467 : (gM_in T.1 x465 (49 : Int32) (57 : Int32)) = 0
      · rw [if_pos c467] at h
        refine ei_ifT hb dX6_readsBooking_146 (pc' := 161) (decide_eq_true c467) (by decide) ?_
        exact hK T _ h
      · rw [if_neg c467] at h
        refine ei_ifF hb dX6_readsBooking_146 (pc' := 149) (t := 161) (decide_eq_false c467) (by decide) rfl ?_
        refine ei_aln hb dX6_readsBooking_149 (pc' := 150) rfl rfl ?_
        refine ei_iln hb dX6_readsBooking_150 (pc' := 151) rfl rfl ?_
        refine ei_iln hb dX6_readsBooking_151 (pc' := 152) rfl rfl ?_
        refine ei_b hb dX6_readsBooking_152 (v := (97 : Int32)) (pc' := 154) (by decide) rfl ?_
        refine ei_sub hb dX6_readsBooking_154 (pc' := 155) rfl ?_
        obtain ⟨R468, e469, h⟩ := Option.bind_eq_some_iff.mp h
        refine ei_cv hb dX6_readsBooking_155 (pc' := 158) (M1 := (qz_mk R468.1 R468.2)) (as := [.inl (x5 - (48 : Int32)), .inl (x255 - (97 : Int32))]) (rest := []) (st' := []) hcn qz_c_6_165 qz_k_127 (qz_q_128_127) (Nat.le_of_ble_eq_true rfl) (Nat.le_of_ble_eq_true rfl) rfl rfl rfl (vM_readsStop F T (x5 - (48 : Int32)) (x255 - (97 : Int32)) _ e469) rfl rfl ?_
        refine ei_go hb dX6_readsBooking_158 (pc' := 128) (by decide) ?_
        exact ih R468 _ h
set_option maxHeartbeats 4000000 in
theorem vM_readsBooking_L128bbbbbbbbbbbbbbbbbbbbbbbbbbbbbbbbbbbbbbbbbbbbb (F : Nat) (x5 : Int32) (x255 : Int32) (K : (qz_S → Option (qz_S))) (hK : ∀ (T : qz_S) (r : qz_S), K T = some r → qz_E 128 161 [some (.inr (some ((6, 0, 0) : qz_N))), some (.inl (x5 - (48 : Int32))), some (.inl x255)] [] (qz_mk T.1 T.2) none (qz_mk r.1 r.2)) : ∀ (n : Nat) (T : qz_S) (r : qz_S), gM_readsBooking_L128bbbbbbbbbbbbbbbbbbbbbbbbbbbbbbbbbbbbbbbbbbbbb F x5 x255 K n T = some r → qz_E 128 128 [some (.inr (some ((6, 0, 0) : qz_N))), some (.inl (x5 - (48 : Int32))), some (.inl x255)] [] (qz_mk T.1 T.2) none (qz_mk r.1 r.2) := by
  have hb : qz_b 128 = cX6_readsBooking := rfl
  have hcn : qz_cn 128 = 6 := rfl
  intro n
  induction n with
  | zero =>
    intro T r h
    cases h
  | succ n ih =>
    intro T r h
    rw [gM_readsBooking_L128bbbbbbbbbbbbbbbbbbbbbbbbbbbbbbbbbbbbbbbbbbbbb] at h
    refine ei_aln hb dX6_readsBooking_128 (pc' := 129) rfl rfl ?_
    refine ei_gi hb dX6_readsBooking_129 (pc' := 132) (x := (T.1 ((6, 0, 0) : qz_N) 12)) hcn qz_f_6_161 rfl rfl rfl rfl ?_
    by_cases c474 : (T.1 ((6, 0, 0) : qz_N) 12) = 0
    · rw [if_pos c474] at h
      refine ei_ifT hb dX6_readsBooking_132 (pc' := 161) (decide_eq_true c474) (by decide) ?_
      exact hK T _ h
    · rw [if_neg c474] at h
      refine ei_ifF hb dX6_readsBooking_132 (pc' := 135) (t := 161) (decide_eq_false c474) (by decide) rfl ?_
      refine ei_aln hb dX6_readsBooking_135 (pc' := 136) rfl rfl ?_
      obtain ⟨x475, e476, h⟩ := Option.bind_eq_some_iff.mp h
      refine ei_cv hb dX6_readsBooking_136 (pc' := 139) (M1 := (qz_mk T.1 T.2)) (as := []) (rest := []) (st' := [.inl x475]) hcn qz_c_6_158 qz_k_126 (qz_q_128_126) (Nat.le_of_ble_eq_true rfl) (Nat.le_of_ble_eq_true rfl) rfl rfl rfl (vM_sign F T.1 T.2 _ e476) rfl rfl ?_
      refine ei_b hb dX6_readsBooking_139 (v := (49 : Int32)) (pc' := 141) (by decide) rfl ?_
      refine ei_b hb dX6_readsBooking_141 (v := (57 : Int32)) (pc' := 143) (by decide) rfl ?_
      refine ei_cs hb dX6_readsBooking_143 (pc' := 146) (M1 := (qz_mk T.1 T.2)) (as := [.inl x475, .inl (49 : Int32), .inl (57 : Int32)]) (rest := []) (st' := [.inl (gM_in T.1 x475 (49 : Int32) (57 : Int32))]) hcn qz_c_6_36 rfl qz_k_84 (qz_q_128_84) (Nat.le_of_ble_eq_true rfl) (Nat.le_of_ble_eq_true rfl) rfl rfl (vM_in T.1 T.2 x475 (49 : Int32) (57 : Int32)) rfl rfl ?_
      by_cases c477 : (gM_in T.1 x475 (49 : Int32) (57 : Int32)) = 0
      · rw [if_pos c477] at h
        refine ei_ifT hb dX6_readsBooking_146 (pc' := 161) (decide_eq_true c477) (by decide) ?_
        exact hK T _ h
      · rw [if_neg c477] at h
        refine ei_ifF hb dX6_readsBooking_146 (pc' := 149) (t := 161) (decide_eq_false c477) (by decide) rfl ?_
        refine ei_aln hb dX6_readsBooking_149 (pc' := 150) rfl rfl ?_
        refine ei_iln hb dX6_readsBooking_150 (pc' := 151) rfl rfl ?_
        refine ei_iln hb dX6_readsBooking_151 (pc' := 152) rfl rfl ?_
        refine ei_b hb dX6_readsBooking_152 (v := (97 : Int32)) (pc' := 154) (by decide) rfl ?_
        refine ei_sub hb dX6_readsBooking_154 (pc' := 155) rfl ?_
        obtain ⟨R478, e479, h⟩ := Option.bind_eq_some_iff.mp h
        refine ei_cv hb dX6_readsBooking_155 (pc' := 158) (M1 := (qz_mk R478.1 R478.2)) (as := [.inl (x5 - (48 : Int32)), .inl (x255 - (97 : Int32))]) (rest := []) (st' := []) hcn qz_c_6_165 qz_k_127 (qz_q_128_127) (Nat.le_of_ble_eq_true rfl) (Nat.le_of_ble_eq_true rfl) rfl rfl rfl (vM_readsStop F T (x5 - (48 : Int32)) (x255 - (97 : Int32)) _ e479) rfl rfl ?_
        refine ei_go hb dX6_readsBooking_158 (pc' := 128) (by decide) ?_
        exact ih R478 _ h
set_option maxHeartbeats 4000000 in
theorem vM_readsBooking_L128bbbbbbbbbbbbbbbbbbbbbbbbbbbbbbbbbbbbbbbbbbbbbb (F : Nat) (x5 : Int32) (x255 : Int32) (K : (qz_S → Option (qz_S))) (hK : ∀ (T : qz_S) (r : qz_S), K T = some r → qz_E 128 161 [some (.inr (some ((6, 0, 0) : qz_N))), some (.inl (x5 - (48 : Int32))), some (.inl x255)] [] (qz_mk T.1 T.2) none (qz_mk r.1 r.2)) : ∀ (n : Nat) (T : qz_S) (r : qz_S), gM_readsBooking_L128bbbbbbbbbbbbbbbbbbbbbbbbbbbbbbbbbbbbbbbbbbbbbb F x5 x255 K n T = some r → qz_E 128 128 [some (.inr (some ((6, 0, 0) : qz_N))), some (.inl (x5 - (48 : Int32))), some (.inl x255)] [] (qz_mk T.1 T.2) none (qz_mk r.1 r.2) := by
  have hb : qz_b 128 = cX6_readsBooking := rfl
  have hcn : qz_cn 128 = 6 := rfl
  intro n
  induction n with
  | zero =>
    intro T r h
    cases h
  | succ n ih =>
    intro T r h
    rw [gM_readsBooking_L128bbbbbbbbbbbbbbbbbbbbbbbbbbbbbbbbbbbbbbbbbbbbbb] at h
    refine ei_aln hb dX6_readsBooking_128 (pc' := 129) rfl rfl ?_
    refine ei_gi hb dX6_readsBooking_129 (pc' := 132) (x := (T.1 ((6, 0, 0) : qz_N) 12)) hcn qz_f_6_161 rfl rfl rfl rfl ?_
    by_cases c485 : (T.1 ((6, 0, 0) : qz_N) 12) = 0
    · rw [if_pos c485] at h
      refine ei_ifT hb dX6_readsBooking_132 (pc' := 161) (decide_eq_true c485) (by decide) ?_
      exact hK T _ h
    · rw [if_neg c485] at h
      refine ei_ifF hb dX6_readsBooking_132 (pc' := 135) (t := 161) (decide_eq_false c485) (by decide) rfl ?_
      refine ei_aln hb dX6_readsBooking_135 (pc' := 136) rfl rfl ?_
      obtain ⟨x486, e487, h⟩ := Option.bind_eq_some_iff.mp h
      refine ei_cv hb dX6_readsBooking_136 (pc' := 139) (M1 := (qz_mk T.1 T.2)) (as := []) (rest := []) (st' := [.inl x486]) hcn qz_c_6_158 qz_k_126 (qz_q_128_126) (Nat.le_of_ble_eq_true rfl) (Nat.le_of_ble_eq_true rfl) rfl rfl rfl (vM_sign F T.1 T.2 _ e487) rfl rfl ?_
      refine ei_b hb dX6_readsBooking_139 (v := (49 : Int32)) (pc' := 141) (by decide) rfl ?_
      refine ei_b hb dX6_readsBooking_141 (v := (57 : Int32)) (pc' := 143) (by decide) rfl ?_
      refine ei_cs hb dX6_readsBooking_143 (pc' := 146) (M1 := (qz_mk T.1 T.2)) (as := [.inl x486, .inl (49 : Int32), .inl (57 : Int32)]) (rest := []) (st' := [.inl (gM_in T.1 x486 (49 : Int32) (57 : Int32))]) hcn qz_c_6_36 rfl qz_k_84 (qz_q_128_84) (Nat.le_of_ble_eq_true rfl) (Nat.le_of_ble_eq_true rfl) rfl rfl (vM_in T.1 T.2 x486 (49 : Int32) (57 : Int32)) rfl rfl ?_
      by_cases c488 : (gM_in T.1 x486 (49 : Int32) (57 : Int32)) = 0
      · rw [if_pos c488] at h
        refine ei_ifT hb dX6_readsBooking_146 (pc' := 161) (decide_eq_true c488) (by decide) ?_
        exact hK T _ h
      · rw [if_neg c488] at h
        refine ei_ifF hb dX6_readsBooking_146 (pc' := 149) (t := 161) (decide_eq_false c488) (by decide) rfl ?_
        refine ei_aln hb dX6_readsBooking_149 (pc' := 150) rfl rfl ?_
        refine ei_iln hb dX6_readsBooking_150 (pc' := 151) rfl rfl ?_
        refine ei_iln hb dX6_readsBooking_151 (pc' := 152) rfl rfl ?_
        refine ei_b hb dX6_readsBooking_152 (v := (97 : Int32)) (pc' := 154) (by decide) rfl ?_
        refine ei_sub hb dX6_readsBooking_154 (pc' := 155) rfl ?_
        obtain ⟨R489, e490, h⟩ := Option.bind_eq_some_iff.mp h
        refine ei_cv hb dX6_readsBooking_155 (pc' := 158) (M1 := (qz_mk R489.1 R489.2)) (as := [.inl (x5 - (48 : Int32)), .inl (x255 - (97 : Int32))]) (rest := []) (st' := []) hcn qz_c_6_165 qz_k_127 (qz_q_128_127) (Nat.le_of_ble_eq_true rfl) (Nat.le_of_ble_eq_true rfl) rfl rfl rfl (vM_readsStop F T (x5 - (48 : Int32)) (x255 - (97 : Int32)) _ e490) rfl rfl ?_
        refine ei_go hb dX6_readsBooking_158 (pc' := 128) (by decide) ?_
        exact ih R489 _ h
set_option maxHeartbeats 4000000 in
theorem vM_readsBooking_L128bbbbbbbbbbbbbbbbbbbbbbbbbbbbbbbbbbbbbbbbbbbbbbb (F : Nat) (x5 : Int32) (x255 : Int32) (K : (qz_S → Option (qz_S))) (hK : ∀ (T : qz_S) (r : qz_S), K T = some r → qz_E 128 161 [some (.inr (some ((6, 0, 0) : qz_N))), some (.inl (x5 - (48 : Int32))), some (.inl x255)] [] (qz_mk T.1 T.2) none (qz_mk r.1 r.2)) : ∀ (n : Nat) (T : qz_S) (r : qz_S), gM_readsBooking_L128bbbbbbbbbbbbbbbbbbbbbbbbbbbbbbbbbbbbbbbbbbbbbbb F x5 x255 K n T = some r → qz_E 128 128 [some (.inr (some ((6, 0, 0) : qz_N))), some (.inl (x5 - (48 : Int32))), some (.inl x255)] [] (qz_mk T.1 T.2) none (qz_mk r.1 r.2) := by
  have hb : qz_b 128 = cX6_readsBooking := rfl
  have hcn : qz_cn 128 = 6 := rfl
  intro n
  induction n with
  | zero =>
    intro T r h
    cases h
  | succ n ih =>
    intro T r h
    rw [gM_readsBooking_L128bbbbbbbbbbbbbbbbbbbbbbbbbbbbbbbbbbbbbbbbbbbbbbb] at h
    refine ei_aln hb dX6_readsBooking_128 (pc' := 129) rfl rfl ?_
    refine ei_gi hb dX6_readsBooking_129 (pc' := 132) (x := (T.1 ((6, 0, 0) : qz_N) 12)) hcn qz_f_6_161 rfl rfl rfl rfl ?_
    by_cases c493 : (T.1 ((6, 0, 0) : qz_N) 12) = 0
    · rw [if_pos c493] at h
      refine ei_ifT hb dX6_readsBooking_132 (pc' := 161) (decide_eq_true c493) (by decide) ?_
      exact hK T _ h
    · rw [if_neg c493] at h
      refine ei_ifF hb dX6_readsBooking_132 (pc' := 135) (t := 161) (decide_eq_false c493) (by decide) rfl ?_
      refine ei_aln hb dX6_readsBooking_135 (pc' := 136) rfl rfl ?_
      obtain ⟨x494, e495, h⟩ := Option.bind_eq_some_iff.mp h
      refine ei_cv hb dX6_readsBooking_136 (pc' := 139) (M1 := (qz_mk T.1 T.2)) (as := []) (rest := []) (st' := [.inl x494]) hcn qz_c_6_158 qz_k_126 (qz_q_128_126) (Nat.le_of_ble_eq_true rfl) (Nat.le_of_ble_eq_true rfl) rfl rfl rfl (vM_sign F T.1 T.2 _ e495) rfl rfl ?_
      refine ei_b hb dX6_readsBooking_139 (v := (49 : Int32)) (pc' := 141) (by decide) rfl ?_
      refine ei_b hb dX6_readsBooking_141 (v := (57 : Int32)) (pc' := 143) (by decide) rfl ?_
      refine ei_cs hb dX6_readsBooking_143 (pc' := 146) (M1 := (qz_mk T.1 T.2)) (as := [.inl x494, .inl (49 : Int32), .inl (57 : Int32)]) (rest := []) (st' := [.inl (gM_in T.1 x494 (49 : Int32) (57 : Int32))]) hcn qz_c_6_36 rfl qz_k_84 (qz_q_128_84) (Nat.le_of_ble_eq_true rfl) (Nat.le_of_ble_eq_true rfl) rfl rfl (vM_in T.1 T.2 x494 (49 : Int32) (57 : Int32)) rfl rfl ?_
      by_cases c496 : (gM_in T.1 x494 (49 : Int32) (57 : Int32)) = 0
      · rw [if_pos c496] at h
        refine ei_ifT hb dX6_readsBooking_146 (pc' := 161) (decide_eq_true c496) (by decide) ?_
        exact hK T _ h
      · rw [if_neg c496] at h
        refine ei_ifF hb dX6_readsBooking_146 (pc' := 149) (t := 161) (decide_eq_false c496) (by decide) rfl ?_
        refine ei_aln hb dX6_readsBooking_149 (pc' := 150) rfl rfl ?_
        refine ei_iln hb dX6_readsBooking_150 (pc' := 151) rfl rfl ?_
        refine ei_iln hb dX6_readsBooking_151 (pc' := 152) rfl rfl ?_
        refine ei_b hb dX6_readsBooking_152 (v := (97 : Int32)) (pc' := 154) (by decide) rfl ?_
        refine ei_sub hb dX6_readsBooking_154 (pc' := 155) rfl ?_
        obtain ⟨R497, e498, h⟩ := Option.bind_eq_some_iff.mp h
        refine ei_cv hb dX6_readsBooking_155 (pc' := 158) (M1 := (qz_mk R497.1 R497.2)) (as := [.inl (x5 - (48 : Int32)), .inl (x255 - (97 : Int32))]) (rest := []) (st' := []) hcn qz_c_6_165 qz_k_127 (qz_q_128_127) (Nat.le_of_ble_eq_true rfl) (Nat.le_of_ble_eq_true rfl) rfl rfl rfl (vM_readsStop F T (x5 - (48 : Int32)) (x255 - (97 : Int32)) _ e498) rfl rfl ?_
        refine ei_go hb dX6_readsBooking_158 (pc' := 128) (by decide) ?_
        exact ih R497 _ h
set_option maxHeartbeats 4000000 in
theorem vM_readsBooking (F : Nat) (S : qz_S)  (r : qz_S) (h : (gM_readsBooking F S) = some r) : qz_E 128 0 (qz_in0 128 [.inr (some ((6, 0, 0) : qz_N))]) [] (qz_mk S.1 S.2) none (qz_mk r.1 r.2) := by
  have hb : qz_b 128 = cX6_readsBooking := rfl
  have hcn : qz_cn 128 = 6 := rfl
  show qz_E 128 0 [some (.inr (some ((6, 0, 0) : qz_N))), none, none] [] _ _ _
  rw [gM_readsBooking] at h
  refine ei_aln hb dX6_readsBooking_0 (pc' := 1) rfl rfl ?_
  refine ei_aln hb dX6_readsBooking_1 (pc' := 2) rfl rfl ?_
  obtain ⟨x1, e2, h⟩ := Option.bind_eq_some_iff.mp h
  refine ei_cv hb dX6_readsBooking_2 (pc' := 5) (M1 := (qz_mk S.1 S.2)) (as := []) (rest := [.inr (some ((6, 0, 0) : qz_N))]) (st' := [.inl x1, .inr (some ((6, 0, 0) : qz_N))]) hcn qz_c_6_158 qz_k_126 (qz_q_128_126) (Nat.le_of_ble_eq_true rfl) (Nat.le_of_ble_eq_true rfl) rfl rfl rfl (vM_sign F S.1 S.2 _ e2) rfl rfl ?_
  refine ei_b hb dX6_readsBooking_5 (v := (48 : Int32)) (pc' := 7) (by decide) rfl ?_
  refine ei_b hb dX6_readsBooking_7 (v := (57 : Int32)) (pc' := 9) (by decide) rfl ?_
  refine ei_cs hb dX6_readsBooking_9 (pc' := 12) (M1 := (qz_mk S.1 S.2)) (as := [.inl x1, .inl (48 : Int32), .inl (57 : Int32)]) (rest := [.inr (some ((6, 0, 0) : qz_N))]) (st' := [.inl (gM_in S.1 x1 (48 : Int32) (57 : Int32)), .inr (some ((6, 0, 0) : qz_N))]) hcn qz_c_6_36 rfl qz_k_84 (qz_q_128_84) (Nat.le_of_ble_eq_true rfl) (Nat.le_of_ble_eq_true rfl) rfl rfl (vM_in S.1 S.2 x1 (48 : Int32) (57 : Int32)) rfl rfl ?_
  by_cases c4 : (gM_in S.1 x1 (48 : Int32) (57 : Int32)) = 0 ∨ (gM_in S.1 x1 (48 : Int32) (57 : Int32)) = 1
  · rw [if_pos c4] at h
    obtain ⟨S3, eS3⟩ : ∃ q, q = qz_wr S ((6, 0, 0) : qz_N) 12 (gM_in S.1 x1 (48 : Int32) (57 : Int32)) := ⟨_, rfl⟩
    rw [qz_let, ← eS3] at h
    refine ei_pi hb dX6_readsBooking_12 (pc' := 15) (M1 := (qz_mk S3.1 S3.2)) hcn qz_f_6_161 rfl rfl (fun _ => c4) rfl (by rw [eS3]; rfl) rfl ?_
    refine ei_aln hb dX6_readsBooking_15 (pc' := 16) rfl rfl ?_
    obtain ⟨x5, e6, h⟩ := Option.bind_eq_some_iff.mp h
    refine ei_cv hb dX6_readsBooking_16 (pc' := 19) (M1 := (qz_mk S3.1 S3.2)) (as := []) (rest := []) (st' := [.inl x5]) hcn qz_c_6_158 qz_k_126 (qz_q_128_126) (Nat.le_of_ble_eq_true rfl) (Nat.le_of_ble_eq_true rfl) rfl rfl rfl (vM_sign F S3.1 S3.2 _ e6) rfl rfl ?_
    refine ei_b hb dX6_readsBooking_19 (v := (48 : Int32)) (pc' := 21) (by decide) rfl ?_
    refine ei_sub hb dX6_readsBooking_21 (pc' := 22) rfl ?_
    refine ei_isn hb dX6_readsBooking_22 (pc' := 23) (ls' := [some (.inr (some ((6, 0, 0) : qz_N))), some (.inl (x5 - (48 : Int32))), none]) (Nat.le_of_ble_eq_true rfl) rfl rfl ?_
    refine ei_aln hb dX6_readsBooking_23 (pc' := 24) rfl rfl ?_
    refine ei_dup hb dX6_readsBooking_24 (pc' := 25) rfl ?_
    refine ei_gi hb dX6_readsBooking_25 (pc' := 28) (x := (S3.1 ((6, 0, 0) : qz_N) 11)) hcn qz_f_6_155 rfl rfl rfl rfl ?_
    refine ei_aln hb dX6_readsBooking_28 (pc' := 29) rfl rfl ?_
    refine ei_gi hb dX6_readsBooking_29 (pc' := 32) (x := (S3.1 ((6, 0, 0) : qz_N) 12)) hcn qz_f_6_161 rfl rfl rfl rfl ?_
    by_cases c7 : (S3.1 ((6, 0, 0) : qz_N) 12) = 0
    · rw [if_pos c7] at h
      refine ei_ifT hb dX6_readsBooking_32 (pc' := 39) (decide_eq_true c7) (by decide) ?_
      refine ei_c hb dX6_readsBooking_39 (v := (0 : Int32)) (pc' := 40) (by decide) rfl ?_
      refine ei_add hb dX6_readsBooking_40 (pc' := 41) rfl ?_
      obtain ⟨S8, eS8⟩ : ∃ q, q = qz_wr S3 ((6, 0, 0) : qz_N) 11 ((S3.1 ((6, 0, 0) : qz_N) 11) + (0 : Int32)) := ⟨_, rfl⟩
      rw [qz_let, ← eS8] at h
      refine ei_pi hb dX6_readsBooking_41 (pc' := 44) (M1 := (qz_mk S8.1 S8.2)) hcn qz_f_6_155 rfl rfl (fun q => by cases q) rfl (by rw [eS8]; rfl) rfl ?_
      refine ei_aln hb dX6_readsBooking_44 (pc' := 45) rfl rfl ?_
      obtain ⟨x9, e10, h⟩ := Option.bind_eq_some_iff.mp h
      refine ei_cv hb dX6_readsBooking_45 (pc' := 48) (M1 := (qz_mk S8.1 S8.2)) (as := []) (rest := []) (st' := [.inl x9]) hcn qz_c_6_158 qz_k_126 (qz_q_128_126) (Nat.le_of_ble_eq_true rfl) (Nat.le_of_ble_eq_true rfl) rfl rfl rfl (vM_sign F S8.1 S8.2 _ e10) rfl rfl ?_
      refine ei_isn hb dX6_readsBooking_48 (pc' := 49) (ls' := [some (.inr (some ((6, 0, 0) : qz_N))), some (.inl (x5 - (48 : Int32))), some (.inl x9)]) (Nat.le_of_ble_eq_true rfl) rfl rfl ?_
      refine ei_aln hb dX6_readsBooking_49 (pc' := 50) rfl rfl ?_
      refine ei_aln hb dX6_readsBooking_50 (pc' := 51) rfl rfl ?_
      refine ei_gi hb dX6_readsBooking_51 (pc' := 54) (x := (S8.1 ((6, 0, 0) : qz_N) 12)) hcn qz_f_6_161 rfl rfl rfl rfl ?_
      by_cases c11 : (S8.1 ((6, 0, 0) : qz_N) 12) = 0
      · rw [if_pos c11] at h
        refine ei_ifT hb dX6_readsBooking_54 (pc' := 73) (decide_eq_true c11) (by decide) ?_
        refine ei_c hb dX6_readsBooking_73 (v := (0 : Int32)) (pc' := 74) (by decide) rfl ?_
        obtain ⟨S12, eS12⟩ : ∃ q, q = qz_wr S8 ((6, 0, 0) : qz_N) 12 (0 : Int32) := ⟨_, rfl⟩
        rw [qz_let, ← eS12] at h
        refine ei_pi hb dX6_readsBooking_74 (pc' := 77) (M1 := (qz_mk S12.1 S12.2)) hcn qz_f_6_161 rfl rfl (fun _ => by decide) rfl (by rw [eS12]; rfl) rfl ?_
        refine ei_aln hb dX6_readsBooking_77 (pc' := 78) rfl rfl ?_
        refine ei_dup hb dX6_readsBooking_78 (pc' := 79) rfl ?_
        refine ei_gi hb dX6_readsBooking_79 (pc' := 82) (x := (S12.1 ((6, 0, 0) : qz_N) 11)) hcn qz_f_6_155 rfl rfl rfl rfl ?_
        refine ei_aln hb dX6_readsBooking_82 (pc' := 83) rfl rfl ?_
        refine ei_gi hb dX6_readsBooking_83 (pc' := 86) (x := (S12.1 ((6, 0, 0) : qz_N) 12)) hcn qz_f_6_161 rfl rfl rfl rfl ?_
        by_cases c13 : (S12.1 ((6, 0, 0) : qz_N) 12) = 0
        · rw [if_pos c13] at h
          refine ei_ifT hb dX6_readsBooking_86 (pc' := 93) (decide_eq_true c13) (by decide) ?_
          refine ei_c hb dX6_readsBooking_93 (v := (0 : Int32)) (pc' := 94) (by decide) rfl ?_
          refine ei_add hb dX6_readsBooking_94 (pc' := 95) rfl ?_
          obtain ⟨S14, eS14⟩ : ∃ q, q = qz_wr S12 ((6, 0, 0) : qz_N) 11 ((S12.1 ((6, 0, 0) : qz_N) 11) + (0 : Int32)) := ⟨_, rfl⟩
          rw [qz_let, ← eS14] at h
          refine ei_pi hb dX6_readsBooking_95 (pc' := 98) (M1 := (qz_mk S14.1 S14.2)) hcn qz_f_6_155 rfl rfl (fun q => by cases q) rfl (by rw [eS14]; rfl) rfl ?_
          refine ei_aln hb dX6_readsBooking_98 (pc' := 99) rfl rfl ?_
          refine ei_aln hb dX6_readsBooking_99 (pc' := 100) rfl rfl ?_
          refine ei_gi hb dX6_readsBooking_100 (pc' := 103) (x := (S14.1 ((6, 0, 0) : qz_N) 12)) hcn qz_f_6_161 rfl rfl rfl rfl ?_
          by_cases c15 : (S14.1 ((6, 0, 0) : qz_N) 12) = 0
          · rw [if_pos c15] at h
            refine ei_ifT hb dX6_readsBooking_103 (pc' := 124) (decide_eq_true c15) (by decide) ?_
            refine ei_c hb dX6_readsBooking_124 (v := (0 : Int32)) (pc' := 125) (by decide) rfl ?_
            obtain ⟨S16, eS16⟩ : ∃ q, q = qz_wr S14 ((6, 0, 0) : qz_N) 12 (0 : Int32) := ⟨_, rfl⟩
            rw [qz_let, ← eS16] at h
            refine ei_pi hb dX6_readsBooking_125 (pc' := 128) (M1 := (qz_mk S16.1 S16.2)) hcn qz_f_6_161 rfl rfl (fun _ => by decide) rfl (by rw [eS16]; rfl) rfl ?_
            refine vM_readsBooking_L128 F x5 x9 _ ?_ F S16 _ h
            intro T23 r h
            have h := Option.some.inj h
            subst h
            exact ei_retv hb dX6_readsBooking_161 rfl
          · rw [if_neg c15] at h
            refine ei_ifF hb dX6_readsBooking_103 (pc' := 106) (t := 124) (decide_eq_false c15) (by decide) rfl ?_
            refine ei_aln hb dX6_readsBooking_106 (pc' := 107) rfl rfl ?_
            obtain ⟨x24, e25, h⟩ := Option.bind_eq_some_iff.mp h
            refine ei_cv hb dX6_readsBooking_107 (pc' := 110) (M1 := (qz_mk S14.1 S14.2)) (as := []) (rest := [.inr (some ((6, 0, 0) : qz_N))]) (st' := [.inl x24, .inr (some ((6, 0, 0) : qz_N))]) hcn qz_c_6_158 qz_k_126 (qz_q_128_126) (Nat.le_of_ble_eq_true rfl) (Nat.le_of_ble_eq_true rfl) rfl rfl rfl (vM_sign F S14.1 S14.2 _ e25) rfl rfl ?_
            refine ei_b hb dX6_readsBooking_110 (v := (49 : Int32)) (pc' := 112) (by decide) rfl ?_
            refine ei_b hb dX6_readsBooking_112 (v := (57 : Int32)) (pc' := 114) (by decide) rfl ?_
            refine ei_cs hb dX6_readsBooking_114 (pc' := 117) (M1 := (qz_mk S14.1 S14.2)) (as := [.inl x24, .inl (49 : Int32), .inl (57 : Int32)]) (rest := [.inr (some ((6, 0, 0) : qz_N))]) (st' := [.inl (gM_in S14.1 x24 (49 : Int32) (57 : Int32)), .inr (some ((6, 0, 0) : qz_N))]) hcn qz_c_6_36 rfl qz_k_84 (qz_q_128_84) (Nat.le_of_ble_eq_true rfl) (Nat.le_of_ble_eq_true rfl) rfl rfl (vM_in S14.1 S14.2 x24 (49 : Int32) (57 : Int32)) rfl rfl ?_
            by_cases c26 : (gM_in S14.1 x24 (49 : Int32) (57 : Int32)) = 0
            · rw [if_pos c26] at h
              refine ei_ifT hb dX6_readsBooking_117 (pc' := 124) (decide_eq_true c26) (by decide) ?_
              refine ei_c hb dX6_readsBooking_124 (v := (0 : Int32)) (pc' := 125) (by decide) rfl ?_
              obtain ⟨S27, eS27⟩ : ∃ q, q = qz_wr S14 ((6, 0, 0) : qz_N) 12 (0 : Int32) := ⟨_, rfl⟩
              rw [qz_let, ← eS27] at h
              refine ei_pi hb dX6_readsBooking_125 (pc' := 128) (M1 := (qz_mk S27.1 S27.2)) hcn qz_f_6_161 rfl rfl (fun _ => by decide) rfl (by rw [eS27]; rfl) rfl ?_
              refine vM_readsBooking_L128b F x5 x9 _ ?_ F S27 _ h
              intro T34 r h
              have h := Option.some.inj h
              subst h
              exact ei_retv hb dX6_readsBooking_161 rfl
            · rw [if_neg c26] at h
              refine ei_ifF hb dX6_readsBooking_117 (pc' := 120) (t := 124) (decide_eq_false c26) (by decide) rfl ?_
              refine ei_c hb dX6_readsBooking_120 (v := (1 : Int32)) (pc' := 121) (by decide) rfl ?_
              refine ei_go hb dX6_readsBooking_121 (pc' := 125) (by decide) ?_
              obtain ⟨S35, eS35⟩ : ∃ q, q = qz_wr S14 ((6, 0, 0) : qz_N) 12 (1 : Int32) := ⟨_, rfl⟩
              rw [qz_let, ← eS35] at h
              refine ei_pi hb dX6_readsBooking_125 (pc' := 128) (M1 := (qz_mk S35.1 S35.2)) hcn qz_f_6_161 rfl rfl (fun _ => by decide) rfl (by rw [eS35]; rfl) rfl ?_
              refine vM_readsBooking_L128bb F x5 x9 _ ?_ F S35 _ h
              intro T42 r h
              have h := Option.some.inj h
              subst h
              exact ei_retv hb dX6_readsBooking_161 rfl
        · rw [if_neg c13] at h
          refine ei_ifF hb dX6_readsBooking_86 (pc' := 89) (t := 93) (decide_eq_false c13) (by decide) rfl ?_
          refine ei_c hb dX6_readsBooking_89 (v := (1 : Int32)) (pc' := 90) (by decide) rfl ?_
          refine ei_go hb dX6_readsBooking_90 (pc' := 94) (by decide) ?_
          refine ei_add hb dX6_readsBooking_94 (pc' := 95) rfl ?_
          obtain ⟨S43, eS43⟩ : ∃ q, q = qz_wr S12 ((6, 0, 0) : qz_N) 11 ((S12.1 ((6, 0, 0) : qz_N) 11) + (1 : Int32)) := ⟨_, rfl⟩
          rw [qz_let, ← eS43] at h
          refine ei_pi hb dX6_readsBooking_95 (pc' := 98) (M1 := (qz_mk S43.1 S43.2)) hcn qz_f_6_155 rfl rfl (fun q => by cases q) rfl (by rw [eS43]; rfl) rfl ?_
          refine ei_aln hb dX6_readsBooking_98 (pc' := 99) rfl rfl ?_
          refine ei_aln hb dX6_readsBooking_99 (pc' := 100) rfl rfl ?_
          refine ei_gi hb dX6_readsBooking_100 (pc' := 103) (x := (S43.1 ((6, 0, 0) : qz_N) 12)) hcn qz_f_6_161 rfl rfl rfl rfl ?_
          by_cases c44 : (S43.1 ((6, 0, 0) : qz_N) 12) = 0
          · rw [if_pos c44] at h
            refine ei_ifT hb dX6_readsBooking_103 (pc' := 124) (decide_eq_true c44) (by decide) ?_
            refine ei_c hb dX6_readsBooking_124 (v := (0 : Int32)) (pc' := 125) (by decide) rfl ?_
            obtain ⟨S45, eS45⟩ : ∃ q, q = qz_wr S43 ((6, 0, 0) : qz_N) 12 (0 : Int32) := ⟨_, rfl⟩
            rw [qz_let, ← eS45] at h
            refine ei_pi hb dX6_readsBooking_125 (pc' := 128) (M1 := (qz_mk S45.1 S45.2)) hcn qz_f_6_161 rfl rfl (fun _ => by decide) rfl (by rw [eS45]; rfl) rfl ?_
            refine vM_readsBooking_L128bbb F x5 x9 _ ?_ F S45 _ h
            intro T52 r h
            have h := Option.some.inj h
            subst h
            exact ei_retv hb dX6_readsBooking_161 rfl
          · rw [if_neg c44] at h
            refine ei_ifF hb dX6_readsBooking_103 (pc' := 106) (t := 124) (decide_eq_false c44) (by decide) rfl ?_
            refine ei_aln hb dX6_readsBooking_106 (pc' := 107) rfl rfl ?_
            obtain ⟨x53, e54, h⟩ := Option.bind_eq_some_iff.mp h
            refine ei_cv hb dX6_readsBooking_107 (pc' := 110) (M1 := (qz_mk S43.1 S43.2)) (as := []) (rest := [.inr (some ((6, 0, 0) : qz_N))]) (st' := [.inl x53, .inr (some ((6, 0, 0) : qz_N))]) hcn qz_c_6_158 qz_k_126 (qz_q_128_126) (Nat.le_of_ble_eq_true rfl) (Nat.le_of_ble_eq_true rfl) rfl rfl rfl (vM_sign F S43.1 S43.2 _ e54) rfl rfl ?_
            refine ei_b hb dX6_readsBooking_110 (v := (49 : Int32)) (pc' := 112) (by decide) rfl ?_
            refine ei_b hb dX6_readsBooking_112 (v := (57 : Int32)) (pc' := 114) (by decide) rfl ?_
            refine ei_cs hb dX6_readsBooking_114 (pc' := 117) (M1 := (qz_mk S43.1 S43.2)) (as := [.inl x53, .inl (49 : Int32), .inl (57 : Int32)]) (rest := [.inr (some ((6, 0, 0) : qz_N))]) (st' := [.inl (gM_in S43.1 x53 (49 : Int32) (57 : Int32)), .inr (some ((6, 0, 0) : qz_N))]) hcn qz_c_6_36 rfl qz_k_84 (qz_q_128_84) (Nat.le_of_ble_eq_true rfl) (Nat.le_of_ble_eq_true rfl) rfl rfl (vM_in S43.1 S43.2 x53 (49 : Int32) (57 : Int32)) rfl rfl ?_
            by_cases c55 : (gM_in S43.1 x53 (49 : Int32) (57 : Int32)) = 0
            · rw [if_pos c55] at h
              refine ei_ifT hb dX6_readsBooking_117 (pc' := 124) (decide_eq_true c55) (by decide) ?_
              refine ei_c hb dX6_readsBooking_124 (v := (0 : Int32)) (pc' := 125) (by decide) rfl ?_
              obtain ⟨S56, eS56⟩ : ∃ q, q = qz_wr S43 ((6, 0, 0) : qz_N) 12 (0 : Int32) := ⟨_, rfl⟩
              rw [qz_let, ← eS56] at h
              refine ei_pi hb dX6_readsBooking_125 (pc' := 128) (M1 := (qz_mk S56.1 S56.2)) hcn qz_f_6_161 rfl rfl (fun _ => by decide) rfl (by rw [eS56]; rfl) rfl ?_
              refine vM_readsBooking_L128bbbb F x5 x9 _ ?_ F S56 _ h
              intro T63 r h
              have h := Option.some.inj h
              subst h
              exact ei_retv hb dX6_readsBooking_161 rfl
            · rw [if_neg c55] at h
              refine ei_ifF hb dX6_readsBooking_117 (pc' := 120) (t := 124) (decide_eq_false c55) (by decide) rfl ?_
              refine ei_c hb dX6_readsBooking_120 (v := (1 : Int32)) (pc' := 121) (by decide) rfl ?_
              refine ei_go hb dX6_readsBooking_121 (pc' := 125) (by decide) ?_
              obtain ⟨S64, eS64⟩ : ∃ q, q = qz_wr S43 ((6, 0, 0) : qz_N) 12 (1 : Int32) := ⟨_, rfl⟩
              rw [qz_let, ← eS64] at h
              refine ei_pi hb dX6_readsBooking_125 (pc' := 128) (M1 := (qz_mk S64.1 S64.2)) hcn qz_f_6_161 rfl rfl (fun _ => by decide) rfl (by rw [eS64]; rfl) rfl ?_
              refine vM_readsBooking_L128bbbbb F x5 x9 _ ?_ F S64 _ h
              intro T71 r h
              have h := Option.some.inj h
              subst h
              exact ei_retv hb dX6_readsBooking_161 rfl
      · rw [if_neg c11] at h
        refine ei_ifF hb dX6_readsBooking_54 (pc' := 57) (t := 73) (decide_eq_false c11) (by decide) rfl ?_
        refine ei_iln hb dX6_readsBooking_57 (pc' := 58) rfl rfl ?_
        refine ei_b hb dX6_readsBooking_58 (v := (97 : Int32)) (pc' := 60) (by decide) rfl ?_
        by_cases c72 : x9 = (97 : Int32)
        · rw [if_pos c72] at h
          refine ei_icT hb dX6_readsBooking_60 (pc' := 69) (decide_eq_true c72) (by decide) ?_
          refine ei_c hb dX6_readsBooking_69 (v := (1 : Int32)) (pc' := 70) (by decide) rfl ?_
          refine ei_go hb dX6_readsBooking_70 (pc' := 74) (by decide) ?_
          obtain ⟨S73, eS73⟩ : ∃ q, q = qz_wr S8 ((6, 0, 0) : qz_N) 12 (1 : Int32) := ⟨_, rfl⟩
          rw [qz_let, ← eS73] at h
          refine ei_pi hb dX6_readsBooking_74 (pc' := 77) (M1 := (qz_mk S73.1 S73.2)) hcn qz_f_6_161 rfl rfl (fun _ => by decide) rfl (by rw [eS73]; rfl) rfl ?_
          refine ei_aln hb dX6_readsBooking_77 (pc' := 78) rfl rfl ?_
          refine ei_dup hb dX6_readsBooking_78 (pc' := 79) rfl ?_
          refine ei_gi hb dX6_readsBooking_79 (pc' := 82) (x := (S73.1 ((6, 0, 0) : qz_N) 11)) hcn qz_f_6_155 rfl rfl rfl rfl ?_
          refine ei_aln hb dX6_readsBooking_82 (pc' := 83) rfl rfl ?_
          refine ei_gi hb dX6_readsBooking_83 (pc' := 86) (x := (S73.1 ((6, 0, 0) : qz_N) 12)) hcn qz_f_6_161 rfl rfl rfl rfl ?_
          by_cases c74 : (S73.1 ((6, 0, 0) : qz_N) 12) = 0
          · rw [if_pos c74] at h
            refine ei_ifT hb dX6_readsBooking_86 (pc' := 93) (decide_eq_true c74) (by decide) ?_
            refine ei_c hb dX6_readsBooking_93 (v := (0 : Int32)) (pc' := 94) (by decide) rfl ?_
            refine ei_add hb dX6_readsBooking_94 (pc' := 95) rfl ?_
            obtain ⟨S75, eS75⟩ : ∃ q, q = qz_wr S73 ((6, 0, 0) : qz_N) 11 ((S73.1 ((6, 0, 0) : qz_N) 11) + (0 : Int32)) := ⟨_, rfl⟩
            rw [qz_let, ← eS75] at h
            refine ei_pi hb dX6_readsBooking_95 (pc' := 98) (M1 := (qz_mk S75.1 S75.2)) hcn qz_f_6_155 rfl rfl (fun q => by cases q) rfl (by rw [eS75]; rfl) rfl ?_
            refine ei_aln hb dX6_readsBooking_98 (pc' := 99) rfl rfl ?_
            refine ei_aln hb dX6_readsBooking_99 (pc' := 100) rfl rfl ?_
            refine ei_gi hb dX6_readsBooking_100 (pc' := 103) (x := (S75.1 ((6, 0, 0) : qz_N) 12)) hcn qz_f_6_161 rfl rfl rfl rfl ?_
            by_cases c76 : (S75.1 ((6, 0, 0) : qz_N) 12) = 0
            · rw [if_pos c76] at h
              refine ei_ifT hb dX6_readsBooking_103 (pc' := 124) (decide_eq_true c76) (by decide) ?_
              refine ei_c hb dX6_readsBooking_124 (v := (0 : Int32)) (pc' := 125) (by decide) rfl ?_
              obtain ⟨S77, eS77⟩ : ∃ q, q = qz_wr S75 ((6, 0, 0) : qz_N) 12 (0 : Int32) := ⟨_, rfl⟩
              rw [qz_let, ← eS77] at h
              refine ei_pi hb dX6_readsBooking_125 (pc' := 128) (M1 := (qz_mk S77.1 S77.2)) hcn qz_f_6_161 rfl rfl (fun _ => by decide) rfl (by rw [eS77]; rfl) rfl ?_
              refine vM_readsBooking_L128bbbbbb F x5 x9 _ ?_ F S77 _ h
              intro T84 r h
              have h := Option.some.inj h
              subst h
              exact ei_retv hb dX6_readsBooking_161 rfl
            · rw [if_neg c76] at h
              refine ei_ifF hb dX6_readsBooking_103 (pc' := 106) (t := 124) (decide_eq_false c76) (by decide) rfl ?_
              refine ei_aln hb dX6_readsBooking_106 (pc' := 107) rfl rfl ?_
              obtain ⟨x85, e86, h⟩ := Option.bind_eq_some_iff.mp h
              refine ei_cv hb dX6_readsBooking_107 (pc' := 110) (M1 := (qz_mk S75.1 S75.2)) (as := []) (rest := [.inr (some ((6, 0, 0) : qz_N))]) (st' := [.inl x85, .inr (some ((6, 0, 0) : qz_N))]) hcn qz_c_6_158 qz_k_126 (qz_q_128_126) (Nat.le_of_ble_eq_true rfl) (Nat.le_of_ble_eq_true rfl) rfl rfl rfl (vM_sign F S75.1 S75.2 _ e86) rfl rfl ?_
              refine ei_b hb dX6_readsBooking_110 (v := (49 : Int32)) (pc' := 112) (by decide) rfl ?_
              refine ei_b hb dX6_readsBooking_112 (v := (57 : Int32)) (pc' := 114) (by decide) rfl ?_
              refine ei_cs hb dX6_readsBooking_114 (pc' := 117) (M1 := (qz_mk S75.1 S75.2)) (as := [.inl x85, .inl (49 : Int32), .inl (57 : Int32)]) (rest := [.inr (some ((6, 0, 0) : qz_N))]) (st' := [.inl (gM_in S75.1 x85 (49 : Int32) (57 : Int32)), .inr (some ((6, 0, 0) : qz_N))]) hcn qz_c_6_36 rfl qz_k_84 (qz_q_128_84) (Nat.le_of_ble_eq_true rfl) (Nat.le_of_ble_eq_true rfl) rfl rfl (vM_in S75.1 S75.2 x85 (49 : Int32) (57 : Int32)) rfl rfl ?_
              by_cases c87 : (gM_in S75.1 x85 (49 : Int32) (57 : Int32)) = 0
              · rw [if_pos c87] at h
                refine ei_ifT hb dX6_readsBooking_117 (pc' := 124) (decide_eq_true c87) (by decide) ?_
                refine ei_c hb dX6_readsBooking_124 (v := (0 : Int32)) (pc' := 125) (by decide) rfl ?_
                obtain ⟨S88, eS88⟩ : ∃ q, q = qz_wr S75 ((6, 0, 0) : qz_N) 12 (0 : Int32) := ⟨_, rfl⟩
                rw [qz_let, ← eS88] at h
                refine ei_pi hb dX6_readsBooking_125 (pc' := 128) (M1 := (qz_mk S88.1 S88.2)) hcn qz_f_6_161 rfl rfl (fun _ => by decide) rfl (by rw [eS88]; rfl) rfl ?_
                refine vM_readsBooking_L128bbbbbbb F x5 x9 _ ?_ F S88 _ h
                intro T95 r h
                have h := Option.some.inj h
                subst h
                exact ei_retv hb dX6_readsBooking_161 rfl
              · rw [if_neg c87] at h
                refine ei_ifF hb dX6_readsBooking_117 (pc' := 120) (t := 124) (decide_eq_false c87) (by decide) rfl ?_
                refine ei_c hb dX6_readsBooking_120 (v := (1 : Int32)) (pc' := 121) (by decide) rfl ?_
                refine ei_go hb dX6_readsBooking_121 (pc' := 125) (by decide) ?_
                obtain ⟨S96, eS96⟩ : ∃ q, q = qz_wr S75 ((6, 0, 0) : qz_N) 12 (1 : Int32) := ⟨_, rfl⟩
                rw [qz_let, ← eS96] at h
                refine ei_pi hb dX6_readsBooking_125 (pc' := 128) (M1 := (qz_mk S96.1 S96.2)) hcn qz_f_6_161 rfl rfl (fun _ => by decide) rfl (by rw [eS96]; rfl) rfl ?_
                refine vM_readsBooking_L128bbbbbbbb F x5 x9 _ ?_ F S96 _ h
                intro T103 r h
                have h := Option.some.inj h
                subst h
                exact ei_retv hb dX6_readsBooking_161 rfl
          · rw [if_neg c74] at h
            refine ei_ifF hb dX6_readsBooking_86 (pc' := 89) (t := 93) (decide_eq_false c74) (by decide) rfl ?_
            refine ei_c hb dX6_readsBooking_89 (v := (1 : Int32)) (pc' := 90) (by decide) rfl ?_
            refine ei_go hb dX6_readsBooking_90 (pc' := 94) (by decide) ?_
            refine ei_add hb dX6_readsBooking_94 (pc' := 95) rfl ?_
            obtain ⟨S104, eS104⟩ : ∃ q, q = qz_wr S73 ((6, 0, 0) : qz_N) 11 ((S73.1 ((6, 0, 0) : qz_N) 11) + (1 : Int32)) := ⟨_, rfl⟩
            rw [qz_let, ← eS104] at h
            refine ei_pi hb dX6_readsBooking_95 (pc' := 98) (M1 := (qz_mk S104.1 S104.2)) hcn qz_f_6_155 rfl rfl (fun q => by cases q) rfl (by rw [eS104]; rfl) rfl ?_
            refine ei_aln hb dX6_readsBooking_98 (pc' := 99) rfl rfl ?_
            refine ei_aln hb dX6_readsBooking_99 (pc' := 100) rfl rfl ?_
            refine ei_gi hb dX6_readsBooking_100 (pc' := 103) (x := (S104.1 ((6, 0, 0) : qz_N) 12)) hcn qz_f_6_161 rfl rfl rfl rfl ?_
            by_cases c105 : (S104.1 ((6, 0, 0) : qz_N) 12) = 0
            · rw [if_pos c105] at h
              refine ei_ifT hb dX6_readsBooking_103 (pc' := 124) (decide_eq_true c105) (by decide) ?_
              refine ei_c hb dX6_readsBooking_124 (v := (0 : Int32)) (pc' := 125) (by decide) rfl ?_
              obtain ⟨S106, eS106⟩ : ∃ q, q = qz_wr S104 ((6, 0, 0) : qz_N) 12 (0 : Int32) := ⟨_, rfl⟩
              rw [qz_let, ← eS106] at h
              refine ei_pi hb dX6_readsBooking_125 (pc' := 128) (M1 := (qz_mk S106.1 S106.2)) hcn qz_f_6_161 rfl rfl (fun _ => by decide) rfl (by rw [eS106]; rfl) rfl ?_
              refine vM_readsBooking_L128bbbbbbbbb F x5 x9 _ ?_ F S106 _ h
              intro T113 r h
              have h := Option.some.inj h
              subst h
              exact ei_retv hb dX6_readsBooking_161 rfl
            · rw [if_neg c105] at h
              refine ei_ifF hb dX6_readsBooking_103 (pc' := 106) (t := 124) (decide_eq_false c105) (by decide) rfl ?_
              refine ei_aln hb dX6_readsBooking_106 (pc' := 107) rfl rfl ?_
              obtain ⟨x114, e115, h⟩ := Option.bind_eq_some_iff.mp h
              refine ei_cv hb dX6_readsBooking_107 (pc' := 110) (M1 := (qz_mk S104.1 S104.2)) (as := []) (rest := [.inr (some ((6, 0, 0) : qz_N))]) (st' := [.inl x114, .inr (some ((6, 0, 0) : qz_N))]) hcn qz_c_6_158 qz_k_126 (qz_q_128_126) (Nat.le_of_ble_eq_true rfl) (Nat.le_of_ble_eq_true rfl) rfl rfl rfl (vM_sign F S104.1 S104.2 _ e115) rfl rfl ?_
              refine ei_b hb dX6_readsBooking_110 (v := (49 : Int32)) (pc' := 112) (by decide) rfl ?_
              refine ei_b hb dX6_readsBooking_112 (v := (57 : Int32)) (pc' := 114) (by decide) rfl ?_
              refine ei_cs hb dX6_readsBooking_114 (pc' := 117) (M1 := (qz_mk S104.1 S104.2)) (as := [.inl x114, .inl (49 : Int32), .inl (57 : Int32)]) (rest := [.inr (some ((6, 0, 0) : qz_N))]) (st' := [.inl (gM_in S104.1 x114 (49 : Int32) (57 : Int32)), .inr (some ((6, 0, 0) : qz_N))]) hcn qz_c_6_36 rfl qz_k_84 (qz_q_128_84) (Nat.le_of_ble_eq_true rfl) (Nat.le_of_ble_eq_true rfl) rfl rfl (vM_in S104.1 S104.2 x114 (49 : Int32) (57 : Int32)) rfl rfl ?_
              by_cases c116 : (gM_in S104.1 x114 (49 : Int32) (57 : Int32)) = 0
              · rw [if_pos c116] at h
                refine ei_ifT hb dX6_readsBooking_117 (pc' := 124) (decide_eq_true c116) (by decide) ?_
                refine ei_c hb dX6_readsBooking_124 (v := (0 : Int32)) (pc' := 125) (by decide) rfl ?_
                obtain ⟨S117, eS117⟩ : ∃ q, q = qz_wr S104 ((6, 0, 0) : qz_N) 12 (0 : Int32) := ⟨_, rfl⟩
                rw [qz_let, ← eS117] at h
                refine ei_pi hb dX6_readsBooking_125 (pc' := 128) (M1 := (qz_mk S117.1 S117.2)) hcn qz_f_6_161 rfl rfl (fun _ => by decide) rfl (by rw [eS117]; rfl) rfl ?_
                refine vM_readsBooking_L128bbbbbbbbbb F x5 x9 _ ?_ F S117 _ h
                intro T124 r h
                have h := Option.some.inj h
                subst h
                exact ei_retv hb dX6_readsBooking_161 rfl
              · rw [if_neg c116] at h
                refine ei_ifF hb dX6_readsBooking_117 (pc' := 120) (t := 124) (decide_eq_false c116) (by decide) rfl ?_
                refine ei_c hb dX6_readsBooking_120 (v := (1 : Int32)) (pc' := 121) (by decide) rfl ?_
                refine ei_go hb dX6_readsBooking_121 (pc' := 125) (by decide) ?_
                obtain ⟨S125, eS125⟩ : ∃ q, q = qz_wr S104 ((6, 0, 0) : qz_N) 12 (1 : Int32) := ⟨_, rfl⟩
                rw [qz_let, ← eS125] at h
                refine ei_pi hb dX6_readsBooking_125 (pc' := 128) (M1 := (qz_mk S125.1 S125.2)) hcn qz_f_6_161 rfl rfl (fun _ => by decide) rfl (by rw [eS125]; rfl) rfl ?_
                refine vM_readsBooking_L128bbbbbbbbbbb F x5 x9 _ ?_ F S125 _ h
                intro T132 r h
                have h := Option.some.inj h
                subst h
                exact ei_retv hb dX6_readsBooking_161 rfl
        · rw [if_neg c72] at h
          refine ei_icF hb dX6_readsBooking_60 (pc' := 63) (t := 69) (decide_eq_false c72) (by decide) rfl ?_
          refine ei_iln hb dX6_readsBooking_63 (pc' := 64) rfl rfl ?_
          refine ei_b hb dX6_readsBooking_64 (v := (98 : Int32)) (pc' := 66) (by decide) rfl ?_
          by_cases c133 : x9 = (98 : Int32)
          · rw [if_pos c133] at h
            refine ei_icF hb dX6_readsBooking_66 (pc' := 69) (t := 73) (decide_eq_false (fun q => q c133)) (by decide) rfl ?_
            refine ei_c hb dX6_readsBooking_69 (v := (1 : Int32)) (pc' := 70) (by decide) rfl ?_
            refine ei_go hb dX6_readsBooking_70 (pc' := 74) (by decide) ?_
            obtain ⟨S134, eS134⟩ : ∃ q, q = qz_wr S8 ((6, 0, 0) : qz_N) 12 (1 : Int32) := ⟨_, rfl⟩
            rw [qz_let, ← eS134] at h
            refine ei_pi hb dX6_readsBooking_74 (pc' := 77) (M1 := (qz_mk S134.1 S134.2)) hcn qz_f_6_161 rfl rfl (fun _ => by decide) rfl (by rw [eS134]; rfl) rfl ?_
            refine ei_aln hb dX6_readsBooking_77 (pc' := 78) rfl rfl ?_
            refine ei_dup hb dX6_readsBooking_78 (pc' := 79) rfl ?_
            refine ei_gi hb dX6_readsBooking_79 (pc' := 82) (x := (S134.1 ((6, 0, 0) : qz_N) 11)) hcn qz_f_6_155 rfl rfl rfl rfl ?_
            refine ei_aln hb dX6_readsBooking_82 (pc' := 83) rfl rfl ?_
            refine ei_gi hb dX6_readsBooking_83 (pc' := 86) (x := (S134.1 ((6, 0, 0) : qz_N) 12)) hcn qz_f_6_161 rfl rfl rfl rfl ?_
            by_cases c135 : (S134.1 ((6, 0, 0) : qz_N) 12) = 0
            · rw [if_pos c135] at h
              refine ei_ifT hb dX6_readsBooking_86 (pc' := 93) (decide_eq_true c135) (by decide) ?_
              refine ei_c hb dX6_readsBooking_93 (v := (0 : Int32)) (pc' := 94) (by decide) rfl ?_
              refine ei_add hb dX6_readsBooking_94 (pc' := 95) rfl ?_
              obtain ⟨S136, eS136⟩ : ∃ q, q = qz_wr S134 ((6, 0, 0) : qz_N) 11 ((S134.1 ((6, 0, 0) : qz_N) 11) + (0 : Int32)) := ⟨_, rfl⟩
              rw [qz_let, ← eS136] at h
              refine ei_pi hb dX6_readsBooking_95 (pc' := 98) (M1 := (qz_mk S136.1 S136.2)) hcn qz_f_6_155 rfl rfl (fun q => by cases q) rfl (by rw [eS136]; rfl) rfl ?_
              refine ei_aln hb dX6_readsBooking_98 (pc' := 99) rfl rfl ?_
              refine ei_aln hb dX6_readsBooking_99 (pc' := 100) rfl rfl ?_
              refine ei_gi hb dX6_readsBooking_100 (pc' := 103) (x := (S136.1 ((6, 0, 0) : qz_N) 12)) hcn qz_f_6_161 rfl rfl rfl rfl ?_
              by_cases c137 : (S136.1 ((6, 0, 0) : qz_N) 12) = 0
              · rw [if_pos c137] at h
                refine ei_ifT hb dX6_readsBooking_103 (pc' := 124) (decide_eq_true c137) (by decide) ?_
                refine ei_c hb dX6_readsBooking_124 (v := (0 : Int32)) (pc' := 125) (by decide) rfl ?_
                obtain ⟨S138, eS138⟩ : ∃ q, q = qz_wr S136 ((6, 0, 0) : qz_N) 12 (0 : Int32) := ⟨_, rfl⟩
                rw [qz_let, ← eS138] at h
                refine ei_pi hb dX6_readsBooking_125 (pc' := 128) (M1 := (qz_mk S138.1 S138.2)) hcn qz_f_6_161 rfl rfl (fun _ => by decide) rfl (by rw [eS138]; rfl) rfl ?_
                refine vM_readsBooking_L128bbbbbbbbbbbb F x5 x9 _ ?_ F S138 _ h
                intro T145 r h
                have h := Option.some.inj h
                subst h
                exact ei_retv hb dX6_readsBooking_161 rfl
              · rw [if_neg c137] at h
                refine ei_ifF hb dX6_readsBooking_103 (pc' := 106) (t := 124) (decide_eq_false c137) (by decide) rfl ?_
                refine ei_aln hb dX6_readsBooking_106 (pc' := 107) rfl rfl ?_
                obtain ⟨x146, e147, h⟩ := Option.bind_eq_some_iff.mp h
                refine ei_cv hb dX6_readsBooking_107 (pc' := 110) (M1 := (qz_mk S136.1 S136.2)) (as := []) (rest := [.inr (some ((6, 0, 0) : qz_N))]) (st' := [.inl x146, .inr (some ((6, 0, 0) : qz_N))]) hcn qz_c_6_158 qz_k_126 (qz_q_128_126) (Nat.le_of_ble_eq_true rfl) (Nat.le_of_ble_eq_true rfl) rfl rfl rfl (vM_sign F S136.1 S136.2 _ e147) rfl rfl ?_
                refine ei_b hb dX6_readsBooking_110 (v := (49 : Int32)) (pc' := 112) (by decide) rfl ?_
                refine ei_b hb dX6_readsBooking_112 (v := (57 : Int32)) (pc' := 114) (by decide) rfl ?_
                refine ei_cs hb dX6_readsBooking_114 (pc' := 117) (M1 := (qz_mk S136.1 S136.2)) (as := [.inl x146, .inl (49 : Int32), .inl (57 : Int32)]) (rest := [.inr (some ((6, 0, 0) : qz_N))]) (st' := [.inl (gM_in S136.1 x146 (49 : Int32) (57 : Int32)), .inr (some ((6, 0, 0) : qz_N))]) hcn qz_c_6_36 rfl qz_k_84 (qz_q_128_84) (Nat.le_of_ble_eq_true rfl) (Nat.le_of_ble_eq_true rfl) rfl rfl (vM_in S136.1 S136.2 x146 (49 : Int32) (57 : Int32)) rfl rfl ?_
                by_cases c148 : (gM_in S136.1 x146 (49 : Int32) (57 : Int32)) = 0
                · rw [if_pos c148] at h
                  refine ei_ifT hb dX6_readsBooking_117 (pc' := 124) (decide_eq_true c148) (by decide) ?_
                  refine ei_c hb dX6_readsBooking_124 (v := (0 : Int32)) (pc' := 125) (by decide) rfl ?_
                  obtain ⟨S149, eS149⟩ : ∃ q, q = qz_wr S136 ((6, 0, 0) : qz_N) 12 (0 : Int32) := ⟨_, rfl⟩
                  rw [qz_let, ← eS149] at h
                  refine ei_pi hb dX6_readsBooking_125 (pc' := 128) (M1 := (qz_mk S149.1 S149.2)) hcn qz_f_6_161 rfl rfl (fun _ => by decide) rfl (by rw [eS149]; rfl) rfl ?_
                  refine vM_readsBooking_L128bbbbbbbbbbbbb F x5 x9 _ ?_ F S149 _ h
                  intro T156 r h
                  have h := Option.some.inj h
                  subst h
                  exact ei_retv hb dX6_readsBooking_161 rfl
                · rw [if_neg c148] at h
                  refine ei_ifF hb dX6_readsBooking_117 (pc' := 120) (t := 124) (decide_eq_false c148) (by decide) rfl ?_
                  refine ei_c hb dX6_readsBooking_120 (v := (1 : Int32)) (pc' := 121) (by decide) rfl ?_
                  refine ei_go hb dX6_readsBooking_121 (pc' := 125) (by decide) ?_
                  obtain ⟨S157, eS157⟩ : ∃ q, q = qz_wr S136 ((6, 0, 0) : qz_N) 12 (1 : Int32) := ⟨_, rfl⟩
                  rw [qz_let, ← eS157] at h
                  refine ei_pi hb dX6_readsBooking_125 (pc' := 128) (M1 := (qz_mk S157.1 S157.2)) hcn qz_f_6_161 rfl rfl (fun _ => by decide) rfl (by rw [eS157]; rfl) rfl ?_
                  refine vM_readsBooking_L128bbbbbbbbbbbbbb F x5 x9 _ ?_ F S157 _ h
                  intro T164 r h
                  have h := Option.some.inj h
                  subst h
                  exact ei_retv hb dX6_readsBooking_161 rfl
            · rw [if_neg c135] at h
              refine ei_ifF hb dX6_readsBooking_86 (pc' := 89) (t := 93) (decide_eq_false c135) (by decide) rfl ?_
              refine ei_c hb dX6_readsBooking_89 (v := (1 : Int32)) (pc' := 90) (by decide) rfl ?_
              refine ei_go hb dX6_readsBooking_90 (pc' := 94) (by decide) ?_
              refine ei_add hb dX6_readsBooking_94 (pc' := 95) rfl ?_
              obtain ⟨S165, eS165⟩ : ∃ q, q = qz_wr S134 ((6, 0, 0) : qz_N) 11 ((S134.1 ((6, 0, 0) : qz_N) 11) + (1 : Int32)) := ⟨_, rfl⟩
              rw [qz_let, ← eS165] at h
              refine ei_pi hb dX6_readsBooking_95 (pc' := 98) (M1 := (qz_mk S165.1 S165.2)) hcn qz_f_6_155 rfl rfl (fun q => by cases q) rfl (by rw [eS165]; rfl) rfl ?_
              refine ei_aln hb dX6_readsBooking_98 (pc' := 99) rfl rfl ?_
              refine ei_aln hb dX6_readsBooking_99 (pc' := 100) rfl rfl ?_
              refine ei_gi hb dX6_readsBooking_100 (pc' := 103) (x := (S165.1 ((6, 0, 0) : qz_N) 12)) hcn qz_f_6_161 rfl rfl rfl rfl ?_
              by_cases c166 : (S165.1 ((6, 0, 0) : qz_N) 12) = 0
              · rw [if_pos c166] at h
                refine ei_ifT hb dX6_readsBooking_103 (pc' := 124) (decide_eq_true c166) (by decide) ?_
                refine ei_c hb dX6_readsBooking_124 (v := (0 : Int32)) (pc' := 125) (by decide) rfl ?_
                obtain ⟨S167, eS167⟩ : ∃ q, q = qz_wr S165 ((6, 0, 0) : qz_N) 12 (0 : Int32) := ⟨_, rfl⟩
                rw [qz_let, ← eS167] at h
                refine ei_pi hb dX6_readsBooking_125 (pc' := 128) (M1 := (qz_mk S167.1 S167.2)) hcn qz_f_6_161 rfl rfl (fun _ => by decide) rfl (by rw [eS167]; rfl) rfl ?_
                refine vM_readsBooking_L128bbbbbbbbbbbbbbb F x5 x9 _ ?_ F S167 _ h
                intro T174 r h
                have h := Option.some.inj h
                subst h
                exact ei_retv hb dX6_readsBooking_161 rfl
              · rw [if_neg c166] at h
                refine ei_ifF hb dX6_readsBooking_103 (pc' := 106) (t := 124) (decide_eq_false c166) (by decide) rfl ?_
                refine ei_aln hb dX6_readsBooking_106 (pc' := 107) rfl rfl ?_
                obtain ⟨x175, e176, h⟩ := Option.bind_eq_some_iff.mp h
                refine ei_cv hb dX6_readsBooking_107 (pc' := 110) (M1 := (qz_mk S165.1 S165.2)) (as := []) (rest := [.inr (some ((6, 0, 0) : qz_N))]) (st' := [.inl x175, .inr (some ((6, 0, 0) : qz_N))]) hcn qz_c_6_158 qz_k_126 (qz_q_128_126) (Nat.le_of_ble_eq_true rfl) (Nat.le_of_ble_eq_true rfl) rfl rfl rfl (vM_sign F S165.1 S165.2 _ e176) rfl rfl ?_
                refine ei_b hb dX6_readsBooking_110 (v := (49 : Int32)) (pc' := 112) (by decide) rfl ?_
                refine ei_b hb dX6_readsBooking_112 (v := (57 : Int32)) (pc' := 114) (by decide) rfl ?_
                refine ei_cs hb dX6_readsBooking_114 (pc' := 117) (M1 := (qz_mk S165.1 S165.2)) (as := [.inl x175, .inl (49 : Int32), .inl (57 : Int32)]) (rest := [.inr (some ((6, 0, 0) : qz_N))]) (st' := [.inl (gM_in S165.1 x175 (49 : Int32) (57 : Int32)), .inr (some ((6, 0, 0) : qz_N))]) hcn qz_c_6_36 rfl qz_k_84 (qz_q_128_84) (Nat.le_of_ble_eq_true rfl) (Nat.le_of_ble_eq_true rfl) rfl rfl (vM_in S165.1 S165.2 x175 (49 : Int32) (57 : Int32)) rfl rfl ?_
                by_cases c177 : (gM_in S165.1 x175 (49 : Int32) (57 : Int32)) = 0
                · rw [if_pos c177] at h
                  refine ei_ifT hb dX6_readsBooking_117 (pc' := 124) (decide_eq_true c177) (by decide) ?_
                  refine ei_c hb dX6_readsBooking_124 (v := (0 : Int32)) (pc' := 125) (by decide) rfl ?_
                  obtain ⟨S178, eS178⟩ : ∃ q, q = qz_wr S165 ((6, 0, 0) : qz_N) 12 (0 : Int32) := ⟨_, rfl⟩
                  rw [qz_let, ← eS178] at h
                  refine ei_pi hb dX6_readsBooking_125 (pc' := 128) (M1 := (qz_mk S178.1 S178.2)) hcn qz_f_6_161 rfl rfl (fun _ => by decide) rfl (by rw [eS178]; rfl) rfl ?_
                  refine vM_readsBooking_L128bbbbbbbbbbbbbbbb F x5 x9 _ ?_ F S178 _ h
                  intro T185 r h
                  have h := Option.some.inj h
                  subst h
                  exact ei_retv hb dX6_readsBooking_161 rfl
                · rw [if_neg c177] at h
                  refine ei_ifF hb dX6_readsBooking_117 (pc' := 120) (t := 124) (decide_eq_false c177) (by decide) rfl ?_
                  refine ei_c hb dX6_readsBooking_120 (v := (1 : Int32)) (pc' := 121) (by decide) rfl ?_
                  refine ei_go hb dX6_readsBooking_121 (pc' := 125) (by decide) ?_
                  obtain ⟨S186, eS186⟩ : ∃ q, q = qz_wr S165 ((6, 0, 0) : qz_N) 12 (1 : Int32) := ⟨_, rfl⟩
                  rw [qz_let, ← eS186] at h
                  refine ei_pi hb dX6_readsBooking_125 (pc' := 128) (M1 := (qz_mk S186.1 S186.2)) hcn qz_f_6_161 rfl rfl (fun _ => by decide) rfl (by rw [eS186]; rfl) rfl ?_
                  refine vM_readsBooking_L128bbbbbbbbbbbbbbbbb F x5 x9 _ ?_ F S186 _ h
                  intro T193 r h
                  have h := Option.some.inj h
                  subst h
                  exact ei_retv hb dX6_readsBooking_161 rfl
          · rw [if_neg c133] at h
            refine ei_icT hb dX6_readsBooking_66 (pc' := 73) (decide_eq_true c133) (by decide) ?_
            refine ei_c hb dX6_readsBooking_73 (v := (0 : Int32)) (pc' := 74) (by decide) rfl ?_
            obtain ⟨S194, eS194⟩ : ∃ q, q = qz_wr S8 ((6, 0, 0) : qz_N) 12 (0 : Int32) := ⟨_, rfl⟩
            rw [qz_let, ← eS194] at h
            refine ei_pi hb dX6_readsBooking_74 (pc' := 77) (M1 := (qz_mk S194.1 S194.2)) hcn qz_f_6_161 rfl rfl (fun _ => by decide) rfl (by rw [eS194]; rfl) rfl ?_
            refine ei_aln hb dX6_readsBooking_77 (pc' := 78) rfl rfl ?_
            refine ei_dup hb dX6_readsBooking_78 (pc' := 79) rfl ?_
            refine ei_gi hb dX6_readsBooking_79 (pc' := 82) (x := (S194.1 ((6, 0, 0) : qz_N) 11)) hcn qz_f_6_155 rfl rfl rfl rfl ?_
            refine ei_aln hb dX6_readsBooking_82 (pc' := 83) rfl rfl ?_
            refine ei_gi hb dX6_readsBooking_83 (pc' := 86) (x := (S194.1 ((6, 0, 0) : qz_N) 12)) hcn qz_f_6_161 rfl rfl rfl rfl ?_
            by_cases c195 : (S194.1 ((6, 0, 0) : qz_N) 12) = 0
            · rw [if_pos c195] at h
              refine ei_ifT hb dX6_readsBooking_86 (pc' := 93) (decide_eq_true c195) (by decide) ?_
              refine ei_c hb dX6_readsBooking_93 (v := (0 : Int32)) (pc' := 94) (by decide) rfl ?_
              refine ei_add hb dX6_readsBooking_94 (pc' := 95) rfl ?_
              obtain ⟨S196, eS196⟩ : ∃ q, q = qz_wr S194 ((6, 0, 0) : qz_N) 11 ((S194.1 ((6, 0, 0) : qz_N) 11) + (0 : Int32)) := ⟨_, rfl⟩
              rw [qz_let, ← eS196] at h
              refine ei_pi hb dX6_readsBooking_95 (pc' := 98) (M1 := (qz_mk S196.1 S196.2)) hcn qz_f_6_155 rfl rfl (fun q => by cases q) rfl (by rw [eS196]; rfl) rfl ?_
              refine ei_aln hb dX6_readsBooking_98 (pc' := 99) rfl rfl ?_
              refine ei_aln hb dX6_readsBooking_99 (pc' := 100) rfl rfl ?_
              refine ei_gi hb dX6_readsBooking_100 (pc' := 103) (x := (S196.1 ((6, 0, 0) : qz_N) 12)) hcn qz_f_6_161 rfl rfl rfl rfl ?_
              by_cases c197 : (S196.1 ((6, 0, 0) : qz_N) 12) = 0
              · rw [if_pos c197] at h
                refine ei_ifT hb dX6_readsBooking_103 (pc' := 124) (decide_eq_true c197) (by decide) ?_
                refine ei_c hb dX6_readsBooking_124 (v := (0 : Int32)) (pc' := 125) (by decide) rfl ?_
                obtain ⟨S198, eS198⟩ : ∃ q, q = qz_wr S196 ((6, 0, 0) : qz_N) 12 (0 : Int32) := ⟨_, rfl⟩
                rw [qz_let, ← eS198] at h
                refine ei_pi hb dX6_readsBooking_125 (pc' := 128) (M1 := (qz_mk S198.1 S198.2)) hcn qz_f_6_161 rfl rfl (fun _ => by decide) rfl (by rw [eS198]; rfl) rfl ?_
                refine vM_readsBooking_L128bbbbbbbbbbbbbbbbbb F x5 x9 _ ?_ F S198 _ h
                intro T205 r h
                have h := Option.some.inj h
                subst h
                exact ei_retv hb dX6_readsBooking_161 rfl
              · rw [if_neg c197] at h
                refine ei_ifF hb dX6_readsBooking_103 (pc' := 106) (t := 124) (decide_eq_false c197) (by decide) rfl ?_
                refine ei_aln hb dX6_readsBooking_106 (pc' := 107) rfl rfl ?_
                obtain ⟨x206, e207, h⟩ := Option.bind_eq_some_iff.mp h
                refine ei_cv hb dX6_readsBooking_107 (pc' := 110) (M1 := (qz_mk S196.1 S196.2)) (as := []) (rest := [.inr (some ((6, 0, 0) : qz_N))]) (st' := [.inl x206, .inr (some ((6, 0, 0) : qz_N))]) hcn qz_c_6_158 qz_k_126 (qz_q_128_126) (Nat.le_of_ble_eq_true rfl) (Nat.le_of_ble_eq_true rfl) rfl rfl rfl (vM_sign F S196.1 S196.2 _ e207) rfl rfl ?_
                refine ei_b hb dX6_readsBooking_110 (v := (49 : Int32)) (pc' := 112) (by decide) rfl ?_
                refine ei_b hb dX6_readsBooking_112 (v := (57 : Int32)) (pc' := 114) (by decide) rfl ?_
                refine ei_cs hb dX6_readsBooking_114 (pc' := 117) (M1 := (qz_mk S196.1 S196.2)) (as := [.inl x206, .inl (49 : Int32), .inl (57 : Int32)]) (rest := [.inr (some ((6, 0, 0) : qz_N))]) (st' := [.inl (gM_in S196.1 x206 (49 : Int32) (57 : Int32)), .inr (some ((6, 0, 0) : qz_N))]) hcn qz_c_6_36 rfl qz_k_84 (qz_q_128_84) (Nat.le_of_ble_eq_true rfl) (Nat.le_of_ble_eq_true rfl) rfl rfl (vM_in S196.1 S196.2 x206 (49 : Int32) (57 : Int32)) rfl rfl ?_
                by_cases c208 : (gM_in S196.1 x206 (49 : Int32) (57 : Int32)) = 0
                · rw [if_pos c208] at h
                  refine ei_ifT hb dX6_readsBooking_117 (pc' := 124) (decide_eq_true c208) (by decide) ?_
                  refine ei_c hb dX6_readsBooking_124 (v := (0 : Int32)) (pc' := 125) (by decide) rfl ?_
                  obtain ⟨S209, eS209⟩ : ∃ q, q = qz_wr S196 ((6, 0, 0) : qz_N) 12 (0 : Int32) := ⟨_, rfl⟩
                  rw [qz_let, ← eS209] at h
                  refine ei_pi hb dX6_readsBooking_125 (pc' := 128) (M1 := (qz_mk S209.1 S209.2)) hcn qz_f_6_161 rfl rfl (fun _ => by decide) rfl (by rw [eS209]; rfl) rfl ?_
                  refine vM_readsBooking_L128bbbbbbbbbbbbbbbbbbb F x5 x9 _ ?_ F S209 _ h
                  intro T216 r h
                  have h := Option.some.inj h
                  subst h
                  exact ei_retv hb dX6_readsBooking_161 rfl
                · rw [if_neg c208] at h
                  refine ei_ifF hb dX6_readsBooking_117 (pc' := 120) (t := 124) (decide_eq_false c208) (by decide) rfl ?_
                  refine ei_c hb dX6_readsBooking_120 (v := (1 : Int32)) (pc' := 121) (by decide) rfl ?_
                  refine ei_go hb dX6_readsBooking_121 (pc' := 125) (by decide) ?_
                  obtain ⟨S217, eS217⟩ : ∃ q, q = qz_wr S196 ((6, 0, 0) : qz_N) 12 (1 : Int32) := ⟨_, rfl⟩
                  rw [qz_let, ← eS217] at h
                  refine ei_pi hb dX6_readsBooking_125 (pc' := 128) (M1 := (qz_mk S217.1 S217.2)) hcn qz_f_6_161 rfl rfl (fun _ => by decide) rfl (by rw [eS217]; rfl) rfl ?_
                  refine vM_readsBooking_L128bbbbbbbbbbbbbbbbbbbb F x5 x9 _ ?_ F S217 _ h
                  intro T224 r h
                  have h := Option.some.inj h
                  subst h
                  exact ei_retv hb dX6_readsBooking_161 rfl
            · rw [if_neg c195] at h
              refine ei_ifF hb dX6_readsBooking_86 (pc' := 89) (t := 93) (decide_eq_false c195) (by decide) rfl ?_
              refine ei_c hb dX6_readsBooking_89 (v := (1 : Int32)) (pc' := 90) (by decide) rfl ?_
              refine ei_go hb dX6_readsBooking_90 (pc' := 94) (by decide) ?_
              refine ei_add hb dX6_readsBooking_94 (pc' := 95) rfl ?_
              obtain ⟨S225, eS225⟩ : ∃ q, q = qz_wr S194 ((6, 0, 0) : qz_N) 11 ((S194.1 ((6, 0, 0) : qz_N) 11) + (1 : Int32)) := ⟨_, rfl⟩
              rw [qz_let, ← eS225] at h
              refine ei_pi hb dX6_readsBooking_95 (pc' := 98) (M1 := (qz_mk S225.1 S225.2)) hcn qz_f_6_155 rfl rfl (fun q => by cases q) rfl (by rw [eS225]; rfl) rfl ?_
              refine ei_aln hb dX6_readsBooking_98 (pc' := 99) rfl rfl ?_
              refine ei_aln hb dX6_readsBooking_99 (pc' := 100) rfl rfl ?_
              refine ei_gi hb dX6_readsBooking_100 (pc' := 103) (x := (S225.1 ((6, 0, 0) : qz_N) 12)) hcn qz_f_6_161 rfl rfl rfl rfl ?_
              by_cases c226 : (S225.1 ((6, 0, 0) : qz_N) 12) = 0
              · rw [if_pos c226] at h
                refine ei_ifT hb dX6_readsBooking_103 (pc' := 124) (decide_eq_true c226) (by decide) ?_
                refine ei_c hb dX6_readsBooking_124 (v := (0 : Int32)) (pc' := 125) (by decide) rfl ?_
                obtain ⟨S227, eS227⟩ : ∃ q, q = qz_wr S225 ((6, 0, 0) : qz_N) 12 (0 : Int32) := ⟨_, rfl⟩
                rw [qz_let, ← eS227] at h
                refine ei_pi hb dX6_readsBooking_125 (pc' := 128) (M1 := (qz_mk S227.1 S227.2)) hcn qz_f_6_161 rfl rfl (fun _ => by decide) rfl (by rw [eS227]; rfl) rfl ?_
                refine vM_readsBooking_L128bbbbbbbbbbbbbbbbbbbbb F x5 x9 _ ?_ F S227 _ h
                intro T234 r h
                have h := Option.some.inj h
                subst h
                exact ei_retv hb dX6_readsBooking_161 rfl
              · rw [if_neg c226] at h
                refine ei_ifF hb dX6_readsBooking_103 (pc' := 106) (t := 124) (decide_eq_false c226) (by decide) rfl ?_
                refine ei_aln hb dX6_readsBooking_106 (pc' := 107) rfl rfl ?_
                obtain ⟨x235, e236, h⟩ := Option.bind_eq_some_iff.mp h
                refine ei_cv hb dX6_readsBooking_107 (pc' := 110) (M1 := (qz_mk S225.1 S225.2)) (as := []) (rest := [.inr (some ((6, 0, 0) : qz_N))]) (st' := [.inl x235, .inr (some ((6, 0, 0) : qz_N))]) hcn qz_c_6_158 qz_k_126 (qz_q_128_126) (Nat.le_of_ble_eq_true rfl) (Nat.le_of_ble_eq_true rfl) rfl rfl rfl (vM_sign F S225.1 S225.2 _ e236) rfl rfl ?_
                refine ei_b hb dX6_readsBooking_110 (v := (49 : Int32)) (pc' := 112) (by decide) rfl ?_
                refine ei_b hb dX6_readsBooking_112 (v := (57 : Int32)) (pc' := 114) (by decide) rfl ?_
                refine ei_cs hb dX6_readsBooking_114 (pc' := 117) (M1 := (qz_mk S225.1 S225.2)) (as := [.inl x235, .inl (49 : Int32), .inl (57 : Int32)]) (rest := [.inr (some ((6, 0, 0) : qz_N))]) (st' := [.inl (gM_in S225.1 x235 (49 : Int32) (57 : Int32)), .inr (some ((6, 0, 0) : qz_N))]) hcn qz_c_6_36 rfl qz_k_84 (qz_q_128_84) (Nat.le_of_ble_eq_true rfl) (Nat.le_of_ble_eq_true rfl) rfl rfl (vM_in S225.1 S225.2 x235 (49 : Int32) (57 : Int32)) rfl rfl ?_
                by_cases c237 : (gM_in S225.1 x235 (49 : Int32) (57 : Int32)) = 0
                · rw [if_pos c237] at h
                  refine ei_ifT hb dX6_readsBooking_117 (pc' := 124) (decide_eq_true c237) (by decide) ?_
                  refine ei_c hb dX6_readsBooking_124 (v := (0 : Int32)) (pc' := 125) (by decide) rfl ?_
                  obtain ⟨S238, eS238⟩ : ∃ q, q = qz_wr S225 ((6, 0, 0) : qz_N) 12 (0 : Int32) := ⟨_, rfl⟩
                  rw [qz_let, ← eS238] at h
                  refine ei_pi hb dX6_readsBooking_125 (pc' := 128) (M1 := (qz_mk S238.1 S238.2)) hcn qz_f_6_161 rfl rfl (fun _ => by decide) rfl (by rw [eS238]; rfl) rfl ?_
                  refine vM_readsBooking_L128bbbbbbbbbbbbbbbbbbbbbb F x5 x9 _ ?_ F S238 _ h
                  intro T245 r h
                  have h := Option.some.inj h
                  subst h
                  exact ei_retv hb dX6_readsBooking_161 rfl
                · rw [if_neg c237] at h
                  refine ei_ifF hb dX6_readsBooking_117 (pc' := 120) (t := 124) (decide_eq_false c237) (by decide) rfl ?_
                  refine ei_c hb dX6_readsBooking_120 (v := (1 : Int32)) (pc' := 121) (by decide) rfl ?_
                  refine ei_go hb dX6_readsBooking_121 (pc' := 125) (by decide) ?_
                  obtain ⟨S246, eS246⟩ : ∃ q, q = qz_wr S225 ((6, 0, 0) : qz_N) 12 (1 : Int32) := ⟨_, rfl⟩
                  rw [qz_let, ← eS246] at h
                  refine ei_pi hb dX6_readsBooking_125 (pc' := 128) (M1 := (qz_mk S246.1 S246.2)) hcn qz_f_6_161 rfl rfl (fun _ => by decide) rfl (by rw [eS246]; rfl) rfl ?_
                  refine vM_readsBooking_L128bbbbbbbbbbbbbbbbbbbbbbb F x5 x9 _ ?_ F S246 _ h
                  intro T253 r h
                  have h := Option.some.inj h
                  subst h
                  exact ei_retv hb dX6_readsBooking_161 rfl
    · rw [if_neg c7] at h
      refine ei_ifF hb dX6_readsBooking_32 (pc' := 35) (t := 39) (decide_eq_false c7) (by decide) rfl ?_
      refine ei_c hb dX6_readsBooking_35 (v := (1 : Int32)) (pc' := 36) (by decide) rfl ?_
      refine ei_go hb dX6_readsBooking_36 (pc' := 40) (by decide) ?_
      refine ei_add hb dX6_readsBooking_40 (pc' := 41) rfl ?_
      obtain ⟨S254, eS254⟩ : ∃ q, q = qz_wr S3 ((6, 0, 0) : qz_N) 11 ((S3.1 ((6, 0, 0) : qz_N) 11) + (1 : Int32)) := ⟨_, rfl⟩
      rw [qz_let, ← eS254] at h
      refine ei_pi hb dX6_readsBooking_41 (pc' := 44) (M1 := (qz_mk S254.1 S254.2)) hcn qz_f_6_155 rfl rfl (fun q => by cases q) rfl (by rw [eS254]; rfl) rfl ?_
      refine ei_aln hb dX6_readsBooking_44 (pc' := 45) rfl rfl ?_
      obtain ⟨x255, e256, h⟩ := Option.bind_eq_some_iff.mp h
      refine ei_cv hb dX6_readsBooking_45 (pc' := 48) (M1 := (qz_mk S254.1 S254.2)) (as := []) (rest := []) (st' := [.inl x255]) hcn qz_c_6_158 qz_k_126 (qz_q_128_126) (Nat.le_of_ble_eq_true rfl) (Nat.le_of_ble_eq_true rfl) rfl rfl rfl (vM_sign F S254.1 S254.2 _ e256) rfl rfl ?_
      refine ei_isn hb dX6_readsBooking_48 (pc' := 49) (ls' := [some (.inr (some ((6, 0, 0) : qz_N))), some (.inl (x5 - (48 : Int32))), some (.inl x255)]) (Nat.le_of_ble_eq_true rfl) rfl rfl ?_
      refine ei_aln hb dX6_readsBooking_49 (pc' := 50) rfl rfl ?_
      refine ei_aln hb dX6_readsBooking_50 (pc' := 51) rfl rfl ?_
      refine ei_gi hb dX6_readsBooking_51 (pc' := 54) (x := (S254.1 ((6, 0, 0) : qz_N) 12)) hcn qz_f_6_161 rfl rfl rfl rfl ?_
      by_cases c257 : (S254.1 ((6, 0, 0) : qz_N) 12) = 0
      · rw [if_pos c257] at h
        refine ei_ifT hb dX6_readsBooking_54 (pc' := 73) (decide_eq_true c257) (by decide) ?_
        refine ei_c hb dX6_readsBooking_73 (v := (0 : Int32)) (pc' := 74) (by decide) rfl ?_
        obtain ⟨S258, eS258⟩ : ∃ q, q = qz_wr S254 ((6, 0, 0) : qz_N) 12 (0 : Int32) := ⟨_, rfl⟩
        rw [qz_let, ← eS258] at h
        refine ei_pi hb dX6_readsBooking_74 (pc' := 77) (M1 := (qz_mk S258.1 S258.2)) hcn qz_f_6_161 rfl rfl (fun _ => by decide) rfl (by rw [eS258]; rfl) rfl ?_
        refine ei_aln hb dX6_readsBooking_77 (pc' := 78) rfl rfl ?_
        refine ei_dup hb dX6_readsBooking_78 (pc' := 79) rfl ?_
        refine ei_gi hb dX6_readsBooking_79 (pc' := 82) (x := (S258.1 ((6, 0, 0) : qz_N) 11)) hcn qz_f_6_155 rfl rfl rfl rfl ?_
        refine ei_aln hb dX6_readsBooking_82 (pc' := 83) rfl rfl ?_
        refine ei_gi hb dX6_readsBooking_83 (pc' := 86) (x := (S258.1 ((6, 0, 0) : qz_N) 12)) hcn qz_f_6_161 rfl rfl rfl rfl ?_
        by_cases c259 : (S258.1 ((6, 0, 0) : qz_N) 12) = 0
        · rw [if_pos c259] at h
          refine ei_ifT hb dX6_readsBooking_86 (pc' := 93) (decide_eq_true c259) (by decide) ?_
          refine ei_c hb dX6_readsBooking_93 (v := (0 : Int32)) (pc' := 94) (by decide) rfl ?_
          refine ei_add hb dX6_readsBooking_94 (pc' := 95) rfl ?_
          obtain ⟨S260, eS260⟩ : ∃ q, q = qz_wr S258 ((6, 0, 0) : qz_N) 11 ((S258.1 ((6, 0, 0) : qz_N) 11) + (0 : Int32)) := ⟨_, rfl⟩
          rw [qz_let, ← eS260] at h
          refine ei_pi hb dX6_readsBooking_95 (pc' := 98) (M1 := (qz_mk S260.1 S260.2)) hcn qz_f_6_155 rfl rfl (fun q => by cases q) rfl (by rw [eS260]; rfl) rfl ?_
          refine ei_aln hb dX6_readsBooking_98 (pc' := 99) rfl rfl ?_
          refine ei_aln hb dX6_readsBooking_99 (pc' := 100) rfl rfl ?_
          refine ei_gi hb dX6_readsBooking_100 (pc' := 103) (x := (S260.1 ((6, 0, 0) : qz_N) 12)) hcn qz_f_6_161 rfl rfl rfl rfl ?_
          by_cases c261 : (S260.1 ((6, 0, 0) : qz_N) 12) = 0
          · rw [if_pos c261] at h
            refine ei_ifT hb dX6_readsBooking_103 (pc' := 124) (decide_eq_true c261) (by decide) ?_
            refine ei_c hb dX6_readsBooking_124 (v := (0 : Int32)) (pc' := 125) (by decide) rfl ?_
            obtain ⟨S262, eS262⟩ : ∃ q, q = qz_wr S260 ((6, 0, 0) : qz_N) 12 (0 : Int32) := ⟨_, rfl⟩
            rw [qz_let, ← eS262] at h
            refine ei_pi hb dX6_readsBooking_125 (pc' := 128) (M1 := (qz_mk S262.1 S262.2)) hcn qz_f_6_161 rfl rfl (fun _ => by decide) rfl (by rw [eS262]; rfl) rfl ?_
            refine vM_readsBooking_L128bbbbbbbbbbbbbbbbbbbbbbbb F x5 x255 _ ?_ F S262 _ h
            intro T269 r h
            have h := Option.some.inj h
            subst h
            exact ei_retv hb dX6_readsBooking_161 rfl
          · rw [if_neg c261] at h
            refine ei_ifF hb dX6_readsBooking_103 (pc' := 106) (t := 124) (decide_eq_false c261) (by decide) rfl ?_
            refine ei_aln hb dX6_readsBooking_106 (pc' := 107) rfl rfl ?_
            obtain ⟨x270, e271, h⟩ := Option.bind_eq_some_iff.mp h
            refine ei_cv hb dX6_readsBooking_107 (pc' := 110) (M1 := (qz_mk S260.1 S260.2)) (as := []) (rest := [.inr (some ((6, 0, 0) : qz_N))]) (st' := [.inl x270, .inr (some ((6, 0, 0) : qz_N))]) hcn qz_c_6_158 qz_k_126 (qz_q_128_126) (Nat.le_of_ble_eq_true rfl) (Nat.le_of_ble_eq_true rfl) rfl rfl rfl (vM_sign F S260.1 S260.2 _ e271) rfl rfl ?_
            refine ei_b hb dX6_readsBooking_110 (v := (49 : Int32)) (pc' := 112) (by decide) rfl ?_
            refine ei_b hb dX6_readsBooking_112 (v := (57 : Int32)) (pc' := 114) (by decide) rfl ?_
            refine ei_cs hb dX6_readsBooking_114 (pc' := 117) (M1 := (qz_mk S260.1 S260.2)) (as := [.inl x270, .inl (49 : Int32), .inl (57 : Int32)]) (rest := [.inr (some ((6, 0, 0) : qz_N))]) (st' := [.inl (gM_in S260.1 x270 (49 : Int32) (57 : Int32)), .inr (some ((6, 0, 0) : qz_N))]) hcn qz_c_6_36 rfl qz_k_84 (qz_q_128_84) (Nat.le_of_ble_eq_true rfl) (Nat.le_of_ble_eq_true rfl) rfl rfl (vM_in S260.1 S260.2 x270 (49 : Int32) (57 : Int32)) rfl rfl ?_
            by_cases c272 : (gM_in S260.1 x270 (49 : Int32) (57 : Int32)) = 0
            · rw [if_pos c272] at h
              refine ei_ifT hb dX6_readsBooking_117 (pc' := 124) (decide_eq_true c272) (by decide) ?_
              refine ei_c hb dX6_readsBooking_124 (v := (0 : Int32)) (pc' := 125) (by decide) rfl ?_
              obtain ⟨S273, eS273⟩ : ∃ q, q = qz_wr S260 ((6, 0, 0) : qz_N) 12 (0 : Int32) := ⟨_, rfl⟩
              rw [qz_let, ← eS273] at h
              refine ei_pi hb dX6_readsBooking_125 (pc' := 128) (M1 := (qz_mk S273.1 S273.2)) hcn qz_f_6_161 rfl rfl (fun _ => by decide) rfl (by rw [eS273]; rfl) rfl ?_
              refine vM_readsBooking_L128bbbbbbbbbbbbbbbbbbbbbbbbb F x5 x255 _ ?_ F S273 _ h
              intro T280 r h
              have h := Option.some.inj h
              subst h
              exact ei_retv hb dX6_readsBooking_161 rfl
            · rw [if_neg c272] at h
              refine ei_ifF hb dX6_readsBooking_117 (pc' := 120) (t := 124) (decide_eq_false c272) (by decide) rfl ?_
              refine ei_c hb dX6_readsBooking_120 (v := (1 : Int32)) (pc' := 121) (by decide) rfl ?_
              refine ei_go hb dX6_readsBooking_121 (pc' := 125) (by decide) ?_
              obtain ⟨S281, eS281⟩ : ∃ q, q = qz_wr S260 ((6, 0, 0) : qz_N) 12 (1 : Int32) := ⟨_, rfl⟩
              rw [qz_let, ← eS281] at h
              refine ei_pi hb dX6_readsBooking_125 (pc' := 128) (M1 := (qz_mk S281.1 S281.2)) hcn qz_f_6_161 rfl rfl (fun _ => by decide) rfl (by rw [eS281]; rfl) rfl ?_
              refine vM_readsBooking_L128bbbbbbbbbbbbbbbbbbbbbbbbbb F x5 x255 _ ?_ F S281 _ h
              intro T288 r h
              have h := Option.some.inj h
              subst h
              exact ei_retv hb dX6_readsBooking_161 rfl
        · rw [if_neg c259] at h
          refine ei_ifF hb dX6_readsBooking_86 (pc' := 89) (t := 93) (decide_eq_false c259) (by decide) rfl ?_
          refine ei_c hb dX6_readsBooking_89 (v := (1 : Int32)) (pc' := 90) (by decide) rfl ?_
          refine ei_go hb dX6_readsBooking_90 (pc' := 94) (by decide) ?_
          refine ei_add hb dX6_readsBooking_94 (pc' := 95) rfl ?_
          obtain ⟨S289, eS289⟩ : ∃ q, q = qz_wr S258 ((6, 0, 0) : qz_N) 11 ((S258.1 ((6, 0, 0) : qz_N) 11) + (1 : Int32)) := ⟨_, rfl⟩
          rw [qz_let, ← eS289] at h
          refine ei_pi hb dX6_readsBooking_95 (pc' := 98) (M1 := (qz_mk S289.1 S289.2)) hcn qz_f_6_155 rfl rfl (fun q => by cases q) rfl (by rw [eS289]; rfl) rfl ?_
          refine ei_aln hb dX6_readsBooking_98 (pc' := 99) rfl rfl ?_
          refine ei_aln hb dX6_readsBooking_99 (pc' := 100) rfl rfl ?_
          refine ei_gi hb dX6_readsBooking_100 (pc' := 103) (x := (S289.1 ((6, 0, 0) : qz_N) 12)) hcn qz_f_6_161 rfl rfl rfl rfl ?_
          by_cases c290 : (S289.1 ((6, 0, 0) : qz_N) 12) = 0
          · rw [if_pos c290] at h
            refine ei_ifT hb dX6_readsBooking_103 (pc' := 124) (decide_eq_true c290) (by decide) ?_
            refine ei_c hb dX6_readsBooking_124 (v := (0 : Int32)) (pc' := 125) (by decide) rfl ?_
            obtain ⟨S291, eS291⟩ : ∃ q, q = qz_wr S289 ((6, 0, 0) : qz_N) 12 (0 : Int32) := ⟨_, rfl⟩
            rw [qz_let, ← eS291] at h
            refine ei_pi hb dX6_readsBooking_125 (pc' := 128) (M1 := (qz_mk S291.1 S291.2)) hcn qz_f_6_161 rfl rfl (fun _ => by decide) rfl (by rw [eS291]; rfl) rfl ?_
            refine vM_readsBooking_L128bbbbbbbbbbbbbbbbbbbbbbbbbbb F x5 x255 _ ?_ F S291 _ h
            intro T298 r h
            have h := Option.some.inj h
            subst h
            exact ei_retv hb dX6_readsBooking_161 rfl
          · rw [if_neg c290] at h
            refine ei_ifF hb dX6_readsBooking_103 (pc' := 106) (t := 124) (decide_eq_false c290) (by decide) rfl ?_
            refine ei_aln hb dX6_readsBooking_106 (pc' := 107) rfl rfl ?_
            obtain ⟨x299, e300, h⟩ := Option.bind_eq_some_iff.mp h
            refine ei_cv hb dX6_readsBooking_107 (pc' := 110) (M1 := (qz_mk S289.1 S289.2)) (as := []) (rest := [.inr (some ((6, 0, 0) : qz_N))]) (st' := [.inl x299, .inr (some ((6, 0, 0) : qz_N))]) hcn qz_c_6_158 qz_k_126 (qz_q_128_126) (Nat.le_of_ble_eq_true rfl) (Nat.le_of_ble_eq_true rfl) rfl rfl rfl (vM_sign F S289.1 S289.2 _ e300) rfl rfl ?_
            refine ei_b hb dX6_readsBooking_110 (v := (49 : Int32)) (pc' := 112) (by decide) rfl ?_
            refine ei_b hb dX6_readsBooking_112 (v := (57 : Int32)) (pc' := 114) (by decide) rfl ?_
            refine ei_cs hb dX6_readsBooking_114 (pc' := 117) (M1 := (qz_mk S289.1 S289.2)) (as := [.inl x299, .inl (49 : Int32), .inl (57 : Int32)]) (rest := [.inr (some ((6, 0, 0) : qz_N))]) (st' := [.inl (gM_in S289.1 x299 (49 : Int32) (57 : Int32)), .inr (some ((6, 0, 0) : qz_N))]) hcn qz_c_6_36 rfl qz_k_84 (qz_q_128_84) (Nat.le_of_ble_eq_true rfl) (Nat.le_of_ble_eq_true rfl) rfl rfl (vM_in S289.1 S289.2 x299 (49 : Int32) (57 : Int32)) rfl rfl ?_
            by_cases c301 : (gM_in S289.1 x299 (49 : Int32) (57 : Int32)) = 0
            · rw [if_pos c301] at h
              refine ei_ifT hb dX6_readsBooking_117 (pc' := 124) (decide_eq_true c301) (by decide) ?_
              refine ei_c hb dX6_readsBooking_124 (v := (0 : Int32)) (pc' := 125) (by decide) rfl ?_
              obtain ⟨S302, eS302⟩ : ∃ q, q = qz_wr S289 ((6, 0, 0) : qz_N) 12 (0 : Int32) := ⟨_, rfl⟩
              rw [qz_let, ← eS302] at h
              refine ei_pi hb dX6_readsBooking_125 (pc' := 128) (M1 := (qz_mk S302.1 S302.2)) hcn qz_f_6_161 rfl rfl (fun _ => by decide) rfl (by rw [eS302]; rfl) rfl ?_
              refine vM_readsBooking_L128bbbbbbbbbbbbbbbbbbbbbbbbbbbb F x5 x255 _ ?_ F S302 _ h
              intro T309 r h
              have h := Option.some.inj h
              subst h
              exact ei_retv hb dX6_readsBooking_161 rfl
            · rw [if_neg c301] at h
              refine ei_ifF hb dX6_readsBooking_117 (pc' := 120) (t := 124) (decide_eq_false c301) (by decide) rfl ?_
              refine ei_c hb dX6_readsBooking_120 (v := (1 : Int32)) (pc' := 121) (by decide) rfl ?_
              refine ei_go hb dX6_readsBooking_121 (pc' := 125) (by decide) ?_
              obtain ⟨S310, eS310⟩ : ∃ q, q = qz_wr S289 ((6, 0, 0) : qz_N) 12 (1 : Int32) := ⟨_, rfl⟩
              rw [qz_let, ← eS310] at h
              refine ei_pi hb dX6_readsBooking_125 (pc' := 128) (M1 := (qz_mk S310.1 S310.2)) hcn qz_f_6_161 rfl rfl (fun _ => by decide) rfl (by rw [eS310]; rfl) rfl ?_
              refine vM_readsBooking_L128bbbbbbbbbbbbbbbbbbbbbbbbbbbbb F x5 x255 _ ?_ F S310 _ h
              intro T317 r h
              have h := Option.some.inj h
              subst h
              exact ei_retv hb dX6_readsBooking_161 rfl
      · rw [if_neg c257] at h
        refine ei_ifF hb dX6_readsBooking_54 (pc' := 57) (t := 73) (decide_eq_false c257) (by decide) rfl ?_
        refine ei_iln hb dX6_readsBooking_57 (pc' := 58) rfl rfl ?_
        refine ei_b hb dX6_readsBooking_58 (v := (97 : Int32)) (pc' := 60) (by decide) rfl ?_
        by_cases c318 : x255 = (97 : Int32)
        · rw [if_pos c318] at h
          refine ei_icT hb dX6_readsBooking_60 (pc' := 69) (decide_eq_true c318) (by decide) ?_
          refine ei_c hb dX6_readsBooking_69 (v := (1 : Int32)) (pc' := 70) (by decide) rfl ?_
          refine ei_go hb dX6_readsBooking_70 (pc' := 74) (by decide) ?_
          obtain ⟨S319, eS319⟩ : ∃ q, q = qz_wr S254 ((6, 0, 0) : qz_N) 12 (1 : Int32) := ⟨_, rfl⟩
          rw [qz_let, ← eS319] at h
          refine ei_pi hb dX6_readsBooking_74 (pc' := 77) (M1 := (qz_mk S319.1 S319.2)) hcn qz_f_6_161 rfl rfl (fun _ => by decide) rfl (by rw [eS319]; rfl) rfl ?_
          refine ei_aln hb dX6_readsBooking_77 (pc' := 78) rfl rfl ?_
          refine ei_dup hb dX6_readsBooking_78 (pc' := 79) rfl ?_
          refine ei_gi hb dX6_readsBooking_79 (pc' := 82) (x := (S319.1 ((6, 0, 0) : qz_N) 11)) hcn qz_f_6_155 rfl rfl rfl rfl ?_
          refine ei_aln hb dX6_readsBooking_82 (pc' := 83) rfl rfl ?_
          refine ei_gi hb dX6_readsBooking_83 (pc' := 86) (x := (S319.1 ((6, 0, 0) : qz_N) 12)) hcn qz_f_6_161 rfl rfl rfl rfl ?_
          by_cases c320 : (S319.1 ((6, 0, 0) : qz_N) 12) = 0
          · rw [if_pos c320] at h
            refine ei_ifT hb dX6_readsBooking_86 (pc' := 93) (decide_eq_true c320) (by decide) ?_
            refine ei_c hb dX6_readsBooking_93 (v := (0 : Int32)) (pc' := 94) (by decide) rfl ?_
            refine ei_add hb dX6_readsBooking_94 (pc' := 95) rfl ?_
            obtain ⟨S321, eS321⟩ : ∃ q, q = qz_wr S319 ((6, 0, 0) : qz_N) 11 ((S319.1 ((6, 0, 0) : qz_N) 11) + (0 : Int32)) := ⟨_, rfl⟩
            rw [qz_let, ← eS321] at h
            refine ei_pi hb dX6_readsBooking_95 (pc' := 98) (M1 := (qz_mk S321.1 S321.2)) hcn qz_f_6_155 rfl rfl (fun q => by cases q) rfl (by rw [eS321]; rfl) rfl ?_
            refine ei_aln hb dX6_readsBooking_98 (pc' := 99) rfl rfl ?_
            refine ei_aln hb dX6_readsBooking_99 (pc' := 100) rfl rfl ?_
            refine ei_gi hb dX6_readsBooking_100 (pc' := 103) (x := (S321.1 ((6, 0, 0) : qz_N) 12)) hcn qz_f_6_161 rfl rfl rfl rfl ?_
            by_cases c322 : (S321.1 ((6, 0, 0) : qz_N) 12) = 0
            · rw [if_pos c322] at h
              refine ei_ifT hb dX6_readsBooking_103 (pc' := 124) (decide_eq_true c322) (by decide) ?_
              refine ei_c hb dX6_readsBooking_124 (v := (0 : Int32)) (pc' := 125) (by decide) rfl ?_
              obtain ⟨S323, eS323⟩ : ∃ q, q = qz_wr S321 ((6, 0, 0) : qz_N) 12 (0 : Int32) := ⟨_, rfl⟩
              rw [qz_let, ← eS323] at h
              refine ei_pi hb dX6_readsBooking_125 (pc' := 128) (M1 := (qz_mk S323.1 S323.2)) hcn qz_f_6_161 rfl rfl (fun _ => by decide) rfl (by rw [eS323]; rfl) rfl ?_
              refine vM_readsBooking_L128bbbbbbbbbbbbbbbbbbbbbbbbbbbbbb F x5 x255 _ ?_ F S323 _ h
              intro T330 r h
              have h := Option.some.inj h
              subst h
              exact ei_retv hb dX6_readsBooking_161 rfl
            · rw [if_neg c322] at h
              refine ei_ifF hb dX6_readsBooking_103 (pc' := 106) (t := 124) (decide_eq_false c322) (by decide) rfl ?_
              refine ei_aln hb dX6_readsBooking_106 (pc' := 107) rfl rfl ?_
              obtain ⟨x331, e332, h⟩ := Option.bind_eq_some_iff.mp h
              refine ei_cv hb dX6_readsBooking_107 (pc' := 110) (M1 := (qz_mk S321.1 S321.2)) (as := []) (rest := [.inr (some ((6, 0, 0) : qz_N))]) (st' := [.inl x331, .inr (some ((6, 0, 0) : qz_N))]) hcn qz_c_6_158 qz_k_126 (qz_q_128_126) (Nat.le_of_ble_eq_true rfl) (Nat.le_of_ble_eq_true rfl) rfl rfl rfl (vM_sign F S321.1 S321.2 _ e332) rfl rfl ?_
              refine ei_b hb dX6_readsBooking_110 (v := (49 : Int32)) (pc' := 112) (by decide) rfl ?_
              refine ei_b hb dX6_readsBooking_112 (v := (57 : Int32)) (pc' := 114) (by decide) rfl ?_
              refine ei_cs hb dX6_readsBooking_114 (pc' := 117) (M1 := (qz_mk S321.1 S321.2)) (as := [.inl x331, .inl (49 : Int32), .inl (57 : Int32)]) (rest := [.inr (some ((6, 0, 0) : qz_N))]) (st' := [.inl (gM_in S321.1 x331 (49 : Int32) (57 : Int32)), .inr (some ((6, 0, 0) : qz_N))]) hcn qz_c_6_36 rfl qz_k_84 (qz_q_128_84) (Nat.le_of_ble_eq_true rfl) (Nat.le_of_ble_eq_true rfl) rfl rfl (vM_in S321.1 S321.2 x331 (49 : Int32) (57 : Int32)) rfl rfl ?_
              by_cases c333 : (gM_in S321.1 x331 (49 : Int32) (57 : Int32)) = 0
              · rw [if_pos c333] at h
                refine ei_ifT hb dX6_readsBooking_117 (pc' := 124) (decide_eq_true c333) (by decide) ?_
                refine ei_c hb dX6_readsBooking_124 (v := (0 : Int32)) (pc' := 125) (by decide) rfl ?_
                obtain ⟨S334, eS334⟩ : ∃ q, q = qz_wr S321 ((6, 0, 0) : qz_N) 12 (0 : Int32) := ⟨_, rfl⟩
                rw [qz_let, ← eS334] at h
                refine ei_pi hb dX6_readsBooking_125 (pc' := 128) (M1 := (qz_mk S334.1 S334.2)) hcn qz_f_6_161 rfl rfl (fun _ => by decide) rfl (by rw [eS334]; rfl) rfl ?_
                refine vM_readsBooking_L128bbbbbbbbbbbbbbbbbbbbbbbbbbbbbbb F x5 x255 _ ?_ F S334 _ h
                intro T341 r h
                have h := Option.some.inj h
                subst h
                exact ei_retv hb dX6_readsBooking_161 rfl
              · rw [if_neg c333] at h
                refine ei_ifF hb dX6_readsBooking_117 (pc' := 120) (t := 124) (decide_eq_false c333) (by decide) rfl ?_
                refine ei_c hb dX6_readsBooking_120 (v := (1 : Int32)) (pc' := 121) (by decide) rfl ?_
                refine ei_go hb dX6_readsBooking_121 (pc' := 125) (by decide) ?_
                obtain ⟨S342, eS342⟩ : ∃ q, q = qz_wr S321 ((6, 0, 0) : qz_N) 12 (1 : Int32) := ⟨_, rfl⟩
                rw [qz_let, ← eS342] at h
                refine ei_pi hb dX6_readsBooking_125 (pc' := 128) (M1 := (qz_mk S342.1 S342.2)) hcn qz_f_6_161 rfl rfl (fun _ => by decide) rfl (by rw [eS342]; rfl) rfl ?_
                refine vM_readsBooking_L128bbbbbbbbbbbbbbbbbbbbbbbbbbbbbbbb F x5 x255 _ ?_ F S342 _ h
                intro T349 r h
                have h := Option.some.inj h
                subst h
                exact ei_retv hb dX6_readsBooking_161 rfl
          · rw [if_neg c320] at h
            refine ei_ifF hb dX6_readsBooking_86 (pc' := 89) (t := 93) (decide_eq_false c320) (by decide) rfl ?_
            refine ei_c hb dX6_readsBooking_89 (v := (1 : Int32)) (pc' := 90) (by decide) rfl ?_
            refine ei_go hb dX6_readsBooking_90 (pc' := 94) (by decide) ?_
            refine ei_add hb dX6_readsBooking_94 (pc' := 95) rfl ?_
            obtain ⟨S350, eS350⟩ : ∃ q, q = qz_wr S319 ((6, 0, 0) : qz_N) 11 ((S319.1 ((6, 0, 0) : qz_N) 11) + (1 : Int32)) := ⟨_, rfl⟩
            rw [qz_let, ← eS350] at h
            refine ei_pi hb dX6_readsBooking_95 (pc' := 98) (M1 := (qz_mk S350.1 S350.2)) hcn qz_f_6_155 rfl rfl (fun q => by cases q) rfl (by rw [eS350]; rfl) rfl ?_
            refine ei_aln hb dX6_readsBooking_98 (pc' := 99) rfl rfl ?_
            refine ei_aln hb dX6_readsBooking_99 (pc' := 100) rfl rfl ?_
            refine ei_gi hb dX6_readsBooking_100 (pc' := 103) (x := (S350.1 ((6, 0, 0) : qz_N) 12)) hcn qz_f_6_161 rfl rfl rfl rfl ?_
            by_cases c351 : (S350.1 ((6, 0, 0) : qz_N) 12) = 0
            · rw [if_pos c351] at h
              refine ei_ifT hb dX6_readsBooking_103 (pc' := 124) (decide_eq_true c351) (by decide) ?_
              refine ei_c hb dX6_readsBooking_124 (v := (0 : Int32)) (pc' := 125) (by decide) rfl ?_
              obtain ⟨S352, eS352⟩ : ∃ q, q = qz_wr S350 ((6, 0, 0) : qz_N) 12 (0 : Int32) := ⟨_, rfl⟩
              rw [qz_let, ← eS352] at h
              refine ei_pi hb dX6_readsBooking_125 (pc' := 128) (M1 := (qz_mk S352.1 S352.2)) hcn qz_f_6_161 rfl rfl (fun _ => by decide) rfl (by rw [eS352]; rfl) rfl ?_
              refine vM_readsBooking_L128bbbbbbbbbbbbbbbbbbbbbbbbbbbbbbbbb F x5 x255 _ ?_ F S352 _ h
              intro T359 r h
              have h := Option.some.inj h
              subst h
              exact ei_retv hb dX6_readsBooking_161 rfl
            · rw [if_neg c351] at h
              refine ei_ifF hb dX6_readsBooking_103 (pc' := 106) (t := 124) (decide_eq_false c351) (by decide) rfl ?_
              refine ei_aln hb dX6_readsBooking_106 (pc' := 107) rfl rfl ?_
              obtain ⟨x360, e361, h⟩ := Option.bind_eq_some_iff.mp h
              refine ei_cv hb dX6_readsBooking_107 (pc' := 110) (M1 := (qz_mk S350.1 S350.2)) (as := []) (rest := [.inr (some ((6, 0, 0) : qz_N))]) (st' := [.inl x360, .inr (some ((6, 0, 0) : qz_N))]) hcn qz_c_6_158 qz_k_126 (qz_q_128_126) (Nat.le_of_ble_eq_true rfl) (Nat.le_of_ble_eq_true rfl) rfl rfl rfl (vM_sign F S350.1 S350.2 _ e361) rfl rfl ?_
              refine ei_b hb dX6_readsBooking_110 (v := (49 : Int32)) (pc' := 112) (by decide) rfl ?_
              refine ei_b hb dX6_readsBooking_112 (v := (57 : Int32)) (pc' := 114) (by decide) rfl ?_
              refine ei_cs hb dX6_readsBooking_114 (pc' := 117) (M1 := (qz_mk S350.1 S350.2)) (as := [.inl x360, .inl (49 : Int32), .inl (57 : Int32)]) (rest := [.inr (some ((6, 0, 0) : qz_N))]) (st' := [.inl (gM_in S350.1 x360 (49 : Int32) (57 : Int32)), .inr (some ((6, 0, 0) : qz_N))]) hcn qz_c_6_36 rfl qz_k_84 (qz_q_128_84) (Nat.le_of_ble_eq_true rfl) (Nat.le_of_ble_eq_true rfl) rfl rfl (vM_in S350.1 S350.2 x360 (49 : Int32) (57 : Int32)) rfl rfl ?_
              by_cases c362 : (gM_in S350.1 x360 (49 : Int32) (57 : Int32)) = 0
              · rw [if_pos c362] at h
                refine ei_ifT hb dX6_readsBooking_117 (pc' := 124) (decide_eq_true c362) (by decide) ?_
                refine ei_c hb dX6_readsBooking_124 (v := (0 : Int32)) (pc' := 125) (by decide) rfl ?_
                obtain ⟨S363, eS363⟩ : ∃ q, q = qz_wr S350 ((6, 0, 0) : qz_N) 12 (0 : Int32) := ⟨_, rfl⟩
                rw [qz_let, ← eS363] at h
                refine ei_pi hb dX6_readsBooking_125 (pc' := 128) (M1 := (qz_mk S363.1 S363.2)) hcn qz_f_6_161 rfl rfl (fun _ => by decide) rfl (by rw [eS363]; rfl) rfl ?_
                refine vM_readsBooking_L128bbbbbbbbbbbbbbbbbbbbbbbbbbbbbbbbbb F x5 x255 _ ?_ F S363 _ h
                intro T370 r h
                have h := Option.some.inj h
                subst h
                exact ei_retv hb dX6_readsBooking_161 rfl
              · rw [if_neg c362] at h
                refine ei_ifF hb dX6_readsBooking_117 (pc' := 120) (t := 124) (decide_eq_false c362) (by decide) rfl ?_
                refine ei_c hb dX6_readsBooking_120 (v := (1 : Int32)) (pc' := 121) (by decide) rfl ?_
                refine ei_go hb dX6_readsBooking_121 (pc' := 125) (by decide) ?_
                obtain ⟨S371, eS371⟩ : ∃ q, q = qz_wr S350 ((6, 0, 0) : qz_N) 12 (1 : Int32) := ⟨_, rfl⟩
                rw [qz_let, ← eS371] at h
                refine ei_pi hb dX6_readsBooking_125 (pc' := 128) (M1 := (qz_mk S371.1 S371.2)) hcn qz_f_6_161 rfl rfl (fun _ => by decide) rfl (by rw [eS371]; rfl) rfl ?_
                refine vM_readsBooking_L128bbbbbbbbbbbbbbbbbbbbbbbbbbbbbbbbbbb F x5 x255 _ ?_ F S371 _ h
                intro T378 r h
                have h := Option.some.inj h
                subst h
                exact ei_retv hb dX6_readsBooking_161 rfl
        · rw [if_neg c318] at h
          refine ei_icF hb dX6_readsBooking_60 (pc' := 63) (t := 69) (decide_eq_false c318) (by decide) rfl ?_
          refine ei_iln hb dX6_readsBooking_63 (pc' := 64) rfl rfl ?_
          refine ei_b hb dX6_readsBooking_64 (v := (98 : Int32)) (pc' := 66) (by decide) rfl ?_
          by_cases c379 : x255 = (98 : Int32)
          · rw [if_pos c379] at h
            refine ei_icF hb dX6_readsBooking_66 (pc' := 69) (t := 73) (decide_eq_false (fun q => q c379)) (by decide) rfl ?_
            refine ei_c hb dX6_readsBooking_69 (v := (1 : Int32)) (pc' := 70) (by decide) rfl ?_
            refine ei_go hb dX6_readsBooking_70 (pc' := 74) (by decide) ?_
            obtain ⟨S380, eS380⟩ : ∃ q, q = qz_wr S254 ((6, 0, 0) : qz_N) 12 (1 : Int32) := ⟨_, rfl⟩
            rw [qz_let, ← eS380] at h
            refine ei_pi hb dX6_readsBooking_74 (pc' := 77) (M1 := (qz_mk S380.1 S380.2)) hcn qz_f_6_161 rfl rfl (fun _ => by decide) rfl (by rw [eS380]; rfl) rfl ?_
            refine ei_aln hb dX6_readsBooking_77 (pc' := 78) rfl rfl ?_
            refine ei_dup hb dX6_readsBooking_78 (pc' := 79) rfl ?_
            refine ei_gi hb dX6_readsBooking_79 (pc' := 82) (x := (S380.1 ((6, 0, 0) : qz_N) 11)) hcn qz_f_6_155 rfl rfl rfl rfl ?_
            refine ei_aln hb dX6_readsBooking_82 (pc' := 83) rfl rfl ?_
            refine ei_gi hb dX6_readsBooking_83 (pc' := 86) (x := (S380.1 ((6, 0, 0) : qz_N) 12)) hcn qz_f_6_161 rfl rfl rfl rfl ?_
            by_cases c381 : (S380.1 ((6, 0, 0) : qz_N) 12) = 0
            · rw [if_pos c381] at h
              refine ei_ifT hb dX6_readsBooking_86 (pc' := 93) (decide_eq_true c381) (by decide) ?_
              refine ei_c hb dX6_readsBooking_93 (v := (0 : Int32)) (pc' := 94) (by decide) rfl ?_
              refine ei_add hb dX6_readsBooking_94 (pc' := 95) rfl ?_
              obtain ⟨S382, eS382⟩ : ∃ q, q = qz_wr S380 ((6, 0, 0) : qz_N) 11 ((S380.1 ((6, 0, 0) : qz_N) 11) + (0 : Int32)) := ⟨_, rfl⟩
              rw [qz_let, ← eS382] at h
              refine ei_pi hb dX6_readsBooking_95 (pc' := 98) (M1 := (qz_mk S382.1 S382.2)) hcn qz_f_6_155 rfl rfl (fun q => by cases q) rfl (by rw [eS382]; rfl) rfl ?_
              refine ei_aln hb dX6_readsBooking_98 (pc' := 99) rfl rfl ?_
              refine ei_aln hb dX6_readsBooking_99 (pc' := 100) rfl rfl ?_
              refine ei_gi hb dX6_readsBooking_100 (pc' := 103) (x := (S382.1 ((6, 0, 0) : qz_N) 12)) hcn qz_f_6_161 rfl rfl rfl rfl ?_
              by_cases c383 : (S382.1 ((6, 0, 0) : qz_N) 12) = 0
              · rw [if_pos c383] at h
                refine ei_ifT hb dX6_readsBooking_103 (pc' := 124) (decide_eq_true c383) (by decide) ?_
                refine ei_c hb dX6_readsBooking_124 (v := (0 : Int32)) (pc' := 125) (by decide) rfl ?_
                obtain ⟨S384, eS384⟩ : ∃ q, q = qz_wr S382 ((6, 0, 0) : qz_N) 12 (0 : Int32) := ⟨_, rfl⟩
                rw [qz_let, ← eS384] at h
                refine ei_pi hb dX6_readsBooking_125 (pc' := 128) (M1 := (qz_mk S384.1 S384.2)) hcn qz_f_6_161 rfl rfl (fun _ => by decide) rfl (by rw [eS384]; rfl) rfl ?_
                refine vM_readsBooking_L128bbbbbbbbbbbbbbbbbbbbbbbbbbbbbbbbbbbb F x5 x255 _ ?_ F S384 _ h
                intro T391 r h
                have h := Option.some.inj h
                subst h
                exact ei_retv hb dX6_readsBooking_161 rfl
              · rw [if_neg c383] at h
                refine ei_ifF hb dX6_readsBooking_103 (pc' := 106) (t := 124) (decide_eq_false c383) (by decide) rfl ?_
                refine ei_aln hb dX6_readsBooking_106 (pc' := 107) rfl rfl ?_
                obtain ⟨x392, e393, h⟩ := Option.bind_eq_some_iff.mp h
                refine ei_cv hb dX6_readsBooking_107 (pc' := 110) (M1 := (qz_mk S382.1 S382.2)) (as := []) (rest := [.inr (some ((6, 0, 0) : qz_N))]) (st' := [.inl x392, .inr (some ((6, 0, 0) : qz_N))]) hcn qz_c_6_158 qz_k_126 (qz_q_128_126) (Nat.le_of_ble_eq_true rfl) (Nat.le_of_ble_eq_true rfl) rfl rfl rfl (vM_sign F S382.1 S382.2 _ e393) rfl rfl ?_
                refine ei_b hb dX6_readsBooking_110 (v := (49 : Int32)) (pc' := 112) (by decide) rfl ?_
                refine ei_b hb dX6_readsBooking_112 (v := (57 : Int32)) (pc' := 114) (by decide) rfl ?_
                refine ei_cs hb dX6_readsBooking_114 (pc' := 117) (M1 := (qz_mk S382.1 S382.2)) (as := [.inl x392, .inl (49 : Int32), .inl (57 : Int32)]) (rest := [.inr (some ((6, 0, 0) : qz_N))]) (st' := [.inl (gM_in S382.1 x392 (49 : Int32) (57 : Int32)), .inr (some ((6, 0, 0) : qz_N))]) hcn qz_c_6_36 rfl qz_k_84 (qz_q_128_84) (Nat.le_of_ble_eq_true rfl) (Nat.le_of_ble_eq_true rfl) rfl rfl (vM_in S382.1 S382.2 x392 (49 : Int32) (57 : Int32)) rfl rfl ?_
                by_cases c394 : (gM_in S382.1 x392 (49 : Int32) (57 : Int32)) = 0
                · rw [if_pos c394] at h
                  refine ei_ifT hb dX6_readsBooking_117 (pc' := 124) (decide_eq_true c394) (by decide) ?_
                  refine ei_c hb dX6_readsBooking_124 (v := (0 : Int32)) (pc' := 125) (by decide) rfl ?_
                  obtain ⟨S395, eS395⟩ : ∃ q, q = qz_wr S382 ((6, 0, 0) : qz_N) 12 (0 : Int32) := ⟨_, rfl⟩
                  rw [qz_let, ← eS395] at h
                  refine ei_pi hb dX6_readsBooking_125 (pc' := 128) (M1 := (qz_mk S395.1 S395.2)) hcn qz_f_6_161 rfl rfl (fun _ => by decide) rfl (by rw [eS395]; rfl) rfl ?_
                  refine vM_readsBooking_L128bbbbbbbbbbbbbbbbbbbbbbbbbbbbbbbbbbbbb F x5 x255 _ ?_ F S395 _ h
                  intro T402 r h
                  have h := Option.some.inj h
                  subst h
                  exact ei_retv hb dX6_readsBooking_161 rfl
                · rw [if_neg c394] at h
                  refine ei_ifF hb dX6_readsBooking_117 (pc' := 120) (t := 124) (decide_eq_false c394) (by decide) rfl ?_
                  refine ei_c hb dX6_readsBooking_120 (v := (1 : Int32)) (pc' := 121) (by decide) rfl ?_
                  refine ei_go hb dX6_readsBooking_121 (pc' := 125) (by decide) ?_
                  obtain ⟨S403, eS403⟩ : ∃ q, q = qz_wr S382 ((6, 0, 0) : qz_N) 12 (1 : Int32) := ⟨_, rfl⟩
                  rw [qz_let, ← eS403] at h
                  refine ei_pi hb dX6_readsBooking_125 (pc' := 128) (M1 := (qz_mk S403.1 S403.2)) hcn qz_f_6_161 rfl rfl (fun _ => by decide) rfl (by rw [eS403]; rfl) rfl ?_
                  refine vM_readsBooking_L128bbbbbbbbbbbbbbbbbbbbbbbbbbbbbbbbbbbbbb F x5 x255 _ ?_ F S403 _ h
                  intro T410 r h
                  have h := Option.some.inj h
                  subst h
                  exact ei_retv hb dX6_readsBooking_161 rfl
            · rw [if_neg c381] at h
              refine ei_ifF hb dX6_readsBooking_86 (pc' := 89) (t := 93) (decide_eq_false c381) (by decide) rfl ?_
              refine ei_c hb dX6_readsBooking_89 (v := (1 : Int32)) (pc' := 90) (by decide) rfl ?_
              refine ei_go hb dX6_readsBooking_90 (pc' := 94) (by decide) ?_
              refine ei_add hb dX6_readsBooking_94 (pc' := 95) rfl ?_
              obtain ⟨S411, eS411⟩ : ∃ q, q = qz_wr S380 ((6, 0, 0) : qz_N) 11 ((S380.1 ((6, 0, 0) : qz_N) 11) + (1 : Int32)) := ⟨_, rfl⟩
              rw [qz_let, ← eS411] at h
              refine ei_pi hb dX6_readsBooking_95 (pc' := 98) (M1 := (qz_mk S411.1 S411.2)) hcn qz_f_6_155 rfl rfl (fun q => by cases q) rfl (by rw [eS411]; rfl) rfl ?_
              refine ei_aln hb dX6_readsBooking_98 (pc' := 99) rfl rfl ?_
              refine ei_aln hb dX6_readsBooking_99 (pc' := 100) rfl rfl ?_
              refine ei_gi hb dX6_readsBooking_100 (pc' := 103) (x := (S411.1 ((6, 0, 0) : qz_N) 12)) hcn qz_f_6_161 rfl rfl rfl rfl ?_
              by_cases c412 : (S411.1 ((6, 0, 0) : qz_N) 12) = 0
              · rw [if_pos c412] at h
                refine ei_ifT hb dX6_readsBooking_103 (pc' := 124) (decide_eq_true c412) (by decide) ?_
                refine ei_c hb dX6_readsBooking_124 (v := (0 : Int32)) (pc' := 125) (by decide) rfl ?_
                obtain ⟨S413, eS413⟩ : ∃ q, q = qz_wr S411 ((6, 0, 0) : qz_N) 12 (0 : Int32) := ⟨_, rfl⟩
                rw [qz_let, ← eS413] at h
                refine ei_pi hb dX6_readsBooking_125 (pc' := 128) (M1 := (qz_mk S413.1 S413.2)) hcn qz_f_6_161 rfl rfl (fun _ => by decide) rfl (by rw [eS413]; rfl) rfl ?_
                refine vM_readsBooking_L128bbbbbbbbbbbbbbbbbbbbbbbbbbbbbbbbbbbbbbb F x5 x255 _ ?_ F S413 _ h
                intro T420 r h
                have h := Option.some.inj h
                subst h
                exact ei_retv hb dX6_readsBooking_161 rfl
              · rw [if_neg c412] at h
                refine ei_ifF hb dX6_readsBooking_103 (pc' := 106) (t := 124) (decide_eq_false c412) (by decide) rfl ?_
                refine ei_aln hb dX6_readsBooking_106 (pc' := 107) rfl rfl ?_
                obtain ⟨x421, e422, h⟩ := Option.bind_eq_some_iff.mp h
                refine ei_cv hb dX6_readsBooking_107 (pc' := 110) (M1 := (qz_mk S411.1 S411.2)) (as := []) (rest := [.inr (some ((6, 0, 0) : qz_N))]) (st' := [.inl x421, .inr (some ((6, 0, 0) : qz_N))]) hcn qz_c_6_158 qz_k_126 (qz_q_128_126) (Nat.le_of_ble_eq_true rfl) (Nat.le_of_ble_eq_true rfl) rfl rfl rfl (vM_sign F S411.1 S411.2 _ e422) rfl rfl ?_
                refine ei_b hb dX6_readsBooking_110 (v := (49 : Int32)) (pc' := 112) (by decide) rfl ?_
                refine ei_b hb dX6_readsBooking_112 (v := (57 : Int32)) (pc' := 114) (by decide) rfl ?_
                refine ei_cs hb dX6_readsBooking_114 (pc' := 117) (M1 := (qz_mk S411.1 S411.2)) (as := [.inl x421, .inl (49 : Int32), .inl (57 : Int32)]) (rest := [.inr (some ((6, 0, 0) : qz_N))]) (st' := [.inl (gM_in S411.1 x421 (49 : Int32) (57 : Int32)), .inr (some ((6, 0, 0) : qz_N))]) hcn qz_c_6_36 rfl qz_k_84 (qz_q_128_84) (Nat.le_of_ble_eq_true rfl) (Nat.le_of_ble_eq_true rfl) rfl rfl (vM_in S411.1 S411.2 x421 (49 : Int32) (57 : Int32)) rfl rfl ?_
                by_cases c423 : (gM_in S411.1 x421 (49 : Int32) (57 : Int32)) = 0
                · rw [if_pos c423] at h
                  refine ei_ifT hb dX6_readsBooking_117 (pc' := 124) (decide_eq_true c423) (by decide) ?_
                  refine ei_c hb dX6_readsBooking_124 (v := (0 : Int32)) (pc' := 125) (by decide) rfl ?_
                  obtain ⟨S424, eS424⟩ : ∃ q, q = qz_wr S411 ((6, 0, 0) : qz_N) 12 (0 : Int32) := ⟨_, rfl⟩
                  rw [qz_let, ← eS424] at h
                  refine ei_pi hb dX6_readsBooking_125 (pc' := 128) (M1 := (qz_mk S424.1 S424.2)) hcn qz_f_6_161 rfl rfl (fun _ => by decide) rfl (by rw [eS424]; rfl) rfl ?_
                  refine vM_readsBooking_L128bbbbbbbbbbbbbbbbbbbbbbbbbbbbbbbbbbbbbbbb F x5 x255 _ ?_ F S424 _ h
                  intro T431 r h
                  have h := Option.some.inj h
                  subst h
                  exact ei_retv hb dX6_readsBooking_161 rfl
                · rw [if_neg c423] at h
                  refine ei_ifF hb dX6_readsBooking_117 (pc' := 120) (t := 124) (decide_eq_false c423) (by decide) rfl ?_
                  refine ei_c hb dX6_readsBooking_120 (v := (1 : Int32)) (pc' := 121) (by decide) rfl ?_
                  refine ei_go hb dX6_readsBooking_121 (pc' := 125) (by decide) ?_
                  obtain ⟨S432, eS432⟩ : ∃ q, q = qz_wr S411 ((6, 0, 0) : qz_N) 12 (1 : Int32) := ⟨_, rfl⟩
                  rw [qz_let, ← eS432] at h
                  refine ei_pi hb dX6_readsBooking_125 (pc' := 128) (M1 := (qz_mk S432.1 S432.2)) hcn qz_f_6_161 rfl rfl (fun _ => by decide) rfl (by rw [eS432]; rfl) rfl ?_
                  refine vM_readsBooking_L128bbbbbbbbbbbbbbbbbbbbbbbbbbbbbbbbbbbbbbbbb F x5 x255 _ ?_ F S432 _ h
                  intro T439 r h
                  have h := Option.some.inj h
                  subst h
                  exact ei_retv hb dX6_readsBooking_161 rfl
          · rw [if_neg c379] at h
            refine ei_icT hb dX6_readsBooking_66 (pc' := 73) (decide_eq_true c379) (by decide) ?_
            refine ei_c hb dX6_readsBooking_73 (v := (0 : Int32)) (pc' := 74) (by decide) rfl ?_
            obtain ⟨S440, eS440⟩ : ∃ q, q = qz_wr S254 ((6, 0, 0) : qz_N) 12 (0 : Int32) := ⟨_, rfl⟩
            rw [qz_let, ← eS440] at h
            refine ei_pi hb dX6_readsBooking_74 (pc' := 77) (M1 := (qz_mk S440.1 S440.2)) hcn qz_f_6_161 rfl rfl (fun _ => by decide) rfl (by rw [eS440]; rfl) rfl ?_
            refine ei_aln hb dX6_readsBooking_77 (pc' := 78) rfl rfl ?_
            refine ei_dup hb dX6_readsBooking_78 (pc' := 79) rfl ?_
            refine ei_gi hb dX6_readsBooking_79 (pc' := 82) (x := (S440.1 ((6, 0, 0) : qz_N) 11)) hcn qz_f_6_155 rfl rfl rfl rfl ?_
            refine ei_aln hb dX6_readsBooking_82 (pc' := 83) rfl rfl ?_
            refine ei_gi hb dX6_readsBooking_83 (pc' := 86) (x := (S440.1 ((6, 0, 0) : qz_N) 12)) hcn qz_f_6_161 rfl rfl rfl rfl ?_
            by_cases c441 : (S440.1 ((6, 0, 0) : qz_N) 12) = 0
            · rw [if_pos c441] at h
              refine ei_ifT hb dX6_readsBooking_86 (pc' := 93) (decide_eq_true c441) (by decide) ?_
              refine ei_c hb dX6_readsBooking_93 (v := (0 : Int32)) (pc' := 94) (by decide) rfl ?_
              refine ei_add hb dX6_readsBooking_94 (pc' := 95) rfl ?_
              obtain ⟨S442, eS442⟩ : ∃ q, q = qz_wr S440 ((6, 0, 0) : qz_N) 11 ((S440.1 ((6, 0, 0) : qz_N) 11) + (0 : Int32)) := ⟨_, rfl⟩
              rw [qz_let, ← eS442] at h
              refine ei_pi hb dX6_readsBooking_95 (pc' := 98) (M1 := (qz_mk S442.1 S442.2)) hcn qz_f_6_155 rfl rfl (fun q => by cases q) rfl (by rw [eS442]; rfl) rfl ?_
              refine ei_aln hb dX6_readsBooking_98 (pc' := 99) rfl rfl ?_
              refine ei_aln hb dX6_readsBooking_99 (pc' := 100) rfl rfl ?_
              refine ei_gi hb dX6_readsBooking_100 (pc' := 103) (x := (S442.1 ((6, 0, 0) : qz_N) 12)) hcn qz_f_6_161 rfl rfl rfl rfl ?_
              by_cases c443 : (S442.1 ((6, 0, 0) : qz_N) 12) = 0
              · rw [if_pos c443] at h
                refine ei_ifT hb dX6_readsBooking_103 (pc' := 124) (decide_eq_true c443) (by decide) ?_
                refine ei_c hb dX6_readsBooking_124 (v := (0 : Int32)) (pc' := 125) (by decide) rfl ?_
                obtain ⟨S444, eS444⟩ : ∃ q, q = qz_wr S442 ((6, 0, 0) : qz_N) 12 (0 : Int32) := ⟨_, rfl⟩
                rw [qz_let, ← eS444] at h
                refine ei_pi hb dX6_readsBooking_125 (pc' := 128) (M1 := (qz_mk S444.1 S444.2)) hcn qz_f_6_161 rfl rfl (fun _ => by decide) rfl (by rw [eS444]; rfl) rfl ?_
                refine vM_readsBooking_L128bbbbbbbbbbbbbbbbbbbbbbbbbbbbbbbbbbbbbbbbbb F x5 x255 _ ?_ F S444 _ h
                intro T451 r h
                have h := Option.some.inj h
                subst h
                exact ei_retv hb dX6_readsBooking_161 rfl
              · rw [if_neg c443] at h
                refine ei_ifF hb dX6_readsBooking_103 (pc' := 106) (t := 124) (decide_eq_false c443) (by decide) rfl ?_
                refine ei_aln hb dX6_readsBooking_106 (pc' := 107) rfl rfl ?_
                obtain ⟨x452, e453, h⟩ := Option.bind_eq_some_iff.mp h
                refine ei_cv hb dX6_readsBooking_107 (pc' := 110) (M1 := (qz_mk S442.1 S442.2)) (as := []) (rest := [.inr (some ((6, 0, 0) : qz_N))]) (st' := [.inl x452, .inr (some ((6, 0, 0) : qz_N))]) hcn qz_c_6_158 qz_k_126 (qz_q_128_126) (Nat.le_of_ble_eq_true rfl) (Nat.le_of_ble_eq_true rfl) rfl rfl rfl (vM_sign F S442.1 S442.2 _ e453) rfl rfl ?_
                refine ei_b hb dX6_readsBooking_110 (v := (49 : Int32)) (pc' := 112) (by decide) rfl ?_
                refine ei_b hb dX6_readsBooking_112 (v := (57 : Int32)) (pc' := 114) (by decide) rfl ?_
                refine ei_cs hb dX6_readsBooking_114 (pc' := 117) (M1 := (qz_mk S442.1 S442.2)) (as := [.inl x452, .inl (49 : Int32), .inl (57 : Int32)]) (rest := [.inr (some ((6, 0, 0) : qz_N))]) (st' := [.inl (gM_in S442.1 x452 (49 : Int32) (57 : Int32)), .inr (some ((6, 0, 0) : qz_N))]) hcn qz_c_6_36 rfl qz_k_84 (qz_q_128_84) (Nat.le_of_ble_eq_true rfl) (Nat.le_of_ble_eq_true rfl) rfl rfl (vM_in S442.1 S442.2 x452 (49 : Int32) (57 : Int32)) rfl rfl ?_
                by_cases c454 : (gM_in S442.1 x452 (49 : Int32) (57 : Int32)) = 0
                · rw [if_pos c454] at h
                  refine ei_ifT hb dX6_readsBooking_117 (pc' := 124) (decide_eq_true c454) (by decide) ?_
                  refine ei_c hb dX6_readsBooking_124 (v := (0 : Int32)) (pc' := 125) (by decide) rfl ?_
                  obtain ⟨S455, eS455⟩ : ∃ q, q = qz_wr S442 ((6, 0, 0) : qz_N) 12 (0 : Int32) := ⟨_, rfl⟩
                  rw [qz_let, ← eS455] at h
                  refine ei_pi hb dX6_readsBooking_125 (pc' := 128) (M1 := (qz_mk S455.1 S455.2)) hcn qz_f_6_161 rfl rfl (fun _ => by decide) rfl (by rw [eS455]; rfl) rfl ?_
                  refine vM_readsBooking_L128bbbbbbbbbbbbbbbbbbbbbbbbbbbbbbbbbbbbbbbbbbb F x5 x255 _ ?_ F S455 _ h
                  intro T462 r h
                  have h := Option.some.inj h
                  subst h
                  exact ei_retv hb dX6_readsBooking_161 rfl
                · rw [if_neg c454] at h
                  refine ei_ifF hb dX6_readsBooking_117 (pc' := 120) (t := 124) (decide_eq_false c454) (by decide) rfl ?_
                  refine ei_c hb dX6_readsBooking_120 (v := (1 : Int32)) (pc' := 121) (by decide) rfl ?_
                  refine ei_go hb dX6_readsBooking_121 (pc' := 125) (by decide) ?_
                  obtain ⟨S463, eS463⟩ : ∃ q, q = qz_wr S442 ((6, 0, 0) : qz_N) 12 (1 : Int32) := ⟨_, rfl⟩
                  rw [qz_let, ← eS463] at h
                  refine ei_pi hb dX6_readsBooking_125 (pc' := 128) (M1 := (qz_mk S463.1 S463.2)) hcn qz_f_6_161 rfl rfl (fun _ => by decide) rfl (by rw [eS463]; rfl) rfl ?_
                  refine vM_readsBooking_L128bbbbbbbbbbbbbbbbbbbbbbbbbbbbbbbbbbbbbbbbbbbb F x5 x255 _ ?_ F S463 _ h
                  intro T470 r h
                  have h := Option.some.inj h
                  subst h
                  exact ei_retv hb dX6_readsBooking_161 rfl
            · rw [if_neg c441] at h
              refine ei_ifF hb dX6_readsBooking_86 (pc' := 89) (t := 93) (decide_eq_false c441) (by decide) rfl ?_
              refine ei_c hb dX6_readsBooking_89 (v := (1 : Int32)) (pc' := 90) (by decide) rfl ?_
              refine ei_go hb dX6_readsBooking_90 (pc' := 94) (by decide) ?_
              refine ei_add hb dX6_readsBooking_94 (pc' := 95) rfl ?_
              obtain ⟨S471, eS471⟩ : ∃ q, q = qz_wr S440 ((6, 0, 0) : qz_N) 11 ((S440.1 ((6, 0, 0) : qz_N) 11) + (1 : Int32)) := ⟨_, rfl⟩
              rw [qz_let, ← eS471] at h
              refine ei_pi hb dX6_readsBooking_95 (pc' := 98) (M1 := (qz_mk S471.1 S471.2)) hcn qz_f_6_155 rfl rfl (fun q => by cases q) rfl (by rw [eS471]; rfl) rfl ?_
              refine ei_aln hb dX6_readsBooking_98 (pc' := 99) rfl rfl ?_
              refine ei_aln hb dX6_readsBooking_99 (pc' := 100) rfl rfl ?_
              refine ei_gi hb dX6_readsBooking_100 (pc' := 103) (x := (S471.1 ((6, 0, 0) : qz_N) 12)) hcn qz_f_6_161 rfl rfl rfl rfl ?_
              by_cases c472 : (S471.1 ((6, 0, 0) : qz_N) 12) = 0
              · rw [if_pos c472] at h
                refine ei_ifT hb dX6_readsBooking_103 (pc' := 124) (decide_eq_true c472) (by decide) ?_
                refine ei_c hb dX6_readsBooking_124 (v := (0 : Int32)) (pc' := 125) (by decide) rfl ?_
                obtain ⟨S473, eS473⟩ : ∃ q, q = qz_wr S471 ((6, 0, 0) : qz_N) 12 (0 : Int32) := ⟨_, rfl⟩
                rw [qz_let, ← eS473] at h
                refine ei_pi hb dX6_readsBooking_125 (pc' := 128) (M1 := (qz_mk S473.1 S473.2)) hcn qz_f_6_161 rfl rfl (fun _ => by decide) rfl (by rw [eS473]; rfl) rfl ?_
                refine vM_readsBooking_L128bbbbbbbbbbbbbbbbbbbbbbbbbbbbbbbbbbbbbbbbbbbbb F x5 x255 _ ?_ F S473 _ h
                intro T480 r h
                have h := Option.some.inj h
                subst h
                exact ei_retv hb dX6_readsBooking_161 rfl
              · rw [if_neg c472] at h
                refine ei_ifF hb dX6_readsBooking_103 (pc' := 106) (t := 124) (decide_eq_false c472) (by decide) rfl ?_
                refine ei_aln hb dX6_readsBooking_106 (pc' := 107) rfl rfl ?_
                obtain ⟨x481, e482, h⟩ := Option.bind_eq_some_iff.mp h
                refine ei_cv hb dX6_readsBooking_107 (pc' := 110) (M1 := (qz_mk S471.1 S471.2)) (as := []) (rest := [.inr (some ((6, 0, 0) : qz_N))]) (st' := [.inl x481, .inr (some ((6, 0, 0) : qz_N))]) hcn qz_c_6_158 qz_k_126 (qz_q_128_126) (Nat.le_of_ble_eq_true rfl) (Nat.le_of_ble_eq_true rfl) rfl rfl rfl (vM_sign F S471.1 S471.2 _ e482) rfl rfl ?_
                refine ei_b hb dX6_readsBooking_110 (v := (49 : Int32)) (pc' := 112) (by decide) rfl ?_
                refine ei_b hb dX6_readsBooking_112 (v := (57 : Int32)) (pc' := 114) (by decide) rfl ?_
                refine ei_cs hb dX6_readsBooking_114 (pc' := 117) (M1 := (qz_mk S471.1 S471.2)) (as := [.inl x481, .inl (49 : Int32), .inl (57 : Int32)]) (rest := [.inr (some ((6, 0, 0) : qz_N))]) (st' := [.inl (gM_in S471.1 x481 (49 : Int32) (57 : Int32)), .inr (some ((6, 0, 0) : qz_N))]) hcn qz_c_6_36 rfl qz_k_84 (qz_q_128_84) (Nat.le_of_ble_eq_true rfl) (Nat.le_of_ble_eq_true rfl) rfl rfl (vM_in S471.1 S471.2 x481 (49 : Int32) (57 : Int32)) rfl rfl ?_
                by_cases c483 : (gM_in S471.1 x481 (49 : Int32) (57 : Int32)) = 0
                · rw [if_pos c483] at h
                  refine ei_ifT hb dX6_readsBooking_117 (pc' := 124) (decide_eq_true c483) (by decide) ?_
                  refine ei_c hb dX6_readsBooking_124 (v := (0 : Int32)) (pc' := 125) (by decide) rfl ?_
                  obtain ⟨S484, eS484⟩ : ∃ q, q = qz_wr S471 ((6, 0, 0) : qz_N) 12 (0 : Int32) := ⟨_, rfl⟩
                  rw [qz_let, ← eS484] at h
                  refine ei_pi hb dX6_readsBooking_125 (pc' := 128) (M1 := (qz_mk S484.1 S484.2)) hcn qz_f_6_161 rfl rfl (fun _ => by decide) rfl (by rw [eS484]; rfl) rfl ?_
                  refine vM_readsBooking_L128bbbbbbbbbbbbbbbbbbbbbbbbbbbbbbbbbbbbbbbbbbbbbb F x5 x255 _ ?_ F S484 _ h
                  intro T491 r h
                  have h := Option.some.inj h
                  subst h
                  exact ei_retv hb dX6_readsBooking_161 rfl
                · rw [if_neg c483] at h
                  refine ei_ifF hb dX6_readsBooking_117 (pc' := 120) (t := 124) (decide_eq_false c483) (by decide) rfl ?_
                  refine ei_c hb dX6_readsBooking_120 (v := (1 : Int32)) (pc' := 121) (by decide) rfl ?_
                  refine ei_go hb dX6_readsBooking_121 (pc' := 125) (by decide) ?_
                  obtain ⟨S492, eS492⟩ : ∃ q, q = qz_wr S471 ((6, 0, 0) : qz_N) 12 (1 : Int32) := ⟨_, rfl⟩
                  rw [qz_let, ← eS492] at h
                  refine ei_pi hb dX6_readsBooking_125 (pc' := 128) (M1 := (qz_mk S492.1 S492.2)) hcn qz_f_6_161 rfl rfl (fun _ => by decide) rfl (by rw [eS492]; rfl) rfl ?_
                  refine vM_readsBooking_L128bbbbbbbbbbbbbbbbbbbbbbbbbbbbbbbbbbbbbbbbbbbbbbb F x5 x255 _ ?_ F S492 _ h
                  intro T499 r h
                  have h := Option.some.inj h
                  subst h
                  exact ei_retv hb dX6_readsBooking_161 rfl
  · rw [if_neg c4] at h
    cases h
def gM_reads_L14 (F : Nat)  (K : (qz_S → Option (Int32 × qz_S))) : Nat → qz_S → Option (Int32 × qz_S)
  | 0, _ => none
  | n + 1, T => if (T.1 ((6, 0, 0) : qz_N) 12) = 0 then (K T) else (if (T.1 ((6, 0, 0) : qz_N) 7) ≤ (T.1 ((6, 0, 0) : qz_N) 11) then (K T) else (Option.bind (gM_sign F T.1) fun x7 => if x7 = (44 : Int32) then (qz_let (qz_wr T ((6, 0, 0) : qz_N) 12 (1 : Int32)) fun S10 => if (S10.1 ((6, 0, 0) : qz_N) 12) = 0 then (qz_let (qz_wr S10 ((6, 0, 0) : qz_N) 11 ((S10.1 ((6, 0, 0) : qz_N) 11) + (0 : Int32))) fun S12 => if (S12.1 ((6, 0, 0) : qz_N) 12) = 0 then ((gM_reads_L14 F K) n S12) else (Option.bind (gM_readsBooking F S12) fun R14 => (gM_reads_L14 F K) n R14)) else (qz_let (qz_wr S10 ((6, 0, 0) : qz_N) 11 ((S10.1 ((6, 0, 0) : qz_N) 11) + (1 : Int32))) fun S16 => if (S16.1 ((6, 0, 0) : qz_N) 12) = 0 then ((gM_reads_L14 F K) n S16) else (Option.bind (gM_readsBooking F S16) fun R18 => (gM_reads_L14 F K) n R18))) else (qz_let (qz_wr T ((6, 0, 0) : qz_N) 12 (0 : Int32)) fun S20 => if (S20.1 ((6, 0, 0) : qz_N) 12) = 0 then (qz_let (qz_wr S20 ((6, 0, 0) : qz_N) 11 ((S20.1 ((6, 0, 0) : qz_N) 11) + (0 : Int32))) fun S22 => if (S22.1 ((6, 0, 0) : qz_N) 12) = 0 then ((gM_reads_L14 F K) n S22) else (Option.bind (gM_readsBooking F S22) fun R24 => (gM_reads_L14 F K) n R24)) else (qz_let (qz_wr S20 ((6, 0, 0) : qz_N) 11 ((S20.1 ((6, 0, 0) : qz_N) 11) + (1 : Int32))) fun S26 => if (S26.1 ((6, 0, 0) : qz_N) 12) = 0 then ((gM_reads_L14 F K) n S26) else (Option.bind (gM_readsBooking F S26) fun R28 => (gM_reads_L14 F K) n R28)))))
def gM_reads (F : Nat) (S : qz_S)  : Option (Int32 × qz_S) :=
  qz_let (qz_wr S ((6, 0, 0) : qz_N) 11 (0 : Int32)) fun S1 => qz_let (qz_wr S1 ((6, 0, 0) : qz_N) 14 (0 : Int32)) fun S2 => Option.bind (gM_readsBooking F S2) fun R3 => gM_reads_L14 F (fun T30 => if (T30.1 ((6, 0, 0) : qz_N) 12) = 0 then (some ((T30.1 ((6, 0, 0) : qz_N) 11), T30)) else (some ((-5 : Int32), T30))) F R3
set_option maxHeartbeats 4000000 in
theorem vM_reads_L14 (F : Nat)  (K : (qz_S → Option (Int32 × qz_S))) (hK : ∀ (T : qz_S) (r : Int32 × qz_S), K T = some r → qz_E 129 85 [some (.inr (some ((6, 0, 0) : qz_N)))] [] (qz_mk T.1 T.2) (some (.inl r.1)) (qz_mk r.2.1 r.2.2)) : ∀ (n : Nat) (T : qz_S) (r : Int32 × qz_S), gM_reads_L14 F K n T = some r → qz_E 129 14 [some (.inr (some ((6, 0, 0) : qz_N)))] [] (qz_mk T.1 T.2) (some (.inl r.1)) (qz_mk r.2.1 r.2.2) := by
  have hb : qz_b 129 = cX6_reads := rfl
  have hcn : qz_cn 129 = 6 := rfl
  intro n
  induction n with
  | zero =>
    intro T r h
    cases h
  | succ n ih =>
    intro T r h
    rw [gM_reads_L14] at h
    refine ei_aln hb dX6_reads_14 (pc' := 15) rfl rfl ?_
    refine ei_gi hb dX6_reads_15 (pc' := 18) (x := (T.1 ((6, 0, 0) : qz_N) 12)) hcn qz_f_6_161 rfl rfl rfl rfl ?_
    by_cases c5 : (T.1 ((6, 0, 0) : qz_N) 12) = 0
    · rw [if_pos c5] at h
      refine ei_ifT hb dX6_reads_18 (pc' := 85) (decide_eq_true c5) (by decide) ?_
      exact hK T _ h
    · rw [if_neg c5] at h
      refine ei_ifF hb dX6_reads_18 (pc' := 21) (t := 85) (decide_eq_false c5) (by decide) rfl ?_
      refine ei_aln hb dX6_reads_21 (pc' := 22) rfl rfl ?_
      refine ei_gi hb dX6_reads_22 (pc' := 25) (x := (T.1 ((6, 0, 0) : qz_N) 11)) hcn qz_f_6_155 rfl rfl rfl rfl ?_
      refine ei_aln hb dX6_reads_25 (pc' := 26) rfl rfl ?_
      refine ei_gi hb dX6_reads_26 (pc' := 29) (x := (T.1 ((6, 0, 0) : qz_N) 7)) hcn qz_f_6_152 rfl rfl rfl rfl ?_
      by_cases c6 : (T.1 ((6, 0, 0) : qz_N) 7) ≤ (T.1 ((6, 0, 0) : qz_N) 11)
      · rw [if_pos c6] at h
        refine ei_icT hb dX6_reads_29 (pc' := 85) (decide_eq_true c6) (by decide) ?_
        exact hK T _ h
      · rw [if_neg c6] at h
        refine ei_icF hb dX6_reads_29 (pc' := 32) (t := 85) (decide_eq_false c6) (by decide) rfl ?_
        refine ei_aln hb dX6_reads_32 (pc' := 33) rfl rfl ?_
        refine ei_aln hb dX6_reads_33 (pc' := 34) rfl rfl ?_
        obtain ⟨x7, e8, h⟩ := Option.bind_eq_some_iff.mp h
        refine ei_cv hb dX6_reads_34 (pc' := 37) (M1 := (qz_mk T.1 T.2)) (as := []) (rest := [.inr (some ((6, 0, 0) : qz_N))]) (st' := [.inl x7, .inr (some ((6, 0, 0) : qz_N))]) hcn qz_c_6_158 qz_k_126 (qz_q_129_126) (Nat.le_of_ble_eq_true rfl) (Nat.le_of_ble_eq_true rfl) rfl rfl rfl (vM_sign F T.1 T.2 _ e8) rfl rfl ?_
        refine ei_b hb dX6_reads_37 (v := (44 : Int32)) (pc' := 39) (by decide) rfl ?_
        by_cases c9 : x7 = (44 : Int32)
        · rw [if_pos c9] at h
          refine ei_icF hb dX6_reads_39 (pc' := 42) (t := 46) (decide_eq_false (fun q => q c9)) (by decide) rfl ?_
          refine ei_c hb dX6_reads_42 (v := (1 : Int32)) (pc' := 43) (by decide) rfl ?_
          refine ei_go hb dX6_reads_43 (pc' := 47) (by decide) ?_
          obtain ⟨S10, eS10⟩ : ∃ q, q = qz_wr T ((6, 0, 0) : qz_N) 12 (1 : Int32) := ⟨_, rfl⟩
          rw [qz_let, ← eS10] at h
          refine ei_pi hb dX6_reads_47 (pc' := 50) (M1 := (qz_mk S10.1 S10.2)) hcn qz_f_6_161 rfl rfl (fun _ => by decide) rfl (by rw [eS10]; rfl) rfl ?_
          refine ei_aln hb dX6_reads_50 (pc' := 51) rfl rfl ?_
          refine ei_dup hb dX6_reads_51 (pc' := 52) rfl ?_
          refine ei_gi hb dX6_reads_52 (pc' := 55) (x := (S10.1 ((6, 0, 0) : qz_N) 11)) hcn qz_f_6_155 rfl rfl rfl rfl ?_
          refine ei_aln hb dX6_reads_55 (pc' := 56) rfl rfl ?_
          refine ei_gi hb dX6_reads_56 (pc' := 59) (x := (S10.1 ((6, 0, 0) : qz_N) 12)) hcn qz_f_6_161 rfl rfl rfl rfl ?_
          by_cases c11 : (S10.1 ((6, 0, 0) : qz_N) 12) = 0
          · rw [if_pos c11] at h
            refine ei_ifT hb dX6_reads_59 (pc' := 66) (decide_eq_true c11) (by decide) ?_
            refine ei_c hb dX6_reads_66 (v := (0 : Int32)) (pc' := 67) (by decide) rfl ?_
            refine ei_add hb dX6_reads_67 (pc' := 68) rfl ?_
            obtain ⟨S12, eS12⟩ : ∃ q, q = qz_wr S10 ((6, 0, 0) : qz_N) 11 ((S10.1 ((6, 0, 0) : qz_N) 11) + (0 : Int32)) := ⟨_, rfl⟩
            rw [qz_let, ← eS12] at h
            refine ei_pi hb dX6_reads_68 (pc' := 71) (M1 := (qz_mk S12.1 S12.2)) hcn qz_f_6_155 rfl rfl (fun q => by cases q) rfl (by rw [eS12]; rfl) rfl ?_
            refine ei_aln hb dX6_reads_71 (pc' := 72) rfl rfl ?_
            refine ei_gi hb dX6_reads_72 (pc' := 75) (x := (S12.1 ((6, 0, 0) : qz_N) 12)) hcn qz_f_6_161 rfl rfl rfl rfl ?_
            by_cases c13 : (S12.1 ((6, 0, 0) : qz_N) 12) = 0
            · rw [if_pos c13] at h
              refine ei_ifT hb dX6_reads_75 (pc' := 14) (decide_eq_true c13) (by decide) ?_
              exact ih S12 _ h
            · rw [if_neg c13] at h
              refine ei_ifF hb dX6_reads_75 (pc' := 78) (t := 14) (decide_eq_false c13) (by decide) rfl ?_
              refine ei_aln hb dX6_reads_78 (pc' := 79) rfl rfl ?_
              obtain ⟨R14, e15, h⟩ := Option.bind_eq_some_iff.mp h
              refine ei_cv hb dX6_reads_79 (pc' := 82) (M1 := (qz_mk R14.1 R14.2)) (as := []) (rest := []) (st' := []) hcn qz_c_6_169 qz_k_128 (qz_q_129_128) (Nat.le_of_ble_eq_true rfl) (Nat.le_of_ble_eq_true rfl) rfl rfl rfl (vM_readsBooking F S12 _ e15) rfl rfl ?_
              refine ei_go hb dX6_reads_82 (pc' := 14) (by decide) ?_
              exact ih R14 _ h
          · rw [if_neg c11] at h
            refine ei_ifF hb dX6_reads_59 (pc' := 62) (t := 66) (decide_eq_false c11) (by decide) rfl ?_
            refine ei_c hb dX6_reads_62 (v := (1 : Int32)) (pc' := 63) (by decide) rfl ?_
            refine ei_go hb dX6_reads_63 (pc' := 67) (by decide) ?_
            refine ei_add hb dX6_reads_67 (pc' := 68) rfl ?_
            obtain ⟨S16, eS16⟩ : ∃ q, q = qz_wr S10 ((6, 0, 0) : qz_N) 11 ((S10.1 ((6, 0, 0) : qz_N) 11) + (1 : Int32)) := ⟨_, rfl⟩
            rw [qz_let, ← eS16] at h
            refine ei_pi hb dX6_reads_68 (pc' := 71) (M1 := (qz_mk S16.1 S16.2)) hcn qz_f_6_155 rfl rfl (fun q => by cases q) rfl (by rw [eS16]; rfl) rfl ?_
            refine ei_aln hb dX6_reads_71 (pc' := 72) rfl rfl ?_
            refine ei_gi hb dX6_reads_72 (pc' := 75) (x := (S16.1 ((6, 0, 0) : qz_N) 12)) hcn qz_f_6_161 rfl rfl rfl rfl ?_
            by_cases c17 : (S16.1 ((6, 0, 0) : qz_N) 12) = 0
            · rw [if_pos c17] at h
              refine ei_ifT hb dX6_reads_75 (pc' := 14) (decide_eq_true c17) (by decide) ?_
              exact ih S16 _ h
            · rw [if_neg c17] at h
              refine ei_ifF hb dX6_reads_75 (pc' := 78) (t := 14) (decide_eq_false c17) (by decide) rfl ?_
              refine ei_aln hb dX6_reads_78 (pc' := 79) rfl rfl ?_
              obtain ⟨R18, e19, h⟩ := Option.bind_eq_some_iff.mp h
              refine ei_cv hb dX6_reads_79 (pc' := 82) (M1 := (qz_mk R18.1 R18.2)) (as := []) (rest := []) (st' := []) hcn qz_c_6_169 qz_k_128 (qz_q_129_128) (Nat.le_of_ble_eq_true rfl) (Nat.le_of_ble_eq_true rfl) rfl rfl rfl (vM_readsBooking F S16 _ e19) rfl rfl ?_
              refine ei_go hb dX6_reads_82 (pc' := 14) (by decide) ?_
              exact ih R18 _ h
        · rw [if_neg c9] at h
          refine ei_icT hb dX6_reads_39 (pc' := 46) (decide_eq_true c9) (by decide) ?_
          refine ei_c hb dX6_reads_46 (v := (0 : Int32)) (pc' := 47) (by decide) rfl ?_
          obtain ⟨S20, eS20⟩ : ∃ q, q = qz_wr T ((6, 0, 0) : qz_N) 12 (0 : Int32) := ⟨_, rfl⟩
          rw [qz_let, ← eS20] at h
          refine ei_pi hb dX6_reads_47 (pc' := 50) (M1 := (qz_mk S20.1 S20.2)) hcn qz_f_6_161 rfl rfl (fun _ => by decide) rfl (by rw [eS20]; rfl) rfl ?_
          refine ei_aln hb dX6_reads_50 (pc' := 51) rfl rfl ?_
          refine ei_dup hb dX6_reads_51 (pc' := 52) rfl ?_
          refine ei_gi hb dX6_reads_52 (pc' := 55) (x := (S20.1 ((6, 0, 0) : qz_N) 11)) hcn qz_f_6_155 rfl rfl rfl rfl ?_
          refine ei_aln hb dX6_reads_55 (pc' := 56) rfl rfl ?_
          refine ei_gi hb dX6_reads_56 (pc' := 59) (x := (S20.1 ((6, 0, 0) : qz_N) 12)) hcn qz_f_6_161 rfl rfl rfl rfl ?_
          by_cases c21 : (S20.1 ((6, 0, 0) : qz_N) 12) = 0
          · rw [if_pos c21] at h
            refine ei_ifT hb dX6_reads_59 (pc' := 66) (decide_eq_true c21) (by decide) ?_
            refine ei_c hb dX6_reads_66 (v := (0 : Int32)) (pc' := 67) (by decide) rfl ?_
            refine ei_add hb dX6_reads_67 (pc' := 68) rfl ?_
            obtain ⟨S22, eS22⟩ : ∃ q, q = qz_wr S20 ((6, 0, 0) : qz_N) 11 ((S20.1 ((6, 0, 0) : qz_N) 11) + (0 : Int32)) := ⟨_, rfl⟩
            rw [qz_let, ← eS22] at h
            refine ei_pi hb dX6_reads_68 (pc' := 71) (M1 := (qz_mk S22.1 S22.2)) hcn qz_f_6_155 rfl rfl (fun q => by cases q) rfl (by rw [eS22]; rfl) rfl ?_
            refine ei_aln hb dX6_reads_71 (pc' := 72) rfl rfl ?_
            refine ei_gi hb dX6_reads_72 (pc' := 75) (x := (S22.1 ((6, 0, 0) : qz_N) 12)) hcn qz_f_6_161 rfl rfl rfl rfl ?_
            by_cases c23 : (S22.1 ((6, 0, 0) : qz_N) 12) = 0
            · rw [if_pos c23] at h
              refine ei_ifT hb dX6_reads_75 (pc' := 14) (decide_eq_true c23) (by decide) ?_
              exact ih S22 _ h
            · rw [if_neg c23] at h
              refine ei_ifF hb dX6_reads_75 (pc' := 78) (t := 14) (decide_eq_false c23) (by decide) rfl ?_
              refine ei_aln hb dX6_reads_78 (pc' := 79) rfl rfl ?_
              obtain ⟨R24, e25, h⟩ := Option.bind_eq_some_iff.mp h
              refine ei_cv hb dX6_reads_79 (pc' := 82) (M1 := (qz_mk R24.1 R24.2)) (as := []) (rest := []) (st' := []) hcn qz_c_6_169 qz_k_128 (qz_q_129_128) (Nat.le_of_ble_eq_true rfl) (Nat.le_of_ble_eq_true rfl) rfl rfl rfl (vM_readsBooking F S22 _ e25) rfl rfl ?_
              refine ei_go hb dX6_reads_82 (pc' := 14) (by decide) ?_
              exact ih R24 _ h
          · rw [if_neg c21] at h
            refine ei_ifF hb dX6_reads_59 (pc' := 62) (t := 66) (decide_eq_false c21) (by decide) rfl ?_
            refine ei_c hb dX6_reads_62 (v := (1 : Int32)) (pc' := 63) (by decide) rfl ?_
            refine ei_go hb dX6_reads_63 (pc' := 67) (by decide) ?_
            refine ei_add hb dX6_reads_67 (pc' := 68) rfl ?_
            obtain ⟨S26, eS26⟩ : ∃ q, q = qz_wr S20 ((6, 0, 0) : qz_N) 11 ((S20.1 ((6, 0, 0) : qz_N) 11) + (1 : Int32)) := ⟨_, rfl⟩
            rw [qz_let, ← eS26] at h
            refine ei_pi hb dX6_reads_68 (pc' := 71) (M1 := (qz_mk S26.1 S26.2)) hcn qz_f_6_155 rfl rfl (fun q => by cases q) rfl (by rw [eS26]; rfl) rfl ?_
            refine ei_aln hb dX6_reads_71 (pc' := 72) rfl rfl ?_
            refine ei_gi hb dX6_reads_72 (pc' := 75) (x := (S26.1 ((6, 0, 0) : qz_N) 12)) hcn qz_f_6_161 rfl rfl rfl rfl ?_
            by_cases c27 : (S26.1 ((6, 0, 0) : qz_N) 12) = 0
            · rw [if_pos c27] at h
              refine ei_ifT hb dX6_reads_75 (pc' := 14) (decide_eq_true c27) (by decide) ?_
              exact ih S26 _ h
            · rw [if_neg c27] at h
              refine ei_ifF hb dX6_reads_75 (pc' := 78) (t := 14) (decide_eq_false c27) (by decide) rfl ?_
              refine ei_aln hb dX6_reads_78 (pc' := 79) rfl rfl ?_
              obtain ⟨R28, e29, h⟩ := Option.bind_eq_some_iff.mp h
              refine ei_cv hb dX6_reads_79 (pc' := 82) (M1 := (qz_mk R28.1 R28.2)) (as := []) (rest := []) (st' := []) hcn qz_c_6_169 qz_k_128 (qz_q_129_128) (Nat.le_of_ble_eq_true rfl) (Nat.le_of_ble_eq_true rfl) rfl rfl rfl (vM_readsBooking F S26 _ e29) rfl rfl ?_
              refine ei_go hb dX6_reads_82 (pc' := 14) (by decide) ?_
              exact ih R28 _ h
set_option maxHeartbeats 4000000 in
theorem vM_reads (F : Nat) (S : qz_S)  (r : Int32 × qz_S) (h : (gM_reads F S) = some r) : qz_E 129 0 (qz_in0 129 [.inr (some ((6, 0, 0) : qz_N))]) [] (qz_mk S.1 S.2) (some (.inl r.1)) (qz_mk r.2.1 r.2.2) := by
  have hb : qz_b 129 = cX6_reads := rfl
  have hcn : qz_cn 129 = 6 := rfl
  show qz_E 129 0 [some (.inr (some ((6, 0, 0) : qz_N)))] [] _ _ _
  rw [gM_reads] at h
  refine ei_aln hb dX6_reads_0 (pc' := 1) rfl rfl ?_
  refine ei_c hb dX6_reads_1 (v := (0 : Int32)) (pc' := 2) (by decide) rfl ?_
  obtain ⟨S1, eS1⟩ : ∃ q, q = qz_wr S ((6, 0, 0) : qz_N) 11 (0 : Int32) := ⟨_, rfl⟩
  rw [qz_let, ← eS1] at h
  refine ei_pi hb dX6_reads_2 (pc' := 5) (M1 := (qz_mk S1.1 S1.2)) hcn qz_f_6_155 rfl rfl (fun q => by cases q) rfl (by rw [eS1]; rfl) rfl ?_
  refine ei_aln hb dX6_reads_5 (pc' := 6) rfl rfl ?_
  refine ei_c hb dX6_reads_6 (v := (0 : Int32)) (pc' := 7) (by decide) rfl ?_
  obtain ⟨S2, eS2⟩ : ∃ q, q = qz_wr S1 ((6, 0, 0) : qz_N) 14 (0 : Int32) := ⟨_, rfl⟩
  rw [qz_let, ← eS2] at h
  refine ei_pi hb dX6_reads_7 (pc' := 10) (M1 := (qz_mk S2.1 S2.2)) hcn qz_f_6_124 rfl rfl (fun q => by cases q) rfl (by rw [eS2]; rfl) rfl ?_
  refine ei_aln hb dX6_reads_10 (pc' := 11) rfl rfl ?_
  obtain ⟨R3, e4, h⟩ := Option.bind_eq_some_iff.mp h
  refine ei_cv hb dX6_reads_11 (pc' := 14) (M1 := (qz_mk R3.1 R3.2)) (as := []) (rest := []) (st' := []) hcn qz_c_6_169 qz_k_128 (qz_q_129_128) (Nat.le_of_ble_eq_true rfl) (Nat.le_of_ble_eq_true rfl) rfl rfl rfl (vM_readsBooking F S2 _ e4) rfl rfl ?_
  refine vM_reads_L14 F _ ?_ F R3 _ h
  intro T30 r h
  refine ei_aln hb dX6_reads_85 (pc' := 86) rfl rfl ?_
  refine ei_gi hb dX6_reads_86 (pc' := 89) (x := (T30.1 ((6, 0, 0) : qz_N) 12)) hcn qz_f_6_161 rfl rfl rfl rfl ?_
  by_cases c31 : (T30.1 ((6, 0, 0) : qz_N) 12) = 0
  · rw [if_pos c31] at h
    refine ei_ifT hb dX6_reads_89 (pc' := 97) (decide_eq_true c31) (by decide) ?_
    refine ei_aln hb dX6_reads_97 (pc' := 98) rfl rfl ?_
    refine ei_gi hb dX6_reads_98 (pc' := 101) (x := (T30.1 ((6, 0, 0) : qz_N) 11)) hcn qz_f_6_155 rfl rfl rfl rfl ?_
    have h := Option.some.inj h
    subst h
    exact ei_reti hb dX6_reads_101 rfl
  · rw [if_neg c31] at h
    refine ei_ifF hb dX6_reads_89 (pc' := 92) (t := 97) (decide_eq_false c31) (by decide) rfl ?_
    refine ei_b hb dX6_reads_92 (v := (-5 : Int32)) (pc' := 94) (by decide) rfl ?_
    refine ei_go hb dX6_reads_94 (pc' := 101) (by decide) ?_
    have h := Option.some.inj h
    subst h
    exact ei_reti hb dX6_reads_101 rfl
def gM_bookAll_L23 (F : Nat) (R2 : Int32 × qz_S) (K : (Int32 → Option (Int32 × qz_S))) : Nat → Int32 → Option (Int32 × qz_S)
  | 0, _ => none
  | n + 1, y2 => if (R2.2.1 ((6, 0, 0) : qz_N) 14) ≤ y2 then (K y2) else (if qz_xi ((3 : Int32) * y2) 180 = true then (Option.bind (gM_isEnd F R2.2.1 (R2.2.1 ((23, 0, 0) : qz_N) (((3 : Int32) * y2)).toNatClampNeg)) fun x7 => if x7 = 0 then (some ((-1 : Int32), R2.2)) else ((gM_bookAll_L23 F R2 K) n (y2 + 1))) else none)
def gM_bookAll_L80 (F : Nat)  (K : (Int32 → qz_S → Option (Int32 × qz_S))) : Nat → Int32 → qz_S → Option (Int32 × qz_S)
  | 0, _, _ => none
  | n + 1, y2, T => if (T.1 ((6, 0, 0) : qz_N) 14) ≤ y2 then (K y2 T) else (if qz_xi ((3 : Int32) * y2) 180 = true then (if qz_xi (((3 : Int32) * y2) + (1 : Int32)) 180 = true then (if qz_xi (((3 : Int32) * y2) + (2 : Int32)) 180 = true then (Option.bind (gM_books F T (T.1 ((23, 0, 0) : qz_N) (((3 : Int32) * y2)).toNatClampNeg) (T.1 ((23, 0, 0) : qz_N) ((((3 : Int32) * y2) + (1 : Int32))).toNatClampNeg) (T.1 ((23, 0, 0) : qz_N) ((((3 : Int32) * y2) + (2 : Int32))).toNatClampNeg)) fun R19 => (gM_bookAll_L80 F K) n (y2 + 1) R19.2) else none) else none) else none)
def gM_bookAll (F : Nat) (S : qz_S)  : Option (Int32 × qz_S) :=
  qz_let (qz_wr S ((6, 0, 0) : qz_N) 0 (0 : Int32)) fun S1 => Option.bind (gM_reads F S1) fun R2 => if R2.1 = (-5 : Int32) then (gM_bookAll_L23 F R2 (fun y210 => if ((R2.2.1 ((17, 0, 0) : qz_N) 6) + (R2.2.1 ((6, 0, 0) : qz_N) 14)) ≤ (30 : Int32) then (Option.bind (gM_records F R2.2) fun R13 => gM_bookAll_L80 F (fun y221 T22 => some ((T22.1 ((6, 0, 0) : qz_N) 14), T22)) F (0 : Int32) R13) else (some ((-3 : Int32), R2.2))) F (0 : Int32)) else (some (((-100 : Int32) - R2.1), R2.2))
set_option maxHeartbeats 4000000 in
theorem vM_bookAll_L23 (F : Nat) (R2 : Int32 × qz_S) (K : (Int32 → Option (Int32 × qz_S))) (hK : ∀ (y2 : Int32) (r : Int32 × qz_S), K y2 = some r → ∀ (d1 : Option qz_V), qz_E 115 54 [some (.inr (some ((6, 0, 0) : qz_N))), d1, some (.inl y2)] [] (qz_mk R2.2.1 R2.2.2) (some (.inl r.1)) (qz_mk r.2.1 r.2.2)) : ∀ (n : Nat) (y2 : Int32) (r : Int32 × qz_S), gM_bookAll_L23 F R2 K n y2 = some r → ∀ (d1 : Option qz_V), qz_E 115 23 [some (.inr (some ((6, 0, 0) : qz_N))), d1, some (.inl y2)] [] (qz_mk R2.2.1 R2.2.2) (some (.inl r.1)) (qz_mk r.2.1 r.2.2) := by
  have hb : qz_b 115 = cX6_bookAll := rfl
  have hcn : qz_cn 115 = 6 := rfl
  intro n
  induction n with
  | zero =>
    intro y2 r h
    cases h
  | succ n ih =>
    intro y2 r h d1
    rw [gM_bookAll_L23] at h
    refine ei_iln hb dX6_bookAll_23 (pc' := 24) rfl rfl ?_
    refine ei_aln hb dX6_bookAll_24 (pc' := 25) rfl rfl ?_
    refine ei_gi hb dX6_bookAll_25 (pc' := 28) (x := (R2.2.1 ((6, 0, 0) : qz_N) 14)) hcn qz_f_6_124 rfl rfl rfl rfl ?_
    by_cases c5 : (R2.2.1 ((6, 0, 0) : qz_N) 14) ≤ y2
    · rw [if_pos c5] at h
      refine ei_icT hb dX6_bookAll_28 (pc' := 54) (decide_eq_true c5) (by decide) ?_
      exact hK y2 _ h _
    · rw [if_neg c5] at h
      refine ei_icF hb dX6_bookAll_28 (pc' := 31) (t := 54) (decide_eq_false c5) (by decide) rfl ?_
      refine ei_aln hb dX6_bookAll_31 (pc' := 32) rfl rfl ?_
      refine ei_aln hb dX6_bookAll_32 (pc' := 33) rfl rfl ?_
      refine ei_gr hb dX6_bookAll_33 (pc' := 36) (x := some ((23, 0, 0) : qz_N)) hcn qz_f_6_29 rfl rfl rfl rfl ?_
      refine ei_c hb dX6_bookAll_36 (v := (3 : Int32)) (pc' := 37) (by decide) rfl ?_
      refine ei_iln hb dX6_bookAll_37 (pc' := 38) rfl rfl ?_
      refine ei_mul hb dX6_bookAll_38 (pc' := 39) rfl ?_
      by_cases c6 : qz_xi ((3 : Int32) * y2) 180 = true
      · rw [if_pos c6] at h
        refine ei_ia hb dX6_bookAll_39 (pc' := 40) (x := (R2.2.1 ((23, 0, 0) : qz_N) (((3 : Int32) * y2)).toNatClampNeg)) rfl c6 rfl rfl ?_
        obtain ⟨x7, e8, h⟩ := Option.bind_eq_some_iff.mp h
        refine ei_cv hb dX6_bookAll_40 (pc' := 43) (M1 := (qz_mk R2.2.1 R2.2.2)) (as := [.inl (R2.2.1 ((23, 0, 0) : qz_N) (((3 : Int32) * y2)).toNatClampNeg)]) (rest := []) (st' := [.inl x7]) hcn qz_c_6_60 qz_k_87 (qz_q_115_87) (Nat.le_of_ble_eq_true rfl) (Nat.le_of_ble_eq_true rfl) rfl rfl rfl (vM_isEnd F R2.2.1 R2.2.2 (R2.2.1 ((23, 0, 0) : qz_N) (((3 : Int32) * y2)).toNatClampNeg) _ e8) rfl rfl ?_
        by_cases c9 : x7 = 0
        · rw [if_pos c9] at h
          refine ei_ifF hb dX6_bookAll_43 (pc' := 46) (t := 48) (decide_eq_false (fun q => q c9)) (by decide) rfl ?_
          refine ei_c hb dX6_bookAll_46 (v := (-1 : Int32)) (pc' := 47) (by decide) rfl ?_
          have h := Option.some.inj h
          subst h
          exact ei_reti hb dX6_bookAll_47 rfl
        · rw [if_neg c9] at h
          refine ei_ifT hb dX6_bookAll_43 (pc' := 48) (decide_eq_true c9) (by decide) ?_
          refine ei_inc hb dX6_bookAll_48 (v := (y2 + 1)) (pc' := 51) (ls' := [some (.inr (some ((6, 0, 0) : qz_N))), d1, some (.inl (y2 + 1))]) rfl rfl rfl rfl ?_
          refine ei_go hb dX6_bookAll_51 (pc' := 23) (by decide) ?_
          exact ih (y2 + 1) _ h _
      · rw [if_neg c6] at h
        cases h
set_option maxHeartbeats 4000000 in
theorem vM_bookAll_L80 (F : Nat)  (K : (Int32 → qz_S → Option (Int32 × qz_S))) (hK : ∀ (y2 : Int32) (T : qz_S) (r : Int32 × qz_S), K y2 T = some r → ∀ (d1 : Option qz_V), qz_E 115 127 [some (.inr (some ((6, 0, 0) : qz_N))), d1, some (.inl y2)] [] (qz_mk T.1 T.2) (some (.inl r.1)) (qz_mk r.2.1 r.2.2)) : ∀ (n : Nat) (y2 : Int32) (T : qz_S) (r : Int32 × qz_S), gM_bookAll_L80 F K n y2 T = some r → ∀ (d1 : Option qz_V), qz_E 115 80 [some (.inr (some ((6, 0, 0) : qz_N))), d1, some (.inl y2)] [] (qz_mk T.1 T.2) (some (.inl r.1)) (qz_mk r.2.1 r.2.2) := by
  have hb : qz_b 115 = cX6_bookAll := rfl
  have hcn : qz_cn 115 = 6 := rfl
  intro n
  induction n with
  | zero =>
    intro y2 T r h
    cases h
  | succ n ih =>
    intro y2 T r h d1
    rw [gM_bookAll_L80] at h
    refine ei_iln hb dX6_bookAll_80 (pc' := 81) rfl rfl ?_
    refine ei_aln hb dX6_bookAll_81 (pc' := 82) rfl rfl ?_
    refine ei_gi hb dX6_bookAll_82 (pc' := 85) (x := (T.1 ((6, 0, 0) : qz_N) 14)) hcn qz_f_6_124 rfl rfl rfl rfl ?_
    by_cases c15 : (T.1 ((6, 0, 0) : qz_N) 14) ≤ y2
    · rw [if_pos c15] at h
      refine ei_icT hb dX6_bookAll_85 (pc' := 127) (decide_eq_true c15) (by decide) ?_
      exact hK y2 T _ h _
    · rw [if_neg c15] at h
      refine ei_icF hb dX6_bookAll_85 (pc' := 88) (t := 127) (decide_eq_false c15) (by decide) rfl ?_
      refine ei_aln hb dX6_bookAll_88 (pc' := 89) rfl rfl ?_
      refine ei_aln hb dX6_bookAll_89 (pc' := 90) rfl rfl ?_
      refine ei_gr hb dX6_bookAll_90 (pc' := 93) (x := some ((23, 0, 0) : qz_N)) hcn qz_f_6_29 rfl rfl rfl rfl ?_
      refine ei_c hb dX6_bookAll_93 (v := (3 : Int32)) (pc' := 94) (by decide) rfl ?_
      refine ei_iln hb dX6_bookAll_94 (pc' := 95) rfl rfl ?_
      refine ei_mul hb dX6_bookAll_95 (pc' := 96) rfl ?_
      by_cases c16 : qz_xi ((3 : Int32) * y2) 180 = true
      · rw [if_pos c16] at h
        refine ei_ia hb dX6_bookAll_96 (pc' := 97) (x := (T.1 ((23, 0, 0) : qz_N) (((3 : Int32) * y2)).toNatClampNeg)) rfl c16 rfl rfl ?_
        refine ei_aln hb dX6_bookAll_97 (pc' := 98) rfl rfl ?_
        refine ei_gr hb dX6_bookAll_98 (pc' := 101) (x := some ((23, 0, 0) : qz_N)) hcn qz_f_6_29 rfl rfl rfl rfl ?_
        refine ei_c hb dX6_bookAll_101 (v := (3 : Int32)) (pc' := 102) (by decide) rfl ?_
        refine ei_iln hb dX6_bookAll_102 (pc' := 103) rfl rfl ?_
        refine ei_mul hb dX6_bookAll_103 (pc' := 104) rfl ?_
        refine ei_c hb dX6_bookAll_104 (v := (1 : Int32)) (pc' := 105) (by decide) rfl ?_
        refine ei_add hb dX6_bookAll_105 (pc' := 106) rfl ?_
        by_cases c17 : qz_xi (((3 : Int32) * y2) + (1 : Int32)) 180 = true
        · rw [if_pos c17] at h
          refine ei_ia hb dX6_bookAll_106 (pc' := 107) (x := (T.1 ((23, 0, 0) : qz_N) ((((3 : Int32) * y2) + (1 : Int32))).toNatClampNeg)) rfl c17 rfl rfl ?_
          refine ei_aln hb dX6_bookAll_107 (pc' := 108) rfl rfl ?_
          refine ei_gr hb dX6_bookAll_108 (pc' := 111) (x := some ((23, 0, 0) : qz_N)) hcn qz_f_6_29 rfl rfl rfl rfl ?_
          refine ei_c hb dX6_bookAll_111 (v := (3 : Int32)) (pc' := 112) (by decide) rfl ?_
          refine ei_iln hb dX6_bookAll_112 (pc' := 113) rfl rfl ?_
          refine ei_mul hb dX6_bookAll_113 (pc' := 114) rfl ?_
          refine ei_c hb dX6_bookAll_114 (v := (2 : Int32)) (pc' := 115) (by decide) rfl ?_
          refine ei_add hb dX6_bookAll_115 (pc' := 116) rfl ?_
          by_cases c18 : qz_xi (((3 : Int32) * y2) + (2 : Int32)) 180 = true
          · rw [if_pos c18] at h
            refine ei_ia hb dX6_bookAll_116 (pc' := 117) (x := (T.1 ((23, 0, 0) : qz_N) ((((3 : Int32) * y2) + (2 : Int32))).toNatClampNeg)) rfl c18 rfl rfl ?_
            obtain ⟨R19, e20, h⟩ := Option.bind_eq_some_iff.mp h
            refine ei_cv hb dX6_bookAll_117 (pc' := 120) (M1 := (qz_mk R19.2.1 R19.2.2)) (as := [.inl (T.1 ((23, 0, 0) : qz_N) (((3 : Int32) * y2)).toNatClampNeg), .inl (T.1 ((23, 0, 0) : qz_N) ((((3 : Int32) * y2) + (1 : Int32))).toNatClampNeg), .inl (T.1 ((23, 0, 0) : qz_N) ((((3 : Int32) * y2) + (2 : Int32))).toNatClampNeg)]) (rest := []) (st' := [.inl R19.1]) hcn qz_c_6_118 qz_k_113 (qz_q_115_113) (Nat.le_of_ble_eq_true rfl) (Nat.le_of_ble_eq_true rfl) rfl rfl rfl (vM_books F T (T.1 ((23, 0, 0) : qz_N) (((3 : Int32) * y2)).toNatClampNeg) (T.1 ((23, 0, 0) : qz_N) ((((3 : Int32) * y2) + (1 : Int32))).toNatClampNeg) (T.1 ((23, 0, 0) : qz_N) ((((3 : Int32) * y2) + (2 : Int32))).toNatClampNeg) _ e20) rfl rfl ?_
            refine ei_pop hb dX6_bookAll_120 (pc' := 121) rfl ?_
            refine ei_inc hb dX6_bookAll_121 (v := (y2 + 1)) (pc' := 124) (ls' := [some (.inr (some ((6, 0, 0) : qz_N))), d1, some (.inl (y2 + 1))]) rfl rfl rfl rfl ?_
            refine ei_go hb dX6_bookAll_124 (pc' := 80) (by decide) ?_
            exact ih (y2 + 1) R19.2 _ h _
          · rw [if_neg c18] at h
            cases h
        · rw [if_neg c17] at h
          cases h
      · rw [if_neg c16] at h
        cases h
set_option maxHeartbeats 4000000 in
theorem vM_bookAll (F : Nat) (S : qz_S)  (r : Int32 × qz_S) (h : (gM_bookAll F S) = some r) : qz_E 115 0 (qz_in0 115 [.inr (some ((6, 0, 0) : qz_N))]) [] (qz_mk S.1 S.2) (some (.inl r.1)) (qz_mk r.2.1 r.2.2) := by
  have hb : qz_b 115 = cX6_bookAll := rfl
  have hcn : qz_cn 115 = 6 := rfl
  show qz_E 115 0 [some (.inr (some ((6, 0, 0) : qz_N))), none, none] [] _ _ _
  rw [gM_bookAll] at h
  refine ei_aln hb dX6_bookAll_0 (pc' := 1) rfl rfl ?_
  refine ei_c hb dX6_bookAll_1 (v := (0 : Int32)) (pc' := 2) (by decide) rfl ?_
  obtain ⟨S1, eS1⟩ : ∃ q, q = qz_wr S ((6, 0, 0) : qz_N) 0 (0 : Int32) := ⟨_, rfl⟩
  rw [qz_let, ← eS1] at h
  refine ei_pi hb dX6_bookAll_2 (pc' := 5) (M1 := (qz_mk S1.1 S1.2)) hcn qz_f_6_32 rfl rfl (fun q => by cases q) rfl (by rw [eS1]; rfl) rfl ?_
  refine ei_aln hb dX6_bookAll_5 (pc' := 6) rfl rfl ?_
  obtain ⟨R2, e3, h⟩ := Option.bind_eq_some_iff.mp h
  refine ei_cv hb dX6_bookAll_6 (pc' := 9) (M1 := (qz_mk R2.2.1 R2.2.2)) (as := []) (rest := []) (st' := [.inl R2.1]) hcn qz_c_6_121 qz_k_129 (qz_q_115_129) (Nat.le_of_ble_eq_true rfl) (Nat.le_of_ble_eq_true rfl) rfl rfl rfl (vM_reads F S1 _ e3) rfl rfl ?_
  refine ei_isn hb dX6_bookAll_9 (pc' := 10) (ls' := [some (.inr (some ((6, 0, 0) : qz_N))), some (.inl R2.1), none]) (Nat.le_of_ble_eq_true rfl) rfl rfl ?_
  refine ei_iln hb dX6_bookAll_10 (pc' := 11) rfl rfl ?_
  refine ei_b hb dX6_bookAll_11 (v := (-5 : Int32)) (pc' := 13) (by decide) rfl ?_
  by_cases c4 : R2.1 = (-5 : Int32)
  · rw [if_pos c4] at h
    refine ei_icT hb dX6_bookAll_13 (pc' := 21) (decide_eq_true c4) (by decide) ?_
    refine ei_c hb dX6_bookAll_21 (v := (0 : Int32)) (pc' := 22) (by decide) rfl ?_
    refine ei_isn hb dX6_bookAll_22 (pc' := 23) (ls' := [some (.inr (some ((6, 0, 0) : qz_N))), some (.inl R2.1), some (.inl (0 : Int32))]) (Nat.le_of_ble_eq_true rfl) rfl rfl ?_
    refine vM_bookAll_L23 F R2 _ ?_ F (0 : Int32) _ h _
    intro y210 r h d11
    refine ei_aln hb dX6_bookAll_54 (pc' := 55) rfl rfl ?_
    refine ei_gr hb dX6_bookAll_55 (pc' := 58) (x := some ((17, 0, 0) : qz_N)) hcn qz_f_6_7 rfl rfl rfl rfl ?_
    refine ei_b hb dX6_bookAll_58 (v := (6 : Int32)) (pc' := 60) (by decide) rfl ?_
    refine ei_ia hb dX6_bookAll_60 (pc' := 61) (x := (R2.2.1 ((17, 0, 0) : qz_N) 6)) rfl (show qz_xi (6 : Int32) 283 = true by decide) rfl rfl ?_
    refine ei_aln hb dX6_bookAll_61 (pc' := 62) rfl rfl ?_
    refine ei_gi hb dX6_bookAll_62 (pc' := 65) (x := (R2.2.1 ((6, 0, 0) : qz_N) 14)) hcn qz_f_6_124 rfl rfl rfl rfl ?_
    refine ei_add hb dX6_bookAll_65 (pc' := 66) rfl ?_
    refine ei_b hb dX6_bookAll_66 (v := (30 : Int32)) (pc' := 68) (by decide) rfl ?_
    by_cases c12 : ((R2.2.1 ((17, 0, 0) : qz_N) 6) + (R2.2.1 ((6, 0, 0) : qz_N) 14)) ≤ (30 : Int32)
    · rw [if_pos c12] at h
      refine ei_icT hb dX6_bookAll_68 (pc' := 74) (decide_eq_true c12) (by decide) ?_
      refine ei_aln hb dX6_bookAll_74 (pc' := 75) rfl rfl ?_
      obtain ⟨R13, e14, h⟩ := Option.bind_eq_some_iff.mp h
      refine ei_cv hb dX6_bookAll_75 (pc' := 78) (M1 := (qz_mk R13.1 R13.2)) (as := []) (rest := []) (st' := []) hcn qz_c_6_109 qz_k_93 (qz_q_115_93) (Nat.le_of_ble_eq_true rfl) (Nat.le_of_ble_eq_true rfl) rfl rfl rfl (vM_records F R2.2 _ e14) rfl rfl ?_
      refine ei_c hb dX6_bookAll_78 (v := (0 : Int32)) (pc' := 79) (by decide) rfl ?_
      refine ei_isn hb dX6_bookAll_79 (pc' := 80) (ls' := [some (.inr (some ((6, 0, 0) : qz_N))), d11, some (.inl (0 : Int32))]) (Nat.le_of_ble_eq_true rfl) rfl rfl ?_
      refine vM_bookAll_L80 F _ ?_ F (0 : Int32) R13 _ h _
      intro y221 T22 r h d23
      refine ei_aln hb dX6_bookAll_127 (pc' := 128) rfl rfl ?_
      refine ei_gi hb dX6_bookAll_128 (pc' := 131) (x := (T22.1 ((6, 0, 0) : qz_N) 14)) hcn qz_f_6_124 rfl rfl rfl rfl ?_
      have h := Option.some.inj h
      subst h
      exact ei_reti hb dX6_bookAll_131 rfl
    · rw [if_neg c12] at h
      refine ei_icF hb dX6_bookAll_68 (pc' := 71) (t := 74) (decide_eq_false c12) (by decide) rfl ?_
      refine ei_b hb dX6_bookAll_71 (v := (-3 : Int32)) (pc' := 73) (by decide) rfl ?_
      have h := Option.some.inj h
      subst h
      exact ei_reti hb dX6_bookAll_73 rfl
  · rw [if_neg c4] at h
    refine ei_icF hb dX6_bookAll_13 (pc' := 16) (t := 21) (decide_eq_false c4) (by decide) rfl ?_
    refine ei_b hb dX6_bookAll_16 (v := (-100 : Int32)) (pc' := 18) (by decide) rfl ?_
    refine ei_iln hb dX6_bookAll_18 (pc' := 19) rfl rfl ?_
    refine ei_sub hb dX6_bookAll_19 (pc' := 20) rfl ?_
    have h := Option.some.inj h
    subst h
    exact ei_reti hb dX6_bookAll_20 rfl
def gM_takeBack_L39 (F : Nat)  (K : (Int32 → qz_S → Option (Int32 × qz_S))) : Nat → Int32 → qz_S → Option (Int32 × qz_S)
  | 0, _, _ => none
  | n + 1, y3, T => if ((8 : Int32) * (T.1 ((17, 0, 0) : qz_N) 6)) ≤ y3 then (K y3 T) else (if qz_xi (((43 : Int32) + y3) + (8 : Int32)) 283 = true then (if qz_xi ((43 : Int32) + y3) 283 = true then (qz_let (qz_wr T ((17, 0, 0) : qz_N) (((43 : Int32) + y3)).toNatClampNeg (T.1 ((17, 0, 0) : qz_N) ((((43 : Int32) + y3) + (8 : Int32))).toNatClampNeg)) fun S11 => (gM_takeBack_L39 F K) n (y3 + 1) S11) else none) else none)
def gM_takeBack (F : Nat) (S : qz_S) (a0 : Int32) : Option (Int32 × qz_S) :=
  qz_let (qz_wr S ((6, 0, 0) : qz_N) 0 (0 : Int32)) fun S1 => Option.bind (gM_placeOf F S1.1 a0) fun x2 => if x2 = (-5 : Int32) then (some ((-1 : Int32), S1)) else (Option.bind (gM_records F S1) fun R5 => qz_let (qz_wr R5 ((17, 0, 0) : qz_N) 6 ((R5.1 ((17, 0, 0) : qz_N) 6) - (1 : Int32))) fun S7 => gM_takeBack_L39 F (fun y312 T13 => Option.bind (gM_looksAtAll F T13) fun R16 => Option.bind (gM_waiting F R16.1) fun x18 => some (x18, R16)) F ((8 : Int32) * x2) S7)
set_option maxHeartbeats 4000000 in
theorem vM_takeBack_L39 (F : Nat)  (K : (Int32 → qz_S → Option (Int32 × qz_S))) (hK : ∀ (y3 : Int32) (T : qz_S) (r : Int32 × qz_S), K y3 T = some r → ∀ (d1 : Option qz_V) (d2 : Option qz_V), qz_E 116 80 [some (.inr (some ((6, 0, 0) : qz_N))), d1, d2, some (.inl y3)] [] (qz_mk T.1 T.2) (some (.inl r.1)) (qz_mk r.2.1 r.2.2)) : ∀ (n : Nat) (y3 : Int32) (T : qz_S) (r : Int32 × qz_S), gM_takeBack_L39 F K n y3 T = some r → ∀ (d1 : Option qz_V) (d2 : Option qz_V), qz_E 116 39 [some (.inr (some ((6, 0, 0) : qz_N))), d1, d2, some (.inl y3)] [] (qz_mk T.1 T.2) (some (.inl r.1)) (qz_mk r.2.1 r.2.2) := by
  have hb : qz_b 116 = cX6_takeBack := rfl
  have hcn : qz_cn 116 = 6 := rfl
  intro n
  induction n with
  | zero =>
    intro y3 T r h
    cases h
  | succ n ih =>
    intro y3 T r h d1 d2
    rw [gM_takeBack_L39] at h
    refine ei_iln hb dX6_takeBack_39 (pc' := 40) rfl rfl ?_
    refine ei_b hb dX6_takeBack_40 (v := (8 : Int32)) (pc' := 42) (by decide) rfl ?_
    refine ei_aln hb dX6_takeBack_42 (pc' := 43) rfl rfl ?_
    refine ei_gr hb dX6_takeBack_43 (pc' := 46) (x := some ((17, 0, 0) : qz_N)) hcn qz_f_6_7 rfl rfl rfl rfl ?_
    refine ei_b hb dX6_takeBack_46 (v := (6 : Int32)) (pc' := 48) (by decide) rfl ?_
    refine ei_ia hb dX6_takeBack_48 (pc' := 49) (x := (T.1 ((17, 0, 0) : qz_N) 6)) rfl (show qz_xi (6 : Int32) 283 = true by decide) rfl rfl ?_
    refine ei_mul hb dX6_takeBack_49 (pc' := 50) rfl ?_
    by_cases c8 : ((8 : Int32) * (T.1 ((17, 0, 0) : qz_N) 6)) ≤ y3
    · rw [if_pos c8] at h
      refine ei_icT hb dX6_takeBack_50 (pc' := 80) (decide_eq_true c8) (by decide) ?_
      exact hK y3 T _ h _ _
    · rw [if_neg c8] at h
      refine ei_icF hb dX6_takeBack_50 (pc' := 53) (t := 80) (decide_eq_false c8) (by decide) rfl ?_
      refine ei_aln hb dX6_takeBack_53 (pc' := 54) rfl rfl ?_
      refine ei_gr hb dX6_takeBack_54 (pc' := 57) (x := some ((17, 0, 0) : qz_N)) hcn qz_f_6_7 rfl rfl rfl rfl ?_
      refine ei_b hb dX6_takeBack_57 (v := (43 : Int32)) (pc' := 59) (by decide) rfl ?_
      refine ei_iln hb dX6_takeBack_59 (pc' := 60) rfl rfl ?_
      refine ei_add hb dX6_takeBack_60 (pc' := 61) rfl ?_
      refine ei_aln hb dX6_takeBack_61 (pc' := 62) rfl rfl ?_
      refine ei_gr hb dX6_takeBack_62 (pc' := 65) (x := some ((17, 0, 0) : qz_N)) hcn qz_f_6_7 rfl rfl rfl rfl ?_
      refine ei_b hb dX6_takeBack_65 (v := (43 : Int32)) (pc' := 67) (by decide) rfl ?_
      refine ei_iln hb dX6_takeBack_67 (pc' := 68) rfl rfl ?_
      refine ei_add hb dX6_takeBack_68 (pc' := 69) rfl ?_
      refine ei_b hb dX6_takeBack_69 (v := (8 : Int32)) (pc' := 71) (by decide) rfl ?_
      refine ei_add hb dX6_takeBack_71 (pc' := 72) rfl ?_
      by_cases c9 : qz_xi (((43 : Int32) + y3) + (8 : Int32)) 283 = true
      · rw [if_pos c9] at h
        refine ei_ia hb dX6_takeBack_72 (pc' := 73) (x := (T.1 ((17, 0, 0) : qz_N) ((((43 : Int32) + y3) + (8 : Int32))).toNatClampNeg)) rfl c9 rfl rfl ?_
        by_cases c10 : qz_xi ((43 : Int32) + y3) 283 = true
        · rw [if_pos c10] at h
          obtain ⟨S11, eS11⟩ : ∃ q, q = qz_wr T ((17, 0, 0) : qz_N) (((43 : Int32) + y3)).toNatClampNeg (T.1 ((17, 0, 0) : qz_N) ((((43 : Int32) + y3) + (8 : Int32))).toNatClampNeg) := ⟨_, rfl⟩
          rw [qz_let, ← eS11] at h
          refine ei_ist hb dX6_takeBack_73 (pc' := 74) (M1 := (qz_mk S11.1 S11.2)) rfl (Nat.le_of_ble_eq_true rfl) c10 (by rw [eS11]; rfl) rfl ?_
          refine ei_inc hb dX6_takeBack_74 (v := (y3 + 1)) (pc' := 77) (ls' := [some (.inr (some ((6, 0, 0) : qz_N))), d1, d2, some (.inl (y3 + 1))]) rfl rfl rfl rfl ?_
          refine ei_go hb dX6_takeBack_77 (pc' := 39) (by decide) ?_
          exact ih (y3 + 1) S11 _ h _ _
        · rw [if_neg c10] at h
          cases h
      · rw [if_neg c9] at h
        cases h
set_option maxHeartbeats 4000000 in
theorem vM_takeBack (F : Nat) (S : qz_S) (a0 : Int32) (r : Int32 × qz_S) (h : (gM_takeBack F S a0) = some r) : qz_E 116 0 (qz_in0 116 [.inr (some ((6, 0, 0) : qz_N)), .inl a0]) [] (qz_mk S.1 S.2) (some (.inl r.1)) (qz_mk r.2.1 r.2.2) := by
  have hb : qz_b 116 = cX6_takeBack := rfl
  have hcn : qz_cn 116 = 6 := rfl
  show qz_E 116 0 [some (.inr (some ((6, 0, 0) : qz_N))), some (.inl a0), none, none] [] _ _ _
  rw [gM_takeBack] at h
  refine ei_aln hb dX6_takeBack_0 (pc' := 1) rfl rfl ?_
  refine ei_c hb dX6_takeBack_1 (v := (0 : Int32)) (pc' := 2) (by decide) rfl ?_
  obtain ⟨S1, eS1⟩ : ∃ q, q = qz_wr S ((6, 0, 0) : qz_N) 0 (0 : Int32) := ⟨_, rfl⟩
  rw [qz_let, ← eS1] at h
  refine ei_pi hb dX6_takeBack_2 (pc' := 5) (M1 := (qz_mk S1.1 S1.2)) hcn qz_f_6_32 rfl rfl (fun q => by cases q) rfl (by rw [eS1]; rfl) rfl ?_
  refine ei_aln hb dX6_takeBack_5 (pc' := 6) rfl rfl ?_
  refine ei_iln hb dX6_takeBack_6 (pc' := 7) rfl rfl ?_
  obtain ⟨x2, e3, h⟩ := Option.bind_eq_some_iff.mp h
  refine ei_cv hb dX6_takeBack_7 (pc' := 10) (M1 := (qz_mk S1.1 S1.2)) (as := [.inl a0]) (rest := []) (st' := [.inl x2]) hcn qz_c_6_127 qz_k_92 (qz_q_116_92) (Nat.le_of_ble_eq_true rfl) (Nat.le_of_ble_eq_true rfl) rfl rfl rfl (vM_placeOf F S1.1 S1.2 a0 _ e3) rfl rfl ?_
  refine ei_isn hb dX6_takeBack_10 (pc' := 11) (ls' := [some (.inr (some ((6, 0, 0) : qz_N))), some (.inl a0), some (.inl x2), none]) (Nat.le_of_ble_eq_true rfl) rfl rfl ?_
  refine ei_iln hb dX6_takeBack_11 (pc' := 12) rfl rfl ?_
  refine ei_b hb dX6_takeBack_12 (v := (-5 : Int32)) (pc' := 14) (by decide) rfl ?_
  by_cases c4 : x2 = (-5 : Int32)
  · rw [if_pos c4] at h
    refine ei_icF hb dX6_takeBack_14 (pc' := 17) (t := 19) (decide_eq_false (fun q => q c4)) (by decide) rfl ?_
    refine ei_c hb dX6_takeBack_17 (v := (-1 : Int32)) (pc' := 18) (by decide) rfl ?_
    have h := Option.some.inj h
    subst h
    exact ei_reti hb dX6_takeBack_18 rfl
  · rw [if_neg c4] at h
    refine ei_icT hb dX6_takeBack_14 (pc' := 19) (decide_eq_true c4) (by decide) ?_
    refine ei_aln hb dX6_takeBack_19 (pc' := 20) rfl rfl ?_
    obtain ⟨R5, e6, h⟩ := Option.bind_eq_some_iff.mp h
    refine ei_cv hb dX6_takeBack_20 (pc' := 23) (M1 := (qz_mk R5.1 R5.2)) (as := []) (rest := []) (st' := []) hcn qz_c_6_109 qz_k_93 (qz_q_116_93) (Nat.le_of_ble_eq_true rfl) (Nat.le_of_ble_eq_true rfl) rfl rfl rfl (vM_records F S1 _ e6) rfl rfl ?_
    refine ei_aln hb dX6_takeBack_23 (pc' := 24) rfl rfl ?_
    refine ei_gr hb dX6_takeBack_24 (pc' := 27) (x := some ((17, 0, 0) : qz_N)) hcn qz_f_6_7 rfl rfl rfl rfl ?_
    refine ei_b hb dX6_takeBack_27 (v := (6 : Int32)) (pc' := 29) (by decide) rfl ?_
    refine ei_dup2 hb dX6_takeBack_29 (pc' := 30) rfl ?_
    refine ei_ia hb dX6_takeBack_30 (pc' := 31) (x := (R5.1 ((17, 0, 0) : qz_N) 6)) rfl (show qz_xi (6 : Int32) 283 = true by decide) rfl rfl ?_
    refine ei_c hb dX6_takeBack_31 (v := (1 : Int32)) (pc' := 32) (by decide) rfl ?_
    refine ei_sub hb dX6_takeBack_32 (pc' := 33) rfl ?_
    obtain ⟨S7, eS7⟩ : ∃ q, q = qz_wr R5 ((17, 0, 0) : qz_N) 6 ((R5.1 ((17, 0, 0) : qz_N) 6) - (1 : Int32)) := ⟨_, rfl⟩
    rw [qz_let, ← eS7] at h
    refine ei_ist hb dX6_takeBack_33 (pc' := 34) (M1 := (qz_mk S7.1 S7.2)) rfl (Nat.le_of_ble_eq_true rfl) (show qz_xi (6 : Int32) 283 = true by decide) (by rw [eS7]; rfl) rfl ?_
    refine ei_b hb dX6_takeBack_34 (v := (8 : Int32)) (pc' := 36) (by decide) rfl ?_
    refine ei_iln hb dX6_takeBack_36 (pc' := 37) rfl rfl ?_
    refine ei_mul hb dX6_takeBack_37 (pc' := 38) rfl ?_
    refine ei_isn hb dX6_takeBack_38 (pc' := 39) (ls' := [some (.inr (some ((6, 0, 0) : qz_N))), some (.inl a0), some (.inl x2), some (.inl ((8 : Int32) * x2))]) (Nat.le_of_ble_eq_true rfl) rfl rfl ?_
    refine vM_takeBack_L39 F _ ?_ F ((8 : Int32) * x2) S7 _ h _ _
    intro y312 T13 r h d14 d15
    refine ei_aln hb dX6_takeBack_80 (pc' := 81) rfl rfl ?_
    obtain ⟨R16, e17, h⟩ := Option.bind_eq_some_iff.mp h
    refine ei_cv hb dX6_takeBack_81 (pc' := 84) (M1 := (qz_mk R16.1 R16.2)) (as := []) (rest := []) (st' := []) hcn qz_c_6_130 qz_k_103 (qz_q_116_103) (Nat.le_of_ble_eq_true rfl) (Nat.le_of_ble_eq_true rfl) rfl rfl rfl (vM_looksAtAll F T13 _ e17) rfl rfl ?_
    refine ei_aln hb dX6_takeBack_84 (pc' := 85) rfl rfl ?_
    obtain ⟨x18, e19, h⟩ := Option.bind_eq_some_iff.mp h
    refine ei_cv hb dX6_takeBack_85 (pc' := 88) (M1 := (qz_mk R16.1 R16.2)) (as := []) (rest := []) (st' := [.inl x18]) hcn qz_c_6_133 qz_k_104 (qz_q_116_104) (Nat.le_of_ble_eq_true rfl) (Nat.le_of_ble_eq_true rfl) rfl rfl rfl (vM_waiting F R16.1 R16.2 _ e19) rfl rfl ?_
    have h := Option.some.inj h
    subst h
    exact ei_reti hb dX6_takeBack_88 rfl
def gM_stay (F : Nat) (S : qz_S) (a0 : Int32) (a1 : Int32) : Option (Int32 × qz_S) :=
  qz_let (qz_wr S ((6, 0, 0) : qz_N) 0 (0 : Int32)) fun S1 => Option.bind (gM_placeOf F S1.1 a0) fun x2 => if x2 = (-5 : Int32) then (some ((-1 : Int32), S1)) else (Option.bind (gM_isEnd F S1.1 a1) fun x5 => if x5 = 0 then (some ((-1 : Int32), S1)) else (Option.bind (gM_of F S1.1 x2 (1 : Int32)) fun x8 => if x8 = a1 then (some ((-5 : Int32), S1)) else (Option.bind (gM_records F S1) fun R11 => Option.bind (gM_lay F R11 x2 (1 : Int32) a1) fun R13 => Option.bind (gM_lay F R13 x2 (4 : Int32) (0 : Int32)) fun R15 => Option.bind (gM_looksAtAll F R15) fun R17 => Option.bind (gM_of F R17.1 x2 (4 : Int32)) fun x19 => some (x19, R17))))
set_option maxHeartbeats 4000000 in
theorem vM_stay (F : Nat) (S : qz_S) (a0 : Int32) (a1 : Int32) (r : Int32 × qz_S) (h : (gM_stay F S a0 a1) = some r) : qz_E 117 0 (qz_in0 117 [.inr (some ((6, 0, 0) : qz_N)), .inl a0, .inl a1]) [] (qz_mk S.1 S.2) (some (.inl r.1)) (qz_mk r.2.1 r.2.2) := by
  have hb : qz_b 117 = cX6_stay := rfl
  have hcn : qz_cn 117 = 6 := rfl
  show qz_E 117 0 [some (.inr (some ((6, 0, 0) : qz_N))), some (.inl a0), some (.inl a1), none] [] _ _ _
  rw [gM_stay] at h
  refine ei_aln hb dX6_stay_0 (pc' := 1) rfl rfl ?_
  refine ei_c hb dX6_stay_1 (v := (0 : Int32)) (pc' := 2) (by decide) rfl ?_
  obtain ⟨S1, eS1⟩ : ∃ q, q = qz_wr S ((6, 0, 0) : qz_N) 0 (0 : Int32) := ⟨_, rfl⟩
  rw [qz_let, ← eS1] at h
  refine ei_pi hb dX6_stay_2 (pc' := 5) (M1 := (qz_mk S1.1 S1.2)) hcn qz_f_6_32 rfl rfl (fun q => by cases q) rfl (by rw [eS1]; rfl) rfl ?_
  refine ei_aln hb dX6_stay_5 (pc' := 6) rfl rfl ?_
  refine ei_iln hb dX6_stay_6 (pc' := 7) rfl rfl ?_
  obtain ⟨x2, e3, h⟩ := Option.bind_eq_some_iff.mp h
  refine ei_cv hb dX6_stay_7 (pc' := 10) (M1 := (qz_mk S1.1 S1.2)) (as := [.inl a0]) (rest := []) (st' := [.inl x2]) hcn qz_c_6_127 qz_k_92 (qz_q_117_92) (Nat.le_of_ble_eq_true rfl) (Nat.le_of_ble_eq_true rfl) rfl rfl rfl (vM_placeOf F S1.1 S1.2 a0 _ e3) rfl rfl ?_
  refine ei_isn hb dX6_stay_10 (pc' := 11) (ls' := [some (.inr (some ((6, 0, 0) : qz_N))), some (.inl a0), some (.inl a1), some (.inl x2)]) (Nat.le_of_ble_eq_true rfl) rfl rfl ?_
  refine ei_iln hb dX6_stay_11 (pc' := 12) rfl rfl ?_
  refine ei_b hb dX6_stay_12 (v := (-5 : Int32)) (pc' := 14) (by decide) rfl ?_
  by_cases c4 : x2 = (-5 : Int32)
  · rw [if_pos c4] at h
    refine ei_icT hb dX6_stay_14 (pc' := 25) (decide_eq_true c4) (by decide) ?_
    refine ei_c hb dX6_stay_25 (v := (-1 : Int32)) (pc' := 26) (by decide) rfl ?_
    have h := Option.some.inj h
    subst h
    exact ei_reti hb dX6_stay_26 rfl
  · rw [if_neg c4] at h
    refine ei_icF hb dX6_stay_14 (pc' := 17) (t := 25) (decide_eq_false c4) (by decide) rfl ?_
    refine ei_aln hb dX6_stay_17 (pc' := 18) rfl rfl ?_
    refine ei_iln hb dX6_stay_18 (pc' := 19) rfl rfl ?_
    obtain ⟨x5, e6, h⟩ := Option.bind_eq_some_iff.mp h
    refine ei_cv hb dX6_stay_19 (pc' := 22) (M1 := (qz_mk S1.1 S1.2)) (as := [.inl a1]) (rest := []) (st' := [.inl x5]) hcn qz_c_6_60 qz_k_87 (qz_q_117_87) (Nat.le_of_ble_eq_true rfl) (Nat.le_of_ble_eq_true rfl) rfl rfl rfl (vM_isEnd F S1.1 S1.2 a1 _ e6) rfl rfl ?_
    by_cases c7 : x5 = 0
    · rw [if_pos c7] at h
      refine ei_ifF hb dX6_stay_22 (pc' := 25) (t := 27) (decide_eq_false (fun q => q c7)) (by decide) rfl ?_
      refine ei_c hb dX6_stay_25 (v := (-1 : Int32)) (pc' := 26) (by decide) rfl ?_
      have h := Option.some.inj h
      subst h
      exact ei_reti hb dX6_stay_26 rfl
    · rw [if_neg c7] at h
      refine ei_ifT hb dX6_stay_22 (pc' := 27) (decide_eq_true c7) (by decide) ?_
      refine ei_aln hb dX6_stay_27 (pc' := 28) rfl rfl ?_
      refine ei_iln hb dX6_stay_28 (pc' := 29) rfl rfl ?_
      refine ei_c hb dX6_stay_29 (v := (1 : Int32)) (pc' := 30) (by decide) rfl ?_
      obtain ⟨x8, e9, h⟩ := Option.bind_eq_some_iff.mp h
      refine ei_cv hb dX6_stay_30 (pc' := 33) (M1 := (qz_mk S1.1 S1.2)) (as := [.inl x2, .inl (1 : Int32)]) (rest := []) (st' := [.inl x8]) hcn qz_c_6_40 qz_k_85 (qz_q_117_85) (Nat.le_of_ble_eq_true rfl) (Nat.le_of_ble_eq_true rfl) rfl rfl rfl (vM_of F S1.1 S1.2 x2 (1 : Int32) _ e9) rfl rfl ?_
      refine ei_iln hb dX6_stay_33 (pc' := 34) rfl rfl ?_
      by_cases c10 : x8 = a1
      · rw [if_pos c10] at h
        refine ei_icF hb dX6_stay_34 (pc' := 37) (t := 40) (decide_eq_false (fun q => q c10)) (by decide) rfl ?_
        refine ei_b hb dX6_stay_37 (v := (-5 : Int32)) (pc' := 39) (by decide) rfl ?_
        have h := Option.some.inj h
        subst h
        exact ei_reti hb dX6_stay_39 rfl
      · rw [if_neg c10] at h
        refine ei_icT hb dX6_stay_34 (pc' := 40) (decide_eq_true c10) (by decide) ?_
        refine ei_aln hb dX6_stay_40 (pc' := 41) rfl rfl ?_
        obtain ⟨R11, e12, h⟩ := Option.bind_eq_some_iff.mp h
        refine ei_cv hb dX6_stay_41 (pc' := 44) (M1 := (qz_mk R11.1 R11.2)) (as := []) (rest := []) (st' := []) hcn qz_c_6_109 qz_k_93 (qz_q_117_93) (Nat.le_of_ble_eq_true rfl) (Nat.le_of_ble_eq_true rfl) rfl rfl rfl (vM_records F S1 _ e12) rfl rfl ?_
        refine ei_aln hb dX6_stay_44 (pc' := 45) rfl rfl ?_
        refine ei_iln hb dX6_stay_45 (pc' := 46) rfl rfl ?_
        refine ei_c hb dX6_stay_46 (v := (1 : Int32)) (pc' := 47) (by decide) rfl ?_
        refine ei_iln hb dX6_stay_47 (pc' := 48) rfl rfl ?_
        obtain ⟨R13, e14, h⟩ := Option.bind_eq_some_iff.mp h
        refine ei_cv hb dX6_stay_48 (pc' := 51) (M1 := (qz_mk R13.1 R13.2)) (as := [.inl x2, .inl (1 : Int32), .inl a1]) (rest := []) (st' := []) hcn qz_c_6_82 qz_k_86 (qz_q_117_86) (Nat.le_of_ble_eq_true rfl) (Nat.le_of_ble_eq_true rfl) rfl rfl rfl (vM_lay F R11 x2 (1 : Int32) a1 _ e14) rfl rfl ?_
        refine ei_aln hb dX6_stay_51 (pc' := 52) rfl rfl ?_
        refine ei_iln hb dX6_stay_52 (pc' := 53) rfl rfl ?_
        refine ei_c hb dX6_stay_53 (v := (4 : Int32)) (pc' := 54) (by decide) rfl ?_
        refine ei_c hb dX6_stay_54 (v := (0 : Int32)) (pc' := 55) (by decide) rfl ?_
        obtain ⟨R15, e16, h⟩ := Option.bind_eq_some_iff.mp h
        refine ei_cv hb dX6_stay_55 (pc' := 58) (M1 := (qz_mk R15.1 R15.2)) (as := [.inl x2, .inl (4 : Int32), .inl (0 : Int32)]) (rest := []) (st' := []) hcn qz_c_6_82 qz_k_86 (qz_q_117_86) (Nat.le_of_ble_eq_true rfl) (Nat.le_of_ble_eq_true rfl) rfl rfl rfl (vM_lay F R13 x2 (4 : Int32) (0 : Int32) _ e16) rfl rfl ?_
        refine ei_aln hb dX6_stay_58 (pc' := 59) rfl rfl ?_
        obtain ⟨R17, e18, h⟩ := Option.bind_eq_some_iff.mp h
        refine ei_cv hb dX6_stay_59 (pc' := 62) (M1 := (qz_mk R17.1 R17.2)) (as := []) (rest := []) (st' := []) hcn qz_c_6_130 qz_k_103 (qz_q_117_103) (Nat.le_of_ble_eq_true rfl) (Nat.le_of_ble_eq_true rfl) rfl rfl rfl (vM_looksAtAll F R15 _ e18) rfl rfl ?_
        refine ei_aln hb dX6_stay_62 (pc' := 63) rfl rfl ?_
        refine ei_iln hb dX6_stay_63 (pc' := 64) rfl rfl ?_
        refine ei_c hb dX6_stay_64 (v := (4 : Int32)) (pc' := 65) (by decide) rfl ?_
        obtain ⟨x19, e20, h⟩ := Option.bind_eq_some_iff.mp h
        refine ei_cv hb dX6_stay_65 (pc' := 68) (M1 := (qz_mk R17.1 R17.2)) (as := [.inl x2, .inl (4 : Int32)]) (rest := []) (st' := [.inl x19]) hcn qz_c_6_40 qz_k_85 (qz_q_117_85) (Nat.le_of_ble_eq_true rfl) (Nat.le_of_ble_eq_true rfl) rfl rfl rfl (vM_of F R17.1 R17.2 x2 (4 : Int32) _ e20) rfl rfl ?_
        have h := Option.some.inj h
        subst h
        exact ei_reti hb dX6_stay_68 rfl
def gM_layMerged (F : Nat) (S : qz_S) (a0 : Int32) (a1 : Int32) (a2 : Int32) : Option (qz_S) :=
  if a2 = (-5 : Int32) then (if qz_xi (((23 : Int32) + ((10 : Int32) * a0)) + a1) 283 = true then (qz_let (qz_wr S ((17, 0, 0) : qz_N) ((((23 : Int32) + ((10 : Int32) * a0)) + a1)).toNatClampNeg (0 : Int32)) fun S3 => some S3) else none) else (if qz_xi (((23 : Int32) + ((10 : Int32) * a0)) + a1) 283 = true then (qz_let (qz_wr S ((17, 0, 0) : qz_N) ((((23 : Int32) + ((10 : Int32) * a0)) + a1)).toNatClampNeg (a2 + (1 : Int32))) fun S5 => some S5) else none)
set_option maxHeartbeats 4000000 in
theorem vM_layMerged (F : Nat) (S : qz_S) (a0 : Int32) (a1 : Int32) (a2 : Int32) (r : qz_S) (h : (gM_layMerged F S a0 a1 a2) = some r) : qz_E 118 0 (qz_in0 118 [.inr (some ((6, 0, 0) : qz_N)), .inl a0, .inl a1, .inl a2]) [] (qz_mk S.1 S.2) none (qz_mk r.1 r.2) := by
  have hb : qz_b 118 = cX6_layMerged := rfl
  have hcn : qz_cn 118 = 6 := rfl
  show qz_E 118 0 [some (.inr (some ((6, 0, 0) : qz_N))), some (.inl a0), some (.inl a1), some (.inl a2)] [] _ _ _
  rw [gM_layMerged] at h
  refine ei_aln hb dX6_layMerged_0 (pc' := 1) rfl rfl ?_
  refine ei_gr hb dX6_layMerged_1 (pc' := 4) (x := some ((17, 0, 0) : qz_N)) hcn qz_f_6_7 rfl rfl rfl rfl ?_
  refine ei_b hb dX6_layMerged_4 (v := (23 : Int32)) (pc' := 6) (by decide) rfl ?_
  refine ei_b hb dX6_layMerged_6 (v := (10 : Int32)) (pc' := 8) (by decide) rfl ?_
  refine ei_iln hb dX6_layMerged_8 (pc' := 9) rfl rfl ?_
  refine ei_mul hb dX6_layMerged_9 (pc' := 10) rfl ?_
  refine ei_add hb dX6_layMerged_10 (pc' := 11) rfl ?_
  refine ei_iln hb dX6_layMerged_11 (pc' := 12) rfl rfl ?_
  refine ei_add hb dX6_layMerged_12 (pc' := 13) rfl ?_
  refine ei_iln hb dX6_layMerged_13 (pc' := 14) rfl rfl ?_
  refine ei_b hb dX6_layMerged_14 (v := (-5 : Int32)) (pc' := 16) (by decide) rfl ?_
  by_cases c1 : a2 = (-5 : Int32)
  · rw [if_pos c1] at h
    refine ei_icF hb dX6_layMerged_16 (pc' := 19) (t := 23) (decide_eq_false (fun q => q c1)) (by decide) rfl ?_
    refine ei_c hb dX6_layMerged_19 (v := (0 : Int32)) (pc' := 20) (by decide) rfl ?_
    refine ei_go hb dX6_layMerged_20 (pc' := 26) (by decide) ?_
    by_cases c2 : qz_xi (((23 : Int32) + ((10 : Int32) * a0)) + a1) 283 = true
    · rw [if_pos c2] at h
      obtain ⟨S3, eS3⟩ : ∃ q, q = qz_wr S ((17, 0, 0) : qz_N) ((((23 : Int32) + ((10 : Int32) * a0)) + a1)).toNatClampNeg (0 : Int32) := ⟨_, rfl⟩
      rw [qz_let, ← eS3] at h
      refine ei_ist hb dX6_layMerged_26 (pc' := 27) (M1 := (qz_mk S3.1 S3.2)) rfl (Nat.le_of_ble_eq_true rfl) c2 (by rw [eS3]; rfl) rfl ?_
      have h := Option.some.inj h
      subst h
      exact ei_retv hb dX6_layMerged_27 rfl
    · rw [if_neg c2] at h
      cases h
  · rw [if_neg c1] at h
    refine ei_icT hb dX6_layMerged_16 (pc' := 23) (decide_eq_true c1) (by decide) ?_
    refine ei_iln hb dX6_layMerged_23 (pc' := 24) rfl rfl ?_
    refine ei_c hb dX6_layMerged_24 (v := (1 : Int32)) (pc' := 25) (by decide) rfl ?_
    refine ei_add hb dX6_layMerged_25 (pc' := 26) rfl ?_
    by_cases c4 : qz_xi (((23 : Int32) + ((10 : Int32) * a0)) + a1) 283 = true
    · rw [if_pos c4] at h
      obtain ⟨S5, eS5⟩ : ∃ q, q = qz_wr S ((17, 0, 0) : qz_N) ((((23 : Int32) + ((10 : Int32) * a0)) + a1)).toNatClampNeg (a2 + (1 : Int32)) := ⟨_, rfl⟩
      rw [qz_let, ← eS5] at h
      refine ei_ist hb dX6_layMerged_26 (pc' := 27) (M1 := (qz_mk S5.1 S5.2)) rfl (Nat.le_of_ble_eq_true rfl) c4 (by rw [eS5]; rfl) rfl ?_
      have h := Option.some.inj h
      subst h
      exact ei_retv hb dX6_layMerged_27 rfl
    · rw [if_neg c4] at h
      cases h
def gM_merge (F : Nat) (S : qz_S) (a0 : Int32) (a1 : Int32) (a2 : Int32) : Option (Int32 × qz_S) :=
  qz_let (qz_wr S ((6, 0, 0) : qz_N) 0 (0 : Int32)) fun S1 => if (gM_isLine S1.1 a0) = 0 then (some ((-1 : Int32), S1)) else (Option.bind (gM_isEnd F S1.1 a1) fun x3 => if x3 = 0 then (some ((-1 : Int32), S1)) else (Option.bind (gM_isEnd F S1.1 a2) fun x6 => if x6 = 0 then (some ((-1 : Int32), S1)) else (if a1 = a2 then (some ((-2 : Int32), S1)) else (Option.bind (gM_canMerge F S1.1 a0 a1 a2) fun x10 => if x10 = 0 then (some ((-4 : Int32), S1)) else (Option.bind (gM_records F S1) fun R13 => Option.bind (gM_layMerged F R13 a0 a1 a2) fun R15 => Option.bind (gM_layMerged F R15 a0 a2 a1) fun R17 => Option.bind (gM_looksAtAll F R17) fun R19 => Option.bind (gM_startOf F R19.1 a0 a1) fun x21 => some (x21, R19))))))
set_option maxHeartbeats 4000000 in
theorem vM_merge (F : Nat) (S : qz_S) (a0 : Int32) (a1 : Int32) (a2 : Int32) (r : Int32 × qz_S) (h : (gM_merge F S a0 a1 a2) = some r) : qz_E 119 0 (qz_in0 119 [.inr (some ((6, 0, 0) : qz_N)), .inl a0, .inl a1, .inl a2]) [] (qz_mk S.1 S.2) (some (.inl r.1)) (qz_mk r.2.1 r.2.2) := by
  have hb : qz_b 119 = cX6_merge := rfl
  have hcn : qz_cn 119 = 6 := rfl
  show qz_E 119 0 [some (.inr (some ((6, 0, 0) : qz_N))), some (.inl a0), some (.inl a1), some (.inl a2)] [] _ _ _
  rw [gM_merge] at h
  refine ei_aln hb dX6_merge_0 (pc' := 1) rfl rfl ?_
  refine ei_c hb dX6_merge_1 (v := (0 : Int32)) (pc' := 2) (by decide) rfl ?_
  obtain ⟨S1, eS1⟩ : ∃ q, q = qz_wr S ((6, 0, 0) : qz_N) 0 (0 : Int32) := ⟨_, rfl⟩
  rw [qz_let, ← eS1] at h
  refine ei_pi hb dX6_merge_2 (pc' := 5) (M1 := (qz_mk S1.1 S1.2)) hcn qz_f_6_32 rfl rfl (fun q => by cases q) rfl (by rw [eS1]; rfl) rfl ?_
  refine ei_iln hb dX6_merge_5 (pc' := 6) rfl rfl ?_
  refine ei_cs hb dX6_merge_6 (pc' := 9) (M1 := (qz_mk S1.1 S1.2)) (as := [.inl a0]) (rest := []) (st' := [.inl (gM_isLine S1.1 a0)]) hcn qz_c_6_112 rfl qz_k_88 (qz_q_119_88) (Nat.le_of_ble_eq_true rfl) (Nat.le_of_ble_eq_true rfl) rfl rfl (vM_isLine S1.1 S1.2 a0) rfl rfl ?_
  by_cases c2 : (gM_isLine S1.1 a0) = 0
  · rw [if_pos c2] at h
    refine ei_ifT hb dX6_merge_9 (pc' := 28) (decide_eq_true c2) (by decide) ?_
    refine ei_c hb dX6_merge_28 (v := (-1 : Int32)) (pc' := 29) (by decide) rfl ?_
    have h := Option.some.inj h
    subst h
    exact ei_reti hb dX6_merge_29 rfl
  · rw [if_neg c2] at h
    refine ei_ifF hb dX6_merge_9 (pc' := 12) (t := 28) (decide_eq_false c2) (by decide) rfl ?_
    refine ei_aln hb dX6_merge_12 (pc' := 13) rfl rfl ?_
    refine ei_iln hb dX6_merge_13 (pc' := 14) rfl rfl ?_
    obtain ⟨x3, e4, h⟩ := Option.bind_eq_some_iff.mp h
    refine ei_cv hb dX6_merge_14 (pc' := 17) (M1 := (qz_mk S1.1 S1.2)) (as := [.inl a1]) (rest := []) (st' := [.inl x3]) hcn qz_c_6_60 qz_k_87 (qz_q_119_87) (Nat.le_of_ble_eq_true rfl) (Nat.le_of_ble_eq_true rfl) rfl rfl rfl (vM_isEnd F S1.1 S1.2 a1 _ e4) rfl rfl ?_
    by_cases c5 : x3 = 0
    · rw [if_pos c5] at h
      refine ei_ifT hb dX6_merge_17 (pc' := 28) (decide_eq_true c5) (by decide) ?_
      refine ei_c hb dX6_merge_28 (v := (-1 : Int32)) (pc' := 29) (by decide) rfl ?_
      have h := Option.some.inj h
      subst h
      exact ei_reti hb dX6_merge_29 rfl
    · rw [if_neg c5] at h
      refine ei_ifF hb dX6_merge_17 (pc' := 20) (t := 28) (decide_eq_false c5) (by decide) rfl ?_
      refine ei_aln hb dX6_merge_20 (pc' := 21) rfl rfl ?_
      refine ei_iln hb dX6_merge_21 (pc' := 22) rfl rfl ?_
      obtain ⟨x6, e7, h⟩ := Option.bind_eq_some_iff.mp h
      refine ei_cv hb dX6_merge_22 (pc' := 25) (M1 := (qz_mk S1.1 S1.2)) (as := [.inl a2]) (rest := []) (st' := [.inl x6]) hcn qz_c_6_60 qz_k_87 (qz_q_119_87) (Nat.le_of_ble_eq_true rfl) (Nat.le_of_ble_eq_true rfl) rfl rfl rfl (vM_isEnd F S1.1 S1.2 a2 _ e7) rfl rfl ?_
      by_cases c8 : x6 = 0
      · rw [if_pos c8] at h
        refine ei_ifF hb dX6_merge_25 (pc' := 28) (t := 30) (decide_eq_false (fun q => q c8)) (by decide) rfl ?_
        refine ei_c hb dX6_merge_28 (v := (-1 : Int32)) (pc' := 29) (by decide) rfl ?_
        have h := Option.some.inj h
        subst h
        exact ei_reti hb dX6_merge_29 rfl
      · rw [if_neg c8] at h
        refine ei_ifT hb dX6_merge_25 (pc' := 30) (decide_eq_true c8) (by decide) ?_
        refine ei_iln hb dX6_merge_30 (pc' := 31) rfl rfl ?_
        refine ei_iln hb dX6_merge_31 (pc' := 32) rfl rfl ?_
        by_cases c9 : a1 = a2
        · rw [if_pos c9] at h
          refine ei_icF hb dX6_merge_32 (pc' := 35) (t := 38) (decide_eq_false (fun q => q c9)) (by decide) rfl ?_
          refine ei_b hb dX6_merge_35 (v := (-2 : Int32)) (pc' := 37) (by decide) rfl ?_
          have h := Option.some.inj h
          subst h
          exact ei_reti hb dX6_merge_37 rfl
        · rw [if_neg c9] at h
          refine ei_icT hb dX6_merge_32 (pc' := 38) (decide_eq_true c9) (by decide) ?_
          refine ei_aln hb dX6_merge_38 (pc' := 39) rfl rfl ?_
          refine ei_iln hb dX6_merge_39 (pc' := 40) rfl rfl ?_
          refine ei_iln hb dX6_merge_40 (pc' := 41) rfl rfl ?_
          refine ei_iln hb dX6_merge_41 (pc' := 42) rfl rfl ?_
          obtain ⟨x10, e11, h⟩ := Option.bind_eq_some_iff.mp h
          refine ei_cv hb dX6_merge_42 (pc' := 45) (M1 := (qz_mk S1.1 S1.2)) (as := [.inl a0, .inl a1, .inl a2]) (rest := []) (st' := [.inl x10]) hcn qz_c_6_136 qz_k_106 (qz_q_119_106) (Nat.le_of_ble_eq_true rfl) (Nat.le_of_ble_eq_true rfl) rfl rfl rfl (vM_canMerge F S1.1 S1.2 a0 a1 a2 _ e11) rfl rfl ?_
          by_cases c12 : x10 = 0
          · rw [if_pos c12] at h
            refine ei_ifF hb dX6_merge_45 (pc' := 48) (t := 51) (decide_eq_false (fun q => q c12)) (by decide) rfl ?_
            refine ei_b hb dX6_merge_48 (v := (-4 : Int32)) (pc' := 50) (by decide) rfl ?_
            have h := Option.some.inj h
            subst h
            exact ei_reti hb dX6_merge_50 rfl
          · rw [if_neg c12] at h
            refine ei_ifT hb dX6_merge_45 (pc' := 51) (decide_eq_true c12) (by decide) ?_
            refine ei_aln hb dX6_merge_51 (pc' := 52) rfl rfl ?_
            obtain ⟨R13, e14, h⟩ := Option.bind_eq_some_iff.mp h
            refine ei_cv hb dX6_merge_52 (pc' := 55) (M1 := (qz_mk R13.1 R13.2)) (as := []) (rest := []) (st' := []) hcn qz_c_6_109 qz_k_93 (qz_q_119_93) (Nat.le_of_ble_eq_true rfl) (Nat.le_of_ble_eq_true rfl) rfl rfl rfl (vM_records F S1 _ e14) rfl rfl ?_
            refine ei_aln hb dX6_merge_55 (pc' := 56) rfl rfl ?_
            refine ei_iln hb dX6_merge_56 (pc' := 57) rfl rfl ?_
            refine ei_iln hb dX6_merge_57 (pc' := 58) rfl rfl ?_
            refine ei_iln hb dX6_merge_58 (pc' := 59) rfl rfl ?_
            obtain ⟨R15, e16, h⟩ := Option.bind_eq_some_iff.mp h
            refine ei_cv hb dX6_merge_59 (pc' := 62) (M1 := (qz_mk R15.1 R15.2)) (as := [.inl a0, .inl a1, .inl a2]) (rest := []) (st' := []) hcn qz_c_6_139 qz_k_118 (qz_q_119_118) (Nat.le_of_ble_eq_true rfl) (Nat.le_of_ble_eq_true rfl) rfl rfl rfl (vM_layMerged F R13 a0 a1 a2 _ e16) rfl rfl ?_
            refine ei_aln hb dX6_merge_62 (pc' := 63) rfl rfl ?_
            refine ei_iln hb dX6_merge_63 (pc' := 64) rfl rfl ?_
            refine ei_iln hb dX6_merge_64 (pc' := 65) rfl rfl ?_
            refine ei_iln hb dX6_merge_65 (pc' := 66) rfl rfl ?_
            obtain ⟨R17, e18, h⟩ := Option.bind_eq_some_iff.mp h
            refine ei_cv hb dX6_merge_66 (pc' := 69) (M1 := (qz_mk R17.1 R17.2)) (as := [.inl a0, .inl a2, .inl a1]) (rest := []) (st' := []) hcn qz_c_6_139 qz_k_118 (qz_q_119_118) (Nat.le_of_ble_eq_true rfl) (Nat.le_of_ble_eq_true rfl) rfl rfl rfl (vM_layMerged F R15 a0 a2 a1 _ e18) rfl rfl ?_
            refine ei_aln hb dX6_merge_69 (pc' := 70) rfl rfl ?_
            obtain ⟨R19, e20, h⟩ := Option.bind_eq_some_iff.mp h
            refine ei_cv hb dX6_merge_70 (pc' := 73) (M1 := (qz_mk R19.1 R19.2)) (as := []) (rest := []) (st' := []) hcn qz_c_6_130 qz_k_103 (qz_q_119_103) (Nat.le_of_ble_eq_true rfl) (Nat.le_of_ble_eq_true rfl) rfl rfl rfl (vM_looksAtAll F R17 _ e20) rfl rfl ?_
            refine ei_aln hb dX6_merge_73 (pc' := 74) rfl rfl ?_
            refine ei_iln hb dX6_merge_74 (pc' := 75) rfl rfl ?_
            refine ei_iln hb dX6_merge_75 (pc' := 76) rfl rfl ?_
            obtain ⟨x21, e22, h⟩ := Option.bind_eq_some_iff.mp h
            refine ei_cv hb dX6_merge_76 (pc' := 79) (M1 := (qz_mk R19.1 R19.2)) (as := [.inl a0, .inl a1]) (rest := []) (st' := [.inl x21]) hcn qz_c_6_68 qz_k_95 (qz_q_119_95) (Nat.le_of_ble_eq_true rfl) (Nat.le_of_ble_eq_true rfl) rfl rfl rfl (vM_startOf F R19.1 R19.2 a0 a1 _ e22) rfl rfl ?_
            have h := Option.some.inj h
            subst h
            exact ei_reti hb dX6_merge_79 rfl
def gM_part (F : Nat) (S : qz_S) (a0 : Int32) (a1 : Int32) : Option (Int32 × qz_S) :=
  qz_let (qz_wr S ((6, 0, 0) : qz_N) 0 (0 : Int32)) fun S1 => if (gM_isLine S1.1 a0) = 0 then (some ((-1 : Int32), S1)) else (Option.bind (gM_isEnd F S1.1 a1) fun x3 => if x3 = 0 then (some ((-1 : Int32), S1)) else (Option.bind (gM_partner F S1.1 a0 a1) fun x6 => if x6 = (-5 : Int32) then (some ((-5 : Int32), S1)) else (Option.bind (gM_records F S1) fun R9 => Option.bind (gM_layMerged F R9 a0 a1 (-5 : Int32)) fun R11 => Option.bind (gM_layMerged F R11 a0 x6 (-5 : Int32)) fun R13 => Option.bind (gM_looksAtAll F R13) fun R15 => some (x6, R15))))
set_option maxHeartbeats 4000000 in
theorem vM_part (F : Nat) (S : qz_S) (a0 : Int32) (a1 : Int32) (r : Int32 × qz_S) (h : (gM_part F S a0 a1) = some r) : qz_E 120 0 (qz_in0 120 [.inr (some ((6, 0, 0) : qz_N)), .inl a0, .inl a1]) [] (qz_mk S.1 S.2) (some (.inl r.1)) (qz_mk r.2.1 r.2.2) := by
  have hb : qz_b 120 = cX6_part := rfl
  have hcn : qz_cn 120 = 6 := rfl
  show qz_E 120 0 [some (.inr (some ((6, 0, 0) : qz_N))), some (.inl a0), some (.inl a1), none] [] _ _ _
  rw [gM_part] at h
  refine ei_aln hb dX6_part_0 (pc' := 1) rfl rfl ?_
  refine ei_c hb dX6_part_1 (v := (0 : Int32)) (pc' := 2) (by decide) rfl ?_
  obtain ⟨S1, eS1⟩ : ∃ q, q = qz_wr S ((6, 0, 0) : qz_N) 0 (0 : Int32) := ⟨_, rfl⟩
  rw [qz_let, ← eS1] at h
  refine ei_pi hb dX6_part_2 (pc' := 5) (M1 := (qz_mk S1.1 S1.2)) hcn qz_f_6_32 rfl rfl (fun q => by cases q) rfl (by rw [eS1]; rfl) rfl ?_
  refine ei_iln hb dX6_part_5 (pc' := 6) rfl rfl ?_
  refine ei_cs hb dX6_part_6 (pc' := 9) (M1 := (qz_mk S1.1 S1.2)) (as := [.inl a0]) (rest := []) (st' := [.inl (gM_isLine S1.1 a0)]) hcn qz_c_6_112 rfl qz_k_88 (qz_q_120_88) (Nat.le_of_ble_eq_true rfl) (Nat.le_of_ble_eq_true rfl) rfl rfl (vM_isLine S1.1 S1.2 a0) rfl rfl ?_
  by_cases c2 : (gM_isLine S1.1 a0) = 0
  · rw [if_pos c2] at h
    refine ei_ifT hb dX6_part_9 (pc' := 20) (decide_eq_true c2) (by decide) ?_
    refine ei_c hb dX6_part_20 (v := (-1 : Int32)) (pc' := 21) (by decide) rfl ?_
    have h := Option.some.inj h
    subst h
    exact ei_reti hb dX6_part_21 rfl
  · rw [if_neg c2] at h
    refine ei_ifF hb dX6_part_9 (pc' := 12) (t := 20) (decide_eq_false c2) (by decide) rfl ?_
    refine ei_aln hb dX6_part_12 (pc' := 13) rfl rfl ?_
    refine ei_iln hb dX6_part_13 (pc' := 14) rfl rfl ?_
    obtain ⟨x3, e4, h⟩ := Option.bind_eq_some_iff.mp h
    refine ei_cv hb dX6_part_14 (pc' := 17) (M1 := (qz_mk S1.1 S1.2)) (as := [.inl a1]) (rest := []) (st' := [.inl x3]) hcn qz_c_6_60 qz_k_87 (qz_q_120_87) (Nat.le_of_ble_eq_true rfl) (Nat.le_of_ble_eq_true rfl) rfl rfl rfl (vM_isEnd F S1.1 S1.2 a1 _ e4) rfl rfl ?_
    by_cases c5 : x3 = 0
    · rw [if_pos c5] at h
      refine ei_ifF hb dX6_part_17 (pc' := 20) (t := 22) (decide_eq_false (fun q => q c5)) (by decide) rfl ?_
      refine ei_c hb dX6_part_20 (v := (-1 : Int32)) (pc' := 21) (by decide) rfl ?_
      have h := Option.some.inj h
      subst h
      exact ei_reti hb dX6_part_21 rfl
    · rw [if_neg c5] at h
      refine ei_ifT hb dX6_part_17 (pc' := 22) (decide_eq_true c5) (by decide) ?_
      refine ei_aln hb dX6_part_22 (pc' := 23) rfl rfl ?_
      refine ei_iln hb dX6_part_23 (pc' := 24) rfl rfl ?_
      refine ei_iln hb dX6_part_24 (pc' := 25) rfl rfl ?_
      obtain ⟨x6, e7, h⟩ := Option.bind_eq_some_iff.mp h
      refine ei_cv hb dX6_part_25 (pc' := 28) (M1 := (qz_mk S1.1 S1.2)) (as := [.inl a0, .inl a1]) (rest := []) (st' := [.inl x6]) hcn qz_c_6_47 qz_k_91 (qz_q_120_91) (Nat.le_of_ble_eq_true rfl) (Nat.le_of_ble_eq_true rfl) rfl rfl rfl (vM_partner F S1.1 S1.2 a0 a1 _ e7) rfl rfl ?_
      refine ei_isn hb dX6_part_28 (pc' := 29) (ls' := [some (.inr (some ((6, 0, 0) : qz_N))), some (.inl a0), some (.inl a1), some (.inl x6)]) (Nat.le_of_ble_eq_true rfl) rfl rfl ?_
      refine ei_iln hb dX6_part_29 (pc' := 30) rfl rfl ?_
      refine ei_b hb dX6_part_30 (v := (-5 : Int32)) (pc' := 32) (by decide) rfl ?_
      by_cases c8 : x6 = (-5 : Int32)
      · rw [if_pos c8] at h
        refine ei_icF hb dX6_part_32 (pc' := 35) (t := 38) (decide_eq_false (fun q => q c8)) (by decide) rfl ?_
        refine ei_b hb dX6_part_35 (v := (-5 : Int32)) (pc' := 37) (by decide) rfl ?_
        have h := Option.some.inj h
        subst h
        exact ei_reti hb dX6_part_37 rfl
      · rw [if_neg c8] at h
        refine ei_icT hb dX6_part_32 (pc' := 38) (decide_eq_true c8) (by decide) ?_
        refine ei_aln hb dX6_part_38 (pc' := 39) rfl rfl ?_
        obtain ⟨R9, e10, h⟩ := Option.bind_eq_some_iff.mp h
        refine ei_cv hb dX6_part_39 (pc' := 42) (M1 := (qz_mk R9.1 R9.2)) (as := []) (rest := []) (st' := []) hcn qz_c_6_109 qz_k_93 (qz_q_120_93) (Nat.le_of_ble_eq_true rfl) (Nat.le_of_ble_eq_true rfl) rfl rfl rfl (vM_records F S1 _ e10) rfl rfl ?_
        refine ei_aln hb dX6_part_42 (pc' := 43) rfl rfl ?_
        refine ei_iln hb dX6_part_43 (pc' := 44) rfl rfl ?_
        refine ei_iln hb dX6_part_44 (pc' := 45) rfl rfl ?_
        refine ei_b hb dX6_part_45 (v := (-5 : Int32)) (pc' := 47) (by decide) rfl ?_
        obtain ⟨R11, e12, h⟩ := Option.bind_eq_some_iff.mp h
        refine ei_cv hb dX6_part_47 (pc' := 50) (M1 := (qz_mk R11.1 R11.2)) (as := [.inl a0, .inl a1, .inl (-5 : Int32)]) (rest := []) (st' := []) hcn qz_c_6_139 qz_k_118 (qz_q_120_118) (Nat.le_of_ble_eq_true rfl) (Nat.le_of_ble_eq_true rfl) rfl rfl rfl (vM_layMerged F R9 a0 a1 (-5 : Int32) _ e12) rfl rfl ?_
        refine ei_aln hb dX6_part_50 (pc' := 51) rfl rfl ?_
        refine ei_iln hb dX6_part_51 (pc' := 52) rfl rfl ?_
        refine ei_iln hb dX6_part_52 (pc' := 53) rfl rfl ?_
        refine ei_b hb dX6_part_53 (v := (-5 : Int32)) (pc' := 55) (by decide) rfl ?_
        obtain ⟨R13, e14, h⟩ := Option.bind_eq_some_iff.mp h
        refine ei_cv hb dX6_part_55 (pc' := 58) (M1 := (qz_mk R13.1 R13.2)) (as := [.inl a0, .inl x6, .inl (-5 : Int32)]) (rest := []) (st' := []) hcn qz_c_6_139 qz_k_118 (qz_q_120_118) (Nat.le_of_ble_eq_true rfl) (Nat.le_of_ble_eq_true rfl) rfl rfl rfl (vM_layMerged F R11 a0 x6 (-5 : Int32) _ e14) rfl rfl ?_
        refine ei_aln hb dX6_part_58 (pc' := 59) rfl rfl ?_
        obtain ⟨R15, e16, h⟩ := Option.bind_eq_some_iff.mp h
        refine ei_cv hb dX6_part_59 (pc' := 62) (M1 := (qz_mk R15.1 R15.2)) (as := []) (rest := []) (st' := []) hcn qz_c_6_130 qz_k_103 (qz_q_120_103) (Nat.le_of_ble_eq_true rfl) (Nat.le_of_ble_eq_true rfl) rfl rfl rfl (vM_looksAtAll F R13 _ e16) rfl rfl ?_
        refine ei_iln hb dX6_part_62 (pc' := 63) rfl rfl ?_
        have h := Option.some.inj h
        subst h
        exact ei_reti hb dX6_part_63 rfl
def gM_isSetting (f : qz_F) (a0 : Int32) (a1 : Int32) : Int32 :=
  if a0 = 0 then (gM_in f a1 (1 : Int32) (20 : Int32)) else (if a0 = 1 then (gM_in f a1 (1 : Int32) (30 : Int32)) else (if a0 = 2 then (gM_in f a1 (0 : Int32) (120 : Int32)) else (if a0 = (3 : Int32) then (if (gM_in f a1 (10 : Int32) (300 : Int32)) = 0 then (0 : Int32) else (1 : Int32)) else (0 : Int32))))
set_option maxHeartbeats 4000000 in
theorem vM_isSetting (f : qz_F) (p : Nat → Nat) (a0 : Int32) (a1 : Int32) : qz_E 121 0 (qz_in0 121 [.inl a0, .inl a1]) [] (qz_mk f p) (some (.inl (gM_isSetting f a0 a1))) (qz_mk f p) := by
  have hb : qz_b 121 = cX6_isSetting := rfl
  have hcn : qz_cn 121 = 6 := rfl
  obtain ⟨r, h⟩ : ∃ r, (gM_isSetting f a0 a1) = r := ⟨_, rfl⟩
  rw [h]
  show qz_E 121 0 [some (.inl a0), some (.inl a1)] [] _ _ _
  rw [gM_isSetting] at h
  refine ei_iln hb dX6_isSetting_0 (pc' := 1) rfl rfl ?_
  by_cases c1 : a0 = 0
  · rw [if_pos c1] at h
    refine ei_tbI hb dX6_isSetting_1 (pc' := 28) (off := 27) (by rw [c1]; decide) (by rw [c1]; rfl) (by decide) ?_
    refine ei_iln hb dX6_isSetting_28 (pc' := 29) rfl rfl ?_
    refine ei_c hb dX6_isSetting_29 (v := (1 : Int32)) (pc' := 30) (by decide) rfl ?_
    refine ei_b hb dX6_isSetting_30 (v := (20 : Int32)) (pc' := 32) (by decide) rfl ?_
    refine ei_cs hb dX6_isSetting_32 (pc' := 35) (M1 := (qz_mk f p)) (as := [.inl a1, .inl (1 : Int32), .inl (20 : Int32)]) (rest := []) (st' := [.inl (gM_in f a1 (1 : Int32) (20 : Int32))]) hcn qz_c_6_36 rfl qz_k_84 (qz_q_121_84) (Nat.le_of_ble_eq_true rfl) (Nat.le_of_ble_eq_true rfl) rfl rfl (vM_in f p a1 (1 : Int32) (20 : Int32)) rfl rfl ?_
    subst h
    exact ei_retz hb dX6_isSetting_35 rfl zM_in
  · rw [if_neg c1] at h
    by_cases c2 : a0 = 1
    · rw [if_pos c2] at h
      refine ei_tbI hb dX6_isSetting_1 (pc' := 36) (off := 35) (by rw [c2]; decide) (by rw [c2]; rfl) (by decide) ?_
      refine ei_iln hb dX6_isSetting_36 (pc' := 37) rfl rfl ?_
      refine ei_c hb dX6_isSetting_37 (v := (1 : Int32)) (pc' := 38) (by decide) rfl ?_
      refine ei_b hb dX6_isSetting_38 (v := (30 : Int32)) (pc' := 40) (by decide) rfl ?_
      refine ei_cs hb dX6_isSetting_40 (pc' := 43) (M1 := (qz_mk f p)) (as := [.inl a1, .inl (1 : Int32), .inl (30 : Int32)]) (rest := []) (st' := [.inl (gM_in f a1 (1 : Int32) (30 : Int32))]) hcn qz_c_6_36 rfl qz_k_84 (qz_q_121_84) (Nat.le_of_ble_eq_true rfl) (Nat.le_of_ble_eq_true rfl) rfl rfl (vM_in f p a1 (1 : Int32) (30 : Int32)) rfl rfl ?_
      subst h
      exact ei_retz hb dX6_isSetting_43 rfl zM_in
    · rw [if_neg c2] at h
      by_cases c3 : a0 = 2
      · rw [if_pos c3] at h
        refine ei_tbI hb dX6_isSetting_1 (pc' := 44) (off := 43) (by rw [c3]; decide) (by rw [c3]; rfl) (by decide) ?_
        refine ei_iln hb dX6_isSetting_44 (pc' := 45) rfl rfl ?_
        refine ei_c hb dX6_isSetting_45 (v := (0 : Int32)) (pc' := 46) (by decide) rfl ?_
        refine ei_b hb dX6_isSetting_46 (v := (120 : Int32)) (pc' := 48) (by decide) rfl ?_
        refine ei_cs hb dX6_isSetting_48 (pc' := 51) (M1 := (qz_mk f p)) (as := [.inl a1, .inl (0 : Int32), .inl (120 : Int32)]) (rest := []) (st' := [.inl (gM_in f a1 (0 : Int32) (120 : Int32))]) hcn qz_c_6_36 rfl qz_k_84 (qz_q_121_84) (Nat.le_of_ble_eq_true rfl) (Nat.le_of_ble_eq_true rfl) rfl rfl (vM_in f p a1 (0 : Int32) (120 : Int32)) rfl rfl ?_
        subst h
        exact ei_retz hb dX6_isSetting_51 rfl zM_in
      · rw [if_neg c3] at h
        have tc1 := lv_neT c1 (show (0 : Int32).toInt = 0 by decide)
        have tc2 := lv_neT c2 (show (1 : Int32).toInt = 1 by decide)
        have tc3 := lv_neT c3 (show (2 : Int32).toInt = 2 by decide)
        refine ei_tbO hb dX6_isSetting_1 (pc' := 52) (by omega) (by decide) ?_
        refine ei_iln hb dX6_isSetting_52 (pc' := 53) rfl rfl ?_
        refine ei_c hb dX6_isSetting_53 (v := (3 : Int32)) (pc' := 54) (by decide) rfl ?_
        by_cases c4 : a0 = (3 : Int32)
        · rw [if_pos c4] at h
          refine ei_icF hb dX6_isSetting_54 (pc' := 57) (t := 73) (decide_eq_false (fun q => q c4)) (by decide) rfl ?_
          refine ei_iln hb dX6_isSetting_57 (pc' := 58) rfl rfl ?_
          refine ei_b hb dX6_isSetting_58 (v := (10 : Int32)) (pc' := 60) (by decide) rfl ?_
          refine ei_s hb dX6_isSetting_60 (v := (300 : Int32)) (pc' := 63) (by decide) rfl ?_
          refine ei_cs hb dX6_isSetting_63 (pc' := 66) (M1 := (qz_mk f p)) (as := [.inl a1, .inl (10 : Int32), .inl (300 : Int32)]) (rest := []) (st' := [.inl (gM_in f a1 (10 : Int32) (300 : Int32))]) hcn qz_c_6_36 rfl qz_k_84 (qz_q_121_84) (Nat.le_of_ble_eq_true rfl) (Nat.le_of_ble_eq_true rfl) rfl rfl (vM_in f p a1 (10 : Int32) (300 : Int32)) rfl rfl ?_
          by_cases c5 : (gM_in f a1 (10 : Int32) (300 : Int32)) = 0
          · rw [if_pos c5] at h
            refine ei_ifT hb dX6_isSetting_66 (pc' := 73) (decide_eq_true c5) (by decide) ?_
            refine ei_c hb dX6_isSetting_73 (v := (0 : Int32)) (pc' := 74) (by decide) rfl ?_
            subst h
            exact ei_retz hb dX6_isSetting_74 rfl (by decide)
          · rw [if_neg c5] at h
            refine ei_ifF hb dX6_isSetting_66 (pc' := 69) (t := 73) (decide_eq_false c5) (by decide) rfl ?_
            refine ei_c hb dX6_isSetting_69 (v := (1 : Int32)) (pc' := 70) (by decide) rfl ?_
            refine ei_go hb dX6_isSetting_70 (pc' := 74) (by decide) ?_
            subst h
            exact ei_retz hb dX6_isSetting_74 rfl (by decide)
        · rw [if_neg c4] at h
          refine ei_icT hb dX6_isSetting_54 (pc' := 73) (decide_eq_true c4) (by decide) ?_
          refine ei_c hb dX6_isSetting_73 (v := (0 : Int32)) (pc' := 74) (by decide) rfl ?_
          subst h
          exact ei_retz hb dX6_isSetting_74 rfl (by decide)
def gM_set (F : Nat) (S : qz_S) (a0 : Int32) (a1 : Int32) : Option (Int32 × qz_S) :=
  qz_let (qz_wr S ((6, 0, 0) : qz_N) 0 (0 : Int32)) fun S1 => if (gM_isSetting S1.1 a0 a1) = 0 then (some ((-2 : Int32), S1)) else (if qz_xi a0 283 = true then (if (S1.1 ((17, 0, 0) : qz_N) (a0).toNatClampNeg) = a1 then (some ((-5 : Int32), S1)) else (Option.bind (gM_records F S1) fun R5 => qz_let (qz_wr R5 ((17, 0, 0) : qz_N) (a0).toNatClampNeg a1) fun S7 => if a0 = (2 : Int32) then (some ((S1.1 ((17, 0, 0) : qz_N) (a0).toNatClampNeg), S7)) else (Option.bind (gM_looksAtAll F S7) fun R9 => some ((S1.1 ((17, 0, 0) : qz_N) (a0).toNatClampNeg), R9)))) else none)
set_option maxHeartbeats 4000000 in
theorem vM_set (F : Nat) (S : qz_S) (a0 : Int32) (a1 : Int32) (r : Int32 × qz_S) (h : (gM_set F S a0 a1) = some r) : qz_E 122 0 (qz_in0 122 [.inr (some ((6, 0, 0) : qz_N)), .inl a0, .inl a1]) [] (qz_mk S.1 S.2) (some (.inl r.1)) (qz_mk r.2.1 r.2.2) := by
  have hb : qz_b 122 = cX6_set := rfl
  have hcn : qz_cn 122 = 6 := rfl
  show qz_E 122 0 [some (.inr (some ((6, 0, 0) : qz_N))), some (.inl a0), some (.inl a1), none] [] _ _ _
  rw [gM_set] at h
  refine ei_aln hb dX6_set_0 (pc' := 1) rfl rfl ?_
  refine ei_c hb dX6_set_1 (v := (0 : Int32)) (pc' := 2) (by decide) rfl ?_
  obtain ⟨S1, eS1⟩ : ∃ q, q = qz_wr S ((6, 0, 0) : qz_N) 0 (0 : Int32) := ⟨_, rfl⟩
  rw [qz_let, ← eS1] at h
  refine ei_pi hb dX6_set_2 (pc' := 5) (M1 := (qz_mk S1.1 S1.2)) hcn qz_f_6_32 rfl rfl (fun q => by cases q) rfl (by rw [eS1]; rfl) rfl ?_
  refine ei_iln hb dX6_set_5 (pc' := 6) rfl rfl ?_
  refine ei_iln hb dX6_set_6 (pc' := 7) rfl rfl ?_
  refine ei_cs hb dX6_set_7 (pc' := 10) (M1 := (qz_mk S1.1 S1.2)) (as := [.inl a0, .inl a1]) (rest := []) (st' := [.inl (gM_isSetting S1.1 a0 a1)]) hcn qz_c_6_142 rfl qz_k_121 (qz_q_122_121) (Nat.le_of_ble_eq_true rfl) (Nat.le_of_ble_eq_true rfl) rfl rfl (vM_isSetting S1.1 S1.2 a0 a1) rfl rfl ?_
  by_cases c2 : (gM_isSetting S1.1 a0 a1) = 0
  · rw [if_pos c2] at h
    refine ei_ifF hb dX6_set_10 (pc' := 13) (t := 16) (decide_eq_false (fun q => q c2)) (by decide) rfl ?_
    refine ei_b hb dX6_set_13 (v := (-2 : Int32)) (pc' := 15) (by decide) rfl ?_
    have h := Option.some.inj h
    subst h
    exact ei_reti hb dX6_set_15 rfl
  · rw [if_neg c2] at h
    refine ei_ifT hb dX6_set_10 (pc' := 16) (decide_eq_true c2) (by decide) ?_
    refine ei_aln hb dX6_set_16 (pc' := 17) rfl rfl ?_
    refine ei_gr hb dX6_set_17 (pc' := 20) (x := some ((17, 0, 0) : qz_N)) hcn qz_f_6_7 rfl rfl rfl rfl ?_
    refine ei_iln hb dX6_set_20 (pc' := 21) rfl rfl ?_
    by_cases c3 : qz_xi a0 283 = true
    · rw [if_pos c3] at h
      refine ei_ia hb dX6_set_21 (pc' := 22) (x := (S1.1 ((17, 0, 0) : qz_N) (a0).toNatClampNeg)) rfl c3 rfl rfl ?_
      refine ei_isn hb dX6_set_22 (pc' := 23) (ls' := [some (.inr (some ((6, 0, 0) : qz_N))), some (.inl a0), some (.inl a1), some (.inl (S1.1 ((17, 0, 0) : qz_N) (a0).toNatClampNeg))]) (Nat.le_of_ble_eq_true rfl) rfl rfl ?_
      refine ei_iln hb dX6_set_23 (pc' := 24) rfl rfl ?_
      refine ei_iln hb dX6_set_24 (pc' := 25) rfl rfl ?_
      by_cases c4 : (S1.1 ((17, 0, 0) : qz_N) (a0).toNatClampNeg) = a1
      · rw [if_pos c4] at h
        refine ei_icF hb dX6_set_25 (pc' := 28) (t := 31) (decide_eq_false (fun q => q c4)) (by decide) rfl ?_
        refine ei_b hb dX6_set_28 (v := (-5 : Int32)) (pc' := 30) (by decide) rfl ?_
        have h := Option.some.inj h
        subst h
        exact ei_reti hb dX6_set_30 rfl
      · rw [if_neg c4] at h
        refine ei_icT hb dX6_set_25 (pc' := 31) (decide_eq_true c4) (by decide) ?_
        refine ei_aln hb dX6_set_31 (pc' := 32) rfl rfl ?_
        obtain ⟨R5, e6, h⟩ := Option.bind_eq_some_iff.mp h
        refine ei_cv hb dX6_set_32 (pc' := 35) (M1 := (qz_mk R5.1 R5.2)) (as := []) (rest := []) (st' := []) hcn qz_c_6_109 qz_k_93 (qz_q_122_93) (Nat.le_of_ble_eq_true rfl) (Nat.le_of_ble_eq_true rfl) rfl rfl rfl (vM_records F S1 _ e6) rfl rfl ?_
        refine ei_aln hb dX6_set_35 (pc' := 36) rfl rfl ?_
        refine ei_gr hb dX6_set_36 (pc' := 39) (x := some ((17, 0, 0) : qz_N)) hcn qz_f_6_7 rfl rfl rfl rfl ?_
        refine ei_iln hb dX6_set_39 (pc' := 40) rfl rfl ?_
        refine ei_iln hb dX6_set_40 (pc' := 41) rfl rfl ?_
        obtain ⟨S7, eS7⟩ : ∃ q, q = qz_wr R5 ((17, 0, 0) : qz_N) (a0).toNatClampNeg a1 := ⟨_, rfl⟩
        rw [qz_let, ← eS7] at h
        refine ei_ist hb dX6_set_41 (pc' := 42) (M1 := (qz_mk S7.1 S7.2)) rfl (Nat.le_of_ble_eq_true rfl) c3 (by rw [eS7]; rfl) rfl ?_
        refine ei_iln hb dX6_set_42 (pc' := 43) rfl rfl ?_
        refine ei_c hb dX6_set_43 (v := (2 : Int32)) (pc' := 44) (by decide) rfl ?_
        by_cases c8 : a0 = (2 : Int32)
        · rw [if_pos c8] at h
          refine ei_icT hb dX6_set_44 (pc' := 51) (decide_eq_true c8) (by decide) ?_
          refine ei_iln hb dX6_set_51 (pc' := 52) rfl rfl ?_
          have h := Option.some.inj h
          subst h
          exact ei_reti hb dX6_set_52 rfl
        · rw [if_neg c8] at h
          refine ei_icF hb dX6_set_44 (pc' := 47) (t := 51) (decide_eq_false c8) (by decide) rfl ?_
          refine ei_aln hb dX6_set_47 (pc' := 48) rfl rfl ?_
          obtain ⟨R9, e10, h⟩ := Option.bind_eq_some_iff.mp h
          refine ei_cv hb dX6_set_48 (pc' := 51) (M1 := (qz_mk R9.1 R9.2)) (as := []) (rest := []) (st' := []) hcn qz_c_6_130 qz_k_103 (qz_q_122_103) (Nat.le_of_ble_eq_true rfl) (Nat.le_of_ble_eq_true rfl) rfl rfl rfl (vM_looksAtAll F S7 _ e10) rfl rfl ?_
          refine ei_iln hb dX6_set_51 (pc' := 52) rfl rfl ?_
          have h := Option.some.inj h
          subst h
          exact ei_reti hb dX6_set_52 rfl
    · rw [if_neg c3] at h
      cases h
def gM_passDay_L13 (F : Nat)  (K : (Int32 → Int32 → qz_S → Option (Int32 × qz_S))) : Nat → Int32 → Int32 → qz_S → Option (Int32 × qz_S)
  | 0, _, _, _ => none
  | n + 1, y1, y2, T => if ((2 : Int32) * (T.1 ((17, 0, 0) : qz_N) 4)) ≤ y2 then (K y1 y2 T) else (Option.bind (gM_isAway F T.1 (y2 - y2 / (2 : Int32) * (2 : Int32)) (y2 / (2 : Int32))) fun x5 => if x5 = 0 then (Option.bind (gM_bringsHome F T (y2 - y2 / (2 : Int32) * (2 : Int32)) (y2 / (2 : Int32))) fun R8 => (gM_passDay_L13 F K) n (y1 + R8.1) (y2 + 1) R8.2) else ((gM_passDay_L13 F K) n (y1 + (0 : Int32)) (y2 + 1) T))
def gM_passDay_L63 (F : Nat) (y110 : Int32) (K : (Int32 → qz_S → Option (Int32 × qz_S))) : Nat → Int32 → qz_S → Option (Int32 × qz_S)
  | 0, _, _ => none
  | n + 1, y2, T => if (T.1 ((17, 0, 0) : qz_N) 6) ≤ y2 then (K y2 T) else (Option.bind (gM_of F T.1 y2 (4 : Int32)) fun x14 => if x14 = 0 then (Option.bind (gM_of F T.1 y2 (7 : Int32)) fun x17 => Option.bind (gM_lay F T y2 (7 : Int32) (x17 + (1 : Int32))) fun R19 => qz_let (qz_wr R19 ((17, 0, 0) : qz_N) 10 ((R19.1 ((17, 0, 0) : qz_N) 10) + (1 : Int32))) fun S21 => (gM_passDay_L63 F y110 K) n (y2 + 1) S21) else ((gM_passDay_L63 F y110 K) n (y2 + 1) T))
def gM_passDay (F : Nat) (S : qz_S)  : Option (Int32 × qz_S) :=
  qz_let (qz_wr S ((6, 0, 0) : qz_N) 0 (0 : Int32)) fun S1 => Option.bind (gM_records F S1) fun R2 => gM_passDay_L13 F (fun y110 y211 T12 => gM_passDay_L63 F y110 (fun y222 T23 => qz_let (qz_wr T23 ((17, 0, 0) : qz_N) 7 ((T23.1 ((17, 0, 0) : qz_N) 7) + (1 : Int32))) fun S24 => some (y110, S24)) F (0 : Int32) T12) F (0 : Int32) (0 : Int32) R2
set_option maxHeartbeats 4000000 in
theorem vM_passDay_L13 (F : Nat)  (K : (Int32 → Int32 → qz_S → Option (Int32 × qz_S))) (hK : ∀ (y1 : Int32) (y2 : Int32) (T : qz_S) (r : Int32 × qz_S), K y1 y2 T = some r → qz_E 123 61 [some (.inr (some ((6, 0, 0) : qz_N))), some (.inl y1), some (.inl y2)] [] (qz_mk T.1 T.2) (some (.inl r.1)) (qz_mk r.2.1 r.2.2)) : ∀ (n : Nat) (y1 : Int32) (y2 : Int32) (T : qz_S) (r : Int32 × qz_S), gM_passDay_L13 F K n y1 y2 T = some r → qz_E 123 13 [some (.inr (some ((6, 0, 0) : qz_N))), some (.inl y1), some (.inl y2)] [] (qz_mk T.1 T.2) (some (.inl r.1)) (qz_mk r.2.1 r.2.2) := by
  have hb : qz_b 123 = cX6_passDay := rfl
  have hcn : qz_cn 123 = 6 := rfl
  intro n
  induction n with
  | zero =>
    intro y1 y2 T r h
    cases h
  | succ n ih =>
    intro y1 y2 T r h
    rw [gM_passDay_L13] at h
    refine ei_iln hb dX6_passDay_13 (pc' := 14) rfl rfl ?_
    refine ei_c hb dX6_passDay_14 (v := (2 : Int32)) (pc' := 15) (by decide) rfl ?_
    refine ei_aln hb dX6_passDay_15 (pc' := 16) rfl rfl ?_
    refine ei_gr hb dX6_passDay_16 (pc' := 19) (x := some ((17, 0, 0) : qz_N)) hcn qz_f_6_7 rfl rfl rfl rfl ?_
    refine ei_c hb dX6_passDay_19 (v := (4 : Int32)) (pc' := 20) (by decide) rfl ?_
    refine ei_ia hb dX6_passDay_20 (pc' := 21) (x := (T.1 ((17, 0, 0) : qz_N) 4)) rfl (show qz_xi (4 : Int32) 283 = true by decide) rfl rfl ?_
    refine ei_mul hb dX6_passDay_21 (pc' := 22) rfl ?_
    by_cases c4 : ((2 : Int32) * (T.1 ((17, 0, 0) : qz_N) 4)) ≤ y2
    · rw [if_pos c4] at h
      refine ei_icT hb dX6_passDay_22 (pc' := 61) (decide_eq_true c4) (by decide) ?_
      exact hK y1 y2 T _ h
    · rw [if_neg c4] at h
      refine ei_icF hb dX6_passDay_22 (pc' := 25) (t := 61) (decide_eq_false c4) (by decide) rfl ?_
      refine ei_iln hb dX6_passDay_25 (pc' := 26) rfl rfl ?_
      refine ei_aln hb dX6_passDay_26 (pc' := 27) rfl rfl ?_
      refine ei_iln hb dX6_passDay_27 (pc' := 28) rfl rfl ?_
      refine ei_c hb dX6_passDay_28 (v := (2 : Int32)) (pc' := 29) (by decide) rfl ?_
      refine ei_rem hb dX6_passDay_29 (pc' := 30) (by decide) rfl ?_
      refine ei_iln hb dX6_passDay_30 (pc' := 31) rfl rfl ?_
      refine ei_c hb dX6_passDay_31 (v := (2 : Int32)) (pc' := 32) (by decide) rfl ?_
      refine ei_div hb dX6_passDay_32 (pc' := 33) (by decide) rfl ?_
      obtain ⟨x5, e6, h⟩ := Option.bind_eq_some_iff.mp h
      refine ei_cv hb dX6_passDay_33 (pc' := 36) (M1 := (qz_mk T.1 T.2)) (as := [.inl (y2 - y2 / (2 : Int32) * (2 : Int32)), .inl (y2 / (2 : Int32))]) (rest := [.inl y1]) (st' := [.inl x5, .inl y1]) hcn qz_c_6_146 qz_k_110 (qz_q_123_110) (Nat.le_of_ble_eq_true rfl) (Nat.le_of_ble_eq_true rfl) rfl rfl rfl (vM_isAway F T.1 T.2 (y2 - y2 / (2 : Int32) * (2 : Int32)) (y2 / (2 : Int32)) _ e6) rfl rfl ?_
      by_cases c7 : x5 = 0
      · rw [if_pos c7] at h
        refine ei_ifT hb dX6_passDay_36 (pc' := 43) (decide_eq_true c7) (by decide) ?_
        refine ei_aln hb dX6_passDay_43 (pc' := 44) rfl rfl ?_
        refine ei_iln hb dX6_passDay_44 (pc' := 45) rfl rfl ?_
        refine ei_c hb dX6_passDay_45 (v := (2 : Int32)) (pc' := 46) (by decide) rfl ?_
        refine ei_rem hb dX6_passDay_46 (pc' := 47) (by decide) rfl ?_
        refine ei_iln hb dX6_passDay_47 (pc' := 48) rfl rfl ?_
        refine ei_c hb dX6_passDay_48 (v := (2 : Int32)) (pc' := 49) (by decide) rfl ?_
        refine ei_div hb dX6_passDay_49 (pc' := 50) (by decide) rfl ?_
        obtain ⟨R8, e9, h⟩ := Option.bind_eq_some_iff.mp h
        refine ei_cv hb dX6_passDay_50 (pc' := 53) (M1 := (qz_mk R8.2.1 R8.2.2)) (as := [.inl (y2 - y2 / (2 : Int32) * (2 : Int32)), .inl (y2 / (2 : Int32))]) (rest := [.inl y1]) (st' := [.inl R8.1, .inl y1]) hcn qz_c_6_149 qz_k_111 (qz_q_123_111) (Nat.le_of_ble_eq_true rfl) (Nat.le_of_ble_eq_true rfl) rfl rfl rfl (vM_bringsHome F T (y2 - y2 / (2 : Int32) * (2 : Int32)) (y2 / (2 : Int32)) _ e9) rfl rfl ?_
        refine ei_add hb dX6_passDay_53 (pc' := 54) rfl ?_
        refine ei_isn hb dX6_passDay_54 (pc' := 55) (ls' := [some (.inr (some ((6, 0, 0) : qz_N))), some (.inl (y1 + R8.1)), some (.inl y2)]) (Nat.le_of_ble_eq_true rfl) rfl rfl ?_
        refine ei_inc hb dX6_passDay_55 (v := (y2 + 1)) (pc' := 58) (ls' := [some (.inr (some ((6, 0, 0) : qz_N))), some (.inl (y1 + R8.1)), some (.inl (y2 + 1))]) rfl rfl rfl rfl ?_
        refine ei_go hb dX6_passDay_58 (pc' := 13) (by decide) ?_
        exact ih (y1 + R8.1) (y2 + 1) R8.2 _ h
      · rw [if_neg c7] at h
        refine ei_ifF hb dX6_passDay_36 (pc' := 39) (t := 43) (decide_eq_false c7) (by decide) rfl ?_
        refine ei_c hb dX6_passDay_39 (v := (0 : Int32)) (pc' := 40) (by decide) rfl ?_
        refine ei_go hb dX6_passDay_40 (pc' := 53) (by decide) ?_
        refine ei_add hb dX6_passDay_53 (pc' := 54) rfl ?_
        refine ei_isn hb dX6_passDay_54 (pc' := 55) (ls' := [some (.inr (some ((6, 0, 0) : qz_N))), some (.inl (y1 + (0 : Int32))), some (.inl y2)]) (Nat.le_of_ble_eq_true rfl) rfl rfl ?_
        refine ei_inc hb dX6_passDay_55 (v := (y2 + 1)) (pc' := 58) (ls' := [some (.inr (some ((6, 0, 0) : qz_N))), some (.inl (y1 + (0 : Int32))), some (.inl (y2 + 1))]) rfl rfl rfl rfl ?_
        refine ei_go hb dX6_passDay_58 (pc' := 13) (by decide) ?_
        exact ih (y1 + (0 : Int32)) (y2 + 1) T _ h
set_option maxHeartbeats 4000000 in
theorem vM_passDay_L63 (F : Nat) (y110 : Int32) (K : (Int32 → qz_S → Option (Int32 × qz_S))) (hK : ∀ (y2 : Int32) (T : qz_S) (r : Int32 × qz_S), K y2 T = some r → qz_E 123 116 [some (.inr (some ((6, 0, 0) : qz_N))), some (.inl y110), some (.inl y2)] [] (qz_mk T.1 T.2) (some (.inl r.1)) (qz_mk r.2.1 r.2.2)) : ∀ (n : Nat) (y2 : Int32) (T : qz_S) (r : Int32 × qz_S), gM_passDay_L63 F y110 K n y2 T = some r → qz_E 123 63 [some (.inr (some ((6, 0, 0) : qz_N))), some (.inl y110), some (.inl y2)] [] (qz_mk T.1 T.2) (some (.inl r.1)) (qz_mk r.2.1 r.2.2) := by
  have hb : qz_b 123 = cX6_passDay := rfl
  have hcn : qz_cn 123 = 6 := rfl
  intro n
  induction n with
  | zero =>
    intro y2 T r h
    cases h
  | succ n ih =>
    intro y2 T r h
    rw [gM_passDay_L63] at h
    refine ei_iln hb dX6_passDay_63 (pc' := 64) rfl rfl ?_
    refine ei_aln hb dX6_passDay_64 (pc' := 65) rfl rfl ?_
    refine ei_gr hb dX6_passDay_65 (pc' := 68) (x := some ((17, 0, 0) : qz_N)) hcn qz_f_6_7 rfl rfl rfl rfl ?_
    refine ei_b hb dX6_passDay_68 (v := (6 : Int32)) (pc' := 70) (by decide) rfl ?_
    refine ei_ia hb dX6_passDay_70 (pc' := 71) (x := (T.1 ((17, 0, 0) : qz_N) 6)) rfl (show qz_xi (6 : Int32) 283 = true by decide) rfl rfl ?_
    by_cases c13 : (T.1 ((17, 0, 0) : qz_N) 6) ≤ y2
    · rw [if_pos c13] at h
      refine ei_icT hb dX6_passDay_71 (pc' := 116) (decide_eq_true c13) (by decide) ?_
      exact hK y2 T _ h
    · rw [if_neg c13] at h
      refine ei_icF hb dX6_passDay_71 (pc' := 74) (t := 116) (decide_eq_false c13) (by decide) rfl ?_
      refine ei_aln hb dX6_passDay_74 (pc' := 75) rfl rfl ?_
      refine ei_iln hb dX6_passDay_75 (pc' := 76) rfl rfl ?_
      refine ei_c hb dX6_passDay_76 (v := (4 : Int32)) (pc' := 77) (by decide) rfl ?_
      obtain ⟨x14, e15, h⟩ := Option.bind_eq_some_iff.mp h
      refine ei_cv hb dX6_passDay_77 (pc' := 80) (M1 := (qz_mk T.1 T.2)) (as := [.inl y2, .inl (4 : Int32)]) (rest := []) (st' := [.inl x14]) hcn qz_c_6_40 qz_k_85 (qz_q_123_85) (Nat.le_of_ble_eq_true rfl) (Nat.le_of_ble_eq_true rfl) rfl rfl rfl (vM_of F T.1 T.2 y2 (4 : Int32) _ e15) rfl rfl ?_
      by_cases c16 : x14 = 0
      · rw [if_pos c16] at h
        refine ei_ifF hb dX6_passDay_80 (pc' := 83) (t := 110) (decide_eq_false (fun q => q c16)) (by decide) rfl ?_
        refine ei_aln hb dX6_passDay_83 (pc' := 84) rfl rfl ?_
        refine ei_iln hb dX6_passDay_84 (pc' := 85) rfl rfl ?_
        refine ei_b hb dX6_passDay_85 (v := (7 : Int32)) (pc' := 87) (by decide) rfl ?_
        refine ei_aln hb dX6_passDay_87 (pc' := 88) rfl rfl ?_
        refine ei_iln hb dX6_passDay_88 (pc' := 89) rfl rfl ?_
        refine ei_b hb dX6_passDay_89 (v := (7 : Int32)) (pc' := 91) (by decide) rfl ?_
        obtain ⟨x17, e18, h⟩ := Option.bind_eq_some_iff.mp h
        refine ei_cv hb dX6_passDay_91 (pc' := 94) (M1 := (qz_mk T.1 T.2)) (as := [.inl y2, .inl (7 : Int32)]) (rest := [.inl (7 : Int32), .inl y2, .inr (some ((6, 0, 0) : qz_N))]) (st' := [.inl x17, .inl (7 : Int32), .inl y2, .inr (some ((6, 0, 0) : qz_N))]) hcn qz_c_6_40 qz_k_85 (qz_q_123_85) (Nat.le_of_ble_eq_true rfl) (Nat.le_of_ble_eq_true rfl) rfl rfl rfl (vM_of F T.1 T.2 y2 (7 : Int32) _ e18) rfl rfl ?_
        refine ei_c hb dX6_passDay_94 (v := (1 : Int32)) (pc' := 95) (by decide) rfl ?_
        refine ei_add hb dX6_passDay_95 (pc' := 96) rfl ?_
        obtain ⟨R19, e20, h⟩ := Option.bind_eq_some_iff.mp h
        refine ei_cv hb dX6_passDay_96 (pc' := 99) (M1 := (qz_mk R19.1 R19.2)) (as := [.inl y2, .inl (7 : Int32), .inl (x17 + (1 : Int32))]) (rest := []) (st' := []) hcn qz_c_6_82 qz_k_86 (qz_q_123_86) (Nat.le_of_ble_eq_true rfl) (Nat.le_of_ble_eq_true rfl) rfl rfl rfl (vM_lay F T y2 (7 : Int32) (x17 + (1 : Int32)) _ e20) rfl rfl ?_
        refine ei_aln hb dX6_passDay_99 (pc' := 100) rfl rfl ?_
        refine ei_gr hb dX6_passDay_100 (pc' := 103) (x := some ((17, 0, 0) : qz_N)) hcn qz_f_6_7 rfl rfl rfl rfl ?_
        refine ei_b hb dX6_passDay_103 (v := (10 : Int32)) (pc' := 105) (by decide) rfl ?_
        refine ei_dup2 hb dX6_passDay_105 (pc' := 106) rfl ?_
        refine ei_ia hb dX6_passDay_106 (pc' := 107) (x := (R19.1 ((17, 0, 0) : qz_N) 10)) rfl (show qz_xi (10 : Int32) 283 = true by decide) rfl rfl ?_
        refine ei_c hb dX6_passDay_107 (v := (1 : Int32)) (pc' := 108) (by decide) rfl ?_
        refine ei_add hb dX6_passDay_108 (pc' := 109) rfl ?_
        obtain ⟨S21, eS21⟩ : ∃ q, q = qz_wr R19 ((17, 0, 0) : qz_N) 10 ((R19.1 ((17, 0, 0) : qz_N) 10) + (1 : Int32)) := ⟨_, rfl⟩
        rw [qz_let, ← eS21] at h
        refine ei_ist hb dX6_passDay_109 (pc' := 110) (M1 := (qz_mk S21.1 S21.2)) rfl (Nat.le_of_ble_eq_true rfl) (show qz_xi (10 : Int32) 283 = true by decide) (by rw [eS21]; rfl) rfl ?_
        refine ei_inc hb dX6_passDay_110 (v := (y2 + 1)) (pc' := 113) (ls' := [some (.inr (some ((6, 0, 0) : qz_N))), some (.inl y110), some (.inl (y2 + 1))]) rfl rfl rfl rfl ?_
        refine ei_go hb dX6_passDay_113 (pc' := 63) (by decide) ?_
        exact ih (y2 + 1) S21 _ h
      · rw [if_neg c16] at h
        refine ei_ifT hb dX6_passDay_80 (pc' := 110) (decide_eq_true c16) (by decide) ?_
        refine ei_inc hb dX6_passDay_110 (v := (y2 + 1)) (pc' := 113) (ls' := [some (.inr (some ((6, 0, 0) : qz_N))), some (.inl y110), some (.inl (y2 + 1))]) rfl rfl rfl rfl ?_
        refine ei_go hb dX6_passDay_113 (pc' := 63) (by decide) ?_
        exact ih (y2 + 1) T _ h
set_option maxHeartbeats 4000000 in
theorem vM_passDay (F : Nat) (S : qz_S)  (r : Int32 × qz_S) (h : (gM_passDay F S) = some r) : qz_E 123 0 (qz_in0 123 [.inr (some ((6, 0, 0) : qz_N))]) [] (qz_mk S.1 S.2) (some (.inl r.1)) (qz_mk r.2.1 r.2.2) := by
  have hb : qz_b 123 = cX6_passDay := rfl
  have hcn : qz_cn 123 = 6 := rfl
  show qz_E 123 0 [some (.inr (some ((6, 0, 0) : qz_N))), none, none] [] _ _ _
  rw [gM_passDay] at h
  refine ei_aln hb dX6_passDay_0 (pc' := 1) rfl rfl ?_
  refine ei_c hb dX6_passDay_1 (v := (0 : Int32)) (pc' := 2) (by decide) rfl ?_
  obtain ⟨S1, eS1⟩ : ∃ q, q = qz_wr S ((6, 0, 0) : qz_N) 0 (0 : Int32) := ⟨_, rfl⟩
  rw [qz_let, ← eS1] at h
  refine ei_pi hb dX6_passDay_2 (pc' := 5) (M1 := (qz_mk S1.1 S1.2)) hcn qz_f_6_32 rfl rfl (fun q => by cases q) rfl (by rw [eS1]; rfl) rfl ?_
  refine ei_aln hb dX6_passDay_5 (pc' := 6) rfl rfl ?_
  obtain ⟨R2, e3, h⟩ := Option.bind_eq_some_iff.mp h
  refine ei_cv hb dX6_passDay_6 (pc' := 9) (M1 := (qz_mk R2.1 R2.2)) (as := []) (rest := []) (st' := []) hcn qz_c_6_109 qz_k_93 (qz_q_123_93) (Nat.le_of_ble_eq_true rfl) (Nat.le_of_ble_eq_true rfl) rfl rfl rfl (vM_records F S1 _ e3) rfl rfl ?_
  refine ei_c hb dX6_passDay_9 (v := (0 : Int32)) (pc' := 10) (by decide) rfl ?_
  refine ei_isn hb dX6_passDay_10 (pc' := 11) (ls' := [some (.inr (some ((6, 0, 0) : qz_N))), some (.inl (0 : Int32)), none]) (Nat.le_of_ble_eq_true rfl) rfl rfl ?_
  refine ei_c hb dX6_passDay_11 (v := (0 : Int32)) (pc' := 12) (by decide) rfl ?_
  refine ei_isn hb dX6_passDay_12 (pc' := 13) (ls' := [some (.inr (some ((6, 0, 0) : qz_N))), some (.inl (0 : Int32)), some (.inl (0 : Int32))]) (Nat.le_of_ble_eq_true rfl) rfl rfl ?_
  refine vM_passDay_L13 F _ ?_ F (0 : Int32) (0 : Int32) R2 _ h
  intro y110 y211 T12 r h
  refine ei_c hb dX6_passDay_61 (v := (0 : Int32)) (pc' := 62) (by decide) rfl ?_
  refine ei_isn hb dX6_passDay_62 (pc' := 63) (ls' := [some (.inr (some ((6, 0, 0) : qz_N))), some (.inl y110), some (.inl (0 : Int32))]) (Nat.le_of_ble_eq_true rfl) rfl rfl ?_
  refine vM_passDay_L63 F y110 _ ?_ F (0 : Int32) T12 _ h
  intro y222 T23 r h
  refine ei_aln hb dX6_passDay_116 (pc' := 117) rfl rfl ?_
  refine ei_gr hb dX6_passDay_117 (pc' := 120) (x := some ((17, 0, 0) : qz_N)) hcn qz_f_6_7 rfl rfl rfl rfl ?_
  refine ei_b hb dX6_passDay_120 (v := (7 : Int32)) (pc' := 122) (by decide) rfl ?_
  refine ei_dup2 hb dX6_passDay_122 (pc' := 123) rfl ?_
  refine ei_ia hb dX6_passDay_123 (pc' := 124) (x := (T23.1 ((17, 0, 0) : qz_N) 7)) rfl (show qz_xi (7 : Int32) 283 = true by decide) rfl rfl ?_
  refine ei_c hb dX6_passDay_124 (v := (1 : Int32)) (pc' := 125) (by decide) rfl ?_
  refine ei_add hb dX6_passDay_125 (pc' := 126) rfl ?_
  obtain ⟨S24, eS24⟩ : ∃ q, q = qz_wr T23 ((17, 0, 0) : qz_N) 7 ((T23.1 ((17, 0, 0) : qz_N) 7) + (1 : Int32)) := ⟨_, rfl⟩
  rw [qz_let, ← eS24] at h
  refine ei_ist hb dX6_passDay_126 (pc' := 127) (M1 := (qz_mk S24.1 S24.2)) rfl (Nat.le_of_ble_eq_true rfl) (show qz_xi (7 : Int32) 283 = true by decide) (by rw [eS24]; rfl) rfl ?_
  refine ei_iln hb dX6_passDay_127 (pc' := 128) rfl rfl ?_
  have h := Option.some.inj h
  subst h
  exact ei_reti hb dX6_passDay_128 rfl
def gM_type (F : Nat) (S : qz_S) (a0 : Int32) : Option (Int32 × qz_S) :=
  qz_let (qz_wr S ((6, 0, 0) : qz_N) 0 (0 : Int32)) fun S1 => if (S1.1 ((6, 0, 0) : qz_N) 7) = (60 : Int32) then (some ((-3 : Int32), S1)) else (if qz_xi (S1.1 ((6, 0, 0) : qz_N) 7) 60 = true then (qz_let (qz_wr S1 ((20, 0, 0) : qz_N) ((S1.1 ((6, 0, 0) : qz_N) 7)).toNatClampNeg a0) fun S4 => qz_let (qz_wr S4 ((6, 0, 0) : qz_N) 7 ((S4.1 ((6, 0, 0) : qz_N) 7) + (1 : Int32))) fun S5 => some ((S5.1 ((6, 0, 0) : qz_N) 7), S5)) else none)
set_option maxHeartbeats 4000000 in
theorem vM_type (F : Nat) (S : qz_S) (a0 : Int32) (r : Int32 × qz_S) (h : (gM_type F S a0) = some r) : qz_E 124 0 (qz_in0 124 [.inr (some ((6, 0, 0) : qz_N)), .inl a0]) [] (qz_mk S.1 S.2) (some (.inl r.1)) (qz_mk r.2.1 r.2.2) := by
  have hb : qz_b 124 = cX6_type := rfl
  have hcn : qz_cn 124 = 6 := rfl
  show qz_E 124 0 [some (.inr (some ((6, 0, 0) : qz_N))), some (.inl a0)] [] _ _ _
  rw [gM_type] at h
  refine ei_aln hb dX6_type_0 (pc' := 1) rfl rfl ?_
  refine ei_c hb dX6_type_1 (v := (0 : Int32)) (pc' := 2) (by decide) rfl ?_
  obtain ⟨S1, eS1⟩ : ∃ q, q = qz_wr S ((6, 0, 0) : qz_N) 0 (0 : Int32) := ⟨_, rfl⟩
  rw [qz_let, ← eS1] at h
  refine ei_pi hb dX6_type_2 (pc' := 5) (M1 := (qz_mk S1.1 S1.2)) hcn qz_f_6_32 rfl rfl (fun q => by cases q) rfl (by rw [eS1]; rfl) rfl ?_
  refine ei_aln hb dX6_type_5 (pc' := 6) rfl rfl ?_
  refine ei_gi hb dX6_type_6 (pc' := 9) (x := (S1.1 ((6, 0, 0) : qz_N) 7)) hcn qz_f_6_152 rfl rfl rfl rfl ?_
  refine ei_b hb dX6_type_9 (v := (60 : Int32)) (pc' := 11) (by decide) rfl ?_
  by_cases c2 : (S1.1 ((6, 0, 0) : qz_N) 7) = (60 : Int32)
  · rw [if_pos c2] at h
    refine ei_icF hb dX6_type_11 (pc' := 14) (t := 17) (decide_eq_false (fun q => q c2)) (by decide) rfl ?_
    refine ei_b hb dX6_type_14 (v := (-3 : Int32)) (pc' := 16) (by decide) rfl ?_
    have h := Option.some.inj h
    subst h
    exact ei_reti hb dX6_type_16 rfl
  · rw [if_neg c2] at h
    refine ei_icT hb dX6_type_11 (pc' := 17) (decide_eq_true c2) (by decide) ?_
    refine ei_aln hb dX6_type_17 (pc' := 18) rfl rfl ?_
    refine ei_gr hb dX6_type_18 (pc' := 21) (x := some ((20, 0, 0) : qz_N)) hcn qz_f_6_19 rfl rfl rfl rfl ?_
    refine ei_aln hb dX6_type_21 (pc' := 22) rfl rfl ?_
    refine ei_gi hb dX6_type_22 (pc' := 25) (x := (S1.1 ((6, 0, 0) : qz_N) 7)) hcn qz_f_6_152 rfl rfl rfl rfl ?_
    refine ei_iln hb dX6_type_25 (pc' := 26) rfl rfl ?_
    by_cases c3 : qz_xi (S1.1 ((6, 0, 0) : qz_N) 7) 60 = true
    · rw [if_pos c3] at h
      obtain ⟨S4, eS4⟩ : ∃ q, q = qz_wr S1 ((20, 0, 0) : qz_N) ((S1.1 ((6, 0, 0) : qz_N) 7)).toNatClampNeg a0 := ⟨_, rfl⟩
      rw [qz_let, ← eS4] at h
      refine ei_ist hb dX6_type_26 (pc' := 27) (M1 := (qz_mk S4.1 S4.2)) rfl (Nat.le_of_ble_eq_true rfl) c3 (by rw [eS4]; rfl) rfl ?_
      refine ei_aln hb dX6_type_27 (pc' := 28) rfl rfl ?_
      refine ei_dup hb dX6_type_28 (pc' := 29) rfl ?_
      refine ei_gi hb dX6_type_29 (pc' := 32) (x := (S4.1 ((6, 0, 0) : qz_N) 7)) hcn qz_f_6_152 rfl rfl rfl rfl ?_
      refine ei_c hb dX6_type_32 (v := (1 : Int32)) (pc' := 33) (by decide) rfl ?_
      refine ei_add hb dX6_type_33 (pc' := 34) rfl ?_
      obtain ⟨S5, eS5⟩ : ∃ q, q = qz_wr S4 ((6, 0, 0) : qz_N) 7 ((S4.1 ((6, 0, 0) : qz_N) 7) + (1 : Int32)) := ⟨_, rfl⟩
      rw [qz_let, ← eS5] at h
      refine ei_pi hb dX6_type_34 (pc' := 37) (M1 := (qz_mk S5.1 S5.2)) hcn qz_f_6_152 rfl rfl (fun q => by cases q) rfl (by rw [eS5]; rfl) rfl ?_
      refine ei_aln hb dX6_type_37 (pc' := 38) rfl rfl ?_
      refine ei_gi hb dX6_type_38 (pc' := 41) (x := (S5.1 ((6, 0, 0) : qz_N) 7)) hcn qz_f_6_152 rfl rfl rfl rfl ?_
      have h := Option.some.inj h
      subst h
      exact ei_reti hb dX6_type_41 rfl
    · rw [if_neg c3] at h
      cases h
def gM_clearText (F : Nat) (S : qz_S)  : Option (Int32 × qz_S) :=
  qz_let (qz_wr S ((6, 0, 0) : qz_N) 0 (0 : Int32)) fun S1 => qz_let (qz_wr S1 ((6, 0, 0) : qz_N) 7 (0 : Int32)) fun S2 => some ((S1.1 ((6, 0, 0) : qz_N) 7), S2)
set_option maxHeartbeats 4000000 in
theorem vM_clearText (F : Nat) (S : qz_S)  (r : Int32 × qz_S) (h : (gM_clearText F S) = some r) : qz_E 125 0 (qz_in0 125 [.inr (some ((6, 0, 0) : qz_N))]) [] (qz_mk S.1 S.2) (some (.inl r.1)) (qz_mk r.2.1 r.2.2) := by
  have hb : qz_b 125 = cX6_clearText := rfl
  have hcn : qz_cn 125 = 6 := rfl
  show qz_E 125 0 [some (.inr (some ((6, 0, 0) : qz_N))), none] [] _ _ _
  rw [gM_clearText] at h
  refine ei_aln hb dX6_clearText_0 (pc' := 1) rfl rfl ?_
  refine ei_c hb dX6_clearText_1 (v := (0 : Int32)) (pc' := 2) (by decide) rfl ?_
  obtain ⟨S1, eS1⟩ : ∃ q, q = qz_wr S ((6, 0, 0) : qz_N) 0 (0 : Int32) := ⟨_, rfl⟩
  rw [qz_let, ← eS1] at h
  refine ei_pi hb dX6_clearText_2 (pc' := 5) (M1 := (qz_mk S1.1 S1.2)) hcn qz_f_6_32 rfl rfl (fun q => by cases q) rfl (by rw [eS1]; rfl) rfl ?_
  refine ei_aln hb dX6_clearText_5 (pc' := 6) rfl rfl ?_
  refine ei_gi hb dX6_clearText_6 (pc' := 9) (x := (S1.1 ((6, 0, 0) : qz_N) 7)) hcn qz_f_6_152 rfl rfl rfl rfl ?_
  refine ei_isn hb dX6_clearText_9 (pc' := 10) (ls' := [some (.inr (some ((6, 0, 0) : qz_N))), some (.inl (S1.1 ((6, 0, 0) : qz_N) 7))]) (Nat.le_of_ble_eq_true rfl) rfl rfl ?_
  refine ei_aln hb dX6_clearText_10 (pc' := 11) rfl rfl ?_
  refine ei_c hb dX6_clearText_11 (v := (0 : Int32)) (pc' := 12) (by decide) rfl ?_
  obtain ⟨S2, eS2⟩ : ∃ q, q = qz_wr S1 ((6, 0, 0) : qz_N) 7 (0 : Int32) := ⟨_, rfl⟩
  rw [qz_let, ← eS2] at h
  refine ei_pi hb dX6_clearText_12 (pc' := 15) (M1 := (qz_mk S2.1 S2.2)) hcn qz_f_6_152 rfl rfl (fun q => by cases q) rfl (by rw [eS2]; rfl) rfl ?_
  refine ei_iln hb dX6_clearText_15 (pc' := 16) rfl rfl ?_
  have h := Option.some.inj h
  subst h
  exact ei_reti hb dX6_clearText_16 rfl
def gM_undo_L27 (F : Nat)  (K : (Int32 → qz_S → Option (Int32 × qz_S))) : Nat → Int32 → qz_S → Option (Int32 × qz_S)
  | 0, _, _ => none
  | n + 1, y1, T => if (283 : Int32) ≤ y1 then (K y1 T) else (if qz_xi (((283 : Int32) * (T.1 ((6, 0, 0) : qz_N) 3)) + y1) 1132 = true then (if qz_xi y1 283 = true then (qz_let (qz_wr T ((17, 0, 0) : qz_N) (y1).toNatClampNeg (T.1 ((18, 0, 0) : qz_N) ((((283 : Int32) * (T.1 ((6, 0, 0) : qz_N) 3)) + y1)).toNatClampNeg)) fun S7 => (gM_undo_L27 F K) n (y1 + 1) S7) else none) else none)
def gM_undo (F : Nat) (S : qz_S)  : Option (Int32 × qz_S) :=
  qz_let (qz_wr S ((6, 0, 0) : qz_N) 0 (0 : Int32)) fun S1 => if (S1.1 ((6, 0, 0) : qz_N) 3) = 0 then (some ((-5 : Int32), S1)) else (qz_let (qz_wr S1 ((6, 0, 0) : qz_N) 3 ((S1.1 ((6, 0, 0) : qz_N) 3) - (1 : Int32))) fun S3 => gM_undo_L27 F (fun y18 T9 => some ((T9.1 ((6, 0, 0) : qz_N) 3), T9)) F (0 : Int32) S3)
set_option maxHeartbeats 4000000 in
theorem vM_undo_L27 (F : Nat)  (K : (Int32 → qz_S → Option (Int32 × qz_S))) (hK : ∀ (y1 : Int32) (T : qz_S) (r : Int32 × qz_S), K y1 T = some r → qz_E 130 61 [some (.inr (some ((6, 0, 0) : qz_N))), some (.inl y1)] [] (qz_mk T.1 T.2) (some (.inl r.1)) (qz_mk r.2.1 r.2.2)) : ∀ (n : Nat) (y1 : Int32) (T : qz_S) (r : Int32 × qz_S), gM_undo_L27 F K n y1 T = some r → qz_E 130 27 [some (.inr (some ((6, 0, 0) : qz_N))), some (.inl y1)] [] (qz_mk T.1 T.2) (some (.inl r.1)) (qz_mk r.2.1 r.2.2) := by
  have hb : qz_b 130 = cX6_undo := rfl
  have hcn : qz_cn 130 = 6 := rfl
  intro n
  induction n with
  | zero =>
    intro y1 T r h
    cases h
  | succ n ih =>
    intro y1 T r h
    rw [gM_undo_L27] at h
    refine ei_iln hb dX6_undo_27 (pc' := 28) rfl rfl ?_
    refine ei_s hb dX6_undo_28 (v := (283 : Int32)) (pc' := 31) (by decide) rfl ?_
    by_cases c4 : (283 : Int32) ≤ y1
    · rw [if_pos c4] at h
      refine ei_icT hb dX6_undo_31 (pc' := 61) (decide_eq_true c4) (by decide) ?_
      exact hK y1 T _ h
    · rw [if_neg c4] at h
      refine ei_icF hb dX6_undo_31 (pc' := 34) (t := 61) (decide_eq_false c4) (by decide) rfl ?_
      refine ei_aln hb dX6_undo_34 (pc' := 35) rfl rfl ?_
      refine ei_gr hb dX6_undo_35 (pc' := 38) (x := some ((17, 0, 0) : qz_N)) hcn qz_f_6_7 rfl rfl rfl rfl ?_
      refine ei_iln hb dX6_undo_38 (pc' := 39) rfl rfl ?_
      refine ei_aln hb dX6_undo_39 (pc' := 40) rfl rfl ?_
      refine ei_gr hb dX6_undo_40 (pc' := 43) (x := some ((18, 0, 0) : qz_N)) hcn qz_f_6_13 rfl rfl rfl rfl ?_
      refine ei_s hb dX6_undo_43 (v := (283 : Int32)) (pc' := 46) (by decide) rfl ?_
      refine ei_aln hb dX6_undo_46 (pc' := 47) rfl rfl ?_
      refine ei_gi hb dX6_undo_47 (pc' := 50) (x := (T.1 ((6, 0, 0) : qz_N) 3)) hcn qz_f_6_44 rfl rfl rfl rfl ?_
      refine ei_mul hb dX6_undo_50 (pc' := 51) rfl ?_
      refine ei_iln hb dX6_undo_51 (pc' := 52) rfl rfl ?_
      refine ei_add hb dX6_undo_52 (pc' := 53) rfl ?_
      by_cases c5 : qz_xi (((283 : Int32) * (T.1 ((6, 0, 0) : qz_N) 3)) + y1) 1132 = true
      · rw [if_pos c5] at h
        refine ei_ia hb dX6_undo_53 (pc' := 54) (x := (T.1 ((18, 0, 0) : qz_N) ((((283 : Int32) * (T.1 ((6, 0, 0) : qz_N) 3)) + y1)).toNatClampNeg)) rfl c5 rfl rfl ?_
        by_cases c6 : qz_xi y1 283 = true
        · rw [if_pos c6] at h
          obtain ⟨S7, eS7⟩ : ∃ q, q = qz_wr T ((17, 0, 0) : qz_N) (y1).toNatClampNeg (T.1 ((18, 0, 0) : qz_N) ((((283 : Int32) * (T.1 ((6, 0, 0) : qz_N) 3)) + y1)).toNatClampNeg) := ⟨_, rfl⟩
          rw [qz_let, ← eS7] at h
          refine ei_ist hb dX6_undo_54 (pc' := 55) (M1 := (qz_mk S7.1 S7.2)) rfl (Nat.le_of_ble_eq_true rfl) c6 (by rw [eS7]; rfl) rfl ?_
          refine ei_inc hb dX6_undo_55 (v := (y1 + 1)) (pc' := 58) (ls' := [some (.inr (some ((6, 0, 0) : qz_N))), some (.inl (y1 + 1))]) rfl rfl rfl rfl ?_
          refine ei_go hb dX6_undo_58 (pc' := 27) (by decide) ?_
          exact ih (y1 + 1) S7 _ h
        · rw [if_neg c6] at h
          cases h
      · rw [if_neg c5] at h
        cases h
set_option maxHeartbeats 4000000 in
theorem vM_undo (F : Nat) (S : qz_S)  (r : Int32 × qz_S) (h : (gM_undo F S) = some r) : qz_E 130 0 (qz_in0 130 [.inr (some ((6, 0, 0) : qz_N))]) [] (qz_mk S.1 S.2) (some (.inl r.1)) (qz_mk r.2.1 r.2.2) := by
  have hb : qz_b 130 = cX6_undo := rfl
  have hcn : qz_cn 130 = 6 := rfl
  show qz_E 130 0 [some (.inr (some ((6, 0, 0) : qz_N))), none] [] _ _ _
  rw [gM_undo] at h
  refine ei_aln hb dX6_undo_0 (pc' := 1) rfl rfl ?_
  refine ei_c hb dX6_undo_1 (v := (0 : Int32)) (pc' := 2) (by decide) rfl ?_
  obtain ⟨S1, eS1⟩ : ∃ q, q = qz_wr S ((6, 0, 0) : qz_N) 0 (0 : Int32) := ⟨_, rfl⟩
  rw [qz_let, ← eS1] at h
  refine ei_pi hb dX6_undo_2 (pc' := 5) (M1 := (qz_mk S1.1 S1.2)) hcn qz_f_6_32 rfl rfl (fun q => by cases q) rfl (by rw [eS1]; rfl) rfl ?_
  refine ei_aln hb dX6_undo_5 (pc' := 6) rfl rfl ?_
  refine ei_gi hb dX6_undo_6 (pc' := 9) (x := (S1.1 ((6, 0, 0) : qz_N) 3)) hcn qz_f_6_44 rfl rfl rfl rfl ?_
  by_cases c2 : (S1.1 ((6, 0, 0) : qz_N) 3) = 0
  · rw [if_pos c2] at h
    refine ei_ifF hb dX6_undo_9 (pc' := 12) (t := 15) (decide_eq_false (fun q => q c2)) (by decide) rfl ?_
    refine ei_b hb dX6_undo_12 (v := (-5 : Int32)) (pc' := 14) (by decide) rfl ?_
    have h := Option.some.inj h
    subst h
    exact ei_reti hb dX6_undo_14 rfl
  · rw [if_neg c2] at h
    refine ei_ifT hb dX6_undo_9 (pc' := 15) (decide_eq_true c2) (by decide) ?_
    refine ei_aln hb dX6_undo_15 (pc' := 16) rfl rfl ?_
    refine ei_dup hb dX6_undo_16 (pc' := 17) rfl ?_
    refine ei_gi hb dX6_undo_17 (pc' := 20) (x := (S1.1 ((6, 0, 0) : qz_N) 3)) hcn qz_f_6_44 rfl rfl rfl rfl ?_
    refine ei_c hb dX6_undo_20 (v := (1 : Int32)) (pc' := 21) (by decide) rfl ?_
    refine ei_sub hb dX6_undo_21 (pc' := 22) rfl ?_
    obtain ⟨S3, eS3⟩ : ∃ q, q = qz_wr S1 ((6, 0, 0) : qz_N) 3 ((S1.1 ((6, 0, 0) : qz_N) 3) - (1 : Int32)) := ⟨_, rfl⟩
    rw [qz_let, ← eS3] at h
    refine ei_pi hb dX6_undo_22 (pc' := 25) (M1 := (qz_mk S3.1 S3.2)) hcn qz_f_6_44 rfl rfl (fun q => by cases q) rfl (by rw [eS3]; rfl) rfl ?_
    refine ei_c hb dX6_undo_25 (v := (0 : Int32)) (pc' := 26) (by decide) rfl ?_
    refine ei_isn hb dX6_undo_26 (pc' := 27) (ls' := [some (.inr (some ((6, 0, 0) : qz_N))), some (.inl (0 : Int32))]) (Nat.le_of_ble_eq_true rfl) rfl rfl ?_
    refine vM_undo_L27 F _ ?_ F (0 : Int32) S3 _ h
    intro y18 T9 r h
    refine ei_aln hb dX6_undo_61 (pc' := 62) rfl rfl ?_
    refine ei_gi hb dX6_undo_62 (pc' := 65) (x := (T9.1 ((6, 0, 0) : qz_N) 3)) hcn qz_f_6_44 rfl rfl rfl rfl ?_
    have h := Option.some.inj h
    subst h
    exact ei_reti hb dX6_undo_65 rfl
def gM_keep_L7 (F : Nat)  (K : (Int32 → qz_S → Option (Int32 × qz_S))) : Nat → Int32 → qz_S → Option (Int32 × qz_S)
  | 0, _, _ => none
  | n + 1, y1, T => if (283 : Int32) ≤ y1 then (K y1 T) else (if qz_xi y1 283 = true then (qz_let (qz_wr T ((19, 0, 0) : qz_N) (y1).toNatClampNeg (T.1 ((17, 0, 0) : qz_N) (y1).toNatClampNeg)) fun S4 => (gM_keep_L7 F K) n (y1 + 1) S4) else none)
def gM_keep (F : Nat) (S : qz_S)  : Option (Int32 × qz_S) :=
  qz_let (qz_wr S ((6, 0, 0) : qz_N) 0 (0 : Int32)) fun S1 => gM_keep_L7 F (fun y15 T6 => qz_let (qz_wr T6 ((6, 0, 0) : qz_N) 5 (1 : Int32)) fun S7 => some ((S7.1 ((17, 0, 0) : qz_N) 6), S7)) F (0 : Int32) S1
set_option maxHeartbeats 4000000 in
theorem vM_keep_L7 (F : Nat)  (K : (Int32 → qz_S → Option (Int32 × qz_S))) (hK : ∀ (y1 : Int32) (T : qz_S) (r : Int32 × qz_S), K y1 T = some r → qz_E 131 32 [some (.inr (some ((6, 0, 0) : qz_N))), some (.inl y1)] [] (qz_mk T.1 T.2) (some (.inl r.1)) (qz_mk r.2.1 r.2.2)) : ∀ (n : Nat) (y1 : Int32) (T : qz_S) (r : Int32 × qz_S), gM_keep_L7 F K n y1 T = some r → qz_E 131 7 [some (.inr (some ((6, 0, 0) : qz_N))), some (.inl y1)] [] (qz_mk T.1 T.2) (some (.inl r.1)) (qz_mk r.2.1 r.2.2) := by
  have hb : qz_b 131 = cX6_keep := rfl
  have hcn : qz_cn 131 = 6 := rfl
  intro n
  induction n with
  | zero =>
    intro y1 T r h
    cases h
  | succ n ih =>
    intro y1 T r h
    rw [gM_keep_L7] at h
    refine ei_iln hb dX6_keep_7 (pc' := 8) rfl rfl ?_
    refine ei_s hb dX6_keep_8 (v := (283 : Int32)) (pc' := 11) (by decide) rfl ?_
    by_cases c2 : (283 : Int32) ≤ y1
    · rw [if_pos c2] at h
      refine ei_icT hb dX6_keep_11 (pc' := 32) (decide_eq_true c2) (by decide) ?_
      exact hK y1 T _ h
    · rw [if_neg c2] at h
      refine ei_icF hb dX6_keep_11 (pc' := 14) (t := 32) (decide_eq_false c2) (by decide) rfl ?_
      refine ei_aln hb dX6_keep_14 (pc' := 15) rfl rfl ?_
      refine ei_gr hb dX6_keep_15 (pc' := 18) (x := some ((19, 0, 0) : qz_N)) hcn qz_f_6_16 rfl rfl rfl rfl ?_
      refine ei_iln hb dX6_keep_18 (pc' := 19) rfl rfl ?_
      refine ei_aln hb dX6_keep_19 (pc' := 20) rfl rfl ?_
      refine ei_gr hb dX6_keep_20 (pc' := 23) (x := some ((17, 0, 0) : qz_N)) hcn qz_f_6_7 rfl rfl rfl rfl ?_
      refine ei_iln hb dX6_keep_23 (pc' := 24) rfl rfl ?_
      by_cases c3 : qz_xi y1 283 = true
      · rw [if_pos c3] at h
        refine ei_ia hb dX6_keep_24 (pc' := 25) (x := (T.1 ((17, 0, 0) : qz_N) (y1).toNatClampNeg)) rfl c3 rfl rfl ?_
        obtain ⟨S4, eS4⟩ : ∃ q, q = qz_wr T ((19, 0, 0) : qz_N) (y1).toNatClampNeg (T.1 ((17, 0, 0) : qz_N) (y1).toNatClampNeg) := ⟨_, rfl⟩
        rw [qz_let, ← eS4] at h
        refine ei_ist hb dX6_keep_25 (pc' := 26) (M1 := (qz_mk S4.1 S4.2)) rfl (Nat.le_of_ble_eq_true rfl) c3 (by rw [eS4]; rfl) rfl ?_
        refine ei_inc hb dX6_keep_26 (v := (y1 + 1)) (pc' := 29) (ls' := [some (.inr (some ((6, 0, 0) : qz_N))), some (.inl (y1 + 1))]) rfl rfl rfl rfl ?_
        refine ei_go hb dX6_keep_29 (pc' := 7) (by decide) ?_
        exact ih (y1 + 1) S4 _ h
      · rw [if_neg c3] at h
        cases h
set_option maxHeartbeats 4000000 in
theorem vM_keep (F : Nat) (S : qz_S)  (r : Int32 × qz_S) (h : (gM_keep F S) = some r) : qz_E 131 0 (qz_in0 131 [.inr (some ((6, 0, 0) : qz_N))]) [] (qz_mk S.1 S.2) (some (.inl r.1)) (qz_mk r.2.1 r.2.2) := by
  have hb : qz_b 131 = cX6_keep := rfl
  have hcn : qz_cn 131 = 6 := rfl
  show qz_E 131 0 [some (.inr (some ((6, 0, 0) : qz_N))), none] [] _ _ _
  rw [gM_keep] at h
  refine ei_aln hb dX6_keep_0 (pc' := 1) rfl rfl ?_
  refine ei_c hb dX6_keep_1 (v := (0 : Int32)) (pc' := 2) (by decide) rfl ?_
  obtain ⟨S1, eS1⟩ : ∃ q, q = qz_wr S ((6, 0, 0) : qz_N) 0 (0 : Int32) := ⟨_, rfl⟩
  rw [qz_let, ← eS1] at h
  refine ei_pi hb dX6_keep_2 (pc' := 5) (M1 := (qz_mk S1.1 S1.2)) hcn qz_f_6_32 rfl rfl (fun q => by cases q) rfl (by rw [eS1]; rfl) rfl ?_
  refine ei_c hb dX6_keep_5 (v := (0 : Int32)) (pc' := 6) (by decide) rfl ?_
  refine ei_isn hb dX6_keep_6 (pc' := 7) (ls' := [some (.inr (some ((6, 0, 0) : qz_N))), some (.inl (0 : Int32))]) (Nat.le_of_ble_eq_true rfl) rfl rfl ?_
  refine vM_keep_L7 F _ ?_ F (0 : Int32) S1 _ h
  intro y15 T6 r h
  refine ei_aln hb dX6_keep_32 (pc' := 33) rfl rfl ?_
  refine ei_c hb dX6_keep_33 (v := (1 : Int32)) (pc' := 34) (by decide) rfl ?_
  obtain ⟨S7, eS7⟩ : ∃ q, q = qz_wr T6 ((6, 0, 0) : qz_N) 5 (1 : Int32) := ⟨_, rfl⟩
  rw [qz_let, ← eS7] at h
  refine ei_pi hb dX6_keep_34 (pc' := 37) (M1 := (qz_mk S7.1 S7.2)) hcn qz_f_6_172 rfl rfl (fun _ => by decide) rfl (by rw [eS7]; rfl) rfl ?_
  refine ei_aln hb dX6_keep_37 (pc' := 38) rfl rfl ?_
  refine ei_gr hb dX6_keep_38 (pc' := 41) (x := some ((17, 0, 0) : qz_N)) hcn qz_f_6_7 rfl rfl rfl rfl ?_
  refine ei_b hb dX6_keep_41 (v := (6 : Int32)) (pc' := 43) (by decide) rfl ?_
  refine ei_ia hb dX6_keep_43 (pc' := 44) (x := (S7.1 ((17, 0, 0) : qz_N) 6)) rfl (show qz_xi (6 : Int32) 283 = true by decide) rfl rfl ?_
  have h := Option.some.inj h
  subst h
  exact ei_reti hb dX6_keep_44 rfl
def gM_restore_L21 (F : Nat)  (K : (Int32 → qz_S → Option (Int32 × qz_S))) : Nat → Int32 → qz_S → Option (Int32 × qz_S)
  | 0, _, _ => none
  | n + 1, y1, T => if (283 : Int32) ≤ y1 then (K y1 T) else (if qz_xi y1 283 = true then (qz_let (qz_wr T ((17, 0, 0) : qz_N) (y1).toNatClampNeg (T.1 ((19, 0, 0) : qz_N) (y1).toNatClampNeg)) fun S7 => (gM_restore_L21 F K) n (y1 + 1) S7) else none)
def gM_restore (F : Nat) (S : qz_S)  : Option (Int32 × qz_S) :=
  qz_let (qz_wr S ((6, 0, 0) : qz_N) 0 (0 : Int32)) fun S1 => if (S1.1 ((6, 0, 0) : qz_N) 5) = 0 then (some ((-5 : Int32), S1)) else (Option.bind (gM_records F S1) fun R3 => gM_restore_L21 F (fun y18 T9 => some ((T9.1 ((17, 0, 0) : qz_N) 6), T9)) F (0 : Int32) R3)
set_option maxHeartbeats 4000000 in
theorem vM_restore_L21 (F : Nat)  (K : (Int32 → qz_S → Option (Int32 × qz_S))) (hK : ∀ (y1 : Int32) (T : qz_S) (r : Int32 × qz_S), K y1 T = some r → qz_E 132 46 [some (.inr (some ((6, 0, 0) : qz_N))), some (.inl y1)] [] (qz_mk T.1 T.2) (some (.inl r.1)) (qz_mk r.2.1 r.2.2)) : ∀ (n : Nat) (y1 : Int32) (T : qz_S) (r : Int32 × qz_S), gM_restore_L21 F K n y1 T = some r → qz_E 132 21 [some (.inr (some ((6, 0, 0) : qz_N))), some (.inl y1)] [] (qz_mk T.1 T.2) (some (.inl r.1)) (qz_mk r.2.1 r.2.2) := by
  have hb : qz_b 132 = cX6_restore := rfl
  have hcn : qz_cn 132 = 6 := rfl
  intro n
  induction n with
  | zero =>
    intro y1 T r h
    cases h
  | succ n ih =>
    intro y1 T r h
    rw [gM_restore_L21] at h
    refine ei_iln hb dX6_restore_21 (pc' := 22) rfl rfl ?_
    refine ei_s hb dX6_restore_22 (v := (283 : Int32)) (pc' := 25) (by decide) rfl ?_
    by_cases c5 : (283 : Int32) ≤ y1
    · rw [if_pos c5] at h
      refine ei_icT hb dX6_restore_25 (pc' := 46) (decide_eq_true c5) (by decide) ?_
      exact hK y1 T _ h
    · rw [if_neg c5] at h
      refine ei_icF hb dX6_restore_25 (pc' := 28) (t := 46) (decide_eq_false c5) (by decide) rfl ?_
      refine ei_aln hb dX6_restore_28 (pc' := 29) rfl rfl ?_
      refine ei_gr hb dX6_restore_29 (pc' := 32) (x := some ((17, 0, 0) : qz_N)) hcn qz_f_6_7 rfl rfl rfl rfl ?_
      refine ei_iln hb dX6_restore_32 (pc' := 33) rfl rfl ?_
      refine ei_aln hb dX6_restore_33 (pc' := 34) rfl rfl ?_
      refine ei_gr hb dX6_restore_34 (pc' := 37) (x := some ((19, 0, 0) : qz_N)) hcn qz_f_6_16 rfl rfl rfl rfl ?_
      refine ei_iln hb dX6_restore_37 (pc' := 38) rfl rfl ?_
      by_cases c6 : qz_xi y1 283 = true
      · rw [if_pos c6] at h
        refine ei_ia hb dX6_restore_38 (pc' := 39) (x := (T.1 ((19, 0, 0) : qz_N) (y1).toNatClampNeg)) rfl c6 rfl rfl ?_
        obtain ⟨S7, eS7⟩ : ∃ q, q = qz_wr T ((17, 0, 0) : qz_N) (y1).toNatClampNeg (T.1 ((19, 0, 0) : qz_N) (y1).toNatClampNeg) := ⟨_, rfl⟩
        rw [qz_let, ← eS7] at h
        refine ei_ist hb dX6_restore_39 (pc' := 40) (M1 := (qz_mk S7.1 S7.2)) rfl (Nat.le_of_ble_eq_true rfl) c6 (by rw [eS7]; rfl) rfl ?_
        refine ei_inc hb dX6_restore_40 (v := (y1 + 1)) (pc' := 43) (ls' := [some (.inr (some ((6, 0, 0) : qz_N))), some (.inl (y1 + 1))]) rfl rfl rfl rfl ?_
        refine ei_go hb dX6_restore_43 (pc' := 21) (by decide) ?_
        exact ih (y1 + 1) S7 _ h
      · rw [if_neg c6] at h
        cases h
set_option maxHeartbeats 4000000 in
theorem vM_restore (F : Nat) (S : qz_S)  (r : Int32 × qz_S) (h : (gM_restore F S) = some r) : qz_E 132 0 (qz_in0 132 [.inr (some ((6, 0, 0) : qz_N))]) [] (qz_mk S.1 S.2) (some (.inl r.1)) (qz_mk r.2.1 r.2.2) := by
  have hb : qz_b 132 = cX6_restore := rfl
  have hcn : qz_cn 132 = 6 := rfl
  show qz_E 132 0 [some (.inr (some ((6, 0, 0) : qz_N))), none] [] _ _ _
  rw [gM_restore] at h
  refine ei_aln hb dX6_restore_0 (pc' := 1) rfl rfl ?_
  refine ei_c hb dX6_restore_1 (v := (0 : Int32)) (pc' := 2) (by decide) rfl ?_
  obtain ⟨S1, eS1⟩ : ∃ q, q = qz_wr S ((6, 0, 0) : qz_N) 0 (0 : Int32) := ⟨_, rfl⟩
  rw [qz_let, ← eS1] at h
  refine ei_pi hb dX6_restore_2 (pc' := 5) (M1 := (qz_mk S1.1 S1.2)) hcn qz_f_6_32 rfl rfl (fun q => by cases q) rfl (by rw [eS1]; rfl) rfl ?_
  refine ei_aln hb dX6_restore_5 (pc' := 6) rfl rfl ?_
  refine ei_gi hb dX6_restore_6 (pc' := 9) (x := (S1.1 ((6, 0, 0) : qz_N) 5)) hcn qz_f_6_172 rfl rfl rfl rfl ?_
  by_cases c2 : (S1.1 ((6, 0, 0) : qz_N) 5) = 0
  · rw [if_pos c2] at h
    refine ei_ifF hb dX6_restore_9 (pc' := 12) (t := 15) (decide_eq_false (fun q => q c2)) (by decide) rfl ?_
    refine ei_b hb dX6_restore_12 (v := (-5 : Int32)) (pc' := 14) (by decide) rfl ?_
    have h := Option.some.inj h
    subst h
    exact ei_reti hb dX6_restore_14 rfl
  · rw [if_neg c2] at h
    refine ei_ifT hb dX6_restore_9 (pc' := 15) (decide_eq_true c2) (by decide) ?_
    refine ei_aln hb dX6_restore_15 (pc' := 16) rfl rfl ?_
    obtain ⟨R3, e4, h⟩ := Option.bind_eq_some_iff.mp h
    refine ei_cv hb dX6_restore_16 (pc' := 19) (M1 := (qz_mk R3.1 R3.2)) (as := []) (rest := []) (st' := []) hcn qz_c_6_109 qz_k_93 (qz_q_132_93) (Nat.le_of_ble_eq_true rfl) (Nat.le_of_ble_eq_true rfl) rfl rfl rfl (vM_records F S1 _ e4) rfl rfl ?_
    refine ei_c hb dX6_restore_19 (v := (0 : Int32)) (pc' := 20) (by decide) rfl ?_
    refine ei_isn hb dX6_restore_20 (pc' := 21) (ls' := [some (.inr (some ((6, 0, 0) : qz_N))), some (.inl (0 : Int32))]) (Nat.le_of_ble_eq_true rfl) rfl rfl ?_
    refine vM_restore_L21 F _ ?_ F (0 : Int32) R3 _ h
    intro y18 T9 r h
    refine ei_aln hb dX6_restore_46 (pc' := 47) rfl rfl ?_
    refine ei_gr hb dX6_restore_47 (pc' := 50) (x := some ((17, 0, 0) : qz_N)) hcn qz_f_6_7 rfl rfl rfl rfl ?_
    refine ei_b hb dX6_restore_50 (v := (6 : Int32)) (pc' := 52) (by decide) rfl ?_
    refine ei_ia hb dX6_restore_52 (pc' := 53) (x := (T9.1 ((17, 0, 0) : qz_N) 6)) rfl (show qz_xi (6 : Int32) 283 = true by decide) rfl rfl ?_
    have h := Option.some.inj h
    subst h
    exact ei_reti hb dX6_restore_53 rfl
def gM_worker (F : Nat) (S : qz_S) (a0 : Int32) (a1 : Int32) : Option (Int32 × qz_S) :=
  qz_let (qz_wr S ((6, 0, 0) : qz_N) 0 (0 : Int32)) fun S1 => Option.bind (gM_placeOf F S1.1 a0) fun x2 => if x2 = (-5 : Int32) then (some ((-1 : Int32), S1)) else (Option.bind (gM_of F S1.1 x2 (1 : Int32)) fun x5 => Option.bind (gM_of F S1.1 x2 (2 : Int32)) fun x7 => if a1 = 0 then (Option.bind (gM_of F S1.1 x2 ((1 : Int32) + a1)) fun x10 => some (x10, S1)) else (if a1 = 1 then (Option.bind (gM_of F S1.1 x2 ((1 : Int32) + a1)) fun x13 => some (x13, S1)) else (if a1 = 2 then (Option.bind (gM_of F S1.1 x2 ((1 : Int32) + a1)) fun x16 => some (x16, S1)) else (if a1 = 3 then (Option.bind (gM_of F S1.1 x2 ((1 : Int32) + a1)) fun x19 => some (x19, S1)) else (if a1 = 4 then (Option.bind (gM_startOf F S1.1 x7 x5) fun x22 => Option.bind (gM_of F S1.1 x2 (3 : Int32)) fun x24 => Option.bind (gM_behind F S1.1 x22 x5 x24) fun x26 => some (x26, S1)) else (if a1 = 5 then (Option.bind (gM_of F S1.1 x2 (3 : Int32)) fun x29 => Option.bind (gM_reasonBut F S1.1 x7 x5 x29 x2) fun x31 => some (x31, S1)) else (if (gM_in S1.1 a1 (6 : Int32) (8 : Int32)) = 0 then (some ((-2 : Int32), S1)) else (Option.bind (gM_of F S1.1 x2 (((5 : Int32) + a1) - (6 : Int32))) fun x34 => some (x34, S1)))))))))
set_option maxHeartbeats 4000000 in
theorem vM_worker (F : Nat) (S : qz_S) (a0 : Int32) (a1 : Int32) (r : Int32 × qz_S) (h : (gM_worker F S a0 a1) = some r) : qz_E 133 0 (qz_in0 133 [.inr (some ((6, 0, 0) : qz_N)), .inl a0, .inl a1]) [] (qz_mk S.1 S.2) (some (.inl r.1)) (qz_mk r.2.1 r.2.2) := by
  have hb : qz_b 133 = cX6_worker := rfl
  have hcn : qz_cn 133 = 6 := rfl
  show qz_E 133 0 [some (.inr (some ((6, 0, 0) : qz_N))), some (.inl a0), some (.inl a1), none, none, none] [] _ _ _
  rw [gM_worker] at h
  refine ei_aln hb dX6_worker_0 (pc' := 1) rfl rfl ?_
  refine ei_c hb dX6_worker_1 (v := (0 : Int32)) (pc' := 2) (by decide) rfl ?_
  obtain ⟨S1, eS1⟩ : ∃ q, q = qz_wr S ((6, 0, 0) : qz_N) 0 (0 : Int32) := ⟨_, rfl⟩
  rw [qz_let, ← eS1] at h
  refine ei_pi hb dX6_worker_2 (pc' := 5) (M1 := (qz_mk S1.1 S1.2)) hcn qz_f_6_32 rfl rfl (fun q => by cases q) rfl (by rw [eS1]; rfl) rfl ?_
  refine ei_aln hb dX6_worker_5 (pc' := 6) rfl rfl ?_
  refine ei_iln hb dX6_worker_6 (pc' := 7) rfl rfl ?_
  obtain ⟨x2, e3, h⟩ := Option.bind_eq_some_iff.mp h
  refine ei_cv hb dX6_worker_7 (pc' := 10) (M1 := (qz_mk S1.1 S1.2)) (as := [.inl a0]) (rest := []) (st' := [.inl x2]) hcn qz_c_6_127 qz_k_92 (qz_q_133_92) (Nat.le_of_ble_eq_true rfl) (Nat.le_of_ble_eq_true rfl) rfl rfl rfl (vM_placeOf F S1.1 S1.2 a0 _ e3) rfl rfl ?_
  refine ei_isn hb dX6_worker_10 (pc' := 11) (ls' := [some (.inr (some ((6, 0, 0) : qz_N))), some (.inl a0), some (.inl a1), some (.inl x2), none, none]) (Nat.le_of_ble_eq_true rfl) rfl rfl ?_
  refine ei_iln hb dX6_worker_11 (pc' := 12) rfl rfl ?_
  refine ei_b hb dX6_worker_12 (v := (-5 : Int32)) (pc' := 14) (by decide) rfl ?_
  by_cases c4 : x2 = (-5 : Int32)
  · rw [if_pos c4] at h
    refine ei_icF hb dX6_worker_14 (pc' := 17) (t := 19) (decide_eq_false (fun q => q c4)) (by decide) rfl ?_
    refine ei_c hb dX6_worker_17 (v := (-1 : Int32)) (pc' := 18) (by decide) rfl ?_
    have h := Option.some.inj h
    subst h
    exact ei_reti hb dX6_worker_18 rfl
  · rw [if_neg c4] at h
    refine ei_icT hb dX6_worker_14 (pc' := 19) (decide_eq_true c4) (by decide) ?_
    refine ei_aln hb dX6_worker_19 (pc' := 20) rfl rfl ?_
    refine ei_iln hb dX6_worker_20 (pc' := 21) rfl rfl ?_
    refine ei_c hb dX6_worker_21 (v := (1 : Int32)) (pc' := 22) (by decide) rfl ?_
    obtain ⟨x5, e6, h⟩ := Option.bind_eq_some_iff.mp h
    refine ei_cv hb dX6_worker_22 (pc' := 25) (M1 := (qz_mk S1.1 S1.2)) (as := [.inl x2, .inl (1 : Int32)]) (rest := []) (st' := [.inl x5]) hcn qz_c_6_40 qz_k_85 (qz_q_133_85) (Nat.le_of_ble_eq_true rfl) (Nat.le_of_ble_eq_true rfl) rfl rfl rfl (vM_of F S1.1 S1.2 x2 (1 : Int32) _ e6) rfl rfl ?_
    refine ei_is hb dX6_worker_25 (pc' := 27) (ls' := [some (.inr (some ((6, 0, 0) : qz_N))), some (.inl a0), some (.inl a1), some (.inl x2), some (.inl x5), none]) (Nat.le_of_ble_eq_true rfl) rfl rfl ?_
    refine ei_aln hb dX6_worker_27 (pc' := 28) rfl rfl ?_
    refine ei_iln hb dX6_worker_28 (pc' := 29) rfl rfl ?_
    refine ei_c hb dX6_worker_29 (v := (2 : Int32)) (pc' := 30) (by decide) rfl ?_
    obtain ⟨x7, e8, h⟩ := Option.bind_eq_some_iff.mp h
    refine ei_cv hb dX6_worker_30 (pc' := 33) (M1 := (qz_mk S1.1 S1.2)) (as := [.inl x2, .inl (2 : Int32)]) (rest := []) (st' := [.inl x7]) hcn qz_c_6_40 qz_k_85 (qz_q_133_85) (Nat.le_of_ble_eq_true rfl) (Nat.le_of_ble_eq_true rfl) rfl rfl rfl (vM_of F S1.1 S1.2 x2 (2 : Int32) _ e8) rfl rfl ?_
    refine ei_is hb dX6_worker_33 (pc' := 35) (ls' := [some (.inr (some ((6, 0, 0) : qz_N))), some (.inl a0), some (.inl a1), some (.inl x2), some (.inl x5), some (.inl x7)]) (Nat.le_of_ble_eq_true rfl) rfl rfl ?_
    refine ei_iln hb dX6_worker_35 (pc' := 36) rfl rfl ?_
    by_cases c9 : a1 = 0
    · rw [if_pos c9] at h
      refine ei_tbI hb dX6_worker_36 (pc' := 76) (off := 40) (by rw [c9]; decide) (by rw [c9]; rfl) (by decide) ?_
      refine ei_aln hb dX6_worker_76 (pc' := 77) rfl rfl ?_
      refine ei_iln hb dX6_worker_77 (pc' := 78) rfl rfl ?_
      refine ei_c hb dX6_worker_78 (v := (1 : Int32)) (pc' := 79) (by decide) rfl ?_
      refine ei_iln hb dX6_worker_79 (pc' := 80) rfl rfl ?_
      refine ei_add hb dX6_worker_80 (pc' := 81) rfl ?_
      obtain ⟨x10, e11, h⟩ := Option.bind_eq_some_iff.mp h
      refine ei_cv hb dX6_worker_81 (pc' := 84) (M1 := (qz_mk S1.1 S1.2)) (as := [.inl x2, .inl ((1 : Int32) + a1)]) (rest := []) (st' := [.inl x10]) hcn qz_c_6_40 qz_k_85 (qz_q_133_85) (Nat.le_of_ble_eq_true rfl) (Nat.le_of_ble_eq_true rfl) rfl rfl rfl (vM_of F S1.1 S1.2 x2 ((1 : Int32) + a1) _ e11) rfl rfl ?_
      have h := Option.some.inj h
      subst h
      exact ei_reti hb dX6_worker_84 rfl
    · rw [if_neg c9] at h
      by_cases c12 : a1 = 1
      · rw [if_pos c12] at h
        refine ei_tbI hb dX6_worker_36 (pc' := 76) (off := 40) (by rw [c12]; decide) (by rw [c12]; rfl) (by decide) ?_
        refine ei_aln hb dX6_worker_76 (pc' := 77) rfl rfl ?_
        refine ei_iln hb dX6_worker_77 (pc' := 78) rfl rfl ?_
        refine ei_c hb dX6_worker_78 (v := (1 : Int32)) (pc' := 79) (by decide) rfl ?_
        refine ei_iln hb dX6_worker_79 (pc' := 80) rfl rfl ?_
        refine ei_add hb dX6_worker_80 (pc' := 81) rfl ?_
        obtain ⟨x13, e14, h⟩ := Option.bind_eq_some_iff.mp h
        refine ei_cv hb dX6_worker_81 (pc' := 84) (M1 := (qz_mk S1.1 S1.2)) (as := [.inl x2, .inl ((1 : Int32) + a1)]) (rest := []) (st' := [.inl x13]) hcn qz_c_6_40 qz_k_85 (qz_q_133_85) (Nat.le_of_ble_eq_true rfl) (Nat.le_of_ble_eq_true rfl) rfl rfl rfl (vM_of F S1.1 S1.2 x2 ((1 : Int32) + a1) _ e14) rfl rfl ?_
        have h := Option.some.inj h
        subst h
        exact ei_reti hb dX6_worker_84 rfl
      · rw [if_neg c12] at h
        by_cases c15 : a1 = 2
        · rw [if_pos c15] at h
          refine ei_tbI hb dX6_worker_36 (pc' := 76) (off := 40) (by rw [c15]; decide) (by rw [c15]; rfl) (by decide) ?_
          refine ei_aln hb dX6_worker_76 (pc' := 77) rfl rfl ?_
          refine ei_iln hb dX6_worker_77 (pc' := 78) rfl rfl ?_
          refine ei_c hb dX6_worker_78 (v := (1 : Int32)) (pc' := 79) (by decide) rfl ?_
          refine ei_iln hb dX6_worker_79 (pc' := 80) rfl rfl ?_
          refine ei_add hb dX6_worker_80 (pc' := 81) rfl ?_
          obtain ⟨x16, e17, h⟩ := Option.bind_eq_some_iff.mp h
          refine ei_cv hb dX6_worker_81 (pc' := 84) (M1 := (qz_mk S1.1 S1.2)) (as := [.inl x2, .inl ((1 : Int32) + a1)]) (rest := []) (st' := [.inl x16]) hcn qz_c_6_40 qz_k_85 (qz_q_133_85) (Nat.le_of_ble_eq_true rfl) (Nat.le_of_ble_eq_true rfl) rfl rfl rfl (vM_of F S1.1 S1.2 x2 ((1 : Int32) + a1) _ e17) rfl rfl ?_
          have h := Option.some.inj h
          subst h
          exact ei_reti hb dX6_worker_84 rfl
        · rw [if_neg c15] at h
          by_cases c18 : a1 = 3
          · rw [if_pos c18] at h
            refine ei_tbI hb dX6_worker_36 (pc' := 76) (off := 40) (by rw [c18]; decide) (by rw [c18]; rfl) (by decide) ?_
            refine ei_aln hb dX6_worker_76 (pc' := 77) rfl rfl ?_
            refine ei_iln hb dX6_worker_77 (pc' := 78) rfl rfl ?_
            refine ei_c hb dX6_worker_78 (v := (1 : Int32)) (pc' := 79) (by decide) rfl ?_
            refine ei_iln hb dX6_worker_79 (pc' := 80) rfl rfl ?_
            refine ei_add hb dX6_worker_80 (pc' := 81) rfl ?_
            obtain ⟨x19, e20, h⟩ := Option.bind_eq_some_iff.mp h
            refine ei_cv hb dX6_worker_81 (pc' := 84) (M1 := (qz_mk S1.1 S1.2)) (as := [.inl x2, .inl ((1 : Int32) + a1)]) (rest := []) (st' := [.inl x19]) hcn qz_c_6_40 qz_k_85 (qz_q_133_85) (Nat.le_of_ble_eq_true rfl) (Nat.le_of_ble_eq_true rfl) rfl rfl rfl (vM_of F S1.1 S1.2 x2 ((1 : Int32) + a1) _ e20) rfl rfl ?_
            have h := Option.some.inj h
            subst h
            exact ei_reti hb dX6_worker_84 rfl
          · rw [if_neg c18] at h
            by_cases c21 : a1 = 4
            · rw [if_pos c21] at h
              refine ei_tbI hb dX6_worker_36 (pc' := 85) (off := 49) (by rw [c21]; decide) (by rw [c21]; rfl) (by decide) ?_
              refine ei_aln hb dX6_worker_85 (pc' := 86) rfl rfl ?_
              refine ei_aln hb dX6_worker_86 (pc' := 87) rfl rfl ?_
              refine ei_il hb dX6_worker_87 (pc' := 89) rfl rfl ?_
              refine ei_il hb dX6_worker_89 (pc' := 91) rfl rfl ?_
              obtain ⟨x22, e23, h⟩ := Option.bind_eq_some_iff.mp h
              refine ei_cv hb dX6_worker_91 (pc' := 94) (M1 := (qz_mk S1.1 S1.2)) (as := [.inl x7, .inl x5]) (rest := [.inr (some ((6, 0, 0) : qz_N))]) (st' := [.inl x22, .inr (some ((6, 0, 0) : qz_N))]) hcn qz_c_6_68 qz_k_95 (qz_q_133_95) (Nat.le_of_ble_eq_true rfl) (Nat.le_of_ble_eq_true rfl) rfl rfl rfl (vM_startOf F S1.1 S1.2 x7 x5 _ e23) rfl rfl ?_
              refine ei_il hb dX6_worker_94 (pc' := 96) rfl rfl ?_
              refine ei_aln hb dX6_worker_96 (pc' := 97) rfl rfl ?_
              refine ei_iln hb dX6_worker_97 (pc' := 98) rfl rfl ?_
              refine ei_c hb dX6_worker_98 (v := (3 : Int32)) (pc' := 99) (by decide) rfl ?_
              obtain ⟨x24, e25, h⟩ := Option.bind_eq_some_iff.mp h
              refine ei_cv hb dX6_worker_99 (pc' := 102) (M1 := (qz_mk S1.1 S1.2)) (as := [.inl x2, .inl (3 : Int32)]) (rest := [.inl x5, .inl x22, .inr (some ((6, 0, 0) : qz_N))]) (st' := [.inl x24, .inl x5, .inl x22, .inr (some ((6, 0, 0) : qz_N))]) hcn qz_c_6_40 qz_k_85 (qz_q_133_85) (Nat.le_of_ble_eq_true rfl) (Nat.le_of_ble_eq_true rfl) rfl rfl rfl (vM_of F S1.1 S1.2 x2 (3 : Int32) _ e25) rfl rfl ?_
              obtain ⟨x26, e27, h⟩ := Option.bind_eq_some_iff.mp h
              refine ei_cv hb dX6_worker_102 (pc' := 105) (M1 := (qz_mk S1.1 S1.2)) (as := [.inl x22, .inl x5, .inl x24]) (rest := []) (st' := [.inl x26]) hcn qz_c_6_71 qz_k_98 (qz_q_133_98) (Nat.le_of_ble_eq_true rfl) (Nat.le_of_ble_eq_true rfl) rfl rfl rfl (vM_behind F S1.1 S1.2 x22 x5 x24 _ e27) rfl rfl ?_
              have h := Option.some.inj h
              subst h
              exact ei_reti hb dX6_worker_105 rfl
            · rw [if_neg c21] at h
              by_cases c28 : a1 = 5
              · rw [if_pos c28] at h
                refine ei_tbI hb dX6_worker_36 (pc' := 106) (off := 70) (by rw [c28]; decide) (by rw [c28]; rfl) (by decide) ?_
                refine ei_aln hb dX6_worker_106 (pc' := 107) rfl rfl ?_
                refine ei_il hb dX6_worker_107 (pc' := 109) rfl rfl ?_
                refine ei_il hb dX6_worker_109 (pc' := 111) rfl rfl ?_
                refine ei_aln hb dX6_worker_111 (pc' := 112) rfl rfl ?_
                refine ei_iln hb dX6_worker_112 (pc' := 113) rfl rfl ?_
                refine ei_c hb dX6_worker_113 (v := (3 : Int32)) (pc' := 114) (by decide) rfl ?_
                obtain ⟨x29, e30, h⟩ := Option.bind_eq_some_iff.mp h
                refine ei_cv hb dX6_worker_114 (pc' := 117) (M1 := (qz_mk S1.1 S1.2)) (as := [.inl x2, .inl (3 : Int32)]) (rest := [.inl x5, .inl x7, .inr (some ((6, 0, 0) : qz_N))]) (st' := [.inl x29, .inl x5, .inl x7, .inr (some ((6, 0, 0) : qz_N))]) hcn qz_c_6_40 qz_k_85 (qz_q_133_85) (Nat.le_of_ble_eq_true rfl) (Nat.le_of_ble_eq_true rfl) rfl rfl rfl (vM_of F S1.1 S1.2 x2 (3 : Int32) _ e30) rfl rfl ?_
                refine ei_iln hb dX6_worker_117 (pc' := 118) rfl rfl ?_
                obtain ⟨x31, e32, h⟩ := Option.bind_eq_some_iff.mp h
                refine ei_cv hb dX6_worker_118 (pc' := 121) (M1 := (qz_mk S1.1 S1.2)) (as := [.inl x7, .inl x5, .inl x29, .inl x2]) (rest := []) (st' := [.inl x31]) hcn qz_c_6_79 qz_k_99 (qz_q_133_99) (Nat.le_of_ble_eq_true rfl) (Nat.le_of_ble_eq_true rfl) rfl rfl rfl (vM_reasonBut F S1.1 S1.2 x7 x5 x29 x2 _ e32) rfl rfl ?_
                have h := Option.some.inj h
                subst h
                exact ei_reti hb dX6_worker_121 rfl
              · rw [if_neg c28] at h
                have tc9 := lv_neT c9 (show (0 : Int32).toInt = 0 by decide)
                have tc12 := lv_neT c12 (show (1 : Int32).toInt = 1 by decide)
                have tc15 := lv_neT c15 (show (2 : Int32).toInt = 2 by decide)
                have tc18 := lv_neT c18 (show (3 : Int32).toInt = 3 by decide)
                have tc21 := lv_neT c21 (show (4 : Int32).toInt = 4 by decide)
                have tc28 := lv_neT c28 (show (5 : Int32).toInt = 5 by decide)
                refine ei_tbO hb dX6_worker_36 (pc' := 122) (by omega) (by decide) ?_
                refine ei_iln hb dX6_worker_122 (pc' := 123) rfl rfl ?_
                refine ei_b hb dX6_worker_123 (v := (6 : Int32)) (pc' := 125) (by decide) rfl ?_
                refine ei_b hb dX6_worker_125 (v := (8 : Int32)) (pc' := 127) (by decide) rfl ?_
                refine ei_cs hb dX6_worker_127 (pc' := 130) (M1 := (qz_mk S1.1 S1.2)) (as := [.inl a1, .inl (6 : Int32), .inl (8 : Int32)]) (rest := []) (st' := [.inl (gM_in S1.1 a1 (6 : Int32) (8 : Int32))]) hcn qz_c_6_36 rfl qz_k_84 (qz_q_133_84) (Nat.le_of_ble_eq_true rfl) (Nat.le_of_ble_eq_true rfl) rfl rfl (vM_in S1.1 S1.2 a1 (6 : Int32) (8 : Int32)) rfl rfl ?_
                by_cases c33 : (gM_in S1.1 a1 (6 : Int32) (8 : Int32)) = 0
                · rw [if_pos c33] at h
                  refine ei_ifT hb dX6_worker_130 (pc' := 147) (decide_eq_true c33) (by decide) ?_
                  refine ei_b hb dX6_worker_147 (v := (-2 : Int32)) (pc' := 149) (by decide) rfl ?_
                  have h := Option.some.inj h
                  subst h
                  exact ei_reti hb dX6_worker_149 rfl
                · rw [if_neg c33] at h
                  refine ei_ifF hb dX6_worker_130 (pc' := 133) (t := 147) (decide_eq_false c33) (by decide) rfl ?_
                  refine ei_aln hb dX6_worker_133 (pc' := 134) rfl rfl ?_
                  refine ei_iln hb dX6_worker_134 (pc' := 135) rfl rfl ?_
                  refine ei_c hb dX6_worker_135 (v := (5 : Int32)) (pc' := 136) (by decide) rfl ?_
                  refine ei_iln hb dX6_worker_136 (pc' := 137) rfl rfl ?_
                  refine ei_add hb dX6_worker_137 (pc' := 138) rfl ?_
                  refine ei_b hb dX6_worker_138 (v := (6 : Int32)) (pc' := 140) (by decide) rfl ?_
                  refine ei_sub hb dX6_worker_140 (pc' := 141) rfl ?_
                  obtain ⟨x34, e35, h⟩ := Option.bind_eq_some_iff.mp h
                  refine ei_cv hb dX6_worker_141 (pc' := 144) (M1 := (qz_mk S1.1 S1.2)) (as := [.inl x2, .inl (((5 : Int32) + a1) - (6 : Int32))]) (rest := []) (st' := [.inl x34]) hcn qz_c_6_40 qz_k_85 (qz_q_133_85) (Nat.le_of_ble_eq_true rfl) (Nat.le_of_ble_eq_true rfl) rfl rfl rfl (vM_of F S1.1 S1.2 x2 (((5 : Int32) + a1) - (6 : Int32)) _ e35) rfl rfl ?_
                  refine ei_go hb dX6_worker_144 (pc' := 149) (by decide) ?_
                  have h := Option.some.inj h
                  subst h
                  exact ei_reti hb dX6_worker_149 rfl
def gM_overRiders_L9 (F : Nat) (f : qz_F) (a0 : Int32) (a1 : Int32) (a2 : Int32) (K : (Int32 → Int32 → Int32 → Option (Int32))) : Nat → Int32 → Int32 → Int32 → Option (Int32)
  | 0, _, _, _ => none
  | n + 1, y4, y5, y6 => if (f ((17, 0, 0) : qz_N) 6) ≤ y6 then (K y4 y5 y6) else (Option.bind (gM_isOn F f y6 a0 a1) fun x2 => if x2 = 0 then ((gM_overRiders_L9 F f a0 a1 a2 K) n y4 y5 (y6 + 1)) else (Option.bind (gM_of F f y6 (4 : Int32)) fun x5 => if x5 = (1 : Int32) then (if a2 = (2 : Int32) then (Option.bind (gM_of F f y6 (3 : Int32)) fun x9 => if x9 ≤ y5 then ((gM_overRiders_L9 F f a0 a1 a2 K) n (y4 + (1 : Int32)) y5 (y6 + 1)) else (Option.bind (gM_of F f y6 (3 : Int32)) fun x12 => (gM_overRiders_L9 F f a0 a1 a2 K) n (y4 + (1 : Int32)) x12 (y6 + 1))) else (Option.bind (gM_of F f y6 (3 : Int32)) fun x14 => if x14 ≤ y5 then ((gM_overRiders_L9 F f a0 a1 a2 K) n (y4 + (0 : Int32)) y5 (y6 + 1)) else (Option.bind (gM_of F f y6 (3 : Int32)) fun x17 => (gM_overRiders_L9 F f a0 a1 a2 K) n (y4 + (0 : Int32)) x17 (y6 + 1)))) else (if a2 = (2 : Int32) then ((gM_overRiders_L9 F f a0 a1 a2 K) n (y4 + (0 : Int32)) y5 (y6 + 1)) else ((gM_overRiders_L9 F f a0 a1 a2 K) n (y4 + (1 : Int32)) y5 (y6 + 1)))))
def gM_overRiders (F : Nat) (f : qz_F) (a0 : Int32) (a1 : Int32) (a2 : Int32) : Option (Int32) :=
  gM_overRiders_L9 F f a0 a1 a2 (fun y420 y521 y622 => if a2 = (4 : Int32) then (some y521) else (some y420)) F (0 : Int32) (0 : Int32) (0 : Int32)
set_option maxHeartbeats 4000000 in
theorem vM_overRiders_L9 (F : Nat) (f : qz_F) (p : Nat → Nat) (a0 : Int32) (a1 : Int32) (a2 : Int32) (K : (Int32 → Int32 → Int32 → Option (Int32))) (hK : ∀ (y4 : Int32) (y5 : Int32) (y6 : Int32) (r : Int32), K y4 y5 y6 = some r → ∀ (d7 : Option qz_V), qz_E 134 112 [some (.inr (some ((6, 0, 0) : qz_N))), some (.inl a0), some (.inl a1), some (.inl a2), some (.inl y4), some (.inl y5), some (.inl y6), d7] [] (qz_mk f p) (some (.inl r)) (qz_mk f p)) : ∀ (n : Nat) (y4 : Int32) (y5 : Int32) (y6 : Int32) (r : Int32), gM_overRiders_L9 F f a0 a1 a2 K n y4 y5 y6 = some r → ∀ (d7 : Option qz_V), qz_E 134 9 [some (.inr (some ((6, 0, 0) : qz_N))), some (.inl a0), some (.inl a1), some (.inl a2), some (.inl y4), some (.inl y5), some (.inl y6), d7] [] (qz_mk f p) (some (.inl r)) (qz_mk f p) := by
  have hb : qz_b 134 = cX6_overRiders := rfl
  have hcn : qz_cn 134 = 6 := rfl
  intro n
  induction n with
  | zero =>
    intro y4 y5 y6 r h
    cases h
  | succ n ih =>
    intro y4 y5 y6 r h d7
    rw [gM_overRiders_L9] at h
    refine ei_il hb dX6_overRiders_9 (pc' := 11) rfl rfl ?_
    refine ei_aln hb dX6_overRiders_11 (pc' := 12) rfl rfl ?_
    refine ei_gr hb dX6_overRiders_12 (pc' := 15) (x := some ((17, 0, 0) : qz_N)) hcn qz_f_6_7 rfl rfl rfl rfl ?_
    refine ei_b hb dX6_overRiders_15 (v := (6 : Int32)) (pc' := 17) (by decide) rfl ?_
    refine ei_ia hb dX6_overRiders_17 (pc' := 18) (x := (f ((17, 0, 0) : qz_N) 6)) rfl (show qz_xi (6 : Int32) 283 = true by decide) rfl rfl ?_
    by_cases c1 : (f ((17, 0, 0) : qz_N) 6) ≤ y6
    · rw [if_pos c1] at h
      refine ei_icT hb dX6_overRiders_18 (pc' := 112) (decide_eq_true c1) (by decide) ?_
      exact hK y4 y5 y6 _ h _
    · rw [if_neg c1] at h
      refine ei_icF hb dX6_overRiders_18 (pc' := 21) (t := 112) (decide_eq_false c1) (by decide) rfl ?_
      refine ei_aln hb dX6_overRiders_21 (pc' := 22) rfl rfl ?_
      refine ei_il hb dX6_overRiders_22 (pc' := 24) rfl rfl ?_
      refine ei_iln hb dX6_overRiders_24 (pc' := 25) rfl rfl ?_
      refine ei_iln hb dX6_overRiders_25 (pc' := 26) rfl rfl ?_
      obtain ⟨x2, e3, h⟩ := Option.bind_eq_some_iff.mp h
      refine ei_cv hb dX6_overRiders_26 (pc' := 29) (M1 := (qz_mk f p)) (as := [.inl y6, .inl a0, .inl a1]) (rest := []) (st' := [.inl x2]) hcn qz_c_6_57 qz_k_96 (qz_q_134_96) (Nat.le_of_ble_eq_true rfl) (Nat.le_of_ble_eq_true rfl) rfl rfl rfl (vM_isOn F f p y6 a0 a1 _ e3) rfl rfl ?_
      by_cases c4 : x2 = 0
      · rw [if_pos c4] at h
        refine ei_ifT hb dX6_overRiders_29 (pc' := 106) (decide_eq_true c4) (by decide) ?_
        refine ei_inc hb dX6_overRiders_106 (v := (y6 + 1)) (pc' := 109) (ls' := [some (.inr (some ((6, 0, 0) : qz_N))), some (.inl a0), some (.inl a1), some (.inl a2), some (.inl y4), some (.inl y5), some (.inl (y6 + 1)), d7]) rfl rfl rfl rfl ?_
        refine ei_go hb dX6_overRiders_109 (pc' := 9) (by decide) ?_
        exact ih y4 y5 (y6 + 1) _ h _
      · rw [if_neg c4] at h
        refine ei_ifF hb dX6_overRiders_29 (pc' := 32) (t := 106) (decide_eq_false c4) (by decide) rfl ?_
        refine ei_aln hb dX6_overRiders_32 (pc' := 33) rfl rfl ?_
        refine ei_il hb dX6_overRiders_33 (pc' := 35) rfl rfl ?_
        refine ei_c hb dX6_overRiders_35 (v := (4 : Int32)) (pc' := 36) (by decide) rfl ?_
        obtain ⟨x5, e6, h⟩ := Option.bind_eq_some_iff.mp h
        refine ei_cv hb dX6_overRiders_36 (pc' := 39) (M1 := (qz_mk f p)) (as := [.inl y6, .inl (4 : Int32)]) (rest := []) (st' := [.inl x5]) hcn qz_c_6_40 qz_k_85 (qz_q_134_85) (Nat.le_of_ble_eq_true rfl) (Nat.le_of_ble_eq_true rfl) rfl rfl rfl (vM_of F f p y6 (4 : Int32) _ e6) rfl rfl ?_
        refine ei_c hb dX6_overRiders_39 (v := (1 : Int32)) (pc' := 40) (by decide) rfl ?_
        by_cases c7 : x5 = (1 : Int32)
        · rw [if_pos c7] at h
          refine ei_icF hb dX6_overRiders_40 (pc' := 43) (t := 47) (decide_eq_false (fun q => q c7)) (by decide) rfl ?_
          refine ei_c hb dX6_overRiders_43 (v := (1 : Int32)) (pc' := 44) (by decide) rfl ?_
          refine ei_go hb dX6_overRiders_44 (pc' := 48) (by decide) ?_
          refine ei_is hb dX6_overRiders_48 (pc' := 50) (ls' := [some (.inr (some ((6, 0, 0) : qz_N))), some (.inl a0), some (.inl a1), some (.inl a2), some (.inl y4), some (.inl y5), some (.inl y6), some (.inl (1 : Int32))]) (Nat.le_of_ble_eq_true rfl) rfl rfl ?_
          refine ei_il hb dX6_overRiders_50 (pc' := 52) rfl rfl ?_
          refine ei_il hb dX6_overRiders_52 (pc' := 54) rfl rfl ?_
          refine ei_iln hb dX6_overRiders_54 (pc' := 55) rfl rfl ?_
          refine ei_c hb dX6_overRiders_55 (v := (2 : Int32)) (pc' := 56) (by decide) rfl ?_
          by_cases c8 : a2 = (2 : Int32)
          · rw [if_pos c8] at h
            refine ei_icF hb dX6_overRiders_56 (pc' := 59) (t := 63) (decide_eq_false (fun q => q c8)) (by decide) rfl ?_
            refine ei_c hb dX6_overRiders_59 (v := (1 : Int32)) (pc' := 60) (by decide) rfl ?_
            refine ei_go hb dX6_overRiders_60 (pc' := 64) (by decide) ?_
            refine ei_icF hb dX6_overRiders_64 (pc' := 67) (t := 71) (by decide) (by decide) rfl ?_
            refine ei_c hb dX6_overRiders_67 (v := (1 : Int32)) (pc' := 68) (by decide) rfl ?_
            refine ei_go hb dX6_overRiders_68 (pc' := 72) (by decide) ?_
            refine ei_add hb dX6_overRiders_72 (pc' := 73) rfl ?_
            refine ei_is hb dX6_overRiders_73 (pc' := 75) (ls' := [some (.inr (some ((6, 0, 0) : qz_N))), some (.inl a0), some (.inl a1), some (.inl a2), some (.inl (y4 + (1 : Int32))), some (.inl y5), some (.inl y6), some (.inl (1 : Int32))]) (Nat.le_of_ble_eq_true rfl) rfl rfl ?_
            refine ei_il hb dX6_overRiders_75 (pc' := 77) rfl rfl ?_
            refine ei_ifF hb dX6_overRiders_77 (pc' := 80) (t := 102) (by decide) (by decide) rfl ?_
            refine ei_aln hb dX6_overRiders_80 (pc' := 81) rfl rfl ?_
            refine ei_il hb dX6_overRiders_81 (pc' := 83) rfl rfl ?_
            refine ei_c hb dX6_overRiders_83 (v := (3 : Int32)) (pc' := 84) (by decide) rfl ?_
            obtain ⟨x9, e10, h⟩ := Option.bind_eq_some_iff.mp h
            refine ei_cv hb dX6_overRiders_84 (pc' := 87) (M1 := (qz_mk f p)) (as := [.inl y6, .inl (3 : Int32)]) (rest := []) (st' := [.inl x9]) hcn qz_c_6_40 qz_k_85 (qz_q_134_85) (Nat.le_of_ble_eq_true rfl) (Nat.le_of_ble_eq_true rfl) rfl rfl rfl (vM_of F f p y6 (3 : Int32) _ e10) rfl rfl ?_
            refine ei_il hb dX6_overRiders_87 (pc' := 89) rfl rfl ?_
            by_cases c11 : x9 ≤ y5
            · rw [if_pos c11] at h
              refine ei_icT hb dX6_overRiders_89 (pc' := 102) (decide_eq_true c11) (by decide) ?_
              refine ei_il hb dX6_overRiders_102 (pc' := 104) rfl rfl ?_
              refine ei_is hb dX6_overRiders_104 (pc' := 106) (ls' := [some (.inr (some ((6, 0, 0) : qz_N))), some (.inl a0), some (.inl a1), some (.inl a2), some (.inl (y4 + (1 : Int32))), some (.inl y5), some (.inl y6), some (.inl (1 : Int32))]) (Nat.le_of_ble_eq_true rfl) rfl rfl ?_
              refine ei_inc hb dX6_overRiders_106 (v := (y6 + 1)) (pc' := 109) (ls' := [some (.inr (some ((6, 0, 0) : qz_N))), some (.inl a0), some (.inl a1), some (.inl a2), some (.inl (y4 + (1 : Int32))), some (.inl y5), some (.inl (y6 + 1)), some (.inl (1 : Int32))]) rfl rfl rfl rfl ?_
              refine ei_go hb dX6_overRiders_109 (pc' := 9) (by decide) ?_
              exact ih (y4 + (1 : Int32)) y5 (y6 + 1) _ h _
            · rw [if_neg c11] at h
              refine ei_icF hb dX6_overRiders_89 (pc' := 92) (t := 102) (decide_eq_false c11) (by decide) rfl ?_
              refine ei_aln hb dX6_overRiders_92 (pc' := 93) rfl rfl ?_
              refine ei_il hb dX6_overRiders_93 (pc' := 95) rfl rfl ?_
              refine ei_c hb dX6_overRiders_95 (v := (3 : Int32)) (pc' := 96) (by decide) rfl ?_
              obtain ⟨x12, e13, h⟩ := Option.bind_eq_some_iff.mp h
              refine ei_cv hb dX6_overRiders_96 (pc' := 99) (M1 := (qz_mk f p)) (as := [.inl y6, .inl (3 : Int32)]) (rest := []) (st' := [.inl x12]) hcn qz_c_6_40 qz_k_85 (qz_q_134_85) (Nat.le_of_ble_eq_true rfl) (Nat.le_of_ble_eq_true rfl) rfl rfl rfl (vM_of F f p y6 (3 : Int32) _ e13) rfl rfl ?_
              refine ei_go hb dX6_overRiders_99 (pc' := 104) (by decide) ?_
              refine ei_is hb dX6_overRiders_104 (pc' := 106) (ls' := [some (.inr (some ((6, 0, 0) : qz_N))), some (.inl a0), some (.inl a1), some (.inl a2), some (.inl (y4 + (1 : Int32))), some (.inl x12), some (.inl y6), some (.inl (1 : Int32))]) (Nat.le_of_ble_eq_true rfl) rfl rfl ?_
              refine ei_inc hb dX6_overRiders_106 (v := (y6 + 1)) (pc' := 109) (ls' := [some (.inr (some ((6, 0, 0) : qz_N))), some (.inl a0), some (.inl a1), some (.inl a2), some (.inl (y4 + (1 : Int32))), some (.inl x12), some (.inl (y6 + 1)), some (.inl (1 : Int32))]) rfl rfl rfl rfl ?_
              refine ei_go hb dX6_overRiders_109 (pc' := 9) (by decide) ?_
              exact ih (y4 + (1 : Int32)) x12 (y6 + 1) _ h _
          · rw [if_neg c8] at h
            refine ei_icT hb dX6_overRiders_56 (pc' := 63) (decide_eq_true c8) (by decide) ?_
            refine ei_c hb dX6_overRiders_63 (v := (0 : Int32)) (pc' := 64) (by decide) rfl ?_
            refine ei_icT hb dX6_overRiders_64 (pc' := 71) (by decide) (by decide) ?_
            refine ei_c hb dX6_overRiders_71 (v := (0 : Int32)) (pc' := 72) (by decide) rfl ?_
            refine ei_add hb dX6_overRiders_72 (pc' := 73) rfl ?_
            refine ei_is hb dX6_overRiders_73 (pc' := 75) (ls' := [some (.inr (some ((6, 0, 0) : qz_N))), some (.inl a0), some (.inl a1), some (.inl a2), some (.inl (y4 + (0 : Int32))), some (.inl y5), some (.inl y6), some (.inl (1 : Int32))]) (Nat.le_of_ble_eq_true rfl) rfl rfl ?_
            refine ei_il hb dX6_overRiders_75 (pc' := 77) rfl rfl ?_
            refine ei_ifF hb dX6_overRiders_77 (pc' := 80) (t := 102) (by decide) (by decide) rfl ?_
            refine ei_aln hb dX6_overRiders_80 (pc' := 81) rfl rfl ?_
            refine ei_il hb dX6_overRiders_81 (pc' := 83) rfl rfl ?_
            refine ei_c hb dX6_overRiders_83 (v := (3 : Int32)) (pc' := 84) (by decide) rfl ?_
            obtain ⟨x14, e15, h⟩ := Option.bind_eq_some_iff.mp h
            refine ei_cv hb dX6_overRiders_84 (pc' := 87) (M1 := (qz_mk f p)) (as := [.inl y6, .inl (3 : Int32)]) (rest := []) (st' := [.inl x14]) hcn qz_c_6_40 qz_k_85 (qz_q_134_85) (Nat.le_of_ble_eq_true rfl) (Nat.le_of_ble_eq_true rfl) rfl rfl rfl (vM_of F f p y6 (3 : Int32) _ e15) rfl rfl ?_
            refine ei_il hb dX6_overRiders_87 (pc' := 89) rfl rfl ?_
            by_cases c16 : x14 ≤ y5
            · rw [if_pos c16] at h
              refine ei_icT hb dX6_overRiders_89 (pc' := 102) (decide_eq_true c16) (by decide) ?_
              refine ei_il hb dX6_overRiders_102 (pc' := 104) rfl rfl ?_
              refine ei_is hb dX6_overRiders_104 (pc' := 106) (ls' := [some (.inr (some ((6, 0, 0) : qz_N))), some (.inl a0), some (.inl a1), some (.inl a2), some (.inl (y4 + (0 : Int32))), some (.inl y5), some (.inl y6), some (.inl (1 : Int32))]) (Nat.le_of_ble_eq_true rfl) rfl rfl ?_
              refine ei_inc hb dX6_overRiders_106 (v := (y6 + 1)) (pc' := 109) (ls' := [some (.inr (some ((6, 0, 0) : qz_N))), some (.inl a0), some (.inl a1), some (.inl a2), some (.inl (y4 + (0 : Int32))), some (.inl y5), some (.inl (y6 + 1)), some (.inl (1 : Int32))]) rfl rfl rfl rfl ?_
              refine ei_go hb dX6_overRiders_109 (pc' := 9) (by decide) ?_
              exact ih (y4 + (0 : Int32)) y5 (y6 + 1) _ h _
            · rw [if_neg c16] at h
              refine ei_icF hb dX6_overRiders_89 (pc' := 92) (t := 102) (decide_eq_false c16) (by decide) rfl ?_
              refine ei_aln hb dX6_overRiders_92 (pc' := 93) rfl rfl ?_
              refine ei_il hb dX6_overRiders_93 (pc' := 95) rfl rfl ?_
              refine ei_c hb dX6_overRiders_95 (v := (3 : Int32)) (pc' := 96) (by decide) rfl ?_
              obtain ⟨x17, e18, h⟩ := Option.bind_eq_some_iff.mp h
              refine ei_cv hb dX6_overRiders_96 (pc' := 99) (M1 := (qz_mk f p)) (as := [.inl y6, .inl (3 : Int32)]) (rest := []) (st' := [.inl x17]) hcn qz_c_6_40 qz_k_85 (qz_q_134_85) (Nat.le_of_ble_eq_true rfl) (Nat.le_of_ble_eq_true rfl) rfl rfl rfl (vM_of F f p y6 (3 : Int32) _ e18) rfl rfl ?_
              refine ei_go hb dX6_overRiders_99 (pc' := 104) (by decide) ?_
              refine ei_is hb dX6_overRiders_104 (pc' := 106) (ls' := [some (.inr (some ((6, 0, 0) : qz_N))), some (.inl a0), some (.inl a1), some (.inl a2), some (.inl (y4 + (0 : Int32))), some (.inl x17), some (.inl y6), some (.inl (1 : Int32))]) (Nat.le_of_ble_eq_true rfl) rfl rfl ?_
              refine ei_inc hb dX6_overRiders_106 (v := (y6 + 1)) (pc' := 109) (ls' := [some (.inr (some ((6, 0, 0) : qz_N))), some (.inl a0), some (.inl a1), some (.inl a2), some (.inl (y4 + (0 : Int32))), some (.inl x17), some (.inl (y6 + 1)), some (.inl (1 : Int32))]) rfl rfl rfl rfl ?_
              refine ei_go hb dX6_overRiders_109 (pc' := 9) (by decide) ?_
              exact ih (y4 + (0 : Int32)) x17 (y6 + 1) _ h _
        · rw [if_neg c7] at h
          refine ei_icT hb dX6_overRiders_40 (pc' := 47) (decide_eq_true c7) (by decide) ?_
          refine ei_c hb dX6_overRiders_47 (v := (0 : Int32)) (pc' := 48) (by decide) rfl ?_
          refine ei_is hb dX6_overRiders_48 (pc' := 50) (ls' := [some (.inr (some ((6, 0, 0) : qz_N))), some (.inl a0), some (.inl a1), some (.inl a2), some (.inl y4), some (.inl y5), some (.inl y6), some (.inl (0 : Int32))]) (Nat.le_of_ble_eq_true rfl) rfl rfl ?_
          refine ei_il hb dX6_overRiders_50 (pc' := 52) rfl rfl ?_
          refine ei_il hb dX6_overRiders_52 (pc' := 54) rfl rfl ?_
          refine ei_iln hb dX6_overRiders_54 (pc' := 55) rfl rfl ?_
          refine ei_c hb dX6_overRiders_55 (v := (2 : Int32)) (pc' := 56) (by decide) rfl ?_
          by_cases c19 : a2 = (2 : Int32)
          · rw [if_pos c19] at h
            refine ei_icF hb dX6_overRiders_56 (pc' := 59) (t := 63) (decide_eq_false (fun q => q c19)) (by decide) rfl ?_
            refine ei_c hb dX6_overRiders_59 (v := (1 : Int32)) (pc' := 60) (by decide) rfl ?_
            refine ei_go hb dX6_overRiders_60 (pc' := 64) (by decide) ?_
            refine ei_icT hb dX6_overRiders_64 (pc' := 71) (by decide) (by decide) ?_
            refine ei_c hb dX6_overRiders_71 (v := (0 : Int32)) (pc' := 72) (by decide) rfl ?_
            refine ei_add hb dX6_overRiders_72 (pc' := 73) rfl ?_
            refine ei_is hb dX6_overRiders_73 (pc' := 75) (ls' := [some (.inr (some ((6, 0, 0) : qz_N))), some (.inl a0), some (.inl a1), some (.inl a2), some (.inl (y4 + (0 : Int32))), some (.inl y5), some (.inl y6), some (.inl (0 : Int32))]) (Nat.le_of_ble_eq_true rfl) rfl rfl ?_
            refine ei_il hb dX6_overRiders_75 (pc' := 77) rfl rfl ?_
            refine ei_ifT hb dX6_overRiders_77 (pc' := 102) (by decide) (by decide) ?_
            refine ei_il hb dX6_overRiders_102 (pc' := 104) rfl rfl ?_
            refine ei_is hb dX6_overRiders_104 (pc' := 106) (ls' := [some (.inr (some ((6, 0, 0) : qz_N))), some (.inl a0), some (.inl a1), some (.inl a2), some (.inl (y4 + (0 : Int32))), some (.inl y5), some (.inl y6), some (.inl (0 : Int32))]) (Nat.le_of_ble_eq_true rfl) rfl rfl ?_
            refine ei_inc hb dX6_overRiders_106 (v := (y6 + 1)) (pc' := 109) (ls' := [some (.inr (some ((6, 0, 0) : qz_N))), some (.inl a0), some (.inl a1), some (.inl a2), some (.inl (y4 + (0 : Int32))), some (.inl y5), some (.inl (y6 + 1)), some (.inl (0 : Int32))]) rfl rfl rfl rfl ?_
            refine ei_go hb dX6_overRiders_109 (pc' := 9) (by decide) ?_
            exact ih (y4 + (0 : Int32)) y5 (y6 + 1) _ h _
          · rw [if_neg c19] at h
            refine ei_icT hb dX6_overRiders_56 (pc' := 63) (decide_eq_true c19) (by decide) ?_
            refine ei_c hb dX6_overRiders_63 (v := (0 : Int32)) (pc' := 64) (by decide) rfl ?_
            refine ei_icF hb dX6_overRiders_64 (pc' := 67) (t := 71) (by decide) (by decide) rfl ?_
            refine ei_c hb dX6_overRiders_67 (v := (1 : Int32)) (pc' := 68) (by decide) rfl ?_
            refine ei_go hb dX6_overRiders_68 (pc' := 72) (by decide) ?_
            refine ei_add hb dX6_overRiders_72 (pc' := 73) rfl ?_
            refine ei_is hb dX6_overRiders_73 (pc' := 75) (ls' := [some (.inr (some ((6, 0, 0) : qz_N))), some (.inl a0), some (.inl a1), some (.inl a2), some (.inl (y4 + (1 : Int32))), some (.inl y5), some (.inl y6), some (.inl (0 : Int32))]) (Nat.le_of_ble_eq_true rfl) rfl rfl ?_
            refine ei_il hb dX6_overRiders_75 (pc' := 77) rfl rfl ?_
            refine ei_ifT hb dX6_overRiders_77 (pc' := 102) (by decide) (by decide) ?_
            refine ei_il hb dX6_overRiders_102 (pc' := 104) rfl rfl ?_
            refine ei_is hb dX6_overRiders_104 (pc' := 106) (ls' := [some (.inr (some ((6, 0, 0) : qz_N))), some (.inl a0), some (.inl a1), some (.inl a2), some (.inl (y4 + (1 : Int32))), some (.inl y5), some (.inl y6), some (.inl (0 : Int32))]) (Nat.le_of_ble_eq_true rfl) rfl rfl ?_
            refine ei_inc hb dX6_overRiders_106 (v := (y6 + 1)) (pc' := 109) (ls' := [some (.inr (some ((6, 0, 0) : qz_N))), some (.inl a0), some (.inl a1), some (.inl a2), some (.inl (y4 + (1 : Int32))), some (.inl y5), some (.inl (y6 + 1)), some (.inl (0 : Int32))]) rfl rfl rfl rfl ?_
            refine ei_go hb dX6_overRiders_109 (pc' := 9) (by decide) ?_
            exact ih (y4 + (1 : Int32)) y5 (y6 + 1) _ h _
set_option maxHeartbeats 4000000 in
theorem vM_overRiders (F : Nat) (f : qz_F) (p : Nat → Nat) (a0 : Int32) (a1 : Int32) (a2 : Int32) (r : Int32) (h : (gM_overRiders F f a0 a1 a2) = some r) : qz_E 134 0 (qz_in0 134 [.inr (some ((6, 0, 0) : qz_N)), .inl a0, .inl a1, .inl a2]) [] (qz_mk f p) (some (.inl r)) (qz_mk f p) := by
  have hb : qz_b 134 = cX6_overRiders := rfl
  have hcn : qz_cn 134 = 6 := rfl
  show qz_E 134 0 [some (.inr (some ((6, 0, 0) : qz_N))), some (.inl a0), some (.inl a1), some (.inl a2), none, none, none, none] [] _ _ _
  rw [gM_overRiders] at h
  refine ei_c hb dX6_overRiders_0 (v := (0 : Int32)) (pc' := 1) (by decide) rfl ?_
  refine ei_is hb dX6_overRiders_1 (pc' := 3) (ls' := [some (.inr (some ((6, 0, 0) : qz_N))), some (.inl a0), some (.inl a1), some (.inl a2), some (.inl (0 : Int32)), none, none, none]) (Nat.le_of_ble_eq_true rfl) rfl rfl ?_
  refine ei_c hb dX6_overRiders_3 (v := (0 : Int32)) (pc' := 4) (by decide) rfl ?_
  refine ei_is hb dX6_overRiders_4 (pc' := 6) (ls' := [some (.inr (some ((6, 0, 0) : qz_N))), some (.inl a0), some (.inl a1), some (.inl a2), some (.inl (0 : Int32)), some (.inl (0 : Int32)), none, none]) (Nat.le_of_ble_eq_true rfl) rfl rfl ?_
  refine ei_c hb dX6_overRiders_6 (v := (0 : Int32)) (pc' := 7) (by decide) rfl ?_
  refine ei_is hb dX6_overRiders_7 (pc' := 9) (ls' := [some (.inr (some ((6, 0, 0) : qz_N))), some (.inl a0), some (.inl a1), some (.inl a2), some (.inl (0 : Int32)), some (.inl (0 : Int32)), some (.inl (0 : Int32)), none]) (Nat.le_of_ble_eq_true rfl) rfl rfl ?_
  refine vM_overRiders_L9 F f p a0 a1 a2 _ ?_ F (0 : Int32) (0 : Int32) (0 : Int32) _ h _
  intro y420 y521 y622 r h d23
  refine ei_iln hb dX6_overRiders_112 (pc' := 113) rfl rfl ?_
  refine ei_c hb dX6_overRiders_113 (v := (4 : Int32)) (pc' := 114) (by decide) rfl ?_
  by_cases c24 : a2 = (4 : Int32)
  · rw [if_pos c24] at h
    refine ei_icF hb dX6_overRiders_114 (pc' := 117) (t := 122) (decide_eq_false (fun q => q c24)) (by decide) rfl ?_
    refine ei_il hb dX6_overRiders_117 (pc' := 119) rfl rfl ?_
    refine ei_go hb dX6_overRiders_119 (pc' := 124) (by decide) ?_
    have h := Option.some.inj h
    subst h
    exact ei_reti hb dX6_overRiders_124 rfl
  · rw [if_neg c24] at h
    refine ei_icT hb dX6_overRiders_114 (pc' := 122) (decide_eq_true c24) (by decide) ?_
    refine ei_il hb dX6_overRiders_122 (pc' := 124) rfl rfl ?_
    have h := Option.some.inj h
    subst h
    exact ei_reti hb dX6_overRiders_124 rfl
def gM_bus (F : Nat) (S : qz_S) (a0 : Int32) (a1 : Int32) (a2 : Int32) : Option (Int32 × qz_S) :=
  qz_let (qz_wr S ((6, 0, 0) : qz_N) 0 (0 : Int32)) fun S1 => if (gM_isLine S1.1 a0) = 0 then (some ((-1 : Int32), S1)) else (Option.bind (gM_isEnd F S1.1 a1) fun x3 => if x3 = 0 then (some ((-1 : Int32), S1)) else (if a2 = 0 then (Option.bind (gM_startOf F S1.1 a0 a1) fun x7 => some (x7, S1)) else (if a2 = 1 then (Option.bind (gM_partner F S1.1 a0 a1) fun x10 => some (x10, S1)) else (if a2 = 2 then (Option.bind (gM_overRiders F S1.1 a0 a1 a2) fun x13 => some (x13, S1)) else (if a2 = 3 then (Option.bind (gM_overRiders F S1.1 a0 a1 a2) fun x16 => some (x16, S1)) else (if a2 = 4 then (Option.bind (gM_overRiders F S1.1 a0 a1 a2) fun x19 => some (x19, S1)) else (if a2 = 5 then (Option.bind (gM_costOf F S1 a0 a1) fun R22 => some (R22.1, R22.2)) else (some ((-2 : Int32), S1)))))))))
set_option maxHeartbeats 4000000 in
theorem vM_bus (F : Nat) (S : qz_S) (a0 : Int32) (a1 : Int32) (a2 : Int32) (r : Int32 × qz_S) (h : (gM_bus F S a0 a1 a2) = some r) : qz_E 135 0 (qz_in0 135 [.inr (some ((6, 0, 0) : qz_N)), .inl a0, .inl a1, .inl a2]) [] (qz_mk S.1 S.2) (some (.inl r.1)) (qz_mk r.2.1 r.2.2) := by
  have hb : qz_b 135 = cX6_bus := rfl
  have hcn : qz_cn 135 = 6 := rfl
  show qz_E 135 0 [some (.inr (some ((6, 0, 0) : qz_N))), some (.inl a0), some (.inl a1), some (.inl a2)] [] _ _ _
  rw [gM_bus] at h
  refine ei_aln hb dX6_bus_0 (pc' := 1) rfl rfl ?_
  refine ei_c hb dX6_bus_1 (v := (0 : Int32)) (pc' := 2) (by decide) rfl ?_
  obtain ⟨S1, eS1⟩ : ∃ q, q = qz_wr S ((6, 0, 0) : qz_N) 0 (0 : Int32) := ⟨_, rfl⟩
  rw [qz_let, ← eS1] at h
  refine ei_pi hb dX6_bus_2 (pc' := 5) (M1 := (qz_mk S1.1 S1.2)) hcn qz_f_6_32 rfl rfl (fun q => by cases q) rfl (by rw [eS1]; rfl) rfl ?_
  refine ei_iln hb dX6_bus_5 (pc' := 6) rfl rfl ?_
  refine ei_cs hb dX6_bus_6 (pc' := 9) (M1 := (qz_mk S1.1 S1.2)) (as := [.inl a0]) (rest := []) (st' := [.inl (gM_isLine S1.1 a0)]) hcn qz_c_6_112 rfl qz_k_88 (qz_q_135_88) (Nat.le_of_ble_eq_true rfl) (Nat.le_of_ble_eq_true rfl) rfl rfl (vM_isLine S1.1 S1.2 a0) rfl rfl ?_
  by_cases c2 : (gM_isLine S1.1 a0) = 0
  · rw [if_pos c2] at h
    refine ei_ifT hb dX6_bus_9 (pc' := 20) (decide_eq_true c2) (by decide) ?_
    refine ei_c hb dX6_bus_20 (v := (-1 : Int32)) (pc' := 21) (by decide) rfl ?_
    have h := Option.some.inj h
    subst h
    exact ei_reti hb dX6_bus_21 rfl
  · rw [if_neg c2] at h
    refine ei_ifF hb dX6_bus_9 (pc' := 12) (t := 20) (decide_eq_false c2) (by decide) rfl ?_
    refine ei_aln hb dX6_bus_12 (pc' := 13) rfl rfl ?_
    refine ei_iln hb dX6_bus_13 (pc' := 14) rfl rfl ?_
    obtain ⟨x3, e4, h⟩ := Option.bind_eq_some_iff.mp h
    refine ei_cv hb dX6_bus_14 (pc' := 17) (M1 := (qz_mk S1.1 S1.2)) (as := [.inl a1]) (rest := []) (st' := [.inl x3]) hcn qz_c_6_60 qz_k_87 (qz_q_135_87) (Nat.le_of_ble_eq_true rfl) (Nat.le_of_ble_eq_true rfl) rfl rfl rfl (vM_isEnd F S1.1 S1.2 a1 _ e4) rfl rfl ?_
    by_cases c5 : x3 = 0
    · rw [if_pos c5] at h
      refine ei_ifF hb dX6_bus_17 (pc' := 20) (t := 22) (decide_eq_false (fun q => q c5)) (by decide) rfl ?_
      refine ei_c hb dX6_bus_20 (v := (-1 : Int32)) (pc' := 21) (by decide) rfl ?_
      have h := Option.some.inj h
      subst h
      exact ei_reti hb dX6_bus_21 rfl
    · rw [if_neg c5] at h
      refine ei_ifT hb dX6_bus_17 (pc' := 22) (decide_eq_true c5) (by decide) ?_
      refine ei_iln hb dX6_bus_22 (pc' := 23) rfl rfl ?_
      by_cases c6 : a2 = 0
      · rw [if_pos c6] at h
        refine ei_tbI hb dX6_bus_23 (pc' := 60) (off := 37) (by rw [c6]; decide) (by rw [c6]; rfl) (by decide) ?_
        refine ei_aln hb dX6_bus_60 (pc' := 61) rfl rfl ?_
        refine ei_iln hb dX6_bus_61 (pc' := 62) rfl rfl ?_
        refine ei_iln hb dX6_bus_62 (pc' := 63) rfl rfl ?_
        obtain ⟨x7, e8, h⟩ := Option.bind_eq_some_iff.mp h
        refine ei_cv hb dX6_bus_63 (pc' := 66) (M1 := (qz_mk S1.1 S1.2)) (as := [.inl a0, .inl a1]) (rest := []) (st' := [.inl x7]) hcn qz_c_6_68 qz_k_95 (qz_q_135_95) (Nat.le_of_ble_eq_true rfl) (Nat.le_of_ble_eq_true rfl) rfl rfl rfl (vM_startOf F S1.1 S1.2 a0 a1 _ e8) rfl rfl ?_
        have h := Option.some.inj h
        subst h
        exact ei_reti hb dX6_bus_66 rfl
      · rw [if_neg c6] at h
        by_cases c9 : a2 = 1
        · rw [if_pos c9] at h
          refine ei_tbI hb dX6_bus_23 (pc' := 67) (off := 44) (by rw [c9]; decide) (by rw [c9]; rfl) (by decide) ?_
          refine ei_aln hb dX6_bus_67 (pc' := 68) rfl rfl ?_
          refine ei_iln hb dX6_bus_68 (pc' := 69) rfl rfl ?_
          refine ei_iln hb dX6_bus_69 (pc' := 70) rfl rfl ?_
          obtain ⟨x10, e11, h⟩ := Option.bind_eq_some_iff.mp h
          refine ei_cv hb dX6_bus_70 (pc' := 73) (M1 := (qz_mk S1.1 S1.2)) (as := [.inl a0, .inl a1]) (rest := []) (st' := [.inl x10]) hcn qz_c_6_47 qz_k_91 (qz_q_135_91) (Nat.le_of_ble_eq_true rfl) (Nat.le_of_ble_eq_true rfl) rfl rfl rfl (vM_partner F S1.1 S1.2 a0 a1 _ e11) rfl rfl ?_
          have h := Option.some.inj h
          subst h
          exact ei_reti hb dX6_bus_73 rfl
        · rw [if_neg c9] at h
          by_cases c12 : a2 = 2
          · rw [if_pos c12] at h
            refine ei_tbI hb dX6_bus_23 (pc' := 74) (off := 51) (by rw [c12]; decide) (by rw [c12]; rfl) (by decide) ?_
            refine ei_aln hb dX6_bus_74 (pc' := 75) rfl rfl ?_
            refine ei_iln hb dX6_bus_75 (pc' := 76) rfl rfl ?_
            refine ei_iln hb dX6_bus_76 (pc' := 77) rfl rfl ?_
            refine ei_iln hb dX6_bus_77 (pc' := 78) rfl rfl ?_
            obtain ⟨x13, e14, h⟩ := Option.bind_eq_some_iff.mp h
            refine ei_cv hb dX6_bus_78 (pc' := 81) (M1 := (qz_mk S1.1 S1.2)) (as := [.inl a0, .inl a1, .inl a2]) (rest := []) (st' := [.inl x13]) hcn qz_c_6_175 qz_k_134 (qz_q_135_134) (Nat.le_of_ble_eq_true rfl) (Nat.le_of_ble_eq_true rfl) rfl rfl rfl (vM_overRiders F S1.1 S1.2 a0 a1 a2 _ e14) rfl rfl ?_
            have h := Option.some.inj h
            subst h
            exact ei_reti hb dX6_bus_81 rfl
          · rw [if_neg c12] at h
            by_cases c15 : a2 = 3
            · rw [if_pos c15] at h
              refine ei_tbI hb dX6_bus_23 (pc' := 74) (off := 51) (by rw [c15]; decide) (by rw [c15]; rfl) (by decide) ?_
              refine ei_aln hb dX6_bus_74 (pc' := 75) rfl rfl ?_
              refine ei_iln hb dX6_bus_75 (pc' := 76) rfl rfl ?_
              refine ei_iln hb dX6_bus_76 (pc' := 77) rfl rfl ?_
              refine ei_iln hb dX6_bus_77 (pc' := 78) rfl rfl ?_
              obtain ⟨x16, e17, h⟩ := Option.bind_eq_some_iff.mp h
              refine ei_cv hb dX6_bus_78 (pc' := 81) (M1 := (qz_mk S1.1 S1.2)) (as := [.inl a0, .inl a1, .inl a2]) (rest := []) (st' := [.inl x16]) hcn qz_c_6_175 qz_k_134 (qz_q_135_134) (Nat.le_of_ble_eq_true rfl) (Nat.le_of_ble_eq_true rfl) rfl rfl rfl (vM_overRiders F S1.1 S1.2 a0 a1 a2 _ e17) rfl rfl ?_
              have h := Option.some.inj h
              subst h
              exact ei_reti hb dX6_bus_81 rfl
            · rw [if_neg c15] at h
              by_cases c18 : a2 = 4
              · rw [if_pos c18] at h
                refine ei_tbI hb dX6_bus_23 (pc' := 74) (off := 51) (by rw [c18]; decide) (by rw [c18]; rfl) (by decide) ?_
                refine ei_aln hb dX6_bus_74 (pc' := 75) rfl rfl ?_
                refine ei_iln hb dX6_bus_75 (pc' := 76) rfl rfl ?_
                refine ei_iln hb dX6_bus_76 (pc' := 77) rfl rfl ?_
                refine ei_iln hb dX6_bus_77 (pc' := 78) rfl rfl ?_
                obtain ⟨x19, e20, h⟩ := Option.bind_eq_some_iff.mp h
                refine ei_cv hb dX6_bus_78 (pc' := 81) (M1 := (qz_mk S1.1 S1.2)) (as := [.inl a0, .inl a1, .inl a2]) (rest := []) (st' := [.inl x19]) hcn qz_c_6_175 qz_k_134 (qz_q_135_134) (Nat.le_of_ble_eq_true rfl) (Nat.le_of_ble_eq_true rfl) rfl rfl rfl (vM_overRiders F S1.1 S1.2 a0 a1 a2 _ e20) rfl rfl ?_
                have h := Option.some.inj h
                subst h
                exact ei_reti hb dX6_bus_81 rfl
              · rw [if_neg c18] at h
                by_cases c21 : a2 = 5
                · rw [if_pos c21] at h
                  refine ei_tbI hb dX6_bus_23 (pc' := 82) (off := 59) (by rw [c21]; decide) (by rw [c21]; rfl) (by decide) ?_
                  refine ei_aln hb dX6_bus_82 (pc' := 83) rfl rfl ?_
                  refine ei_iln hb dX6_bus_83 (pc' := 84) rfl rfl ?_
                  refine ei_iln hb dX6_bus_84 (pc' := 85) rfl rfl ?_
                  obtain ⟨R22, e23, h⟩ := Option.bind_eq_some_iff.mp h
                  refine ei_cv hb dX6_bus_85 (pc' := 88) (M1 := (qz_mk R22.2.1 R22.2.2)) (as := [.inl a0, .inl a1]) (rest := []) (st' := [.inl R22.1]) hcn qz_c_6_106 qz_k_109 (qz_q_135_109) (Nat.le_of_ble_eq_true rfl) (Nat.le_of_ble_eq_true rfl) rfl rfl rfl (vM_costOf F S1 a0 a1 _ e23) rfl rfl ?_
                  have h := Option.some.inj h
                  subst h
                  exact ei_reti hb dX6_bus_88 rfl
                · rw [if_neg c21] at h
                  have tc6 := lv_neT c6 (show (0 : Int32).toInt = 0 by decide)
                  have tc9 := lv_neT c9 (show (1 : Int32).toInt = 1 by decide)
                  have tc12 := lv_neT c12 (show (2 : Int32).toInt = 2 by decide)
                  have tc15 := lv_neT c15 (show (3 : Int32).toInt = 3 by decide)
                  have tc18 := lv_neT c18 (show (4 : Int32).toInt = 4 by decide)
                  have tc21 := lv_neT c21 (show (5 : Int32).toInt = 5 by decide)
                  refine ei_tbO hb dX6_bus_23 (pc' := 89) (by omega) (by decide) ?_
                  refine ei_b hb dX6_bus_89 (v := (-2 : Int32)) (pc' := 91) (by decide) rfl ?_
                  have h := Option.some.inj h
                  subst h
                  exact ei_reti hb dX6_bus_91 rfl
def gM_taken (F : Nat) (S : qz_S) (a0 : Int32) (a1 : Int32) (a2 : Int32) : Option (Int32 × qz_S) :=
  qz_let (qz_wr S ((6, 0, 0) : qz_N) 0 (0 : Int32)) fun S1 => if (gM_isLine S1.1 a0) = 0 then (some ((-1 : Int32), S1)) else (Option.bind (gM_isEnd F S1.1 a1) fun x3 => if x3 = 0 then (some ((-1 : Int32), S1)) else (if (gM_isStop S1.1 a2) = 0 then (some ((-1 : Int32), S1)) else (Option.bind (gM_takenBut F S1.1 a0 a1 a2 (-5 : Int32)) fun x7 => some (x7, S1))))
set_option maxHeartbeats 4000000 in
theorem vM_taken (F : Nat) (S : qz_S) (a0 : Int32) (a1 : Int32) (a2 : Int32) (r : Int32 × qz_S) (h : (gM_taken F S a0 a1 a2) = some r) : qz_E 136 0 (qz_in0 136 [.inr (some ((6, 0, 0) : qz_N)), .inl a0, .inl a1, .inl a2]) [] (qz_mk S.1 S.2) (some (.inl r.1)) (qz_mk r.2.1 r.2.2) := by
  have hb : qz_b 136 = cX6_taken := rfl
  have hcn : qz_cn 136 = 6 := rfl
  show qz_E 136 0 [some (.inr (some ((6, 0, 0) : qz_N))), some (.inl a0), some (.inl a1), some (.inl a2)] [] _ _ _
  rw [gM_taken] at h
  refine ei_aln hb dX6_taken_0 (pc' := 1) rfl rfl ?_
  refine ei_c hb dX6_taken_1 (v := (0 : Int32)) (pc' := 2) (by decide) rfl ?_
  obtain ⟨S1, eS1⟩ : ∃ q, q = qz_wr S ((6, 0, 0) : qz_N) 0 (0 : Int32) := ⟨_, rfl⟩
  rw [qz_let, ← eS1] at h
  refine ei_pi hb dX6_taken_2 (pc' := 5) (M1 := (qz_mk S1.1 S1.2)) hcn qz_f_6_32 rfl rfl (fun q => by cases q) rfl (by rw [eS1]; rfl) rfl ?_
  refine ei_iln hb dX6_taken_5 (pc' := 6) rfl rfl ?_
  refine ei_cs hb dX6_taken_6 (pc' := 9) (M1 := (qz_mk S1.1 S1.2)) (as := [.inl a0]) (rest := []) (st' := [.inl (gM_isLine S1.1 a0)]) hcn qz_c_6_112 rfl qz_k_88 (qz_q_136_88) (Nat.le_of_ble_eq_true rfl) (Nat.le_of_ble_eq_true rfl) rfl rfl (vM_isLine S1.1 S1.2 a0) rfl rfl ?_
  by_cases c2 : (gM_isLine S1.1 a0) = 0
  · rw [if_pos c2] at h
    refine ei_ifT hb dX6_taken_9 (pc' := 39) (decide_eq_true c2) (by decide) ?_
    refine ei_c hb dX6_taken_39 (v := (-1 : Int32)) (pc' := 40) (by decide) rfl ?_
    have h := Option.some.inj h
    subst h
    exact ei_reti hb dX6_taken_40 rfl
  · rw [if_neg c2] at h
    refine ei_ifF hb dX6_taken_9 (pc' := 12) (t := 39) (decide_eq_false c2) (by decide) rfl ?_
    refine ei_aln hb dX6_taken_12 (pc' := 13) rfl rfl ?_
    refine ei_iln hb dX6_taken_13 (pc' := 14) rfl rfl ?_
    obtain ⟨x3, e4, h⟩ := Option.bind_eq_some_iff.mp h
    refine ei_cv hb dX6_taken_14 (pc' := 17) (M1 := (qz_mk S1.1 S1.2)) (as := [.inl a1]) (rest := []) (st' := [.inl x3]) hcn qz_c_6_60 qz_k_87 (qz_q_136_87) (Nat.le_of_ble_eq_true rfl) (Nat.le_of_ble_eq_true rfl) rfl rfl rfl (vM_isEnd F S1.1 S1.2 a1 _ e4) rfl rfl ?_
    by_cases c5 : x3 = 0
    · rw [if_pos c5] at h
      refine ei_ifT hb dX6_taken_17 (pc' := 39) (decide_eq_true c5) (by decide) ?_
      refine ei_c hb dX6_taken_39 (v := (-1 : Int32)) (pc' := 40) (by decide) rfl ?_
      have h := Option.some.inj h
      subst h
      exact ei_reti hb dX6_taken_40 rfl
    · rw [if_neg c5] at h
      refine ei_ifF hb dX6_taken_17 (pc' := 20) (t := 39) (decide_eq_false c5) (by decide) rfl ?_
      refine ei_iln hb dX6_taken_20 (pc' := 21) rfl rfl ?_
      refine ei_cs hb dX6_taken_21 (pc' := 24) (M1 := (qz_mk S1.1 S1.2)) (as := [.inl a2]) (rest := []) (st' := [.inl (gM_isStop S1.1 a2)]) hcn qz_c_6_115 rfl qz_k_89 (qz_q_136_89) (Nat.le_of_ble_eq_true rfl) (Nat.le_of_ble_eq_true rfl) rfl rfl (vM_isStop S1.1 S1.2 a2) rfl rfl ?_
      by_cases c6 : (gM_isStop S1.1 a2) = 0
      · rw [if_pos c6] at h
        refine ei_ifT hb dX6_taken_24 (pc' := 39) (decide_eq_true c6) (by decide) ?_
        refine ei_c hb dX6_taken_39 (v := (-1 : Int32)) (pc' := 40) (by decide) rfl ?_
        have h := Option.some.inj h
        subst h
        exact ei_reti hb dX6_taken_40 rfl
      · rw [if_neg c6] at h
        refine ei_ifF hb dX6_taken_24 (pc' := 27) (t := 39) (decide_eq_false c6) (by decide) rfl ?_
        refine ei_aln hb dX6_taken_27 (pc' := 28) rfl rfl ?_
        refine ei_iln hb dX6_taken_28 (pc' := 29) rfl rfl ?_
        refine ei_iln hb dX6_taken_29 (pc' := 30) rfl rfl ?_
        refine ei_iln hb dX6_taken_30 (pc' := 31) rfl rfl ?_
        refine ei_b hb dX6_taken_31 (v := (-5 : Int32)) (pc' := 33) (by decide) rfl ?_
        obtain ⟨x7, e8, h⟩ := Option.bind_eq_some_iff.mp h
        refine ei_cv hb dX6_taken_33 (pc' := 36) (M1 := (qz_mk S1.1 S1.2)) (as := [.inl a0, .inl a1, .inl a2, .inl (-5 : Int32)]) (rest := []) (st' := [.inl x7]) hcn qz_c_6_64 qz_k_97 (qz_q_136_97) (Nat.le_of_ble_eq_true rfl) (Nat.le_of_ble_eq_true rfl) rfl rfl rfl (vM_takenBut F S1.1 S1.2 a0 a1 a2 (-5 : Int32) _ e8) rfl rfl ?_
        refine ei_go hb dX6_taken_36 (pc' := 40) (by decide) ?_
        have h := Option.some.inj h
        subst h
        exact ei_reti hb dX6_taken_40 rfl
def gM_why (F : Nat) (S : qz_S) (a0 : Int32) (a1 : Int32) (a2 : Int32) : Option (Int32 × qz_S) :=
  qz_let (qz_wr S ((6, 0, 0) : qz_N) 0 (0 : Int32)) fun S1 => if (gM_isLine S1.1 a0) = 0 then (some ((-1 : Int32), S1)) else (if (gM_isStop S1.1 a2) = 0 then (some ((-1 : Int32), S1)) else (Option.bind (gM_reasonBut F S1.1 a0 a1 a2 (-5 : Int32)) fun x4 => some (x4, S1)))
set_option maxHeartbeats 4000000 in
theorem vM_why (F : Nat) (S : qz_S) (a0 : Int32) (a1 : Int32) (a2 : Int32) (r : Int32 × qz_S) (h : (gM_why F S a0 a1 a2) = some r) : qz_E 137 0 (qz_in0 137 [.inr (some ((6, 0, 0) : qz_N)), .inl a0, .inl a1, .inl a2]) [] (qz_mk S.1 S.2) (some (.inl r.1)) (qz_mk r.2.1 r.2.2) := by
  have hb : qz_b 137 = cX6_why := rfl
  have hcn : qz_cn 137 = 6 := rfl
  show qz_E 137 0 [some (.inr (some ((6, 0, 0) : qz_N))), some (.inl a0), some (.inl a1), some (.inl a2)] [] _ _ _
  rw [gM_why] at h
  refine ei_aln hb dX6_why_0 (pc' := 1) rfl rfl ?_
  refine ei_c hb dX6_why_1 (v := (0 : Int32)) (pc' := 2) (by decide) rfl ?_
  obtain ⟨S1, eS1⟩ : ∃ q, q = qz_wr S ((6, 0, 0) : qz_N) 0 (0 : Int32) := ⟨_, rfl⟩
  rw [qz_let, ← eS1] at h
  refine ei_pi hb dX6_why_2 (pc' := 5) (M1 := (qz_mk S1.1 S1.2)) hcn qz_f_6_32 rfl rfl (fun q => by cases q) rfl (by rw [eS1]; rfl) rfl ?_
  refine ei_iln hb dX6_why_5 (pc' := 6) rfl rfl ?_
  refine ei_cs hb dX6_why_6 (pc' := 9) (M1 := (qz_mk S1.1 S1.2)) (as := [.inl a0]) (rest := []) (st' := [.inl (gM_isLine S1.1 a0)]) hcn qz_c_6_112 rfl qz_k_88 (qz_q_137_88) (Nat.le_of_ble_eq_true rfl) (Nat.le_of_ble_eq_true rfl) rfl rfl (vM_isLine S1.1 S1.2 a0) rfl rfl ?_
  by_cases c2 : (gM_isLine S1.1 a0) = 0
  · rw [if_pos c2] at h
    refine ei_ifT hb dX6_why_9 (pc' := 31) (decide_eq_true c2) (by decide) ?_
    refine ei_c hb dX6_why_31 (v := (-1 : Int32)) (pc' := 32) (by decide) rfl ?_
    have h := Option.some.inj h
    subst h
    exact ei_reti hb dX6_why_32 rfl
  · rw [if_neg c2] at h
    refine ei_ifF hb dX6_why_9 (pc' := 12) (t := 31) (decide_eq_false c2) (by decide) rfl ?_
    refine ei_iln hb dX6_why_12 (pc' := 13) rfl rfl ?_
    refine ei_cs hb dX6_why_13 (pc' := 16) (M1 := (qz_mk S1.1 S1.2)) (as := [.inl a2]) (rest := []) (st' := [.inl (gM_isStop S1.1 a2)]) hcn qz_c_6_115 rfl qz_k_89 (qz_q_137_89) (Nat.le_of_ble_eq_true rfl) (Nat.le_of_ble_eq_true rfl) rfl rfl (vM_isStop S1.1 S1.2 a2) rfl rfl ?_
    by_cases c3 : (gM_isStop S1.1 a2) = 0
    · rw [if_pos c3] at h
      refine ei_ifT hb dX6_why_16 (pc' := 31) (decide_eq_true c3) (by decide) ?_
      refine ei_c hb dX6_why_31 (v := (-1 : Int32)) (pc' := 32) (by decide) rfl ?_
      have h := Option.some.inj h
      subst h
      exact ei_reti hb dX6_why_32 rfl
    · rw [if_neg c3] at h
      refine ei_ifF hb dX6_why_16 (pc' := 19) (t := 31) (decide_eq_false c3) (by decide) rfl ?_
      refine ei_aln hb dX6_why_19 (pc' := 20) rfl rfl ?_
      refine ei_iln hb dX6_why_20 (pc' := 21) rfl rfl ?_
      refine ei_iln hb dX6_why_21 (pc' := 22) rfl rfl ?_
      refine ei_iln hb dX6_why_22 (pc' := 23) rfl rfl ?_
      refine ei_b hb dX6_why_23 (v := (-5 : Int32)) (pc' := 25) (by decide) rfl ?_
      obtain ⟨x4, e5, h⟩ := Option.bind_eq_some_iff.mp h
      refine ei_cv hb dX6_why_25 (pc' := 28) (M1 := (qz_mk S1.1 S1.2)) (as := [.inl a0, .inl a1, .inl a2, .inl (-5 : Int32)]) (rest := []) (st' := [.inl x4]) hcn qz_c_6_79 qz_k_99 (qz_q_137_99) (Nat.le_of_ble_eq_true rfl) (Nat.le_of_ble_eq_true rfl) rfl rfl rfl (vM_reasonBut F S1.1 S1.2 a0 a1 a2 (-5 : Int32) _ e5) rfl rfl ?_
      refine ei_go hb dX6_why_28 (pc' := 32) (by decide) ?_
      have h := Option.some.inj h
      subst h
      exact ei_reti hb dX6_why_32 rfl
def gM_spares (F : Nat) (S : qz_S) (a0 : Int32) (a1 : Int32) (a2 : Int32) : Option (Int32 × qz_S) :=
  qz_let (qz_wr S ((6, 0, 0) : qz_N) 0 (0 : Int32)) fun S1 => if (gM_isLine S1.1 a0) = 0 then (some ((-1 : Int32), S1)) else (Option.bind (gM_isEnd F S1.1 a1) fun x3 => if x3 = 0 then (some ((-1 : Int32), S1)) else (Option.bind (gM_isEnd F S1.1 a2) fun x6 => if x6 = 0 then (some ((-1 : Int32), S1)) else (if a1 = a2 then (some ((-2 : Int32), S1)) else (Option.bind (gM_canMerge F S1.1 a0 a1 a2) fun x10 => if x10 = 0 then (some ((-4 : Int32), S1)) else (Option.bind (gM_costOf F S1 a0 a1) fun R13 => Option.bind (gM_costOf F R13.2 a0 a2) fun R15 => Option.bind (gM_minute F R15.2.1 a1) fun x17 => Option.bind (gM_minute F R15.2.1 a2) fun x19 => Option.bind (gM_laysRides F R15.2 a0 a1 a2 (gM_later R15.2.1 x17 x19)) fun R21 => some (((R13.1 + R15.1) - (gM_cost R21.1)), R21))))))
set_option maxHeartbeats 4000000 in
theorem vM_spares (F : Nat) (S : qz_S) (a0 : Int32) (a1 : Int32) (a2 : Int32) (r : Int32 × qz_S) (h : (gM_spares F S a0 a1 a2) = some r) : qz_E 138 0 (qz_in0 138 [.inr (some ((6, 0, 0) : qz_N)), .inl a0, .inl a1, .inl a2]) [] (qz_mk S.1 S.2) (some (.inl r.1)) (qz_mk r.2.1 r.2.2) := by
  have hb : qz_b 138 = cX6_spares := rfl
  have hcn : qz_cn 138 = 6 := rfl
  show qz_E 138 0 [some (.inr (some ((6, 0, 0) : qz_N))), some (.inl a0), some (.inl a1), some (.inl a2), none] [] _ _ _
  rw [gM_spares] at h
  refine ei_aln hb dX6_spares_0 (pc' := 1) rfl rfl ?_
  refine ei_c hb dX6_spares_1 (v := (0 : Int32)) (pc' := 2) (by decide) rfl ?_
  obtain ⟨S1, eS1⟩ : ∃ q, q = qz_wr S ((6, 0, 0) : qz_N) 0 (0 : Int32) := ⟨_, rfl⟩
  rw [qz_let, ← eS1] at h
  refine ei_pi hb dX6_spares_2 (pc' := 5) (M1 := (qz_mk S1.1 S1.2)) hcn qz_f_6_32 rfl rfl (fun q => by cases q) rfl (by rw [eS1]; rfl) rfl ?_
  refine ei_iln hb dX6_spares_5 (pc' := 6) rfl rfl ?_
  refine ei_cs hb dX6_spares_6 (pc' := 9) (M1 := (qz_mk S1.1 S1.2)) (as := [.inl a0]) (rest := []) (st' := [.inl (gM_isLine S1.1 a0)]) hcn qz_c_6_112 rfl qz_k_88 (qz_q_138_88) (Nat.le_of_ble_eq_true rfl) (Nat.le_of_ble_eq_true rfl) rfl rfl (vM_isLine S1.1 S1.2 a0) rfl rfl ?_
  by_cases c2 : (gM_isLine S1.1 a0) = 0
  · rw [if_pos c2] at h
    refine ei_ifT hb dX6_spares_9 (pc' := 28) (decide_eq_true c2) (by decide) ?_
    refine ei_c hb dX6_spares_28 (v := (-1 : Int32)) (pc' := 29) (by decide) rfl ?_
    have h := Option.some.inj h
    subst h
    exact ei_reti hb dX6_spares_29 rfl
  · rw [if_neg c2] at h
    refine ei_ifF hb dX6_spares_9 (pc' := 12) (t := 28) (decide_eq_false c2) (by decide) rfl ?_
    refine ei_aln hb dX6_spares_12 (pc' := 13) rfl rfl ?_
    refine ei_iln hb dX6_spares_13 (pc' := 14) rfl rfl ?_
    obtain ⟨x3, e4, h⟩ := Option.bind_eq_some_iff.mp h
    refine ei_cv hb dX6_spares_14 (pc' := 17) (M1 := (qz_mk S1.1 S1.2)) (as := [.inl a1]) (rest := []) (st' := [.inl x3]) hcn qz_c_6_60 qz_k_87 (qz_q_138_87) (Nat.le_of_ble_eq_true rfl) (Nat.le_of_ble_eq_true rfl) rfl rfl rfl (vM_isEnd F S1.1 S1.2 a1 _ e4) rfl rfl ?_
    by_cases c5 : x3 = 0
    · rw [if_pos c5] at h
      refine ei_ifT hb dX6_spares_17 (pc' := 28) (decide_eq_true c5) (by decide) ?_
      refine ei_c hb dX6_spares_28 (v := (-1 : Int32)) (pc' := 29) (by decide) rfl ?_
      have h := Option.some.inj h
      subst h
      exact ei_reti hb dX6_spares_29 rfl
    · rw [if_neg c5] at h
      refine ei_ifF hb dX6_spares_17 (pc' := 20) (t := 28) (decide_eq_false c5) (by decide) rfl ?_
      refine ei_aln hb dX6_spares_20 (pc' := 21) rfl rfl ?_
      refine ei_iln hb dX6_spares_21 (pc' := 22) rfl rfl ?_
      obtain ⟨x6, e7, h⟩ := Option.bind_eq_some_iff.mp h
      refine ei_cv hb dX6_spares_22 (pc' := 25) (M1 := (qz_mk S1.1 S1.2)) (as := [.inl a2]) (rest := []) (st' := [.inl x6]) hcn qz_c_6_60 qz_k_87 (qz_q_138_87) (Nat.le_of_ble_eq_true rfl) (Nat.le_of_ble_eq_true rfl) rfl rfl rfl (vM_isEnd F S1.1 S1.2 a2 _ e7) rfl rfl ?_
      by_cases c8 : x6 = 0
      · rw [if_pos c8] at h
        refine ei_ifF hb dX6_spares_25 (pc' := 28) (t := 30) (decide_eq_false (fun q => q c8)) (by decide) rfl ?_
        refine ei_c hb dX6_spares_28 (v := (-1 : Int32)) (pc' := 29) (by decide) rfl ?_
        have h := Option.some.inj h
        subst h
        exact ei_reti hb dX6_spares_29 rfl
      · rw [if_neg c8] at h
        refine ei_ifT hb dX6_spares_25 (pc' := 30) (decide_eq_true c8) (by decide) ?_
        refine ei_iln hb dX6_spares_30 (pc' := 31) rfl rfl ?_
        refine ei_iln hb dX6_spares_31 (pc' := 32) rfl rfl ?_
        by_cases c9 : a1 = a2
        · rw [if_pos c9] at h
          refine ei_icF hb dX6_spares_32 (pc' := 35) (t := 38) (decide_eq_false (fun q => q c9)) (by decide) rfl ?_
          refine ei_b hb dX6_spares_35 (v := (-2 : Int32)) (pc' := 37) (by decide) rfl ?_
          have h := Option.some.inj h
          subst h
          exact ei_reti hb dX6_spares_37 rfl
        · rw [if_neg c9] at h
          refine ei_icT hb dX6_spares_32 (pc' := 38) (decide_eq_true c9) (by decide) ?_
          refine ei_aln hb dX6_spares_38 (pc' := 39) rfl rfl ?_
          refine ei_iln hb dX6_spares_39 (pc' := 40) rfl rfl ?_
          refine ei_iln hb dX6_spares_40 (pc' := 41) rfl rfl ?_
          refine ei_iln hb dX6_spares_41 (pc' := 42) rfl rfl ?_
          obtain ⟨x10, e11, h⟩ := Option.bind_eq_some_iff.mp h
          refine ei_cv hb dX6_spares_42 (pc' := 45) (M1 := (qz_mk S1.1 S1.2)) (as := [.inl a0, .inl a1, .inl a2]) (rest := []) (st' := [.inl x10]) hcn qz_c_6_136 qz_k_106 (qz_q_138_106) (Nat.le_of_ble_eq_true rfl) (Nat.le_of_ble_eq_true rfl) rfl rfl rfl (vM_canMerge F S1.1 S1.2 a0 a1 a2 _ e11) rfl rfl ?_
          by_cases c12 : x10 = 0
          · rw [if_pos c12] at h
            refine ei_ifF hb dX6_spares_45 (pc' := 48) (t := 51) (decide_eq_false (fun q => q c12)) (by decide) rfl ?_
            refine ei_b hb dX6_spares_48 (v := (-4 : Int32)) (pc' := 50) (by decide) rfl ?_
            have h := Option.some.inj h
            subst h
            exact ei_reti hb dX6_spares_50 rfl
          · rw [if_neg c12] at h
            refine ei_ifT hb dX6_spares_45 (pc' := 51) (decide_eq_true c12) (by decide) ?_
            refine ei_aln hb dX6_spares_51 (pc' := 52) rfl rfl ?_
            refine ei_iln hb dX6_spares_52 (pc' := 53) rfl rfl ?_
            refine ei_iln hb dX6_spares_53 (pc' := 54) rfl rfl ?_
            obtain ⟨R13, e14, h⟩ := Option.bind_eq_some_iff.mp h
            refine ei_cv hb dX6_spares_54 (pc' := 57) (M1 := (qz_mk R13.2.1 R13.2.2)) (as := [.inl a0, .inl a1]) (rest := []) (st' := [.inl R13.1]) hcn qz_c_6_106 qz_k_109 (qz_q_138_109) (Nat.le_of_ble_eq_true rfl) (Nat.le_of_ble_eq_true rfl) rfl rfl rfl (vM_costOf F S1 a0 a1 _ e14) rfl rfl ?_
            refine ei_aln hb dX6_spares_57 (pc' := 58) rfl rfl ?_
            refine ei_iln hb dX6_spares_58 (pc' := 59) rfl rfl ?_
            refine ei_iln hb dX6_spares_59 (pc' := 60) rfl rfl ?_
            obtain ⟨R15, e16, h⟩ := Option.bind_eq_some_iff.mp h
            refine ei_cv hb dX6_spares_60 (pc' := 63) (M1 := (qz_mk R15.2.1 R15.2.2)) (as := [.inl a0, .inl a2]) (rest := [.inl R13.1]) (st' := [.inl R15.1, .inl R13.1]) hcn qz_c_6_106 qz_k_109 (qz_q_138_109) (Nat.le_of_ble_eq_true rfl) (Nat.le_of_ble_eq_true rfl) rfl rfl rfl (vM_costOf F R13.2 a0 a2 _ e16) rfl rfl ?_
            refine ei_add hb dX6_spares_63 (pc' := 64) rfl ?_
            refine ei_is hb dX6_spares_64 (pc' := 66) (ls' := [some (.inr (some ((6, 0, 0) : qz_N))), some (.inl a0), some (.inl a1), some (.inl a2), some (.inl (R13.1 + R15.1))]) (Nat.le_of_ble_eq_true rfl) rfl rfl ?_
            refine ei_aln hb dX6_spares_66 (pc' := 67) rfl rfl ?_
            refine ei_iln hb dX6_spares_67 (pc' := 68) rfl rfl ?_
            refine ei_iln hb dX6_spares_68 (pc' := 69) rfl rfl ?_
            refine ei_iln hb dX6_spares_69 (pc' := 70) rfl rfl ?_
            refine ei_aln hb dX6_spares_70 (pc' := 71) rfl rfl ?_
            refine ei_iln hb dX6_spares_71 (pc' := 72) rfl rfl ?_
            obtain ⟨x17, e18, h⟩ := Option.bind_eq_some_iff.mp h
            refine ei_cv hb dX6_spares_72 (pc' := 75) (M1 := (qz_mk R15.2.1 R15.2.2)) (as := [.inl a1]) (rest := [.inl a2, .inl a1, .inl a0, .inr (some ((6, 0, 0) : qz_N))]) (st' := [.inl x17, .inl a2, .inl a1, .inl a0, .inr (some ((6, 0, 0) : qz_N))]) hcn qz_c_6_50 qz_k_90 (qz_q_138_90) (Nat.le_of_ble_eq_true rfl) (Nat.le_of_ble_eq_true rfl) rfl rfl rfl (vM_minute F R15.2.1 R15.2.2 a1 _ e18) rfl rfl ?_
            refine ei_aln hb dX6_spares_75 (pc' := 76) rfl rfl ?_
            refine ei_iln hb dX6_spares_76 (pc' := 77) rfl rfl ?_
            obtain ⟨x19, e20, h⟩ := Option.bind_eq_some_iff.mp h
            refine ei_cv hb dX6_spares_77 (pc' := 80) (M1 := (qz_mk R15.2.1 R15.2.2)) (as := [.inl a2]) (rest := [.inl x17, .inl a2, .inl a1, .inl a0, .inr (some ((6, 0, 0) : qz_N))]) (st' := [.inl x19, .inl x17, .inl a2, .inl a1, .inl a0, .inr (some ((6, 0, 0) : qz_N))]) hcn qz_c_6_50 qz_k_90 (qz_q_138_90) (Nat.le_of_ble_eq_true rfl) (Nat.le_of_ble_eq_true rfl) rfl rfl rfl (vM_minute F R15.2.1 R15.2.2 a2 _ e20) rfl rfl ?_
            refine ei_cs hb dX6_spares_80 (pc' := 83) (M1 := (qz_mk R15.2.1 R15.2.2)) (as := [.inl x17, .inl x19]) (rest := [.inl a2, .inl a1, .inl a0, .inr (some ((6, 0, 0) : qz_N))]) (st' := [.inl (gM_later R15.2.1 x17 x19), .inl a2, .inl a1, .inl a0, .inr (some ((6, 0, 0) : qz_N))]) hcn qz_c_6_54 rfl qz_k_94 (qz_q_138_94) (Nat.le_of_ble_eq_true rfl) (Nat.le_of_ble_eq_true rfl) rfl rfl (vM_later R15.2.1 R15.2.2 x17 x19) rfl rfl ?_
            obtain ⟨R21, e22, h⟩ := Option.bind_eq_some_iff.mp h
            refine ei_cv hb dX6_spares_83 (pc' := 86) (M1 := (qz_mk R21.1 R21.2)) (as := [.inl a0, .inl a1, .inl a2, .inl (gM_later R15.2.1 x17 x19)]) (rest := []) (st' := []) hcn qz_c_6_98 qz_k_107 (qz_q_138_107) (Nat.le_of_ble_eq_true rfl) (Nat.le_of_ble_eq_true rfl) rfl rfl rfl (vM_laysRides F R15.2 a0 a1 a2 (gM_later R15.2.1 x17 x19) _ e22) rfl rfl ?_
            refine ei_il hb dX6_spares_86 (pc' := 88) rfl rfl ?_
            refine ei_aln hb dX6_spares_88 (pc' := 89) rfl rfl ?_
            refine ei_cv hb dX6_spares_89 (pc' := 92) (M1 := (qz_mk R21.1 R21.2)) (as := []) (rest := [.inl (R13.1 + R15.1)]) (st' := [.inl (gM_cost R21.1), .inl (R13.1 + R15.1)]) hcn qz_c_6_102 qz_k_108 (qz_q_138_108) (Nat.le_of_ble_eq_true rfl) (Nat.le_of_ble_eq_true rfl) rfl rfl rfl (vM_cost R21.1 R21.2 ) rfl rfl ?_
            refine ei_sub hb dX6_spares_92 (pc' := 93) rfl ?_
            have h := Option.some.inj h
            subst h
            exact ei_reti hb dX6_spares_93 rfl
def gM_byMinute (F : Nat) (S : qz_S) (a0 : Int32) : Option (Int32 × qz_S) :=
  qz_let (qz_wr S ((6, 0, 0) : qz_N) 0 (0 : Int32)) fun S1 => if 0 ≤ a0 then (Option.bind (gM_ranks F S1) fun R3 => if (R3.1 ((17, 0, 0) : qz_N) 4) ≤ a0 then (some ((-5 : Int32), R3)) else (if qz_xi a0 10 = true then (some ((R3.1 ((21, 0, 0) : qz_N) (a0).toNatClampNeg), R3)) else none)) else (some ((-2 : Int32), S1))
set_option maxHeartbeats 4000000 in
theorem vM_byMinute (F : Nat) (S : qz_S) (a0 : Int32) (r : Int32 × qz_S) (h : (gM_byMinute F S a0) = some r) : qz_E 139 0 (qz_in0 139 [.inr (some ((6, 0, 0) : qz_N)), .inl a0]) [] (qz_mk S.1 S.2) (some (.inl r.1)) (qz_mk r.2.1 r.2.2) := by
  have hb : qz_b 139 = cX6_byMinute := rfl
  have hcn : qz_cn 139 = 6 := rfl
  show qz_E 139 0 [some (.inr (some ((6, 0, 0) : qz_N))), some (.inl a0)] [] _ _ _
  rw [gM_byMinute] at h
  refine ei_aln hb dX6_byMinute_0 (pc' := 1) rfl rfl ?_
  refine ei_c hb dX6_byMinute_1 (v := (0 : Int32)) (pc' := 2) (by decide) rfl ?_
  obtain ⟨S1, eS1⟩ : ∃ q, q = qz_wr S ((6, 0, 0) : qz_N) 0 (0 : Int32) := ⟨_, rfl⟩
  rw [qz_let, ← eS1] at h
  refine ei_pi hb dX6_byMinute_2 (pc' := 5) (M1 := (qz_mk S1.1 S1.2)) hcn qz_f_6_32 rfl rfl (fun q => by cases q) rfl (by rw [eS1]; rfl) rfl ?_
  refine ei_iln hb dX6_byMinute_5 (pc' := 6) rfl rfl ?_
  by_cases c2 : 0 ≤ a0
  · rw [if_pos c2] at h
    refine ei_ifT hb dX6_byMinute_6 (pc' := 12) (decide_eq_true c2) (by decide) ?_
    refine ei_aln hb dX6_byMinute_12 (pc' := 13) rfl rfl ?_
    obtain ⟨R3, e4, h⟩ := Option.bind_eq_some_iff.mp h
    refine ei_cv hb dX6_byMinute_13 (pc' := 16) (M1 := (qz_mk R3.1 R3.2)) (as := []) (rest := []) (st' := []) hcn qz_c_6_86 qz_k_100 (qz_q_139_100) (Nat.le_of_ble_eq_true rfl) (Nat.le_of_ble_eq_true rfl) rfl rfl rfl (vM_ranks F S1 _ e4) rfl rfl ?_
    refine ei_iln hb dX6_byMinute_16 (pc' := 17) rfl rfl ?_
    refine ei_aln hb dX6_byMinute_17 (pc' := 18) rfl rfl ?_
    refine ei_gr hb dX6_byMinute_18 (pc' := 21) (x := some ((17, 0, 0) : qz_N)) hcn qz_f_6_7 rfl rfl rfl rfl ?_
    refine ei_c hb dX6_byMinute_21 (v := (4 : Int32)) (pc' := 22) (by decide) rfl ?_
    refine ei_ia hb dX6_byMinute_22 (pc' := 23) (x := (R3.1 ((17, 0, 0) : qz_N) 4)) rfl (show qz_xi (4 : Int32) 283 = true by decide) rfl rfl ?_
    by_cases c5 : (R3.1 ((17, 0, 0) : qz_N) 4) ≤ a0
    · rw [if_pos c5] at h
      refine ei_icT hb dX6_byMinute_23 (pc' := 35) (decide_eq_true c5) (by decide) ?_
      refine ei_b hb dX6_byMinute_35 (v := (-5 : Int32)) (pc' := 37) (by decide) rfl ?_
      have h := Option.some.inj h
      subst h
      exact ei_reti hb dX6_byMinute_37 rfl
    · rw [if_neg c5] at h
      refine ei_icF hb dX6_byMinute_23 (pc' := 26) (t := 35) (decide_eq_false c5) (by decide) rfl ?_
      refine ei_aln hb dX6_byMinute_26 (pc' := 27) rfl rfl ?_
      refine ei_gr hb dX6_byMinute_27 (pc' := 30) (x := some ((21, 0, 0) : qz_N)) hcn qz_f_6_22 rfl rfl rfl rfl ?_
      refine ei_iln hb dX6_byMinute_30 (pc' := 31) rfl rfl ?_
      by_cases c6 : qz_xi a0 10 = true
      · rw [if_pos c6] at h
        refine ei_ia hb dX6_byMinute_31 (pc' := 32) (x := (R3.1 ((21, 0, 0) : qz_N) (a0).toNatClampNeg)) rfl c6 rfl rfl ?_
        refine ei_go hb dX6_byMinute_32 (pc' := 37) (by decide) ?_
        have h := Option.some.inj h
        subst h
        exact ei_reti hb dX6_byMinute_37 rfl
      · rw [if_neg c6] at h
        cases h
  · rw [if_neg c2] at h
    refine ei_ifF hb dX6_byMinute_6 (pc' := 9) (t := 12) (decide_eq_false c2) (by decide) rfl ?_
    refine ei_b hb dX6_byMinute_9 (v := (-2 : Int32)) (pc' := 11) (by decide) rfl ?_
    have h := Option.some.inj h
    subst h
    exact ei_reti hb dX6_byMinute_11 rfl
def gM_pairs_L4 (F : Nat) (f : qz_F)  (K : (Int32 → Int32 → Option (Int32))) : Nat → Int32 → Int32 → Option (Int32)
  | 0, _, _ => none
  | n + 1, y1, y2 => if (20 : Int32) ≤ y2 then (K y1 y2) else (if qz_xi ((23 : Int32) + y2) 283 = true then (if (f ((17, 0, 0) : qz_N) (((23 : Int32) + y2)).toNatClampNeg) ≤ 0 then ((gM_pairs_L4 F f K) n (y1 + (0 : Int32)) (y2 + 1)) else ((gM_pairs_L4 F f K) n (y1 + (1 : Int32)) (y2 + 1))) else none)
def gM_pairs (F : Nat) (f : qz_F)  : Option (Int32) :=
  gM_pairs_L4 F f (fun y14 y25 => some (y14 / (2 : Int32))) F (0 : Int32) (0 : Int32)
set_option maxHeartbeats 4000000 in
theorem vM_pairs_L4 (F : Nat) (f : qz_F) (p : Nat → Nat)  (K : (Int32 → Int32 → Option (Int32))) (hK : ∀ (y1 : Int32) (y2 : Int32) (r : Int32), K y1 y2 = some r → qz_E 140 36 [some (.inr (some ((6, 0, 0) : qz_N))), some (.inl y1), some (.inl y2)] [] (qz_mk f p) (some (.inl r)) (qz_mk f p)) : ∀ (n : Nat) (y1 : Int32) (y2 : Int32) (r : Int32), gM_pairs_L4 F f K n y1 y2 = some r → qz_E 140 4 [some (.inr (some ((6, 0, 0) : qz_N))), some (.inl y1), some (.inl y2)] [] (qz_mk f p) (some (.inl r)) (qz_mk f p) := by
  have hb : qz_b 140 = cX6_pairs := rfl
  have hcn : qz_cn 140 = 6 := rfl
  intro n
  induction n with
  | zero =>
    intro y1 y2 r h
    cases h
  | succ n ih =>
    intro y1 y2 r h
    rw [gM_pairs_L4] at h
    refine ei_iln hb dX6_pairs_4 (pc' := 5) rfl rfl ?_
    refine ei_b hb dX6_pairs_5 (v := (20 : Int32)) (pc' := 7) (by decide) rfl ?_
    by_cases c1 : (20 : Int32) ≤ y2
    · rw [if_pos c1] at h
      refine ei_icT hb dX6_pairs_7 (pc' := 36) (decide_eq_true c1) (by decide) ?_
      exact hK y1 y2 _ h
    · rw [if_neg c1] at h
      refine ei_icF hb dX6_pairs_7 (pc' := 10) (t := 36) (decide_eq_false c1) (by decide) rfl ?_
      refine ei_iln hb dX6_pairs_10 (pc' := 11) rfl rfl ?_
      refine ei_aln hb dX6_pairs_11 (pc' := 12) rfl rfl ?_
      refine ei_gr hb dX6_pairs_12 (pc' := 15) (x := some ((17, 0, 0) : qz_N)) hcn qz_f_6_7 rfl rfl rfl rfl ?_
      refine ei_b hb dX6_pairs_15 (v := (23 : Int32)) (pc' := 17) (by decide) rfl ?_
      refine ei_iln hb dX6_pairs_17 (pc' := 18) rfl rfl ?_
      refine ei_add hb dX6_pairs_18 (pc' := 19) rfl ?_
      by_cases c2 : qz_xi ((23 : Int32) + y2) 283 = true
      · rw [if_pos c2] at h
        refine ei_ia hb dX6_pairs_19 (pc' := 20) (x := (f ((17, 0, 0) : qz_N) (((23 : Int32) + y2)).toNatClampNeg)) rfl c2 rfl rfl ?_
        by_cases c3 : (f ((17, 0, 0) : qz_N) (((23 : Int32) + y2)).toNatClampNeg) ≤ 0
        · rw [if_pos c3] at h
          refine ei_ifT hb dX6_pairs_20 (pc' := 27) (decide_eq_true c3) (by decide) ?_
          refine ei_c hb dX6_pairs_27 (v := (0 : Int32)) (pc' := 28) (by decide) rfl ?_
          refine ei_add hb dX6_pairs_28 (pc' := 29) rfl ?_
          refine ei_isn hb dX6_pairs_29 (pc' := 30) (ls' := [some (.inr (some ((6, 0, 0) : qz_N))), some (.inl (y1 + (0 : Int32))), some (.inl y2)]) (Nat.le_of_ble_eq_true rfl) rfl rfl ?_
          refine ei_inc hb dX6_pairs_30 (v := (y2 + 1)) (pc' := 33) (ls' := [some (.inr (some ((6, 0, 0) : qz_N))), some (.inl (y1 + (0 : Int32))), some (.inl (y2 + 1))]) rfl rfl rfl rfl ?_
          refine ei_go hb dX6_pairs_33 (pc' := 4) (by decide) ?_
          exact ih (y1 + (0 : Int32)) (y2 + 1) _ h
        · rw [if_neg c3] at h
          refine ei_ifF hb dX6_pairs_20 (pc' := 23) (t := 27) (decide_eq_false c3) (by decide) rfl ?_
          refine ei_c hb dX6_pairs_23 (v := (1 : Int32)) (pc' := 24) (by decide) rfl ?_
          refine ei_go hb dX6_pairs_24 (pc' := 28) (by decide) ?_
          refine ei_add hb dX6_pairs_28 (pc' := 29) rfl ?_
          refine ei_isn hb dX6_pairs_29 (pc' := 30) (ls' := [some (.inr (some ((6, 0, 0) : qz_N))), some (.inl (y1 + (1 : Int32))), some (.inl y2)]) (Nat.le_of_ble_eq_true rfl) rfl rfl ?_
          refine ei_inc hb dX6_pairs_30 (v := (y2 + 1)) (pc' := 33) (ls' := [some (.inr (some ((6, 0, 0) : qz_N))), some (.inl (y1 + (1 : Int32))), some (.inl (y2 + 1))]) rfl rfl rfl rfl ?_
          refine ei_go hb dX6_pairs_33 (pc' := 4) (by decide) ?_
          exact ih (y1 + (1 : Int32)) (y2 + 1) _ h
      · rw [if_neg c2] at h
        cases h
set_option maxHeartbeats 4000000 in
theorem vM_pairs (F : Nat) (f : qz_F) (p : Nat → Nat)  (r : Int32) (h : (gM_pairs F f) = some r) : qz_E 140 0 (qz_in0 140 [.inr (some ((6, 0, 0) : qz_N))]) [] (qz_mk f p) (some (.inl r)) (qz_mk f p) := by
  have hb : qz_b 140 = cX6_pairs := rfl
  have hcn : qz_cn 140 = 6 := rfl
  show qz_E 140 0 [some (.inr (some ((6, 0, 0) : qz_N))), none, none] [] _ _ _
  rw [gM_pairs] at h
  refine ei_c hb dX6_pairs_0 (v := (0 : Int32)) (pc' := 1) (by decide) rfl ?_
  refine ei_isn hb dX6_pairs_1 (pc' := 2) (ls' := [some (.inr (some ((6, 0, 0) : qz_N))), some (.inl (0 : Int32)), none]) (Nat.le_of_ble_eq_true rfl) rfl rfl ?_
  refine ei_c hb dX6_pairs_2 (v := (0 : Int32)) (pc' := 3) (by decide) rfl ?_
  refine ei_isn hb dX6_pairs_3 (pc' := 4) (ls' := [some (.inr (some ((6, 0, 0) : qz_N))), some (.inl (0 : Int32)), some (.inl (0 : Int32))]) (Nat.le_of_ble_eq_true rfl) rfl rfl ?_
  refine vM_pairs_L4 F f p _ ?_ F (0 : Int32) (0 : Int32) _ h
  intro y14 y25 r h
  refine ei_iln hb dX6_pairs_36 (pc' := 37) rfl rfl ?_
  refine ei_c hb dX6_pairs_37 (v := (2 : Int32)) (pc' := 38) (by decide) rfl ?_
  refine ei_div hb dX6_pairs_38 (pc' := 39) (by decide) rfl ?_
  have h := Option.some.inj h
  subst h
  exact ei_reti hb dX6_pairs_39 rfl
def gM_count (F : Nat) (S : qz_S) (a0 : Int32) : Option (Int32 × qz_S) :=
  qz_let (qz_wr S ((6, 0, 0) : qz_N) 0 (0 : Int32)) fun S1 => if a0 = 0 then (some ((S1.1 ((17, 0, 0) : qz_N) 4), S1)) else (if a0 = 1 then (some ((S1.1 ((17, 0, 0) : qz_N) 6), S1)) else (if a0 = 2 then (Option.bind (gM_waiting F S1.1) fun x5 => some (((S1.1 ((17, 0, 0) : qz_N) 6) - x5), S1)) else (if a0 = 3 then (Option.bind (gM_waiting F S1.1) fun x8 => some (x8, S1)) else (if a0 = 4 then (Option.bind (gM_pairs F S1.1) fun x11 => some (x11, S1)) else (if a0 = 5 then (if (gM_in S1.1 a0 (5 : Int32) (10 : Int32)) = 0 then (if (gM_in S1.1 a0 (11 : Int32) (14 : Int32)) = 0 then (some ((-2 : Int32), S1)) else (if qz_xi (a0 - (11 : Int32)) 283 = true then (some ((S1.1 ((17, 0, 0) : qz_N) ((a0 - (11 : Int32))).toNatClampNeg), S1)) else none)) else (if qz_xi (((7 : Int32) + a0) - (5 : Int32)) 283 = true then (some ((S1.1 ((17, 0, 0) : qz_N) ((((7 : Int32) + a0) - (5 : Int32))).toNatClampNeg), S1)) else none)) else (if a0 = 6 then (if (gM_in S1.1 a0 (5 : Int32) (10 : Int32)) = 0 then (if (gM_in S1.1 a0 (11 : Int32) (14 : Int32)) = 0 then (some ((-2 : Int32), S1)) else (if qz_xi (a0 - (11 : Int32)) 283 = true then (some ((S1.1 ((17, 0, 0) : qz_N) ((a0 - (11 : Int32))).toNatClampNeg), S1)) else none)) else (if qz_xi (((7 : Int32) + a0) - (5 : Int32)) 283 = true then (some ((S1.1 ((17, 0, 0) : qz_N) ((((7 : Int32) + a0) - (5 : Int32))).toNatClampNeg), S1)) else none)) else (if a0 = 7 then (if (gM_in S1.1 a0 (5 : Int32) (10 : Int32)) = 0 then (if (gM_in S1.1 a0 (11 : Int32) (14 : Int32)) = 0 then (some ((-2 : Int32), S1)) else (if qz_xi (a0 - (11 : Int32)) 283 = true then (some ((S1.1 ((17, 0, 0) : qz_N) ((a0 - (11 : Int32))).toNatClampNeg), S1)) else none)) else (if qz_xi (((7 : Int32) + a0) - (5 : Int32)) 283 = true then (some ((S1.1 ((17, 0, 0) : qz_N) ((((7 : Int32) + a0) - (5 : Int32))).toNatClampNeg), S1)) else none)) else (if a0 = 8 then (if (gM_in S1.1 a0 (5 : Int32) (10 : Int32)) = 0 then (if (gM_in S1.1 a0 (11 : Int32) (14 : Int32)) = 0 then (some ((-2 : Int32), S1)) else (if qz_xi (a0 - (11 : Int32)) 283 = true then (some ((S1.1 ((17, 0, 0) : qz_N) ((a0 - (11 : Int32))).toNatClampNeg), S1)) else none)) else (if qz_xi (((7 : Int32) + a0) - (5 : Int32)) 283 = true then (some ((S1.1 ((17, 0, 0) : qz_N) ((((7 : Int32) + a0) - (5 : Int32))).toNatClampNeg), S1)) else none)) else (if a0 = 9 then (if (gM_in S1.1 a0 (5 : Int32) (10 : Int32)) = 0 then (if (gM_in S1.1 a0 (11 : Int32) (14 : Int32)) = 0 then (some ((-2 : Int32), S1)) else (if qz_xi (a0 - (11 : Int32)) 283 = true then (some ((S1.1 ((17, 0, 0) : qz_N) ((a0 - (11 : Int32))).toNatClampNeg), S1)) else none)) else (if qz_xi (((7 : Int32) + a0) - (5 : Int32)) 283 = true then (some ((S1.1 ((17, 0, 0) : qz_N) ((((7 : Int32) + a0) - (5 : Int32))).toNatClampNeg), S1)) else none)) else (if a0 = 10 then (if (gM_in S1.1 a0 (5 : Int32) (10 : Int32)) = 0 then (if (gM_in S1.1 a0 (11 : Int32) (14 : Int32)) = 0 then (some ((-2 : Int32), S1)) else (if qz_xi (a0 - (11 : Int32)) 283 = true then (some ((S1.1 ((17, 0, 0) : qz_N) ((a0 - (11 : Int32))).toNatClampNeg), S1)) else none)) else (if qz_xi (((7 : Int32) + a0) - (5 : Int32)) 283 = true then (some ((S1.1 ((17, 0, 0) : qz_N) ((((7 : Int32) + a0) - (5 : Int32))).toNatClampNeg), S1)) else none)) else (if a0 = 11 then (if (gM_in S1.1 a0 (5 : Int32) (10 : Int32)) = 0 then (if (gM_in S1.1 a0 (11 : Int32) (14 : Int32)) = 0 then (some ((-2 : Int32), S1)) else (if qz_xi (a0 - (11 : Int32)) 283 = true then (some ((S1.1 ((17, 0, 0) : qz_N) ((a0 - (11 : Int32))).toNatClampNeg), S1)) else none)) else (if qz_xi (((7 : Int32) + a0) - (5 : Int32)) 283 = true then (some ((S1.1 ((17, 0, 0) : qz_N) ((((7 : Int32) + a0) - (5 : Int32))).toNatClampNeg), S1)) else none)) else (if a0 = 12 then (if (gM_in S1.1 a0 (5 : Int32) (10 : Int32)) = 0 then (if (gM_in S1.1 a0 (11 : Int32) (14 : Int32)) = 0 then (some ((-2 : Int32), S1)) else (if qz_xi (a0 - (11 : Int32)) 283 = true then (some ((S1.1 ((17, 0, 0) : qz_N) ((a0 - (11 : Int32))).toNatClampNeg), S1)) else none)) else (if qz_xi (((7 : Int32) + a0) - (5 : Int32)) 283 = true then (some ((S1.1 ((17, 0, 0) : qz_N) ((((7 : Int32) + a0) - (5 : Int32))).toNatClampNeg), S1)) else none)) else (if a0 = 13 then (if (gM_in S1.1 a0 (5 : Int32) (10 : Int32)) = 0 then (if (gM_in S1.1 a0 (11 : Int32) (14 : Int32)) = 0 then (some ((-2 : Int32), S1)) else (if qz_xi (a0 - (11 : Int32)) 283 = true then (some ((S1.1 ((17, 0, 0) : qz_N) ((a0 - (11 : Int32))).toNatClampNeg), S1)) else none)) else (if qz_xi (((7 : Int32) + a0) - (5 : Int32)) 283 = true then (some ((S1.1 ((17, 0, 0) : qz_N) ((((7 : Int32) + a0) - (5 : Int32))).toNatClampNeg), S1)) else none)) else (if a0 = 14 then (if (gM_in S1.1 a0 (5 : Int32) (10 : Int32)) = 0 then (if (gM_in S1.1 a0 (11 : Int32) (14 : Int32)) = 0 then (some ((-2 : Int32), S1)) else (if qz_xi (a0 - (11 : Int32)) 283 = true then (some ((S1.1 ((17, 0, 0) : qz_N) ((a0 - (11 : Int32))).toNatClampNeg), S1)) else none)) else (if qz_xi (((7 : Int32) + a0) - (5 : Int32)) 283 = true then (some ((S1.1 ((17, 0, 0) : qz_N) ((((7 : Int32) + a0) - (5 : Int32))).toNatClampNeg), S1)) else none)) else (if a0 = 15 then (some ((S1.1 ((17, 0, 0) : qz_N) 5), S1)) else (if a0 = 16 then (some ((S1.1 ((6, 0, 0) : qz_N) 3), S1)) else (if a0 = 17 then (some ((S1.1 ((6, 0, 0) : qz_N) 7), S1)) else (if (gM_in S1.1 a0 (5 : Int32) (10 : Int32)) = 0 then (if (gM_in S1.1 a0 (11 : Int32) (14 : Int32)) = 0 then (some ((-2 : Int32), S1)) else (if qz_xi (a0 - (11 : Int32)) 283 = true then (some ((S1.1 ((17, 0, 0) : qz_N) ((a0 - (11 : Int32))).toNatClampNeg), S1)) else none)) else (if qz_xi (((7 : Int32) + a0) - (5 : Int32)) 283 = true then (some ((S1.1 ((17, 0, 0) : qz_N) ((((7 : Int32) + a0) - (5 : Int32))).toNatClampNeg), S1)) else none)))))))))))))))))))
set_option maxHeartbeats 4000000 in
theorem vM_count (F : Nat) (S : qz_S) (a0 : Int32) (r : Int32 × qz_S) (h : (gM_count F S a0) = some r) : qz_E 141 0 (qz_in0 141 [.inr (some ((6, 0, 0) : qz_N)), .inl a0]) [] (qz_mk S.1 S.2) (some (.inl r.1)) (qz_mk r.2.1 r.2.2) := by
  have hb : qz_b 141 = cX6_count := rfl
  have hcn : qz_cn 141 = 6 := rfl
  show qz_E 141 0 [some (.inr (some ((6, 0, 0) : qz_N))), some (.inl a0)] [] _ _ _
  rw [gM_count] at h
  refine ei_aln hb dX6_count_0 (pc' := 1) rfl rfl ?_
  refine ei_c hb dX6_count_1 (v := (0 : Int32)) (pc' := 2) (by decide) rfl ?_
  obtain ⟨S1, eS1⟩ : ∃ q, q = qz_wr S ((6, 0, 0) : qz_N) 0 (0 : Int32) := ⟨_, rfl⟩
  rw [qz_let, ← eS1] at h
  refine ei_pi hb dX6_count_2 (pc' := 5) (M1 := (qz_mk S1.1 S1.2)) hcn qz_f_6_32 rfl rfl (fun q => by cases q) rfl (by rw [eS1]; rfl) rfl ?_
  refine ei_iln hb dX6_count_5 (pc' := 6) rfl rfl ?_
  by_cases c2 : a0 = 0
  · rw [if_pos c2] at h
    refine ei_tbI hb dX6_count_6 (pc' := 92) (off := 86) (by rw [c2]; decide) (by rw [c2]; rfl) (by decide) ?_
    refine ei_aln hb dX6_count_92 (pc' := 93) rfl rfl ?_
    refine ei_gr hb dX6_count_93 (pc' := 96) (x := some ((17, 0, 0) : qz_N)) hcn qz_f_6_7 rfl rfl rfl rfl ?_
    refine ei_c hb dX6_count_96 (v := (4 : Int32)) (pc' := 97) (by decide) rfl ?_
    refine ei_ia hb dX6_count_97 (pc' := 98) (x := (S1.1 ((17, 0, 0) : qz_N) 4)) rfl (show qz_xi (4 : Int32) 283 = true by decide) rfl rfl ?_
    have h := Option.some.inj h
    subst h
    exact ei_reti hb dX6_count_98 rfl
  · rw [if_neg c2] at h
    by_cases c3 : a0 = 1
    · rw [if_pos c3] at h
      refine ei_tbI hb dX6_count_6 (pc' := 99) (off := 93) (by rw [c3]; decide) (by rw [c3]; rfl) (by decide) ?_
      refine ei_aln hb dX6_count_99 (pc' := 100) rfl rfl ?_
      refine ei_gr hb dX6_count_100 (pc' := 103) (x := some ((17, 0, 0) : qz_N)) hcn qz_f_6_7 rfl rfl rfl rfl ?_
      refine ei_b hb dX6_count_103 (v := (6 : Int32)) (pc' := 105) (by decide) rfl ?_
      refine ei_ia hb dX6_count_105 (pc' := 106) (x := (S1.1 ((17, 0, 0) : qz_N) 6)) rfl (show qz_xi (6 : Int32) 283 = true by decide) rfl rfl ?_
      have h := Option.some.inj h
      subst h
      exact ei_reti hb dX6_count_106 rfl
    · rw [if_neg c3] at h
      by_cases c4 : a0 = 2
      · rw [if_pos c4] at h
        refine ei_tbI hb dX6_count_6 (pc' := 107) (off := 101) (by rw [c4]; decide) (by rw [c4]; rfl) (by decide) ?_
        refine ei_aln hb dX6_count_107 (pc' := 108) rfl rfl ?_
        refine ei_gr hb dX6_count_108 (pc' := 111) (x := some ((17, 0, 0) : qz_N)) hcn qz_f_6_7 rfl rfl rfl rfl ?_
        refine ei_b hb dX6_count_111 (v := (6 : Int32)) (pc' := 113) (by decide) rfl ?_
        refine ei_ia hb dX6_count_113 (pc' := 114) (x := (S1.1 ((17, 0, 0) : qz_N) 6)) rfl (show qz_xi (6 : Int32) 283 = true by decide) rfl rfl ?_
        refine ei_aln hb dX6_count_114 (pc' := 115) rfl rfl ?_
        obtain ⟨x5, e6, h⟩ := Option.bind_eq_some_iff.mp h
        refine ei_cv hb dX6_count_115 (pc' := 118) (M1 := (qz_mk S1.1 S1.2)) (as := []) (rest := [.inl (S1.1 ((17, 0, 0) : qz_N) 6)]) (st' := [.inl x5, .inl (S1.1 ((17, 0, 0) : qz_N) 6)]) hcn qz_c_6_133 qz_k_104 (qz_q_141_104) (Nat.le_of_ble_eq_true rfl) (Nat.le_of_ble_eq_true rfl) rfl rfl rfl (vM_waiting F S1.1 S1.2 _ e6) rfl rfl ?_
        refine ei_sub hb dX6_count_118 (pc' := 119) rfl ?_
        have h := Option.some.inj h
        subst h
        exact ei_reti hb dX6_count_119 rfl
      · rw [if_neg c4] at h
        by_cases c7 : a0 = 3
        · rw [if_pos c7] at h
          refine ei_tbI hb dX6_count_6 (pc' := 120) (off := 114) (by rw [c7]; decide) (by rw [c7]; rfl) (by decide) ?_
          refine ei_aln hb dX6_count_120 (pc' := 121) rfl rfl ?_
          obtain ⟨x8, e9, h⟩ := Option.bind_eq_some_iff.mp h
          refine ei_cv hb dX6_count_121 (pc' := 124) (M1 := (qz_mk S1.1 S1.2)) (as := []) (rest := []) (st' := [.inl x8]) hcn qz_c_6_133 qz_k_104 (qz_q_141_104) (Nat.le_of_ble_eq_true rfl) (Nat.le_of_ble_eq_true rfl) rfl rfl rfl (vM_waiting F S1.1 S1.2 _ e9) rfl rfl ?_
          have h := Option.some.inj h
          subst h
          exact ei_reti hb dX6_count_124 rfl
        · rw [if_neg c7] at h
          by_cases c10 : a0 = 4
          · rw [if_pos c10] at h
            refine ei_tbI hb dX6_count_6 (pc' := 125) (off := 119) (by rw [c10]; decide) (by rw [c10]; rfl) (by decide) ?_
            refine ei_aln hb dX6_count_125 (pc' := 126) rfl rfl ?_
            obtain ⟨x11, e12, h⟩ := Option.bind_eq_some_iff.mp h
            refine ei_cv hb dX6_count_126 (pc' := 129) (M1 := (qz_mk S1.1 S1.2)) (as := []) (rest := []) (st' := [.inl x11]) hcn qz_c_6_178 qz_k_140 (qz_q_141_140) (Nat.le_of_ble_eq_true rfl) (Nat.le_of_ble_eq_true rfl) rfl rfl rfl (vM_pairs F S1.1 S1.2 _ e12) rfl rfl ?_
            have h := Option.some.inj h
            subst h
            exact ei_reti hb dX6_count_129 rfl
          · rw [if_neg c10] at h
            by_cases c13 : a0 = 5
            · rw [if_pos c13] at h
              refine ei_tbI hb dX6_count_6 (pc' := 147) (off := 141) (by rw [c13]; decide) (by rw [c13]; rfl) (by decide) ?_
              refine ei_iln hb dX6_count_147 (pc' := 148) rfl rfl ?_
              refine ei_c hb dX6_count_148 (v := (5 : Int32)) (pc' := 149) (by decide) rfl ?_
              refine ei_b hb dX6_count_149 (v := (10 : Int32)) (pc' := 151) (by decide) rfl ?_
              refine ei_cs hb dX6_count_151 (pc' := 154) (M1 := (qz_mk S1.1 S1.2)) (as := [.inl a0, .inl (5 : Int32), .inl (10 : Int32)]) (rest := []) (st' := [.inl (gM_in S1.1 a0 (5 : Int32) (10 : Int32))]) hcn qz_c_6_36 rfl qz_k_84 (qz_q_141_84) (Nat.le_of_ble_eq_true rfl) (Nat.le_of_ble_eq_true rfl) rfl rfl (vM_in S1.1 S1.2 a0 (5 : Int32) (10 : Int32)) rfl rfl ?_
              by_cases c14 : (gM_in S1.1 a0 (5 : Int32) (10 : Int32)) = 0
              · rw [if_pos c14] at h
                refine ei_ifT hb dX6_count_154 (pc' := 171) (decide_eq_true c14) (by decide) ?_
                refine ei_iln hb dX6_count_171 (pc' := 172) rfl rfl ?_
                refine ei_b hb dX6_count_172 (v := (11 : Int32)) (pc' := 174) (by decide) rfl ?_
                refine ei_b hb dX6_count_174 (v := (14 : Int32)) (pc' := 176) (by decide) rfl ?_
                refine ei_cs hb dX6_count_176 (pc' := 179) (M1 := (qz_mk S1.1 S1.2)) (as := [.inl a0, .inl (11 : Int32), .inl (14 : Int32)]) (rest := []) (st' := [.inl (gM_in S1.1 a0 (11 : Int32) (14 : Int32))]) hcn qz_c_6_36 rfl qz_k_84 (qz_q_141_84) (Nat.le_of_ble_eq_true rfl) (Nat.le_of_ble_eq_true rfl) rfl rfl (vM_in S1.1 S1.2 a0 (11 : Int32) (14 : Int32)) rfl rfl ?_
                by_cases c15 : (gM_in S1.1 a0 (11 : Int32) (14 : Int32)) = 0
                · rw [if_pos c15] at h
                  refine ei_ifT hb dX6_count_179 (pc' := 194) (decide_eq_true c15) (by decide) ?_
                  refine ei_b hb dX6_count_194 (v := (-2 : Int32)) (pc' := 196) (by decide) rfl ?_
                  have h := Option.some.inj h
                  subst h
                  exact ei_reti hb dX6_count_196 rfl
                · rw [if_neg c15] at h
                  refine ei_ifF hb dX6_count_179 (pc' := 182) (t := 194) (decide_eq_false c15) (by decide) rfl ?_
                  refine ei_aln hb dX6_count_182 (pc' := 183) rfl rfl ?_
                  refine ei_gr hb dX6_count_183 (pc' := 186) (x := some ((17, 0, 0) : qz_N)) hcn qz_f_6_7 rfl rfl rfl rfl ?_
                  refine ei_iln hb dX6_count_186 (pc' := 187) rfl rfl ?_
                  refine ei_b hb dX6_count_187 (v := (11 : Int32)) (pc' := 189) (by decide) rfl ?_
                  refine ei_sub hb dX6_count_189 (pc' := 190) rfl ?_
                  by_cases c16 : qz_xi (a0 - (11 : Int32)) 283 = true
                  · rw [if_pos c16] at h
                    refine ei_ia hb dX6_count_190 (pc' := 191) (x := (S1.1 ((17, 0, 0) : qz_N) ((a0 - (11 : Int32))).toNatClampNeg)) rfl c16 rfl rfl ?_
                    refine ei_go hb dX6_count_191 (pc' := 196) (by decide) ?_
                    have h := Option.some.inj h
                    subst h
                    exact ei_reti hb dX6_count_196 rfl
                  · rw [if_neg c16] at h
                    cases h
              · rw [if_neg c14] at h
                refine ei_ifF hb dX6_count_154 (pc' := 157) (t := 171) (decide_eq_false c14) (by decide) rfl ?_
                refine ei_aln hb dX6_count_157 (pc' := 158) rfl rfl ?_
                refine ei_gr hb dX6_count_158 (pc' := 161) (x := some ((17, 0, 0) : qz_N)) hcn qz_f_6_7 rfl rfl rfl rfl ?_
                refine ei_b hb dX6_count_161 (v := (7 : Int32)) (pc' := 163) (by decide) rfl ?_
                refine ei_iln hb dX6_count_163 (pc' := 164) rfl rfl ?_
                refine ei_add hb dX6_count_164 (pc' := 165) rfl ?_
                refine ei_c hb dX6_count_165 (v := (5 : Int32)) (pc' := 166) (by decide) rfl ?_
                refine ei_sub hb dX6_count_166 (pc' := 167) rfl ?_
                by_cases c17 : qz_xi (((7 : Int32) + a0) - (5 : Int32)) 283 = true
                · rw [if_pos c17] at h
                  refine ei_ia hb dX6_count_167 (pc' := 168) (x := (S1.1 ((17, 0, 0) : qz_N) ((((7 : Int32) + a0) - (5 : Int32))).toNatClampNeg)) rfl c17 rfl rfl ?_
                  refine ei_go hb dX6_count_168 (pc' := 196) (by decide) ?_
                  have h := Option.some.inj h
                  subst h
                  exact ei_reti hb dX6_count_196 rfl
                · rw [if_neg c17] at h
                  cases h
            · rw [if_neg c13] at h
              by_cases c18 : a0 = 6
              · rw [if_pos c18] at h
                refine ei_tbI hb dX6_count_6 (pc' := 147) (off := 141) (by rw [c18]; decide) (by rw [c18]; rfl) (by decide) ?_
                refine ei_iln hb dX6_count_147 (pc' := 148) rfl rfl ?_
                refine ei_c hb dX6_count_148 (v := (5 : Int32)) (pc' := 149) (by decide) rfl ?_
                refine ei_b hb dX6_count_149 (v := (10 : Int32)) (pc' := 151) (by decide) rfl ?_
                refine ei_cs hb dX6_count_151 (pc' := 154) (M1 := (qz_mk S1.1 S1.2)) (as := [.inl a0, .inl (5 : Int32), .inl (10 : Int32)]) (rest := []) (st' := [.inl (gM_in S1.1 a0 (5 : Int32) (10 : Int32))]) hcn qz_c_6_36 rfl qz_k_84 (qz_q_141_84) (Nat.le_of_ble_eq_true rfl) (Nat.le_of_ble_eq_true rfl) rfl rfl (vM_in S1.1 S1.2 a0 (5 : Int32) (10 : Int32)) rfl rfl ?_
                by_cases c19 : (gM_in S1.1 a0 (5 : Int32) (10 : Int32)) = 0
                · rw [if_pos c19] at h
                  refine ei_ifT hb dX6_count_154 (pc' := 171) (decide_eq_true c19) (by decide) ?_
                  refine ei_iln hb dX6_count_171 (pc' := 172) rfl rfl ?_
                  refine ei_b hb dX6_count_172 (v := (11 : Int32)) (pc' := 174) (by decide) rfl ?_
                  refine ei_b hb dX6_count_174 (v := (14 : Int32)) (pc' := 176) (by decide) rfl ?_
                  refine ei_cs hb dX6_count_176 (pc' := 179) (M1 := (qz_mk S1.1 S1.2)) (as := [.inl a0, .inl (11 : Int32), .inl (14 : Int32)]) (rest := []) (st' := [.inl (gM_in S1.1 a0 (11 : Int32) (14 : Int32))]) hcn qz_c_6_36 rfl qz_k_84 (qz_q_141_84) (Nat.le_of_ble_eq_true rfl) (Nat.le_of_ble_eq_true rfl) rfl rfl (vM_in S1.1 S1.2 a0 (11 : Int32) (14 : Int32)) rfl rfl ?_
                  by_cases c20 : (gM_in S1.1 a0 (11 : Int32) (14 : Int32)) = 0
                  · rw [if_pos c20] at h
                    refine ei_ifT hb dX6_count_179 (pc' := 194) (decide_eq_true c20) (by decide) ?_
                    refine ei_b hb dX6_count_194 (v := (-2 : Int32)) (pc' := 196) (by decide) rfl ?_
                    have h := Option.some.inj h
                    subst h
                    exact ei_reti hb dX6_count_196 rfl
                  · rw [if_neg c20] at h
                    refine ei_ifF hb dX6_count_179 (pc' := 182) (t := 194) (decide_eq_false c20) (by decide) rfl ?_
                    refine ei_aln hb dX6_count_182 (pc' := 183) rfl rfl ?_
                    refine ei_gr hb dX6_count_183 (pc' := 186) (x := some ((17, 0, 0) : qz_N)) hcn qz_f_6_7 rfl rfl rfl rfl ?_
                    refine ei_iln hb dX6_count_186 (pc' := 187) rfl rfl ?_
                    refine ei_b hb dX6_count_187 (v := (11 : Int32)) (pc' := 189) (by decide) rfl ?_
                    refine ei_sub hb dX6_count_189 (pc' := 190) rfl ?_
                    by_cases c21 : qz_xi (a0 - (11 : Int32)) 283 = true
                    · rw [if_pos c21] at h
                      refine ei_ia hb dX6_count_190 (pc' := 191) (x := (S1.1 ((17, 0, 0) : qz_N) ((a0 - (11 : Int32))).toNatClampNeg)) rfl c21 rfl rfl ?_
                      refine ei_go hb dX6_count_191 (pc' := 196) (by decide) ?_
                      have h := Option.some.inj h
                      subst h
                      exact ei_reti hb dX6_count_196 rfl
                    · rw [if_neg c21] at h
                      cases h
                · rw [if_neg c19] at h
                  refine ei_ifF hb dX6_count_154 (pc' := 157) (t := 171) (decide_eq_false c19) (by decide) rfl ?_
                  refine ei_aln hb dX6_count_157 (pc' := 158) rfl rfl ?_
                  refine ei_gr hb dX6_count_158 (pc' := 161) (x := some ((17, 0, 0) : qz_N)) hcn qz_f_6_7 rfl rfl rfl rfl ?_
                  refine ei_b hb dX6_count_161 (v := (7 : Int32)) (pc' := 163) (by decide) rfl ?_
                  refine ei_iln hb dX6_count_163 (pc' := 164) rfl rfl ?_
                  refine ei_add hb dX6_count_164 (pc' := 165) rfl ?_
                  refine ei_c hb dX6_count_165 (v := (5 : Int32)) (pc' := 166) (by decide) rfl ?_
                  refine ei_sub hb dX6_count_166 (pc' := 167) rfl ?_
                  by_cases c22 : qz_xi (((7 : Int32) + a0) - (5 : Int32)) 283 = true
                  · rw [if_pos c22] at h
                    refine ei_ia hb dX6_count_167 (pc' := 168) (x := (S1.1 ((17, 0, 0) : qz_N) ((((7 : Int32) + a0) - (5 : Int32))).toNatClampNeg)) rfl c22 rfl rfl ?_
                    refine ei_go hb dX6_count_168 (pc' := 196) (by decide) ?_
                    have h := Option.some.inj h
                    subst h
                    exact ei_reti hb dX6_count_196 rfl
                  · rw [if_neg c22] at h
                    cases h
              · rw [if_neg c18] at h
                by_cases c23 : a0 = 7
                · rw [if_pos c23] at h
                  refine ei_tbI hb dX6_count_6 (pc' := 147) (off := 141) (by rw [c23]; decide) (by rw [c23]; rfl) (by decide) ?_
                  refine ei_iln hb dX6_count_147 (pc' := 148) rfl rfl ?_
                  refine ei_c hb dX6_count_148 (v := (5 : Int32)) (pc' := 149) (by decide) rfl ?_
                  refine ei_b hb dX6_count_149 (v := (10 : Int32)) (pc' := 151) (by decide) rfl ?_
                  refine ei_cs hb dX6_count_151 (pc' := 154) (M1 := (qz_mk S1.1 S1.2)) (as := [.inl a0, .inl (5 : Int32), .inl (10 : Int32)]) (rest := []) (st' := [.inl (gM_in S1.1 a0 (5 : Int32) (10 : Int32))]) hcn qz_c_6_36 rfl qz_k_84 (qz_q_141_84) (Nat.le_of_ble_eq_true rfl) (Nat.le_of_ble_eq_true rfl) rfl rfl (vM_in S1.1 S1.2 a0 (5 : Int32) (10 : Int32)) rfl rfl ?_
                  by_cases c24 : (gM_in S1.1 a0 (5 : Int32) (10 : Int32)) = 0
                  · rw [if_pos c24] at h
                    refine ei_ifT hb dX6_count_154 (pc' := 171) (decide_eq_true c24) (by decide) ?_
                    refine ei_iln hb dX6_count_171 (pc' := 172) rfl rfl ?_
                    refine ei_b hb dX6_count_172 (v := (11 : Int32)) (pc' := 174) (by decide) rfl ?_
                    refine ei_b hb dX6_count_174 (v := (14 : Int32)) (pc' := 176) (by decide) rfl ?_
                    refine ei_cs hb dX6_count_176 (pc' := 179) (M1 := (qz_mk S1.1 S1.2)) (as := [.inl a0, .inl (11 : Int32), .inl (14 : Int32)]) (rest := []) (st' := [.inl (gM_in S1.1 a0 (11 : Int32) (14 : Int32))]) hcn qz_c_6_36 rfl qz_k_84 (qz_q_141_84) (Nat.le_of_ble_eq_true rfl) (Nat.le_of_ble_eq_true rfl) rfl rfl (vM_in S1.1 S1.2 a0 (11 : Int32) (14 : Int32)) rfl rfl ?_
                    by_cases c25 : (gM_in S1.1 a0 (11 : Int32) (14 : Int32)) = 0
                    · rw [if_pos c25] at h
                      refine ei_ifT hb dX6_count_179 (pc' := 194) (decide_eq_true c25) (by decide) ?_
                      refine ei_b hb dX6_count_194 (v := (-2 : Int32)) (pc' := 196) (by decide) rfl ?_
                      have h := Option.some.inj h
                      subst h
                      exact ei_reti hb dX6_count_196 rfl
                    · rw [if_neg c25] at h
                      refine ei_ifF hb dX6_count_179 (pc' := 182) (t := 194) (decide_eq_false c25) (by decide) rfl ?_
                      refine ei_aln hb dX6_count_182 (pc' := 183) rfl rfl ?_
                      refine ei_gr hb dX6_count_183 (pc' := 186) (x := some ((17, 0, 0) : qz_N)) hcn qz_f_6_7 rfl rfl rfl rfl ?_
                      refine ei_iln hb dX6_count_186 (pc' := 187) rfl rfl ?_
                      refine ei_b hb dX6_count_187 (v := (11 : Int32)) (pc' := 189) (by decide) rfl ?_
                      refine ei_sub hb dX6_count_189 (pc' := 190) rfl ?_
                      by_cases c26 : qz_xi (a0 - (11 : Int32)) 283 = true
                      · rw [if_pos c26] at h
                        refine ei_ia hb dX6_count_190 (pc' := 191) (x := (S1.1 ((17, 0, 0) : qz_N) ((a0 - (11 : Int32))).toNatClampNeg)) rfl c26 rfl rfl ?_
                        refine ei_go hb dX6_count_191 (pc' := 196) (by decide) ?_
                        have h := Option.some.inj h
                        subst h
                        exact ei_reti hb dX6_count_196 rfl
                      · rw [if_neg c26] at h
                        cases h
                  · rw [if_neg c24] at h
                    refine ei_ifF hb dX6_count_154 (pc' := 157) (t := 171) (decide_eq_false c24) (by decide) rfl ?_
                    refine ei_aln hb dX6_count_157 (pc' := 158) rfl rfl ?_
                    refine ei_gr hb dX6_count_158 (pc' := 161) (x := some ((17, 0, 0) : qz_N)) hcn qz_f_6_7 rfl rfl rfl rfl ?_
                    refine ei_b hb dX6_count_161 (v := (7 : Int32)) (pc' := 163) (by decide) rfl ?_
                    refine ei_iln hb dX6_count_163 (pc' := 164) rfl rfl ?_
                    refine ei_add hb dX6_count_164 (pc' := 165) rfl ?_
                    refine ei_c hb dX6_count_165 (v := (5 : Int32)) (pc' := 166) (by decide) rfl ?_
                    refine ei_sub hb dX6_count_166 (pc' := 167) rfl ?_
                    by_cases c27 : qz_xi (((7 : Int32) + a0) - (5 : Int32)) 283 = true
                    · rw [if_pos c27] at h
                      refine ei_ia hb dX6_count_167 (pc' := 168) (x := (S1.1 ((17, 0, 0) : qz_N) ((((7 : Int32) + a0) - (5 : Int32))).toNatClampNeg)) rfl c27 rfl rfl ?_
                      refine ei_go hb dX6_count_168 (pc' := 196) (by decide) ?_
                      have h := Option.some.inj h
                      subst h
                      exact ei_reti hb dX6_count_196 rfl
                    · rw [if_neg c27] at h
                      cases h
                · rw [if_neg c23] at h
                  by_cases c28 : a0 = 8
                  · rw [if_pos c28] at h
                    refine ei_tbI hb dX6_count_6 (pc' := 147) (off := 141) (by rw [c28]; decide) (by rw [c28]; rfl) (by decide) ?_
                    refine ei_iln hb dX6_count_147 (pc' := 148) rfl rfl ?_
                    refine ei_c hb dX6_count_148 (v := (5 : Int32)) (pc' := 149) (by decide) rfl ?_
                    refine ei_b hb dX6_count_149 (v := (10 : Int32)) (pc' := 151) (by decide) rfl ?_
                    refine ei_cs hb dX6_count_151 (pc' := 154) (M1 := (qz_mk S1.1 S1.2)) (as := [.inl a0, .inl (5 : Int32), .inl (10 : Int32)]) (rest := []) (st' := [.inl (gM_in S1.1 a0 (5 : Int32) (10 : Int32))]) hcn qz_c_6_36 rfl qz_k_84 (qz_q_141_84) (Nat.le_of_ble_eq_true rfl) (Nat.le_of_ble_eq_true rfl) rfl rfl (vM_in S1.1 S1.2 a0 (5 : Int32) (10 : Int32)) rfl rfl ?_
                    by_cases c29 : (gM_in S1.1 a0 (5 : Int32) (10 : Int32)) = 0
                    · rw [if_pos c29] at h
                      refine ei_ifT hb dX6_count_154 (pc' := 171) (decide_eq_true c29) (by decide) ?_
                      refine ei_iln hb dX6_count_171 (pc' := 172) rfl rfl ?_
                      refine ei_b hb dX6_count_172 (v := (11 : Int32)) (pc' := 174) (by decide) rfl ?_
                      refine ei_b hb dX6_count_174 (v := (14 : Int32)) (pc' := 176) (by decide) rfl ?_
                      refine ei_cs hb dX6_count_176 (pc' := 179) (M1 := (qz_mk S1.1 S1.2)) (as := [.inl a0, .inl (11 : Int32), .inl (14 : Int32)]) (rest := []) (st' := [.inl (gM_in S1.1 a0 (11 : Int32) (14 : Int32))]) hcn qz_c_6_36 rfl qz_k_84 (qz_q_141_84) (Nat.le_of_ble_eq_true rfl) (Nat.le_of_ble_eq_true rfl) rfl rfl (vM_in S1.1 S1.2 a0 (11 : Int32) (14 : Int32)) rfl rfl ?_
                      by_cases c30 : (gM_in S1.1 a0 (11 : Int32) (14 : Int32)) = 0
                      · rw [if_pos c30] at h
                        refine ei_ifT hb dX6_count_179 (pc' := 194) (decide_eq_true c30) (by decide) ?_
                        refine ei_b hb dX6_count_194 (v := (-2 : Int32)) (pc' := 196) (by decide) rfl ?_
                        have h := Option.some.inj h
                        subst h
                        exact ei_reti hb dX6_count_196 rfl
                      · rw [if_neg c30] at h
                        refine ei_ifF hb dX6_count_179 (pc' := 182) (t := 194) (decide_eq_false c30) (by decide) rfl ?_
                        refine ei_aln hb dX6_count_182 (pc' := 183) rfl rfl ?_
                        refine ei_gr hb dX6_count_183 (pc' := 186) (x := some ((17, 0, 0) : qz_N)) hcn qz_f_6_7 rfl rfl rfl rfl ?_
                        refine ei_iln hb dX6_count_186 (pc' := 187) rfl rfl ?_
                        refine ei_b hb dX6_count_187 (v := (11 : Int32)) (pc' := 189) (by decide) rfl ?_
                        refine ei_sub hb dX6_count_189 (pc' := 190) rfl ?_
                        by_cases c31 : qz_xi (a0 - (11 : Int32)) 283 = true
                        · rw [if_pos c31] at h
                          refine ei_ia hb dX6_count_190 (pc' := 191) (x := (S1.1 ((17, 0, 0) : qz_N) ((a0 - (11 : Int32))).toNatClampNeg)) rfl c31 rfl rfl ?_
                          refine ei_go hb dX6_count_191 (pc' := 196) (by decide) ?_
                          have h := Option.some.inj h
                          subst h
                          exact ei_reti hb dX6_count_196 rfl
                        · rw [if_neg c31] at h
                          cases h
                    · rw [if_neg c29] at h
                      refine ei_ifF hb dX6_count_154 (pc' := 157) (t := 171) (decide_eq_false c29) (by decide) rfl ?_
                      refine ei_aln hb dX6_count_157 (pc' := 158) rfl rfl ?_
                      refine ei_gr hb dX6_count_158 (pc' := 161) (x := some ((17, 0, 0) : qz_N)) hcn qz_f_6_7 rfl rfl rfl rfl ?_
                      refine ei_b hb dX6_count_161 (v := (7 : Int32)) (pc' := 163) (by decide) rfl ?_
                      refine ei_iln hb dX6_count_163 (pc' := 164) rfl rfl ?_
                      refine ei_add hb dX6_count_164 (pc' := 165) rfl ?_
                      refine ei_c hb dX6_count_165 (v := (5 : Int32)) (pc' := 166) (by decide) rfl ?_
                      refine ei_sub hb dX6_count_166 (pc' := 167) rfl ?_
                      by_cases c32 : qz_xi (((7 : Int32) + a0) - (5 : Int32)) 283 = true
                      · rw [if_pos c32] at h
                        refine ei_ia hb dX6_count_167 (pc' := 168) (x := (S1.1 ((17, 0, 0) : qz_N) ((((7 : Int32) + a0) - (5 : Int32))).toNatClampNeg)) rfl c32 rfl rfl ?_
                        refine ei_go hb dX6_count_168 (pc' := 196) (by decide) ?_
                        have h := Option.some.inj h
                        subst h
                        exact ei_reti hb dX6_count_196 rfl
                      · rw [if_neg c32] at h
                        cases h
                  · rw [if_neg c28] at h
                    by_cases c33 : a0 = 9
                    · rw [if_pos c33] at h
                      refine ei_tbI hb dX6_count_6 (pc' := 147) (off := 141) (by rw [c33]; decide) (by rw [c33]; rfl) (by decide) ?_
                      refine ei_iln hb dX6_count_147 (pc' := 148) rfl rfl ?_
                      refine ei_c hb dX6_count_148 (v := (5 : Int32)) (pc' := 149) (by decide) rfl ?_
                      refine ei_b hb dX6_count_149 (v := (10 : Int32)) (pc' := 151) (by decide) rfl ?_
                      refine ei_cs hb dX6_count_151 (pc' := 154) (M1 := (qz_mk S1.1 S1.2)) (as := [.inl a0, .inl (5 : Int32), .inl (10 : Int32)]) (rest := []) (st' := [.inl (gM_in S1.1 a0 (5 : Int32) (10 : Int32))]) hcn qz_c_6_36 rfl qz_k_84 (qz_q_141_84) (Nat.le_of_ble_eq_true rfl) (Nat.le_of_ble_eq_true rfl) rfl rfl (vM_in S1.1 S1.2 a0 (5 : Int32) (10 : Int32)) rfl rfl ?_
                      by_cases c34 : (gM_in S1.1 a0 (5 : Int32) (10 : Int32)) = 0
                      · rw [if_pos c34] at h
                        refine ei_ifT hb dX6_count_154 (pc' := 171) (decide_eq_true c34) (by decide) ?_
                        refine ei_iln hb dX6_count_171 (pc' := 172) rfl rfl ?_
                        refine ei_b hb dX6_count_172 (v := (11 : Int32)) (pc' := 174) (by decide) rfl ?_
                        refine ei_b hb dX6_count_174 (v := (14 : Int32)) (pc' := 176) (by decide) rfl ?_
                        refine ei_cs hb dX6_count_176 (pc' := 179) (M1 := (qz_mk S1.1 S1.2)) (as := [.inl a0, .inl (11 : Int32), .inl (14 : Int32)]) (rest := []) (st' := [.inl (gM_in S1.1 a0 (11 : Int32) (14 : Int32))]) hcn qz_c_6_36 rfl qz_k_84 (qz_q_141_84) (Nat.le_of_ble_eq_true rfl) (Nat.le_of_ble_eq_true rfl) rfl rfl (vM_in S1.1 S1.2 a0 (11 : Int32) (14 : Int32)) rfl rfl ?_
                        by_cases c35 : (gM_in S1.1 a0 (11 : Int32) (14 : Int32)) = 0
                        · rw [if_pos c35] at h
                          refine ei_ifT hb dX6_count_179 (pc' := 194) (decide_eq_true c35) (by decide) ?_
                          refine ei_b hb dX6_count_194 (v := (-2 : Int32)) (pc' := 196) (by decide) rfl ?_
                          have h := Option.some.inj h
                          subst h
                          exact ei_reti hb dX6_count_196 rfl
                        · rw [if_neg c35] at h
                          refine ei_ifF hb dX6_count_179 (pc' := 182) (t := 194) (decide_eq_false c35) (by decide) rfl ?_
                          refine ei_aln hb dX6_count_182 (pc' := 183) rfl rfl ?_
                          refine ei_gr hb dX6_count_183 (pc' := 186) (x := some ((17, 0, 0) : qz_N)) hcn qz_f_6_7 rfl rfl rfl rfl ?_
                          refine ei_iln hb dX6_count_186 (pc' := 187) rfl rfl ?_
                          refine ei_b hb dX6_count_187 (v := (11 : Int32)) (pc' := 189) (by decide) rfl ?_
                          refine ei_sub hb dX6_count_189 (pc' := 190) rfl ?_
                          by_cases c36 : qz_xi (a0 - (11 : Int32)) 283 = true
                          · rw [if_pos c36] at h
                            refine ei_ia hb dX6_count_190 (pc' := 191) (x := (S1.1 ((17, 0, 0) : qz_N) ((a0 - (11 : Int32))).toNatClampNeg)) rfl c36 rfl rfl ?_
                            refine ei_go hb dX6_count_191 (pc' := 196) (by decide) ?_
                            have h := Option.some.inj h
                            subst h
                            exact ei_reti hb dX6_count_196 rfl
                          · rw [if_neg c36] at h
                            cases h
                      · rw [if_neg c34] at h
                        refine ei_ifF hb dX6_count_154 (pc' := 157) (t := 171) (decide_eq_false c34) (by decide) rfl ?_
                        refine ei_aln hb dX6_count_157 (pc' := 158) rfl rfl ?_
                        refine ei_gr hb dX6_count_158 (pc' := 161) (x := some ((17, 0, 0) : qz_N)) hcn qz_f_6_7 rfl rfl rfl rfl ?_
                        refine ei_b hb dX6_count_161 (v := (7 : Int32)) (pc' := 163) (by decide) rfl ?_
                        refine ei_iln hb dX6_count_163 (pc' := 164) rfl rfl ?_
                        refine ei_add hb dX6_count_164 (pc' := 165) rfl ?_
                        refine ei_c hb dX6_count_165 (v := (5 : Int32)) (pc' := 166) (by decide) rfl ?_
                        refine ei_sub hb dX6_count_166 (pc' := 167) rfl ?_
                        by_cases c37 : qz_xi (((7 : Int32) + a0) - (5 : Int32)) 283 = true
                        · rw [if_pos c37] at h
                          refine ei_ia hb dX6_count_167 (pc' := 168) (x := (S1.1 ((17, 0, 0) : qz_N) ((((7 : Int32) + a0) - (5 : Int32))).toNatClampNeg)) rfl c37 rfl rfl ?_
                          refine ei_go hb dX6_count_168 (pc' := 196) (by decide) ?_
                          have h := Option.some.inj h
                          subst h
                          exact ei_reti hb dX6_count_196 rfl
                        · rw [if_neg c37] at h
                          cases h
                    · rw [if_neg c33] at h
                      by_cases c38 : a0 = 10
                      · rw [if_pos c38] at h
                        refine ei_tbI hb dX6_count_6 (pc' := 147) (off := 141) (by rw [c38]; decide) (by rw [c38]; rfl) (by decide) ?_
                        refine ei_iln hb dX6_count_147 (pc' := 148) rfl rfl ?_
                        refine ei_c hb dX6_count_148 (v := (5 : Int32)) (pc' := 149) (by decide) rfl ?_
                        refine ei_b hb dX6_count_149 (v := (10 : Int32)) (pc' := 151) (by decide) rfl ?_
                        refine ei_cs hb dX6_count_151 (pc' := 154) (M1 := (qz_mk S1.1 S1.2)) (as := [.inl a0, .inl (5 : Int32), .inl (10 : Int32)]) (rest := []) (st' := [.inl (gM_in S1.1 a0 (5 : Int32) (10 : Int32))]) hcn qz_c_6_36 rfl qz_k_84 (qz_q_141_84) (Nat.le_of_ble_eq_true rfl) (Nat.le_of_ble_eq_true rfl) rfl rfl (vM_in S1.1 S1.2 a0 (5 : Int32) (10 : Int32)) rfl rfl ?_
                        by_cases c39 : (gM_in S1.1 a0 (5 : Int32) (10 : Int32)) = 0
                        · rw [if_pos c39] at h
                          refine ei_ifT hb dX6_count_154 (pc' := 171) (decide_eq_true c39) (by decide) ?_
                          refine ei_iln hb dX6_count_171 (pc' := 172) rfl rfl ?_
                          refine ei_b hb dX6_count_172 (v := (11 : Int32)) (pc' := 174) (by decide) rfl ?_
                          refine ei_b hb dX6_count_174 (v := (14 : Int32)) (pc' := 176) (by decide) rfl ?_
                          refine ei_cs hb dX6_count_176 (pc' := 179) (M1 := (qz_mk S1.1 S1.2)) (as := [.inl a0, .inl (11 : Int32), .inl (14 : Int32)]) (rest := []) (st' := [.inl (gM_in S1.1 a0 (11 : Int32) (14 : Int32))]) hcn qz_c_6_36 rfl qz_k_84 (qz_q_141_84) (Nat.le_of_ble_eq_true rfl) (Nat.le_of_ble_eq_true rfl) rfl rfl (vM_in S1.1 S1.2 a0 (11 : Int32) (14 : Int32)) rfl rfl ?_
                          by_cases c40 : (gM_in S1.1 a0 (11 : Int32) (14 : Int32)) = 0
                          · rw [if_pos c40] at h
                            refine ei_ifT hb dX6_count_179 (pc' := 194) (decide_eq_true c40) (by decide) ?_
                            refine ei_b hb dX6_count_194 (v := (-2 : Int32)) (pc' := 196) (by decide) rfl ?_
                            have h := Option.some.inj h
                            subst h
                            exact ei_reti hb dX6_count_196 rfl
                          · rw [if_neg c40] at h
                            refine ei_ifF hb dX6_count_179 (pc' := 182) (t := 194) (decide_eq_false c40) (by decide) rfl ?_
                            refine ei_aln hb dX6_count_182 (pc' := 183) rfl rfl ?_
                            refine ei_gr hb dX6_count_183 (pc' := 186) (x := some ((17, 0, 0) : qz_N)) hcn qz_f_6_7 rfl rfl rfl rfl ?_
                            refine ei_iln hb dX6_count_186 (pc' := 187) rfl rfl ?_
                            refine ei_b hb dX6_count_187 (v := (11 : Int32)) (pc' := 189) (by decide) rfl ?_
                            refine ei_sub hb dX6_count_189 (pc' := 190) rfl ?_
                            by_cases c41 : qz_xi (a0 - (11 : Int32)) 283 = true
                            · rw [if_pos c41] at h
                              refine ei_ia hb dX6_count_190 (pc' := 191) (x := (S1.1 ((17, 0, 0) : qz_N) ((a0 - (11 : Int32))).toNatClampNeg)) rfl c41 rfl rfl ?_
                              refine ei_go hb dX6_count_191 (pc' := 196) (by decide) ?_
                              have h := Option.some.inj h
                              subst h
                              exact ei_reti hb dX6_count_196 rfl
                            · rw [if_neg c41] at h
                              cases h
                        · rw [if_neg c39] at h
                          refine ei_ifF hb dX6_count_154 (pc' := 157) (t := 171) (decide_eq_false c39) (by decide) rfl ?_
                          refine ei_aln hb dX6_count_157 (pc' := 158) rfl rfl ?_
                          refine ei_gr hb dX6_count_158 (pc' := 161) (x := some ((17, 0, 0) : qz_N)) hcn qz_f_6_7 rfl rfl rfl rfl ?_
                          refine ei_b hb dX6_count_161 (v := (7 : Int32)) (pc' := 163) (by decide) rfl ?_
                          refine ei_iln hb dX6_count_163 (pc' := 164) rfl rfl ?_
                          refine ei_add hb dX6_count_164 (pc' := 165) rfl ?_
                          refine ei_c hb dX6_count_165 (v := (5 : Int32)) (pc' := 166) (by decide) rfl ?_
                          refine ei_sub hb dX6_count_166 (pc' := 167) rfl ?_
                          by_cases c42 : qz_xi (((7 : Int32) + a0) - (5 : Int32)) 283 = true
                          · rw [if_pos c42] at h
                            refine ei_ia hb dX6_count_167 (pc' := 168) (x := (S1.1 ((17, 0, 0) : qz_N) ((((7 : Int32) + a0) - (5 : Int32))).toNatClampNeg)) rfl c42 rfl rfl ?_
                            refine ei_go hb dX6_count_168 (pc' := 196) (by decide) ?_
                            have h := Option.some.inj h
                            subst h
                            exact ei_reti hb dX6_count_196 rfl
                          · rw [if_neg c42] at h
                            cases h
                      · rw [if_neg c38] at h
                        by_cases c43 : a0 = 11
                        · rw [if_pos c43] at h
                          refine ei_tbI hb dX6_count_6 (pc' := 147) (off := 141) (by rw [c43]; decide) (by rw [c43]; rfl) (by decide) ?_
                          refine ei_iln hb dX6_count_147 (pc' := 148) rfl rfl ?_
                          refine ei_c hb dX6_count_148 (v := (5 : Int32)) (pc' := 149) (by decide) rfl ?_
                          refine ei_b hb dX6_count_149 (v := (10 : Int32)) (pc' := 151) (by decide) rfl ?_
                          refine ei_cs hb dX6_count_151 (pc' := 154) (M1 := (qz_mk S1.1 S1.2)) (as := [.inl a0, .inl (5 : Int32), .inl (10 : Int32)]) (rest := []) (st' := [.inl (gM_in S1.1 a0 (5 : Int32) (10 : Int32))]) hcn qz_c_6_36 rfl qz_k_84 (qz_q_141_84) (Nat.le_of_ble_eq_true rfl) (Nat.le_of_ble_eq_true rfl) rfl rfl (vM_in S1.1 S1.2 a0 (5 : Int32) (10 : Int32)) rfl rfl ?_
                          by_cases c44 : (gM_in S1.1 a0 (5 : Int32) (10 : Int32)) = 0
                          · rw [if_pos c44] at h
                            refine ei_ifT hb dX6_count_154 (pc' := 171) (decide_eq_true c44) (by decide) ?_
                            refine ei_iln hb dX6_count_171 (pc' := 172) rfl rfl ?_
                            refine ei_b hb dX6_count_172 (v := (11 : Int32)) (pc' := 174) (by decide) rfl ?_
                            refine ei_b hb dX6_count_174 (v := (14 : Int32)) (pc' := 176) (by decide) rfl ?_
                            refine ei_cs hb dX6_count_176 (pc' := 179) (M1 := (qz_mk S1.1 S1.2)) (as := [.inl a0, .inl (11 : Int32), .inl (14 : Int32)]) (rest := []) (st' := [.inl (gM_in S1.1 a0 (11 : Int32) (14 : Int32))]) hcn qz_c_6_36 rfl qz_k_84 (qz_q_141_84) (Nat.le_of_ble_eq_true rfl) (Nat.le_of_ble_eq_true rfl) rfl rfl (vM_in S1.1 S1.2 a0 (11 : Int32) (14 : Int32)) rfl rfl ?_
                            by_cases c45 : (gM_in S1.1 a0 (11 : Int32) (14 : Int32)) = 0
                            · rw [if_pos c45] at h
                              refine ei_ifT hb dX6_count_179 (pc' := 194) (decide_eq_true c45) (by decide) ?_
                              refine ei_b hb dX6_count_194 (v := (-2 : Int32)) (pc' := 196) (by decide) rfl ?_
                              have h := Option.some.inj h
                              subst h
                              exact ei_reti hb dX6_count_196 rfl
                            · rw [if_neg c45] at h
                              refine ei_ifF hb dX6_count_179 (pc' := 182) (t := 194) (decide_eq_false c45) (by decide) rfl ?_
                              refine ei_aln hb dX6_count_182 (pc' := 183) rfl rfl ?_
                              refine ei_gr hb dX6_count_183 (pc' := 186) (x := some ((17, 0, 0) : qz_N)) hcn qz_f_6_7 rfl rfl rfl rfl ?_
                              refine ei_iln hb dX6_count_186 (pc' := 187) rfl rfl ?_
                              refine ei_b hb dX6_count_187 (v := (11 : Int32)) (pc' := 189) (by decide) rfl ?_
                              refine ei_sub hb dX6_count_189 (pc' := 190) rfl ?_
                              by_cases c46 : qz_xi (a0 - (11 : Int32)) 283 = true
                              · rw [if_pos c46] at h
                                refine ei_ia hb dX6_count_190 (pc' := 191) (x := (S1.1 ((17, 0, 0) : qz_N) ((a0 - (11 : Int32))).toNatClampNeg)) rfl c46 rfl rfl ?_
                                refine ei_go hb dX6_count_191 (pc' := 196) (by decide) ?_
                                have h := Option.some.inj h
                                subst h
                                exact ei_reti hb dX6_count_196 rfl
                              · rw [if_neg c46] at h
                                cases h
                          · rw [if_neg c44] at h
                            refine ei_ifF hb dX6_count_154 (pc' := 157) (t := 171) (decide_eq_false c44) (by decide) rfl ?_
                            refine ei_aln hb dX6_count_157 (pc' := 158) rfl rfl ?_
                            refine ei_gr hb dX6_count_158 (pc' := 161) (x := some ((17, 0, 0) : qz_N)) hcn qz_f_6_7 rfl rfl rfl rfl ?_
                            refine ei_b hb dX6_count_161 (v := (7 : Int32)) (pc' := 163) (by decide) rfl ?_
                            refine ei_iln hb dX6_count_163 (pc' := 164) rfl rfl ?_
                            refine ei_add hb dX6_count_164 (pc' := 165) rfl ?_
                            refine ei_c hb dX6_count_165 (v := (5 : Int32)) (pc' := 166) (by decide) rfl ?_
                            refine ei_sub hb dX6_count_166 (pc' := 167) rfl ?_
                            by_cases c47 : qz_xi (((7 : Int32) + a0) - (5 : Int32)) 283 = true
                            · rw [if_pos c47] at h
                              refine ei_ia hb dX6_count_167 (pc' := 168) (x := (S1.1 ((17, 0, 0) : qz_N) ((((7 : Int32) + a0) - (5 : Int32))).toNatClampNeg)) rfl c47 rfl rfl ?_
                              refine ei_go hb dX6_count_168 (pc' := 196) (by decide) ?_
                              have h := Option.some.inj h
                              subst h
                              exact ei_reti hb dX6_count_196 rfl
                            · rw [if_neg c47] at h
                              cases h
                        · rw [if_neg c43] at h
                          by_cases c48 : a0 = 12
                          · rw [if_pos c48] at h
                            refine ei_tbI hb dX6_count_6 (pc' := 147) (off := 141) (by rw [c48]; decide) (by rw [c48]; rfl) (by decide) ?_
                            refine ei_iln hb dX6_count_147 (pc' := 148) rfl rfl ?_
                            refine ei_c hb dX6_count_148 (v := (5 : Int32)) (pc' := 149) (by decide) rfl ?_
                            refine ei_b hb dX6_count_149 (v := (10 : Int32)) (pc' := 151) (by decide) rfl ?_
                            refine ei_cs hb dX6_count_151 (pc' := 154) (M1 := (qz_mk S1.1 S1.2)) (as := [.inl a0, .inl (5 : Int32), .inl (10 : Int32)]) (rest := []) (st' := [.inl (gM_in S1.1 a0 (5 : Int32) (10 : Int32))]) hcn qz_c_6_36 rfl qz_k_84 (qz_q_141_84) (Nat.le_of_ble_eq_true rfl) (Nat.le_of_ble_eq_true rfl) rfl rfl (vM_in S1.1 S1.2 a0 (5 : Int32) (10 : Int32)) rfl rfl ?_
                            by_cases c49 : (gM_in S1.1 a0 (5 : Int32) (10 : Int32)) = 0
                            · rw [if_pos c49] at h
                              refine ei_ifT hb dX6_count_154 (pc' := 171) (decide_eq_true c49) (by decide) ?_
                              refine ei_iln hb dX6_count_171 (pc' := 172) rfl rfl ?_
                              refine ei_b hb dX6_count_172 (v := (11 : Int32)) (pc' := 174) (by decide) rfl ?_
                              refine ei_b hb dX6_count_174 (v := (14 : Int32)) (pc' := 176) (by decide) rfl ?_
                              refine ei_cs hb dX6_count_176 (pc' := 179) (M1 := (qz_mk S1.1 S1.2)) (as := [.inl a0, .inl (11 : Int32), .inl (14 : Int32)]) (rest := []) (st' := [.inl (gM_in S1.1 a0 (11 : Int32) (14 : Int32))]) hcn qz_c_6_36 rfl qz_k_84 (qz_q_141_84) (Nat.le_of_ble_eq_true rfl) (Nat.le_of_ble_eq_true rfl) rfl rfl (vM_in S1.1 S1.2 a0 (11 : Int32) (14 : Int32)) rfl rfl ?_
                              by_cases c50 : (gM_in S1.1 a0 (11 : Int32) (14 : Int32)) = 0
                              · rw [if_pos c50] at h
                                refine ei_ifT hb dX6_count_179 (pc' := 194) (decide_eq_true c50) (by decide) ?_
                                refine ei_b hb dX6_count_194 (v := (-2 : Int32)) (pc' := 196) (by decide) rfl ?_
                                have h := Option.some.inj h
                                subst h
                                exact ei_reti hb dX6_count_196 rfl
                              · rw [if_neg c50] at h
                                refine ei_ifF hb dX6_count_179 (pc' := 182) (t := 194) (decide_eq_false c50) (by decide) rfl ?_
                                refine ei_aln hb dX6_count_182 (pc' := 183) rfl rfl ?_
                                refine ei_gr hb dX6_count_183 (pc' := 186) (x := some ((17, 0, 0) : qz_N)) hcn qz_f_6_7 rfl rfl rfl rfl ?_
                                refine ei_iln hb dX6_count_186 (pc' := 187) rfl rfl ?_
                                refine ei_b hb dX6_count_187 (v := (11 : Int32)) (pc' := 189) (by decide) rfl ?_
                                refine ei_sub hb dX6_count_189 (pc' := 190) rfl ?_
                                by_cases c51 : qz_xi (a0 - (11 : Int32)) 283 = true
                                · rw [if_pos c51] at h
                                  refine ei_ia hb dX6_count_190 (pc' := 191) (x := (S1.1 ((17, 0, 0) : qz_N) ((a0 - (11 : Int32))).toNatClampNeg)) rfl c51 rfl rfl ?_
                                  refine ei_go hb dX6_count_191 (pc' := 196) (by decide) ?_
                                  have h := Option.some.inj h
                                  subst h
                                  exact ei_reti hb dX6_count_196 rfl
                                · rw [if_neg c51] at h
                                  cases h
                            · rw [if_neg c49] at h
                              refine ei_ifF hb dX6_count_154 (pc' := 157) (t := 171) (decide_eq_false c49) (by decide) rfl ?_
                              refine ei_aln hb dX6_count_157 (pc' := 158) rfl rfl ?_
                              refine ei_gr hb dX6_count_158 (pc' := 161) (x := some ((17, 0, 0) : qz_N)) hcn qz_f_6_7 rfl rfl rfl rfl ?_
                              refine ei_b hb dX6_count_161 (v := (7 : Int32)) (pc' := 163) (by decide) rfl ?_
                              refine ei_iln hb dX6_count_163 (pc' := 164) rfl rfl ?_
                              refine ei_add hb dX6_count_164 (pc' := 165) rfl ?_
                              refine ei_c hb dX6_count_165 (v := (5 : Int32)) (pc' := 166) (by decide) rfl ?_
                              refine ei_sub hb dX6_count_166 (pc' := 167) rfl ?_
                              by_cases c52 : qz_xi (((7 : Int32) + a0) - (5 : Int32)) 283 = true
                              · rw [if_pos c52] at h
                                refine ei_ia hb dX6_count_167 (pc' := 168) (x := (S1.1 ((17, 0, 0) : qz_N) ((((7 : Int32) + a0) - (5 : Int32))).toNatClampNeg)) rfl c52 rfl rfl ?_
                                refine ei_go hb dX6_count_168 (pc' := 196) (by decide) ?_
                                have h := Option.some.inj h
                                subst h
                                exact ei_reti hb dX6_count_196 rfl
                              · rw [if_neg c52] at h
                                cases h
                          · rw [if_neg c48] at h
                            by_cases c53 : a0 = 13
                            · rw [if_pos c53] at h
                              refine ei_tbI hb dX6_count_6 (pc' := 147) (off := 141) (by rw [c53]; decide) (by rw [c53]; rfl) (by decide) ?_
                              refine ei_iln hb dX6_count_147 (pc' := 148) rfl rfl ?_
                              refine ei_c hb dX6_count_148 (v := (5 : Int32)) (pc' := 149) (by decide) rfl ?_
                              refine ei_b hb dX6_count_149 (v := (10 : Int32)) (pc' := 151) (by decide) rfl ?_
                              refine ei_cs hb dX6_count_151 (pc' := 154) (M1 := (qz_mk S1.1 S1.2)) (as := [.inl a0, .inl (5 : Int32), .inl (10 : Int32)]) (rest := []) (st' := [.inl (gM_in S1.1 a0 (5 : Int32) (10 : Int32))]) hcn qz_c_6_36 rfl qz_k_84 (qz_q_141_84) (Nat.le_of_ble_eq_true rfl) (Nat.le_of_ble_eq_true rfl) rfl rfl (vM_in S1.1 S1.2 a0 (5 : Int32) (10 : Int32)) rfl rfl ?_
                              by_cases c54 : (gM_in S1.1 a0 (5 : Int32) (10 : Int32)) = 0
                              · rw [if_pos c54] at h
                                refine ei_ifT hb dX6_count_154 (pc' := 171) (decide_eq_true c54) (by decide) ?_
                                refine ei_iln hb dX6_count_171 (pc' := 172) rfl rfl ?_
                                refine ei_b hb dX6_count_172 (v := (11 : Int32)) (pc' := 174) (by decide) rfl ?_
                                refine ei_b hb dX6_count_174 (v := (14 : Int32)) (pc' := 176) (by decide) rfl ?_
                                refine ei_cs hb dX6_count_176 (pc' := 179) (M1 := (qz_mk S1.1 S1.2)) (as := [.inl a0, .inl (11 : Int32), .inl (14 : Int32)]) (rest := []) (st' := [.inl (gM_in S1.1 a0 (11 : Int32) (14 : Int32))]) hcn qz_c_6_36 rfl qz_k_84 (qz_q_141_84) (Nat.le_of_ble_eq_true rfl) (Nat.le_of_ble_eq_true rfl) rfl rfl (vM_in S1.1 S1.2 a0 (11 : Int32) (14 : Int32)) rfl rfl ?_
                                by_cases c55 : (gM_in S1.1 a0 (11 : Int32) (14 : Int32)) = 0
                                · rw [if_pos c55] at h
                                  refine ei_ifT hb dX6_count_179 (pc' := 194) (decide_eq_true c55) (by decide) ?_
                                  refine ei_b hb dX6_count_194 (v := (-2 : Int32)) (pc' := 196) (by decide) rfl ?_
                                  have h := Option.some.inj h
                                  subst h
                                  exact ei_reti hb dX6_count_196 rfl
                                · rw [if_neg c55] at h
                                  refine ei_ifF hb dX6_count_179 (pc' := 182) (t := 194) (decide_eq_false c55) (by decide) rfl ?_
                                  refine ei_aln hb dX6_count_182 (pc' := 183) rfl rfl ?_
                                  refine ei_gr hb dX6_count_183 (pc' := 186) (x := some ((17, 0, 0) : qz_N)) hcn qz_f_6_7 rfl rfl rfl rfl ?_
                                  refine ei_iln hb dX6_count_186 (pc' := 187) rfl rfl ?_
                                  refine ei_b hb dX6_count_187 (v := (11 : Int32)) (pc' := 189) (by decide) rfl ?_
                                  refine ei_sub hb dX6_count_189 (pc' := 190) rfl ?_
                                  by_cases c56 : qz_xi (a0 - (11 : Int32)) 283 = true
                                  · rw [if_pos c56] at h
                                    refine ei_ia hb dX6_count_190 (pc' := 191) (x := (S1.1 ((17, 0, 0) : qz_N) ((a0 - (11 : Int32))).toNatClampNeg)) rfl c56 rfl rfl ?_
                                    refine ei_go hb dX6_count_191 (pc' := 196) (by decide) ?_
                                    have h := Option.some.inj h
                                    subst h
                                    exact ei_reti hb dX6_count_196 rfl
                                  · rw [if_neg c56] at h
                                    cases h
                              · rw [if_neg c54] at h
                                refine ei_ifF hb dX6_count_154 (pc' := 157) (t := 171) (decide_eq_false c54) (by decide) rfl ?_
                                refine ei_aln hb dX6_count_157 (pc' := 158) rfl rfl ?_
                                refine ei_gr hb dX6_count_158 (pc' := 161) (x := some ((17, 0, 0) : qz_N)) hcn qz_f_6_7 rfl rfl rfl rfl ?_
                                refine ei_b hb dX6_count_161 (v := (7 : Int32)) (pc' := 163) (by decide) rfl ?_
                                refine ei_iln hb dX6_count_163 (pc' := 164) rfl rfl ?_
                                refine ei_add hb dX6_count_164 (pc' := 165) rfl ?_
                                refine ei_c hb dX6_count_165 (v := (5 : Int32)) (pc' := 166) (by decide) rfl ?_
                                refine ei_sub hb dX6_count_166 (pc' := 167) rfl ?_
                                by_cases c57 : qz_xi (((7 : Int32) + a0) - (5 : Int32)) 283 = true
                                · rw [if_pos c57] at h
                                  refine ei_ia hb dX6_count_167 (pc' := 168) (x := (S1.1 ((17, 0, 0) : qz_N) ((((7 : Int32) + a0) - (5 : Int32))).toNatClampNeg)) rfl c57 rfl rfl ?_
                                  refine ei_go hb dX6_count_168 (pc' := 196) (by decide) ?_
                                  have h := Option.some.inj h
                                  subst h
                                  exact ei_reti hb dX6_count_196 rfl
                                · rw [if_neg c57] at h
                                  cases h
                            · rw [if_neg c53] at h
                              by_cases c58 : a0 = 14
                              · rw [if_pos c58] at h
                                refine ei_tbI hb dX6_count_6 (pc' := 147) (off := 141) (by rw [c58]; decide) (by rw [c58]; rfl) (by decide) ?_
                                refine ei_iln hb dX6_count_147 (pc' := 148) rfl rfl ?_
                                refine ei_c hb dX6_count_148 (v := (5 : Int32)) (pc' := 149) (by decide) rfl ?_
                                refine ei_b hb dX6_count_149 (v := (10 : Int32)) (pc' := 151) (by decide) rfl ?_
                                refine ei_cs hb dX6_count_151 (pc' := 154) (M1 := (qz_mk S1.1 S1.2)) (as := [.inl a0, .inl (5 : Int32), .inl (10 : Int32)]) (rest := []) (st' := [.inl (gM_in S1.1 a0 (5 : Int32) (10 : Int32))]) hcn qz_c_6_36 rfl qz_k_84 (qz_q_141_84) (Nat.le_of_ble_eq_true rfl) (Nat.le_of_ble_eq_true rfl) rfl rfl (vM_in S1.1 S1.2 a0 (5 : Int32) (10 : Int32)) rfl rfl ?_
                                by_cases c59 : (gM_in S1.1 a0 (5 : Int32) (10 : Int32)) = 0
                                · rw [if_pos c59] at h
                                  refine ei_ifT hb dX6_count_154 (pc' := 171) (decide_eq_true c59) (by decide) ?_
                                  refine ei_iln hb dX6_count_171 (pc' := 172) rfl rfl ?_
                                  refine ei_b hb dX6_count_172 (v := (11 : Int32)) (pc' := 174) (by decide) rfl ?_
                                  refine ei_b hb dX6_count_174 (v := (14 : Int32)) (pc' := 176) (by decide) rfl ?_
                                  refine ei_cs hb dX6_count_176 (pc' := 179) (M1 := (qz_mk S1.1 S1.2)) (as := [.inl a0, .inl (11 : Int32), .inl (14 : Int32)]) (rest := []) (st' := [.inl (gM_in S1.1 a0 (11 : Int32) (14 : Int32))]) hcn qz_c_6_36 rfl qz_k_84 (qz_q_141_84) (Nat.le_of_ble_eq_true rfl) (Nat.le_of_ble_eq_true rfl) rfl rfl (vM_in S1.1 S1.2 a0 (11 : Int32) (14 : Int32)) rfl rfl ?_
                                  by_cases c60 : (gM_in S1.1 a0 (11 : Int32) (14 : Int32)) = 0
                                  · rw [if_pos c60] at h
                                    refine ei_ifT hb dX6_count_179 (pc' := 194) (decide_eq_true c60) (by decide) ?_
                                    refine ei_b hb dX6_count_194 (v := (-2 : Int32)) (pc' := 196) (by decide) rfl ?_
                                    have h := Option.some.inj h
                                    subst h
                                    exact ei_reti hb dX6_count_196 rfl
                                  · rw [if_neg c60] at h
                                    refine ei_ifF hb dX6_count_179 (pc' := 182) (t := 194) (decide_eq_false c60) (by decide) rfl ?_
                                    refine ei_aln hb dX6_count_182 (pc' := 183) rfl rfl ?_
                                    refine ei_gr hb dX6_count_183 (pc' := 186) (x := some ((17, 0, 0) : qz_N)) hcn qz_f_6_7 rfl rfl rfl rfl ?_
                                    refine ei_iln hb dX6_count_186 (pc' := 187) rfl rfl ?_
                                    refine ei_b hb dX6_count_187 (v := (11 : Int32)) (pc' := 189) (by decide) rfl ?_
                                    refine ei_sub hb dX6_count_189 (pc' := 190) rfl ?_
                                    by_cases c61 : qz_xi (a0 - (11 : Int32)) 283 = true
                                    · rw [if_pos c61] at h
                                      refine ei_ia hb dX6_count_190 (pc' := 191) (x := (S1.1 ((17, 0, 0) : qz_N) ((a0 - (11 : Int32))).toNatClampNeg)) rfl c61 rfl rfl ?_
                                      refine ei_go hb dX6_count_191 (pc' := 196) (by decide) ?_
                                      have h := Option.some.inj h
                                      subst h
                                      exact ei_reti hb dX6_count_196 rfl
                                    · rw [if_neg c61] at h
                                      cases h
                                · rw [if_neg c59] at h
                                  refine ei_ifF hb dX6_count_154 (pc' := 157) (t := 171) (decide_eq_false c59) (by decide) rfl ?_
                                  refine ei_aln hb dX6_count_157 (pc' := 158) rfl rfl ?_
                                  refine ei_gr hb dX6_count_158 (pc' := 161) (x := some ((17, 0, 0) : qz_N)) hcn qz_f_6_7 rfl rfl rfl rfl ?_
                                  refine ei_b hb dX6_count_161 (v := (7 : Int32)) (pc' := 163) (by decide) rfl ?_
                                  refine ei_iln hb dX6_count_163 (pc' := 164) rfl rfl ?_
                                  refine ei_add hb dX6_count_164 (pc' := 165) rfl ?_
                                  refine ei_c hb dX6_count_165 (v := (5 : Int32)) (pc' := 166) (by decide) rfl ?_
                                  refine ei_sub hb dX6_count_166 (pc' := 167) rfl ?_
                                  by_cases c62 : qz_xi (((7 : Int32) + a0) - (5 : Int32)) 283 = true
                                  · rw [if_pos c62] at h
                                    refine ei_ia hb dX6_count_167 (pc' := 168) (x := (S1.1 ((17, 0, 0) : qz_N) ((((7 : Int32) + a0) - (5 : Int32))).toNatClampNeg)) rfl c62 rfl rfl ?_
                                    refine ei_go hb dX6_count_168 (pc' := 196) (by decide) ?_
                                    have h := Option.some.inj h
                                    subst h
                                    exact ei_reti hb dX6_count_196 rfl
                                  · rw [if_neg c62] at h
                                    cases h
                              · rw [if_neg c58] at h
                                by_cases c63 : a0 = 15
                                · rw [if_pos c63] at h
                                  refine ei_tbI hb dX6_count_6 (pc' := 130) (off := 124) (by rw [c63]; decide) (by rw [c63]; rfl) (by decide) ?_
                                  refine ei_aln hb dX6_count_130 (pc' := 131) rfl rfl ?_
                                  refine ei_gr hb dX6_count_131 (pc' := 134) (x := some ((17, 0, 0) : qz_N)) hcn qz_f_6_7 rfl rfl rfl rfl ?_
                                  refine ei_c hb dX6_count_134 (v := (5 : Int32)) (pc' := 135) (by decide) rfl ?_
                                  refine ei_ia hb dX6_count_135 (pc' := 136) (x := (S1.1 ((17, 0, 0) : qz_N) 5)) rfl (show qz_xi (5 : Int32) 283 = true by decide) rfl rfl ?_
                                  have h := Option.some.inj h
                                  subst h
                                  exact ei_reti hb dX6_count_136 rfl
                                · rw [if_neg c63] at h
                                  by_cases c64 : a0 = 16
                                  · rw [if_pos c64] at h
                                    refine ei_tbI hb dX6_count_6 (pc' := 137) (off := 131) (by rw [c64]; decide) (by rw [c64]; rfl) (by decide) ?_
                                    refine ei_aln hb dX6_count_137 (pc' := 138) rfl rfl ?_
                                    refine ei_gi hb dX6_count_138 (pc' := 141) (x := (S1.1 ((6, 0, 0) : qz_N) 3)) hcn qz_f_6_44 rfl rfl rfl rfl ?_
                                    have h := Option.some.inj h
                                    subst h
                                    exact ei_reti hb dX6_count_141 rfl
                                  · rw [if_neg c64] at h
                                    by_cases c65 : a0 = 17
                                    · rw [if_pos c65] at h
                                      refine ei_tbI hb dX6_count_6 (pc' := 142) (off := 136) (by rw [c65]; decide) (by rw [c65]; rfl) (by decide) ?_
                                      refine ei_aln hb dX6_count_142 (pc' := 143) rfl rfl ?_
                                      refine ei_gi hb dX6_count_143 (pc' := 146) (x := (S1.1 ((6, 0, 0) : qz_N) 7)) hcn qz_f_6_152 rfl rfl rfl rfl ?_
                                      have h := Option.some.inj h
                                      subst h
                                      exact ei_reti hb dX6_count_146 rfl
                                    · rw [if_neg c65] at h
                                      have tc2 := lv_neT c2 (show (0 : Int32).toInt = 0 by decide)
                                      have tc3 := lv_neT c3 (show (1 : Int32).toInt = 1 by decide)
                                      have tc4 := lv_neT c4 (show (2 : Int32).toInt = 2 by decide)
                                      have tc7 := lv_neT c7 (show (3 : Int32).toInt = 3 by decide)
                                      have tc10 := lv_neT c10 (show (4 : Int32).toInt = 4 by decide)
                                      have tc13 := lv_neT c13 (show (5 : Int32).toInt = 5 by decide)
                                      have tc18 := lv_neT c18 (show (6 : Int32).toInt = 6 by decide)
                                      have tc23 := lv_neT c23 (show (7 : Int32).toInt = 7 by decide)
                                      have tc28 := lv_neT c28 (show (8 : Int32).toInt = 8 by decide)
                                      have tc33 := lv_neT c33 (show (9 : Int32).toInt = 9 by decide)
                                      have tc38 := lv_neT c38 (show (10 : Int32).toInt = 10 by decide)
                                      have tc43 := lv_neT c43 (show (11 : Int32).toInt = 11 by decide)
                                      have tc48 := lv_neT c48 (show (12 : Int32).toInt = 12 by decide)
                                      have tc53 := lv_neT c53 (show (13 : Int32).toInt = 13 by decide)
                                      have tc58 := lv_neT c58 (show (14 : Int32).toInt = 14 by decide)
                                      have tc63 := lv_neT c63 (show (15 : Int32).toInt = 15 by decide)
                                      have tc64 := lv_neT c64 (show (16 : Int32).toInt = 16 by decide)
                                      have tc65 := lv_neT c65 (show (17 : Int32).toInt = 17 by decide)
                                      refine ei_tbO hb dX6_count_6 (pc' := 147) (by omega) (by decide) ?_
                                      refine ei_iln hb dX6_count_147 (pc' := 148) rfl rfl ?_
                                      refine ei_c hb dX6_count_148 (v := (5 : Int32)) (pc' := 149) (by decide) rfl ?_
                                      refine ei_b hb dX6_count_149 (v := (10 : Int32)) (pc' := 151) (by decide) rfl ?_
                                      refine ei_cs hb dX6_count_151 (pc' := 154) (M1 := (qz_mk S1.1 S1.2)) (as := [.inl a0, .inl (5 : Int32), .inl (10 : Int32)]) (rest := []) (st' := [.inl (gM_in S1.1 a0 (5 : Int32) (10 : Int32))]) hcn qz_c_6_36 rfl qz_k_84 (qz_q_141_84) (Nat.le_of_ble_eq_true rfl) (Nat.le_of_ble_eq_true rfl) rfl rfl (vM_in S1.1 S1.2 a0 (5 : Int32) (10 : Int32)) rfl rfl ?_
                                      by_cases c66 : (gM_in S1.1 a0 (5 : Int32) (10 : Int32)) = 0
                                      · rw [if_pos c66] at h
                                        refine ei_ifT hb dX6_count_154 (pc' := 171) (decide_eq_true c66) (by decide) ?_
                                        refine ei_iln hb dX6_count_171 (pc' := 172) rfl rfl ?_
                                        refine ei_b hb dX6_count_172 (v := (11 : Int32)) (pc' := 174) (by decide) rfl ?_
                                        refine ei_b hb dX6_count_174 (v := (14 : Int32)) (pc' := 176) (by decide) rfl ?_
                                        refine ei_cs hb dX6_count_176 (pc' := 179) (M1 := (qz_mk S1.1 S1.2)) (as := [.inl a0, .inl (11 : Int32), .inl (14 : Int32)]) (rest := []) (st' := [.inl (gM_in S1.1 a0 (11 : Int32) (14 : Int32))]) hcn qz_c_6_36 rfl qz_k_84 (qz_q_141_84) (Nat.le_of_ble_eq_true rfl) (Nat.le_of_ble_eq_true rfl) rfl rfl (vM_in S1.1 S1.2 a0 (11 : Int32) (14 : Int32)) rfl rfl ?_
                                        by_cases c67 : (gM_in S1.1 a0 (11 : Int32) (14 : Int32)) = 0
                                        · rw [if_pos c67] at h
                                          refine ei_ifT hb dX6_count_179 (pc' := 194) (decide_eq_true c67) (by decide) ?_
                                          refine ei_b hb dX6_count_194 (v := (-2 : Int32)) (pc' := 196) (by decide) rfl ?_
                                          have h := Option.some.inj h
                                          subst h
                                          exact ei_reti hb dX6_count_196 rfl
                                        · rw [if_neg c67] at h
                                          refine ei_ifF hb dX6_count_179 (pc' := 182) (t := 194) (decide_eq_false c67) (by decide) rfl ?_
                                          refine ei_aln hb dX6_count_182 (pc' := 183) rfl rfl ?_
                                          refine ei_gr hb dX6_count_183 (pc' := 186) (x := some ((17, 0, 0) : qz_N)) hcn qz_f_6_7 rfl rfl rfl rfl ?_
                                          refine ei_iln hb dX6_count_186 (pc' := 187) rfl rfl ?_
                                          refine ei_b hb dX6_count_187 (v := (11 : Int32)) (pc' := 189) (by decide) rfl ?_
                                          refine ei_sub hb dX6_count_189 (pc' := 190) rfl ?_
                                          by_cases c68 : qz_xi (a0 - (11 : Int32)) 283 = true
                                          · rw [if_pos c68] at h
                                            refine ei_ia hb dX6_count_190 (pc' := 191) (x := (S1.1 ((17, 0, 0) : qz_N) ((a0 - (11 : Int32))).toNatClampNeg)) rfl c68 rfl rfl ?_
                                            refine ei_go hb dX6_count_191 (pc' := 196) (by decide) ?_
                                            have h := Option.some.inj h
                                            subst h
                                            exact ei_reti hb dX6_count_196 rfl
                                          · rw [if_neg c68] at h
                                            cases h
                                      · rw [if_neg c66] at h
                                        refine ei_ifF hb dX6_count_154 (pc' := 157) (t := 171) (decide_eq_false c66) (by decide) rfl ?_
                                        refine ei_aln hb dX6_count_157 (pc' := 158) rfl rfl ?_
                                        refine ei_gr hb dX6_count_158 (pc' := 161) (x := some ((17, 0, 0) : qz_N)) hcn qz_f_6_7 rfl rfl rfl rfl ?_
                                        refine ei_b hb dX6_count_161 (v := (7 : Int32)) (pc' := 163) (by decide) rfl ?_
                                        refine ei_iln hb dX6_count_163 (pc' := 164) rfl rfl ?_
                                        refine ei_add hb dX6_count_164 (pc' := 165) rfl ?_
                                        refine ei_c hb dX6_count_165 (v := (5 : Int32)) (pc' := 166) (by decide) rfl ?_
                                        refine ei_sub hb dX6_count_166 (pc' := 167) rfl ?_
                                        by_cases c69 : qz_xi (((7 : Int32) + a0) - (5 : Int32)) 283 = true
                                        · rw [if_pos c69] at h
                                          refine ei_ia hb dX6_count_167 (pc' := 168) (x := (S1.1 ((17, 0, 0) : qz_N) ((((7 : Int32) + a0) - (5 : Int32))).toNatClampNeg)) rfl c69 rfl rfl ?_
                                          refine ei_go hb dX6_count_168 (pc' := 196) (by decide) ?_
                                          have h := Option.some.inj h
                                          subst h
                                          exact ei_reti hb dX6_count_196 rfl
                                        · rw [if_neg c69] at h
                                          cases h
