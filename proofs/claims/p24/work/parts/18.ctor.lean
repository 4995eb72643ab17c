/-! the constructors -/
def qz_p0 (j : Nat) : Nat := 1 + j
def qz_I0 (L : Nat) (xs : Nat → Int32) (n : qz_N) (j : Nat) : Int32 :=
  if n.1 = 0 then (if j = 0 then (if qz_vl n = true then -1 else 0) else 0)
  else if n.1 = 11 then (if j < 20 ∧ n.2.1 < 6 ∧ n.2.2 = 0 then -5 else 0)
  else if n.1 = 12 then (if j < 4 ∧ n.2.1 < 6 ∧ n.2.2 = 0 then qz_g30 j else 0)
  else qz_F0 L xs n j
section QZK
variable {L : Nat} {xs : Nat → Int32} {o o' : Nat} {P Q : qz_N → Nat → Prop} {M : qz_M} {n : qz_N} {j : Nat}
def qz_Cs (L : Nat) (xs : Nat → Int32) (o : Nat) (P Q : qz_N → Nat → Prop) (M : qz_M) : Prop := M.1 = o ∧ (∀ n j, (P n j → M.2.2 n j = qz_fr qz_p0 n j) ∧ (¬ P n j → M.2.2 n j = none)) ∧ (∀ n j, (Q n j → M.2.1 n j = qz_I0 L xs n j) ∧ (¬ Q n j → M.2.1 n j = qz_F0 L xs n j)) ∧ (∀ n j, P n j → qz_ix n < o) ∧ (∀ n j, Q n j → qz_ix n < o ∧ n.1 < 30)
theorem qz_F0d (h : n.1 < 30) : qz_F0 L xs n j = 0 := by
  have h0 : ∀ k w i : Nat, 30 ≤ k → ¬ n = (k, w, i) := fun k w i hk e => by
    rw [e] at h
    simp only at h
    omega
  unfold qz_F0
  rw [if_neg (h0 30 _ _ (by omega)), if_neg (h0 31 _ _ (by omega)), if_neg (h0 32 _ _ (by omega)), if_neg (h0 33 _ _ (by omega)), if_neg (h0 33 _ _ (by omega))]
theorem cs_ui (h : qz_Cs L xs o P Q M) {v : Int32} (hn : qz_ix n < o) (hk : n.1 < 30) (hv : v = qz_I0 L xs n j) : ∃ (M1 : qz_M) (Q' : qz_N → Nat → Prop), qz_ui M n j v = M1 ∧ qz_Cs L xs o P Q' M1 ∧ (∀ n' j', Q n' j' → Q' n' j') ∧ Q' n j := by
  obtain ⟨h1, h2, h3, h4, h5⟩ := h
  refine ⟨_, fun n' j' => Q n' j' ∨ (n' = n ∧ j' = j), rfl, ⟨h1, h2, fun n' j' => ?_, h4, fun n' j' hq => ?_⟩, fun _ _ q => Or.inl q, Or.inr ⟨rfl, rfl⟩⟩
  · by_cases e : n' = n ∧ j' = j
    · have : (qz_ui M n j v).2.1 n' j' = v := if_pos e
      rw [this]
      obtain ⟨rfl, rfl⟩ := e
      exact ⟨fun _ => hv, fun q => absurd (Or.inr ⟨rfl, rfl⟩) q⟩
    · have : (qz_ui M n j v).2.1 n' j' = M.2.1 n' j' := if_neg e
      rw [this]
      exact ⟨fun q => (h3 n' j').1 (q.resolve_right e), fun q => (h3 n' j').2 (fun z => q (Or.inl z))⟩
  · rcases hq with hq | ⟨rfl, rfl⟩
    · exact h5 n' j' hq
    · exact ⟨hn, hk⟩
theorem cs_ur (h : qz_Cs L xs o P Q M) {v : Option qz_N} (hn : qz_ix n < o) (hv : v = qz_fr qz_p0 n j) : ∃ (M1 : qz_M) (P' : qz_N → Nat → Prop), qz_ur M n j v = M1 ∧ qz_Cs L xs o P' Q M1 ∧ (∀ n' j', P n' j' → P' n' j') ∧ P' n j := by
  obtain ⟨h1, h2, h3, h4, h5⟩ := h
  refine ⟨_, fun n' j' => P n' j' ∨ (n' = n ∧ j' = j), rfl, ⟨h1, fun n' j' => ?_, h3, fun n' j' hq => ?_, h5⟩, fun _ _ q => Or.inl q, Or.inr ⟨rfl, rfl⟩⟩
  · by_cases e : n' = n ∧ j' = j
    · have : (qz_ur M n j v).2.2 n' j' = v := if_pos e
      rw [this]
      obtain ⟨rfl, rfl⟩ := e
      exact ⟨fun _ => hv, fun q => absurd (Or.inr ⟨rfl, rfl⟩) q⟩
    · have : (qz_ur M n j v).2.2 n' j' = M.2.2 n' j' := if_neg e
      rw [this]
      exact ⟨fun q => (h2 n' j').1 (q.resolve_right e), fun q => (h2 n' j').2 (fun z => q (Or.inl z))⟩
  · rcases hq with hq | ⟨rfl, rfl⟩
    · exact h4 n' j' hq
    · exact hn
theorem cs_n (h : qz_Cs L xs o P Q M) (hn : qz_nm' o = n) : qz_nm' M.1 = n := by rw [h.1]; exact hn
theorem cs_x (h : qz_Cs L xs o P Q M) (hn : qz_ix n = o) : qz_ix n = M.1 := by rw [h.1]; exact hn
theorem cs_al (h : qz_Cs L xs o P Q M) (hn : qz_nm' o = n) (hx : qz_ix n = o) (hk : n.1 < 30) (ho : o + 1 = o') : ∃ M1 : qz_M, qz_al' M = M1 ∧ qz_Cs L xs o' P Q M1 := by
  have hM := cs_n h hn
  obtain ⟨h1, h2, h3, h4, h5⟩ := h
  refine ⟨_, rfl, by rw [← ho, ← h1]; rfl, fun n' j' => ?_, fun n' j' => ?_, fun n' j' q => by have := h4 n' j' q; omega, fun n' j' q => ⟨by have := (h5 n' j' q).1; omega, (h5 n' j' q).2⟩⟩
  · by_cases e : n' = n
    · have : (qz_al' M).2.2 n' j' = none := if_pos (by rw [hM]; exact e)
      rw [this]
      refine ⟨fun q => ?_, fun _ => rfl⟩
      have := h4 n' j' q
      rw [e] at this
      omega
    · have : (qz_al' M).2.2 n' j' = M.2.2 n' j' := if_neg (by rw [hM]; exact e)
      rw [this]
      exact h2 n' j'
  · by_cases e : n' = n
    · have : (qz_al' M).2.1 n' j' = 0 := if_pos (by rw [hM]; exact e)
      rw [this]
      refine ⟨fun q => ?_, fun _ => (qz_F0d (by rw [e]; exact hk)).symm⟩
      have := (h5 n' j' q).1
      rw [e] at this
      omega
    · have : (qz_al' M).2.1 n' j' = M.2.1 n' j' := if_neg (by rw [hM]; exact e)
      rw [this]
      exact h3 n' j'
theorem cs_r (h : qz_Cs L xs o P Q M) {v : Option qz_N} (hp : P n j) (hx : qz_fr qz_p0 n j = v) : M.2.2 n j = v := by rw [(h.2.1 n j).1 hp]; exact hx
theorem qz_cl_nI {i : Nat} (h : i < 2 ^ 31) : (nI i).toNatClampNeg = i := Int32.toNatClampNeg_ofNat_of_lt h
theorem qz_le_nI {a b : Nat} (ha : a < 2 ^ 31) (hb : b < 2 ^ 31) : nI a ≤ nI b ↔ a ≤ b := Int32.ofNat_le_ofNat ha hb
theorem qz_nneg {i : Nat} (h : i < 2 ^ 31) : ¬ nI i < 0 := by
  have := (qz_le_nI (a := 0) (by decide) h).mpr (Nat.zero_le i)
  exact Int32.not_lt.mpr this
theorem qz_xi_nI {i n : Nat} (h : i < n) (hn : n < 2 ^ 31) : qz_xi (nI i) n = true := by
  unfold qz_xi
  rw [qz_cl_nI (by omega)]
  simp [qz_nneg (show i < 2 ^ 31 by omega), h]
theorem qz_nI1 (i : Nat) : nI i + 1 = nI (i + 1) := (Int32.ofNat_add i 1).symm
theorem cs_g30 (h : qz_Cs L xs o P Q M) {i : Nat} (hi : i < 4) : M.2.1 (30, 0, 0) (nI i).toNatClampNeg = qz_g30 i := by
  rw [qz_cl_nI (by omega), (h.2.2.1 _ _).2 (fun q => absurd (h.2.2.2.2 _ _ q).2 (by decide)), qz_F30]
theorem qz_I0z (h : n.1 < 30) (h0 : ¬ n.1 = 0) (h11 : ¬ n.1 = 11) (h12 : ¬ n.1 = 12) : (0 : Int32) = qz_I0 L xs n j := by
  unfold qz_I0
  rw [if_neg h0, if_neg h11, if_neg h12, qz_F0d h]
theorem qz_I0b {w i : Nat} (hw : w < 6) (hi : i < 30) : (-1 : Int32) = qz_I0 L xs (0, w, i) 0 := by
  simp [qz_I0, qz_vl, hw, hi]
theorem qz_I0c {w i j : Nat} (hj : ¬ j = 0) : (0 : Int32) = qz_I0 L xs (0, w, i) j := by
  simp [qz_I0, hj]
theorem qz_I0p {w j : Nat} (hw : w < 6) (hj : j < 20) : (-5 : Int32) = qz_I0 L xs (11, w, 0) j := by
  simp [qz_I0, hw, hj]
theorem qz_I0s {w j : Nat} (hw : w < 6) (hj : j < 4) : qz_g30 j = qz_I0 L xs (12, w, 0) j := by
  simp [qz_I0, hw, hj]
/-- all is made -/
theorem cs_end (h : qz_Cs L xs 276 P Q M) (hP : ∀ n j, ¬ qz_fr qz_p0 n j = none → P n j) (hQ : ∀ n j, ¬ qz_I0 L xs n j = qz_F0 L xs n j → Q n j) : M = (276, qz_I0 L xs, qz_fr qz_p0) := by
  obtain ⟨h1, h2, h3, -, -⟩ := h
  obtain ⟨o, f, r⟩ := M
  simp only at h1 h2 h3
  subst h1
  congr 1
  congr 1
  · funext n j
    by_cases q : Q n j
    · exact (h3 n j).1 q
    · rw [(h3 n j).2 q]
      by_cases e : qz_I0 L xs n j = qz_F0 L xs n j
      · exact e.symm
      · exact absurd (hQ n j e) q
  · funext n j
    by_cases q : P n j
    · exact (h2 n j).1 q
    · rw [(h2 n j).2 q]
      by_cases e : qz_fr qz_p0 n j = none
      · exact e.symm
      · exact absurd (hP n j e) q
end QZK
theorem qz_ki_0 : qz_cf 0 1 false true 0 := ⟨rfl, rfl, by decide +kernel, rfl⟩
theorem qz_ki_8 : qz_cf 8 1 false true 1 := ⟨rfl, rfl, by decide +kernel, rfl⟩
theorem qz_ki_9 : qz_cf 9 1 false true 2 := ⟨rfl, rfl, by decide +kernel, rfl⟩
theorem qz_ki_13 : qz_cf 13 1 false true 3 := ⟨rfl, rfl, by decide +kernel, rfl⟩
theorem qz_ki_14 : qz_cf 14 1 false true 4 := ⟨rfl, rfl, by decide +kernel, rfl⟩
theorem qz_ki_49 : qz_cf 49 1 false true 5 := ⟨rfl, rfl, by decide +kernel, rfl⟩
theorem qz_qi_14_0 : qz_rr 14 0 := ⟨by decide +kernel, by decide +kernel⟩
theorem qz_qi_8_13 : qz_rr 8 13 := ⟨by decide +kernel, by decide +kernel⟩
theorem qz_qi_9_14 : qz_rr 9 14 := ⟨by decide +kernel, by decide +kernel⟩
theorem qz_qi_49_14 : qz_rr 49 14 := ⟨by decide +kernel, by decide +kernel⟩
theorem qz_qi_49_8 : qz_rr 49 8 := ⟨by decide +kernel, by decide +kernel⟩
theorem qz_qi_49_9 : qz_rr 49 9 := ⟨by decide +kernel, by decide +kernel⟩
theorem qz_qi_75_49 : qz_rr 75 49 := ⟨by decide +kernel, by decide +kernel⟩
theorem qz_nmb {w i : Nat} (hw : w < 6) (hi : i < 30) : qz_nm' (qz_bs w + 5 + i) = (0, w, i) := by
  rw [show qz_bs w + 5 + i = qz_bs w + (5 + i) by omega, qz_npt w _ hw (by omega), qz_pt, if_neg (by omega), if_neg (by omega)]
  congr 2; omega
theorem qz_nmw {i : Nat} (hi : i < 60) : qz_nm' (39 + i) = (3, 0, i) := by
  unfold qz_nm'
  rw [if_neg (by omega), if_neg (by omega), if_neg (by omega), if_neg (by omega), if_neg (by omega), if_pos (by omega)]
  congr 2; omega
theorem qz_nmh {i : Nat} (hi : i < 4) : qz_nm' (101 + 35 * i) = (4, 1 + i, 0) := by
  have := qz_npt (1 + i) 0 (by omega) (by omega)
  unfold qz_bs at this
  rw [if_neg (by omega)] at this
  rw [show 101 + 35 * i = 66 + 35 * (1 + i) + 0 by omega, this]
  rfl
theorem qz_ixh (i : Nat) : qz_ix (4, 1 + i, 0) = 101 + 35 * i := by
  show qz_bs (1 + i) = _
  unfold qz_bs
  rw [if_neg (by omega)]
  omega
section QZL
variable {L : Nat} {xs : Nat → Int32} {o : Nat} {P Q : qz_N → Nat → Prop} {M : qz_M}
/-- P and Q hold a works with all that is in it -/
def qz_Wf (w : Nat) (P Q : qz_N → Nat → Prop) : Prop := (P (4, w, 0) 1 ∧ P (4, w, 0) 2 ∧ P (4, w, 0) 3 ∧ P (4, w, 0) 4) ∧ (∀ k, k < 30 → P (13, w, 0) k) ∧ (∀ k, k < 30 → Q (0, w, k) 0) ∧ (∀ k, k < 20 → Q (11, w, 0) k) ∧ ∀ k, k < 4 → Q (12, w, 0) k
theorem qz_Wf.up {w : Nat} {P Q P' Q' : qz_N → Nat → Prop} (h : qz_Wf w P Q) (lp : ∀ n j, P n j → P' n j) (lq : ∀ n j, Q n j → Q' n j) : qz_Wf w P' Q' := ⟨⟨lp _ _ h.1.1, lp _ _ h.1.2.1, lp _ _ h.1.2.2.1, lp _ _ h.1.2.2.2⟩, fun k hk => lp _ _ (h.2.1 k hk), fun k hk => lq _ _ (h.2.2.1 k hk), fun k hk => lq _ _ (h.2.2.2.1 k hk), fun k hk => lq _ _ (h.2.2.2.2 k hk)⟩
theorem k_B {w i : Nat} (hw : w < 6) (hi : i < 30) (h : qz_Cs L xs o P Q M) (ho : qz_bs w + 5 + i < o) : ∃ (M1 : qz_M) (P1 Q1 : qz_N → Nat → Prop), qz_Cs L xs o P1 Q1 M1 ∧ (∀ n j, P n j → P1 n j) ∧ (∀ n j, Q n j → Q1 n j) ∧ Q1 (0, w, i) 0 ∧ qz_E 0 0 (qz_in0 0 [.inr (.inl (some ((0, w, i) : qz_N)))]) [] M none M1 := by
  have hb : qz_b 0 = cX0_init := rfl
  have hcn : qz_cn 0 = 0 := rfl
  have hml : qz_ml 0 = 1 := rfl
  obtain ⟨M1, Q1, e1, h1, l1, m1⟩ := cs_ui h (n := ((0, w, i) : qz_N)) (j := 0) (v := (-1 : Int32)) (show qz_bs w + 5 + i < o by omega) (show 0 < 30 by decide) (qz_I0b hw hi)
  obtain ⟨M2, Q2, e2, h2, l2, m2⟩ := cs_ui h1 (n := ((0, w, i) : qz_N)) (j := 1) (v := (0 : Int32)) (show qz_bs w + 5 + i < o by omega) (show 0 < 30 by decide) (qz_I0c (by decide))
  obtain ⟨M3, Q3, e3, h3, l3, m3⟩ := cs_ui h2 (n := ((0, w, i) : qz_N)) (j := 2) (v := (0 : Int32)) (show qz_bs w + 5 + i < o by omega) (show 0 < 30 by decide) (qz_I0c (by decide))
  obtain ⟨M4, Q4, e4, h4, l4, m4⟩ := cs_ui h3 (n := ((0, w, i) : qz_N)) (j := 3) (v := (0 : Int32)) (show qz_bs w + 5 + i < o by omega) (show 0 < 30 by decide) (qz_I0c (by decide))
  obtain ⟨M5, Q5, e5, h5, l5, m5⟩ := cs_ui h4 (n := ((0, w, i) : qz_N)) (j := 4) (v := (0 : Int32)) (show qz_bs w + 5 + i < o by omega) (show 0 < 30 by decide) (qz_I0c (by decide))
  obtain ⟨M6, Q6, e6, h6, l6, m6⟩ := cs_ui h5 (n := ((0, w, i) : qz_N)) (j := 5) (v := (0 : Int32)) (show qz_bs w + 5 + i < o by omega) (show 0 < 30 by decide) (qz_I0c (by decide))
  obtain ⟨M7, Q7, e7, h7, l7, m7⟩ := cs_ui h6 (n := ((0, w, i) : qz_N)) (j := 6) (v := (0 : Int32)) (show qz_bs w + 5 + i < o by omega) (show 0 < 30 by decide) (qz_I0c (by decide))
  obtain ⟨M8, Q8, e8, h8, l8, m8⟩ := cs_ui h7 (n := ((0, w, i) : qz_N)) (j := 7) (v := (0 : Int32)) (show qz_bs w + 5 + i < o by omega) (show 0 < 30 by decide) (qz_I0c (by decide))
  refine ⟨_, _, _, h8, fun _ _ q => q, (fun _ _ q => l8 _ _ (l7 _ _ (l6 _ _ (l5 _ _ (l4 _ _ (l3 _ _ (l2 _ _ (l1 _ _ q)))))))), (l8 _ _ (l7 _ _ (l6 _ _ (l5 _ _ (l4 _ _ (l3 _ _ (l2 _ _ m1))))))), ?_⟩
  show qz_E 0 0 [some (.inr (.inl (some ((0, w, i) : qz_N))))] [] M _ _
  refine ei_aln hb dX0_init_0 (pc' := 1) rfl rfl ?_
  refine ei_obj hb dX0_init_1 (pc' := 4) hcn (by decide) (Nat.le_of_ble_eq_true rfl) (by decide +kernel) rfl ?_
  refine ei_aln hb dX0_init_4 (pc' := 5) rfl rfl ?_
  refine ei_c hb dX0_init_5 (v := (-1 : Int32)) (pc' := 6) (by decide) rfl ?_
  refine ei_pi hb dX0_init_6 (pc' := 9) (M1 := M1) hcn qz_f_0_9 rfl rfl (fun q => by cases q) rfl e1 rfl ?_
  refine ei_aln hb dX0_init_9 (pc' := 10) rfl rfl ?_
  refine ei_c hb dX0_init_10 (v := (0 : Int32)) (pc' := 11) (by decide) rfl ?_
  refine ei_pi hb dX0_init_11 (pc' := 14) (M1 := M2) hcn qz_f_0_13 rfl rfl (fun q => by cases q) rfl e2 rfl ?_
  refine ei_aln hb dX0_init_14 (pc' := 15) rfl rfl ?_
  refine ei_c hb dX0_init_15 (v := (0 : Int32)) (pc' := 16) (by decide) rfl ?_
  refine ei_pi hb dX0_init_16 (pc' := 19) (M1 := M3) hcn qz_f_0_16 rfl rfl (fun q => by cases q) rfl e3 rfl ?_
  refine ei_aln hb dX0_init_19 (pc' := 20) rfl rfl ?_
  refine ei_c hb dX0_init_20 (v := (0 : Int32)) (pc' := 21) (by decide) rfl ?_
  refine ei_pi hb dX0_init_21 (pc' := 24) (M1 := M4) hcn qz_f_0_19 rfl rfl (fun q => by cases q) rfl e4 rfl ?_
  refine ei_aln hb dX0_init_24 (pc' := 25) rfl rfl ?_
  refine ei_c hb dX0_init_25 (v := (0 : Int32)) (pc' := 26) (by decide) rfl ?_
  refine ei_pi hb dX0_init_26 (pc' := 29) (M1 := M5) hcn qz_f_0_22 rfl rfl (fun _ => by decide) rfl e5 rfl ?_
  refine ei_aln hb dX0_init_29 (pc' := 30) rfl rfl ?_
  refine ei_c hb dX0_init_30 (v := (0 : Int32)) (pc' := 31) (by decide) rfl ?_
  refine ei_pi hb dX0_init_31 (pc' := 34) (M1 := M6) hcn qz_f_0_26 rfl rfl (fun q => by cases q) rfl e6 rfl ?_
  refine ei_aln hb dX0_init_34 (pc' := 35) rfl rfl ?_
  refine ei_c hb dX0_init_35 (v := (0 : Int32)) (pc' := 36) (by decide) rfl ?_
  refine ei_pi hb dX0_init_36 (pc' := 39) (M1 := M7) hcn qz_f_0_29 rfl rfl (fun q => by cases q) rfl e7 rfl ?_
  refine ei_aln hb dX0_init_39 (pc' := 40) rfl rfl ?_
  refine ei_c hb dX0_init_40 (v := (0 : Int32)) (pc' := 41) (by decide) rfl ?_
  refine ei_pi hb dX0_init_41 (pc' := 44) (M1 := M8) hcn qz_f_0_32 rfl rfl (fun q => by cases q) rfl e8 rfl ?_
  exact ei_retv hb dX0_init_44 rfl
theorem k_V {i : Nat} (hi : i < 60) (h : qz_Cs L xs o P Q M) (ho : 39 + i < o) : ∃ (M1 : qz_M) (P1 Q1 : qz_N → Nat → Prop), qz_Cs L xs o P1 Q1 M1 ∧ (∀ n j, P n j → P1 n j) ∧ (∀ n j, Q n j → Q1 n j) ∧ True ∧ qz_E 13 0 (qz_in0 13 [.inr (.inl (some ((3, 0, i) : qz_N)))]) [] M none M1 := by
  have hb : qz_b 13 = cX3_init := rfl
  have hcn : qz_cn 13 = 3 := rfl
  have hml : qz_ml 13 = 1 := rfl
  obtain ⟨M1, Q1, e1, h1, l1, m1⟩ := cs_ui h (n := ((3, 0, i) : qz_N)) (j := 0) (v := (0 : Int32)) (show 39 + i < o by omega) (show 3 < 30 by decide) (qz_I0z (show 3 < 30 by decide) (show ¬ 3 = 0 by decide) (show ¬ 3 = 11 by decide) (show ¬ 3 = 12 by decide))
  obtain ⟨M2, Q2, e2, h2, l2, m2⟩ := cs_ui h1 (n := ((3, 0, i) : qz_N)) (j := 1) (v := (0 : Int32)) (show 39 + i < o by omega) (show 3 < 30 by decide) (qz_I0z (show 3 < 30 by decide) (show ¬ 3 = 0 by decide) (show ¬ 3 = 11 by decide) (show ¬ 3 = 12 by decide))
  obtain ⟨M3, Q3, e3, h3, l3, m3⟩ := cs_ui h2 (n := ((3, 0, i) : qz_N)) (j := 2) (v := (0 : Int32)) (show 39 + i < o by omega) (show 3 < 30 by decide) (qz_I0z (show 3 < 30 by decide) (show ¬ 3 = 0 by decide) (show ¬ 3 = 11 by decide) (show ¬ 3 = 12 by decide))
  refine ⟨_, _, _, h3, fun _ _ q => q, (fun _ _ q => l3 _ _ (l2 _ _ (l1 _ _ q))), trivial, ?_⟩
  show qz_E 13 0 [some (.inr (.inl (some ((3, 0, i) : qz_N))))] [] M _ _
  refine ei_aln hb dX3_init_0 (pc' := 1) rfl rfl ?_
  refine ei_obj hb dX3_init_1 (pc' := 4) hcn (by decide) (Nat.le_of_ble_eq_true rfl) (by decide +kernel) rfl ?_
  refine ei_aln hb dX3_init_4 (pc' := 5) rfl rfl ?_
  refine ei_c hb dX3_init_5 (v := (0 : Int32)) (pc' := 6) (by decide) rfl ?_
  refine ei_pi hb dX3_init_6 (pc' := 9) (M1 := M1) hcn qz_f_3_7 rfl rfl (fun q => by cases q) rfl e1 rfl ?_
  refine ei_aln hb dX3_init_9 (pc' := 10) rfl rfl ?_
  refine ei_c hb dX3_init_10 (v := (0 : Int32)) (pc' := 11) (by decide) rfl ?_
  refine ei_pi hb dX3_init_11 (pc' := 14) (M1 := M2) hcn qz_f_3_13 rfl rfl (fun q => by cases q) rfl e2 rfl ?_
  refine ei_aln hb dX3_init_14 (pc' := 15) rfl rfl ?_
  refine ei_c hb dX3_init_15 (v := (0 : Int32)) (pc' := 16) (by decide) rfl ?_
  refine ei_pi hb dX3_init_16 (pc' := 19) (M1 := M3) hcn qz_f_3_16 rfl rfl (fun q => by cases q) rfl e3 rfl ?_
  exact ei_retv hb dX3_init_19 rfl
theorem k_W1 {w : Nat} (hw : w < 6) : ∀ (m i : Nat), i + m = 20 → ∀ (M : qz_M) (P Q : qz_N → Nat → Prop), qz_Cs L xs (qz_bs w + 5) P Q M → P ((4, w, 0) : qz_N) 2 → ∃ (M1 : qz_M) (P1 Q1 : qz_N → Nat → Prop), qz_Cs L xs (qz_bs w + 5) P1 Q1 M1 ∧ (∀ n j, P n j → P1 n j) ∧ (∀ n j, Q n j → Q1 n j) ∧ ((∀ k, i ≤ k → k < 20 → Q1 (11, w, 0) k)) ∧ ∀ (r : Option qz_V) (Mf : qz_M), qz_E 14 104 [some (.inr (.inl (some ((4, w, 0) : qz_N)))), some (.inl (nI 20))] [] M1 r Mf → qz_E 14 81 [some (.inr (.inl (some ((4, w, 0) : qz_N)))), some (.inl (nI i))] [] M r Mf := by
  have hb : qz_b 14 = cX4_init := rfl
  have hcn : qz_cn 14 = 4 := rfl
  have hml : qz_ml 14 = 2 := rfl
  intro m
  induction m with
  | zero =>
    intro i him M P Q h p0
    obtain rfl : i = 20 := by omega
    refine ⟨M, P, Q, h, fun _ _ q => q, fun _ _ q => q, fun k a b => by omega, fun r Mf hE => ?_⟩
    have hc : (20 : Int32) ≤ nI 20 := by decide
    refine ei_iln hb dX4_init_81 (pc' := 82) rfl rfl ?_
    refine ei_aln hb dX4_init_82 (pc' := 83) rfl rfl ?_
    refine ei_gr hb dX4_init_83 (pc' := 86) (x := some ((11, w, 0) : qz_N)) hcn qz_f_4_19 rfl rfl (cs_r h p0 (qz_fr_4 hw (by decide))) rfl ?_
    refine ei_len hb dX4_init_86 (pc' := 87) (x := (20 : Int32)) (show ¬ qz_at 11 = 0 by decide) rfl rfl ?_
    refine ei_icT hb dX4_init_87 (pc' := 104) (decide_eq_true hc) (by decide) ?_
    exact hE
  | succ m ih =>
    intro i him M P Q h p0
    have hi : i < 20 := by omega
    have hc : ¬ (20 : Int32) ≤ nI i := fun q => by
      have := (qz_le_nI (a := 20) (b := i) (by decide) (by omega)).mp q
      omega
    obtain ⟨M1, Q1, e1, h1, l1, m1⟩ := cs_ui h (n := ((11, w, 0) : qz_N)) (j := i) (v := (-5 : Int32)) (show qz_bs w + 2 < qz_bs w + 5 by omega) (show 11 < 30 by decide) (qz_I0p hw hi)
    obtain ⟨Mz, Pz, Qz, hz, lz, lqz, mz, Ez⟩ := ih (i + 1) (by omega) M1 _ _ h1 p0
    refine ⟨Mz, Pz, Qz, hz, (fun _ _ q => lz _ _ q), (fun _ _ q => lqz _ _ (l1 _ _ q)), fun k a b => (Nat.eq_or_lt_of_le a).elim (fun e => e ▸ lqz _ _ m1) (fun a => mz k a b), fun r Mf hE => ?_⟩
    refine ei_iln hb dX4_init_81 (pc' := 82) rfl rfl ?_
    refine ei_aln hb dX4_init_82 (pc' := 83) rfl rfl ?_
    refine ei_gr hb dX4_init_83 (pc' := 86) (x := some ((11, w, 0) : qz_N)) hcn qz_f_4_19 rfl rfl (cs_r h p0 (qz_fr_4 hw (by decide))) rfl ?_
    refine ei_len hb dX4_init_86 (pc' := 87) (x := (20 : Int32)) (show ¬ qz_at 11 = 0 by decide) rfl rfl ?_
    refine ei_icF hb dX4_init_87 (pc' := 90) (t := 104) (decide_eq_false hc) (by decide) rfl ?_
    refine ei_aln hb dX4_init_90 (pc' := 91) rfl rfl ?_
    refine ei_gr hb dX4_init_91 (pc' := 94) (x := some ((11, w, 0) : qz_N)) hcn qz_f_4_19 rfl rfl (cs_r h p0 (qz_fr_4 hw (by decide))) rfl ?_
    refine ei_iln hb dX4_init_94 (pc' := 95) rfl rfl ?_
    refine ei_b hb dX4_init_95 (v := (-5 : Int32)) (pc' := 97) (by decide) rfl ?_
    refine ei_ist hb dX4_init_97 (pc' := 98) (M1 := M1) rfl (Nat.le_of_ble_eq_true rfl) (qz_xi_nI (n := 20) hi (by decide)) (by rw [qz_cl_nI (by omega)]; exact e1) rfl ?_
    refine ei_inc hb dX4_init_98 (v := ((nI i) + 1)) (pc' := 101) (ls' := [some (.inr (.inl (some ((4, w, 0) : qz_N)))), some (.inl ((nI i) + 1))]) rfl hml (Nat.le_of_ble_eq_true rfl) rfl rfl rfl rfl ?_
    refine ei_go hb dX4_init_101 (pc' := 81) (by decide) ?_
    rw [qz_nI1]
    exact Ez r Mf hE
theorem k_W2 {w : Nat} (hw : w < 6) : ∀ (m i : Nat), i + m = 4 → ∀ (M : qz_M) (P Q : qz_N → Nat → Prop), qz_Cs L xs (qz_bs w + 5) P Q M → P ((4, w, 0) : qz_N) 3 → ∃ (M1 : qz_M) (P1 Q1 : qz_N → Nat → Prop), qz_Cs L xs (qz_bs w + 5) P1 Q1 M1 ∧ (∀ n j, P n j → P1 n j) ∧ (∀ n j, Q n j → Q1 n j) ∧ ((∀ k, i ≤ k → k < 4 → Q1 (12, w, 0) k)) ∧ ∀ (r : Option qz_V) (Mf : qz_M), qz_E 14 140 [some (.inr (.inl (some ((4, w, 0) : qz_N)))), some (.inl (nI 4))] [] M1 r Mf → qz_E 14 106 [some (.inr (.inl (some ((4, w, 0) : qz_N)))), some (.inl (nI i))] [] M r Mf := by
  have hb : qz_b 14 = cX4_init := rfl
  have hcn : qz_cn 14 = 4 := rfl
  have hml : qz_ml 14 = 2 := rfl
  intro m
  induction m with
  | zero =>
    intro i him M P Q h p0
    obtain rfl : i = 4 := by omega
    refine ⟨M, P, Q, h, fun _ _ q => q, fun _ _ q => q, fun k a b => by omega, fun r Mf hE => ?_⟩
    have hc : (4 : Int32) ≤ nI 4 := by decide
    refine ei_iln hb dX4_init_106 (pc' := 107) rfl rfl ?_
    refine ei_aln hb dX4_init_107 (pc' := 108) rfl rfl ?_
    refine ei_gr hb dX4_init_108 (pc' := 111) (x := some ((12, w, 0) : qz_N)) hcn qz_f_4_25 rfl rfl (cs_r h p0 (qz_fr_4 hw (by decide))) rfl ?_
    refine ei_len hb dX4_init_111 (pc' := 112) (x := (4 : Int32)) (show ¬ qz_at 12 = 0 by decide) rfl rfl ?_
    refine ei_icT hb dX4_init_112 (pc' := 140) (decide_eq_true hc) (by decide) ?_
    exact hE
  | succ m ih =>
    intro i him M P Q h p0
    have hi : i < 4 := by omega
    have hc : ¬ (4 : Int32) ≤ nI i := fun q => by
      have := (qz_le_nI (a := 4) (b := i) (by decide) (by omega)).mp q
      omega
    obtain ⟨M1, Q1, e1, h1, l1, m1⟩ := cs_ui h (n := ((12, w, 0) : qz_N)) (j := i) (v := (qz_g30 i)) (show qz_bs w + 3 < qz_bs w + 5 by omega) (show 12 < 30 by decide) (qz_I0s hw hi)
    obtain ⟨Mz, Pz, Qz, hz, lz, lqz, mz, Ez⟩ := ih (i + 1) (by omega) M1 _ _ h1 p0
    refine ⟨Mz, Pz, Qz, hz, (fun _ _ q => lz _ _ q), (fun _ _ q => lqz _ _ (l1 _ _ q)), fun k a b => (Nat.eq_or_lt_of_le a).elim (fun e => e ▸ lqz _ _ m1) (fun a => mz k a b), fun r Mf hE => ?_⟩
    refine ei_iln hb dX4_init_106 (pc' := 107) rfl rfl ?_
    refine ei_aln hb dX4_init_107 (pc' := 108) rfl rfl ?_
    refine ei_gr hb dX4_init_108 (pc' := 111) (x := some ((12, w, 0) : qz_N)) hcn qz_f_4_25 rfl rfl (cs_r h p0 (qz_fr_4 hw (by decide))) rfl ?_
    refine ei_len hb dX4_init_111 (pc' := 112) (x := (4 : Int32)) (show ¬ qz_at 12 = 0 by decide) rfl rfl ?_
    refine ei_icF hb dX4_init_112 (pc' := 115) (t := 140) (decide_eq_false hc) (by decide) rfl ?_
    refine ei_iln hb dX4_init_115 (pc' := 116) rfl rfl ?_
    refine ei_gs hb dX4_init_116 (pc' := 119) (t := 30) hcn rfl rfl ?_
    refine ei_len hb dX4_init_119 (pc' := 120) (x := (4 : Int32)) (show ¬ qz_at 30 = 0 by decide) rfl rfl ?_
    refine ei_icF hb dX4_init_120 (pc' := 123) (t := 140) (decide_eq_false hc) (by decide) rfl ?_
    refine ei_aln hb dX4_init_123 (pc' := 124) rfl rfl ?_
    refine ei_gr hb dX4_init_124 (pc' := 127) (x := some ((12, w, 0) : qz_N)) hcn qz_f_4_25 rfl rfl (cs_r h p0 (qz_fr_4 hw (by decide))) rfl ?_
    refine ei_iln hb dX4_init_127 (pc' := 128) rfl rfl ?_
    refine ei_gs hb dX4_init_128 (pc' := 131) (t := 30) hcn rfl rfl ?_
    refine ei_iln hb dX4_init_131 (pc' := 132) rfl rfl ?_
    refine ei_ia hb dX4_init_132 (pc' := 133) (x := (qz_g30 i)) rfl (qz_xi_nI (n := 4) hi (by decide)) (cs_g30 h hi) rfl ?_
    refine ei_ist hb dX4_init_133 (pc' := 134) (M1 := M1) rfl (Nat.le_of_ble_eq_true rfl) (qz_xi_nI (n := 4) hi (by decide)) (by rw [qz_cl_nI (by omega)]; exact e1) rfl ?_
    refine ei_inc hb dX4_init_134 (v := ((nI i) + 1)) (pc' := 137) (ls' := [some (.inr (.inl (some ((4, w, 0) : qz_N)))), some (.inl ((nI i) + 1))]) rfl hml (Nat.le_of_ble_eq_true rfl) rfl rfl rfl rfl ?_
    refine ei_go hb dX4_init_137 (pc' := 106) (by decide) ?_
    rw [qz_nI1]
    exact Ez r Mf hE
theorem k_W3 {w : Nat} (hw : w < 6) : ∀ (m i : Nat), i + m = 30 → ∀ (M : qz_M) (P Q : qz_N → Nat → Prop), qz_Cs L xs (qz_bs w + 5 + i) P Q M → P ((4, w, 0) : qz_N) 4 → ∃ (M1 : qz_M) (P1 Q1 : qz_N → Nat → Prop), qz_Cs L xs (qz_bs w + 5 + 30) P1 Q1 M1 ∧ (∀ n j, P n j → P1 n j) ∧ (∀ n j, Q n j → Q1 n j) ∧ ((∀ k, i ≤ k → k < 30 → P1 (13, w, 0) k) ∧ (∀ k, i ≤ k → k < 30 → Q1 (0, w, k) 0)) ∧ ∀ (r : Option qz_V) (Mf : qz_M), qz_E 14 170 [some (.inr (.inl (some ((4, w, 0) : qz_N)))), some (.inl (nI 30))] [] M1 r Mf → qz_E 14 142 [some (.inr (.inl (some ((4, w, 0) : qz_N)))), some (.inl (nI i))] [] M r Mf := by
  have hb : qz_b 14 = cX4_init := rfl
  have hcn : qz_cn 14 = 4 := rfl
  have hml : qz_ml 14 = 2 := rfl
  intro m
  induction m with
  | zero =>
    intro i him M P Q h p0
    obtain rfl : i = 30 := by omega
    refine ⟨M, P, Q, h, fun _ _ q => q, fun _ _ q => q, ⟨fun k a b => by omega, fun k a b => by omega⟩, fun r Mf hE => ?_⟩
    have hc : (30 : Int32) ≤ nI 30 := by decide
    refine ei_iln hb dX4_init_142 (pc' := 143) rfl rfl ?_
    refine ei_aln hb dX4_init_143 (pc' := 144) rfl rfl ?_
    refine ei_gr hb dX4_init_144 (pc' := 147) (x := some ((13, w, 0) : qz_N)) hcn qz_f_4_30 rfl rfl (cs_r h p0 (qz_fr_4 hw (by decide))) rfl ?_
    refine ei_len hb dX4_init_147 (pc' := 148) (x := (30 : Int32)) (show ¬ qz_at 13 = 0 by decide) rfl rfl ?_
    refine ei_icT hb dX4_init_148 (pc' := 170) (decide_eq_true hc) (by decide) ?_
    exact hE
  | succ m ih =>
    intro i him M P Q h p0
    have hi : i < 30 := by omega
    have hc : ¬ (30 : Int32) ≤ nI i := fun q => by
      have := (qz_le_nI (a := 30) (b := i) (by decide) (by omega)).mp q
      omega
    obtain ⟨M1, e1, h1⟩ := cs_al h (n := ((0, w, i) : qz_N)) (qz_nmb hw hi) (show qz_bs w + 5 + i = qz_bs w + 5 + i by omega) (show 0 < 30 by decide) (show qz_bs w + 5 + i + 1 = qz_bs w + 5 + (i + 1) by omega)
    obtain ⟨M2, P2, Q2, h2, l2, lq2, m2, E2⟩ := k_B hw hi h1 (show qz_bs w + 5 + i < qz_bs w + 5 + (i + 1) by omega)
    obtain ⟨M3, P3, e3, h3, l3, m3⟩ := cs_ur h2 (n := ((13, w, 0) : qz_N)) (j := i) (v := some ((0, w, i) : qz_N)) (show qz_bs w + 4 < qz_bs w + 5 + (i + 1) by omega) (by simp [qz_fr, hw, hi])
    obtain ⟨Mz, Pz, Qz, hz, lz, lqz, mz, Ez⟩ := ih (i + 1) (by omega) M3 _ _ h3 (l3 _ _ (l2 _ _ p0))
    refine ⟨Mz, Pz, Qz, hz, (fun _ _ q => lz _ _ (l3 _ _ (l2 _ _ q))), (fun _ _ q => lqz _ _ (lq2 _ _ q)), ⟨fun k a b => (Nat.eq_or_lt_of_le a).elim (fun e => e ▸ lz _ _ m3) (fun a => mz.1 k a b), fun k a b => (Nat.eq_or_lt_of_le a).elim (fun e => e ▸ lqz _ _ m2) (fun a => mz.2 k a b)⟩, fun r Mf hE => ?_⟩
    refine ei_iln hb dX4_init_142 (pc' := 143) rfl rfl ?_
    refine ei_aln hb dX4_init_143 (pc' := 144) rfl rfl ?_
    refine ei_gr hb dX4_init_144 (pc' := 147) (x := some ((13, w, 0) : qz_N)) hcn qz_f_4_30 rfl rfl (cs_r h p0 (qz_fr_4 hw (by decide))) rfl ?_
    refine ei_len hb dX4_init_147 (pc' := 148) (x := (30 : Int32)) (show ¬ qz_at 13 = 0 by decide) rfl rfl ?_
    refine ei_icF hb dX4_init_148 (pc' := 151) (t := 170) (decide_eq_false hc) (by decide) rfl ?_
    refine ei_aln hb dX4_init_151 (pc' := 152) rfl rfl ?_
    refine ei_gr hb dX4_init_152 (pc' := 155) (x := some ((13, w, 0) : qz_N)) hcn qz_f_4_30 rfl rfl (cs_r h p0 (qz_fr_4 hw (by decide))) rfl ?_
    refine ei_iln hb dX4_init_155 (pc' := 156) rfl rfl ?_
    refine ei_new hb dX4_init_156 (pc' := 159) (M1 := M1) (n := ((0, w, i) : qz_N)) (t := 0) hcn qz_n_4_28 (cs_n h (qz_nmb hw hi)) rfl (by simp [qz_vl, hw, hi]) (cs_x h (show qz_bs w + 5 + i = qz_bs w + 5 + i by omega)) e1 rfl ?_
    refine ei_dup hb dX4_init_159 (pc' := 160) rfl rfl ?_
    refine ei_ci hb dX4_init_160 (pc' := 163) (M1 := M2) (as := []) (rest := [.inr (.inl (some ((0, w, i) : qz_N))), .inl (nI i), .inr (.inl (some ((13, w, 0) : qz_N)))]) (st' := [.inr (.inl (some ((0, w, i) : qz_N))), .inl (nI i), .inr (.inl (some ((13, w, 0) : qz_N)))]) hcn qz_c_4_55 (by decide) qz_ki_0 qz_qi_14_0 (Nat.le_of_ble_eq_true rfl) (Nat.le_of_ble_eq_true rfl) rfl rfl rfl rfl E2 rfl rfl ?_
    refine ei_aas hb dX4_init_163 (pc' := 164) (M1 := M3) (show 4 ≤ qz_at 13 by decide) rfl (qz_xi_nI (n := 30) hi (by decide)) (by rw [qz_cl_nI (by omega)]; exact e3) rfl ?_
    refine ei_inc hb dX4_init_164 (v := ((nI i) + 1)) (pc' := 167) (ls' := [some (.inr (.inl (some ((4, w, 0) : qz_N)))), some (.inl ((nI i) + 1))]) rfl hml (Nat.le_of_ble_eq_true rfl) rfl rfl rfl rfl ?_
    refine ei_go hb dX4_init_167 (pc' := 142) (by decide) ?_
    rw [qz_nI1]
    exact Ez r Mf hE
theorem k_W {w o0 o1 : Nat} (hw : w < 6) (eo0 : qz_bs w + 1 = o0) (eo1 : qz_bs w + 35 = o1) (h : qz_Cs L xs o0 P Q M) : ∃ (M1 : qz_M) (P1 Q1 : qz_N → Nat → Prop), qz_Cs L xs o1 P1 Q1 M1 ∧ (∀ n j, P n j → P1 n j) ∧ (∀ n j, Q n j → Q1 n j) ∧ qz_Wf w P1 Q1 ∧ qz_E 14 0 (qz_in0 14 [.inr (.inl (some ((4, w, 0) : qz_N)))]) [] M none M1 := by
  have hb : qz_b 14 = cX4_init := rfl
  have hcn : qz_cn 14 = 4 := rfl
  have hml : qz_ml 14 = 2 := rfl
  subst eo0
  obtain ⟨M1, Q1, e1, h1, l1, m1⟩ := cs_ui h (n := ((4, w, 0) : qz_N)) (j := 0) (v := (0 : Int32)) (show qz_bs w < qz_bs w + 1 by omega) (show 4 < 30 by decide) (qz_I0z (show 4 < 30 by decide) (show ¬ 4 = 0 by decide) (show ¬ 4 = 11 by decide) (show ¬ 4 = 12 by decide))
  obtain ⟨M2, e2, h2⟩ := cs_al h1 (n := ((10, w, 0) : qz_N)) (qz_npt w 1 hw (by omega)) (show qz_bs w + 1 = qz_bs w + 1 by omega) (show 10 < 30 by decide) (show qz_bs w + 1 + 1 = qz_bs w + 2 by omega)
  obtain ⟨M3, P3, e3, h3, l3, m3⟩ := cs_ur h2 (n := ((4, w, 0) : qz_N)) (j := 1) (v := some ((10, w, 0) : qz_N)) (show qz_bs w < qz_bs w + 2 by omega) (qz_fr_4 (j := 1) hw (by decide)).symm
  obtain ⟨M4, e4, h4⟩ := cs_al h3 (n := ((11, w, 0) : qz_N)) (qz_npt w 2 hw (by omega)) (show qz_bs w + 2 = qz_bs w + 2 by omega) (show 11 < 30 by decide) (show qz_bs w + 2 + 1 = qz_bs w + 3 by omega)
  obtain ⟨M5, P5, e5, h5, l5, m5⟩ := cs_ur h4 (n := ((4, w, 0) : qz_N)) (j := 2) (v := some ((11, w, 0) : qz_N)) (show qz_bs w < qz_bs w + 3 by omega) (qz_fr_4 (j := 2) hw (by decide)).symm
  obtain ⟨M6, e6, h6⟩ := cs_al h5 (n := ((12, w, 0) : qz_N)) (qz_npt w 3 hw (by omega)) (show qz_bs w + 3 = qz_bs w + 3 by omega) (show 12 < 30 by decide) (show qz_bs w + 3 + 1 = qz_bs w + 4 by omega)
  obtain ⟨M7, P7, e7, h7, l7, m7⟩ := cs_ur h6 (n := ((4, w, 0) : qz_N)) (j := 3) (v := some ((12, w, 0) : qz_N)) (show qz_bs w < qz_bs w + 4 by omega) (qz_fr_4 (j := 3) hw (by decide)).symm
  obtain ⟨M8, e8, h8⟩ := cs_al h7 (n := ((13, w, 0) : qz_N)) (qz_npt w 4 hw (by omega)) (show qz_bs w + 4 = qz_bs w + 4 by omega) (show 13 < 30 by decide) (show qz_bs w + 4 + 1 = qz_bs w + 5 by omega)
  obtain ⟨M9, P9, e9, h9, l9, m9⟩ := cs_ur h8 (n := ((4, w, 0) : qz_N)) (j := 4) (v := some ((13, w, 0) : qz_N)) (show qz_bs w < qz_bs w + 5 by omega) (qz_fr_4 (j := 4) hw (by decide)).symm
  obtain ⟨M10, Q10, e10, h10, l10, m10⟩ := cs_ui h9 (n := ((4, w, 0) : qz_N)) (j := 5) (v := (0 : Int32)) (show qz_bs w < qz_bs w + 5 by omega) (show 4 < 30 by decide) (qz_I0z (show 4 < 30 by decide) (show ¬ 4 = 0 by decide) (show ¬ 4 = 11 by decide) (show ¬ 4 = 12 by decide))
  obtain ⟨M11, Q11, e11, h11, l11, m11⟩ := cs_ui h10 (n := ((4, w, 0) : qz_N)) (j := 6) (v := (0 : Int32)) (show qz_bs w < qz_bs w + 5 by omega) (show 4 < 30 by decide) (qz_I0z (show 4 < 30 by decide) (show ¬ 4 = 0 by decide) (show ¬ 4 = 11 by decide) (show ¬ 4 = 12 by decide))
  obtain ⟨M12, Q12, e12, h12, l12, m12⟩ := cs_ui h11 (n := ((4, w, 0) : qz_N)) (j := 7) (v := (0 : Int32)) (show qz_bs w < qz_bs w + 5 by omega) (show 4 < 30 by decide) (qz_I0z (show 4 < 30 by decide) (show ¬ 4 = 0 by decide) (show ¬ 4 = 11 by decide) (show ¬ 4 = 12 by decide))
  obtain ⟨M13, Q13, e13, h13, l13, m13⟩ := cs_ui h12 (n := ((4, w, 0) : qz_N)) (j := 8) (v := (0 : Int32)) (show qz_bs w < qz_bs w + 5 by omega) (show 4 < 30 by decide) (qz_I0z (show 4 < 30 by decide) (show ¬ 4 = 0 by decide) (show ¬ 4 = 11 by decide) (show ¬ 4 = 12 by decide))
  obtain ⟨M14, Q14, e14, h14, l14, m14⟩ := cs_ui h13 (n := ((4, w, 0) : qz_N)) (j := 9) (v := (0 : Int32)) (show qz_bs w < qz_bs w + 5 by omega) (show 4 < 30 by decide) (qz_I0z (show 4 < 30 by decide) (show ¬ 4 = 0 by decide) (show ¬ 4 = 11 by decide) (show ¬ 4 = 12 by decide))
  obtain ⟨M15, Q15, e15, h15, l15, m15⟩ := cs_ui h14 (n := ((4, w, 0) : qz_N)) (j := 10) (v := (0 : Int32)) (show qz_bs w < qz_bs w + 5 by omega) (show 4 < 30 by decide) (qz_I0z (show 4 < 30 by decide) (show ¬ 4 = 0 by decide) (show ¬ 4 = 11 by decide) (show ¬ 4 = 12 by decide))
  obtain ⟨M16, Q16, e16, h16, l16, m16⟩ := cs_ui h15 (n := ((4, w, 0) : qz_N)) (j := 11) (v := (0 : Int32)) (show qz_bs w < qz_bs w + 5 by omega) (show 4 < 30 by decide) (qz_I0z (show 4 < 30 by decide) (show ¬ 4 = 0 by decide) (show ¬ 4 = 11 by decide) (show ¬ 4 = 12 by decide))
  obtain ⟨Ma, Pa, Qa, ha, la, lqa, ma, Ea⟩ := k_W1 hw 20 0 rfl M16 _ _ h16 (l9 _ _ (l7 _ _ m5))
  obtain ⟨Mb, Pb, Qb, hb2, lb, lqb, mb, Eb⟩ := k_W2 hw 4 0 rfl Ma _ _ ha (la _ _ (l9 _ _ m7))
  obtain ⟨Mc, Pc, Qc, hc2, lc, lqc, mc, Ec⟩ := k_W3 hw 30 0 rfl Mb _ _ hb2 (lb _ _ (la _ _ m9))
  subst eo1
  refine ⟨Mc, Pc, Qc, hc2, (fun _ _ q => lc _ _ (lb _ _ (la _ _ (l9 _ _ (l7 _ _ (l5 _ _ (l3 _ _ q))))))), (fun _ _ q => lqc _ _ (lqb _ _ (lqa _ _ (l16 _ _ (l15 _ _ (l14 _ _ (l13 _ _ (l12 _ _ (l11 _ _ (l10 _ _ (l1 _ _ q))))))))))), ⟨⟨(lc _ _ (lb _ _ (la _ _ (l9 _ _ (l7 _ _ (l5 _ _ m3)))))), (lc _ _ (lb _ _ (la _ _ (l9 _ _ (l7 _ _ m5))))), (lc _ _ (lb _ _ (la _ _ (l9 _ _ m7)))), (lc _ _ (lb _ _ (la _ _ m9)))⟩, fun k hk => mc.1 k (Nat.zero_le k) hk, fun k hk => mc.2 k (Nat.zero_le k) hk, fun k hk => lqc _ _ (lqb _ _ (ma k (Nat.zero_le k) hk)), fun k hk => lqc _ _ (mb k (Nat.zero_le k) hk)⟩, ?_⟩
  show qz_E 14 0 [some (.inr (.inl (some ((4, w, 0) : qz_N)))), none] [] M _ _
  refine ei_aln hb dX4_init_0 (pc' := 1) rfl rfl ?_
  refine ei_obj hb dX4_init_1 (pc' := 4) hcn (by decide) (Nat.le_of_ble_eq_true rfl) (by decide +kernel) rfl ?_
  refine ei_aln hb dX4_init_4 (pc' := 5) rfl rfl ?_
  refine ei_c hb dX4_init_5 (v := (0 : Int32)) (pc' := 6) (by decide) rfl ?_
  refine ei_pi hb dX4_init_6 (pc' := 9) (M1 := M1) hcn qz_f_4_9 rfl rfl (fun q => by cases q) rfl e1 rfl ?_
  refine ei_aln hb dX4_init_9 (pc' := 10) rfl rfl ?_
  refine ei_b hb dX4_init_10 (v := (10 : Int32)) (pc' := 12) (by decide) rfl ?_
  refine ei_nwa hb dX4_init_12 (pc' := 14) (M1 := M2) (n := ((10, w, 0) : qz_N)) (cs_n h1 (qz_npt w 1 hw (by omega))) (by simp [qz_vl, hw]) (cs_x h1 (show qz_bs w + 1 = qz_bs w + 1 by omega)) (by decide) (show Int32.toNatClampNeg (10 : Int32) = qz_al 10 by decide) (Or.inl ⟨rfl, rfl⟩) e2 rfl ?_
  refine ei_pr hb dX4_init_14 (pc' := 17) (M1 := M3) hcn qz_f_4_15 rfl rfl rfl (by decide +kernel) rfl e3 rfl ?_
  refine ei_aln hb dX4_init_17 (pc' := 18) rfl rfl ?_
  refine ei_b hb dX4_init_18 (v := (20 : Int32)) (pc' := 20) (by decide) rfl ?_
  refine ei_nwa hb dX4_init_20 (pc' := 22) (M1 := M4) (n := ((11, w, 0) : qz_N)) (cs_n h3 (qz_npt w 2 hw (by omega))) (by simp [qz_vl, hw]) (cs_x h3 (show qz_bs w + 2 = qz_bs w + 2 by omega)) (by decide) (show Int32.toNatClampNeg (20 : Int32) = qz_al 11 by decide) (Or.inl ⟨rfl, rfl⟩) e4 rfl ?_
  refine ei_pr hb dX4_init_22 (pc' := 25) (M1 := M5) hcn qz_f_4_19 rfl rfl rfl (by decide +kernel) rfl e5 rfl ?_
  refine ei_aln hb dX4_init_25 (pc' := 26) rfl rfl ?_
  refine ei_gs hb dX4_init_26 (pc' := 29) (t := 30) hcn rfl rfl ?_
  refine ei_len hb dX4_init_29 (pc' := 30) (x := (4 : Int32)) (show ¬ qz_at 30 = 0 by decide) rfl rfl ?_
  refine ei_nwa hb dX4_init_30 (pc' := 32) (M1 := M6) (n := ((12, w, 0) : qz_N)) (cs_n h5 (qz_npt w 3 hw (by omega))) (by simp [qz_vl, hw]) (cs_x h5 (show qz_bs w + 3 = qz_bs w + 3 by omega)) (by decide) (show Int32.toNatClampNeg (4 : Int32) = qz_al 12 by decide) (Or.inl ⟨rfl, rfl⟩) e6 rfl ?_
  refine ei_pr hb dX4_init_32 (pc' := 35) (M1 := M7) hcn qz_f_4_25 rfl rfl rfl (by decide +kernel) rfl e7 rfl ?_
  refine ei_aln hb dX4_init_35 (pc' := 36) rfl rfl ?_
  refine ei_b hb dX4_init_36 (v := (30 : Int32)) (pc' := 38) (by decide) rfl ?_
  refine ei_ana hb dX4_init_38 (pc' := 41) (M1 := M8) (n := ((13, w, 0) : qz_N)) (t := 0) hcn qz_n_4_28 (cs_n h7 (qz_npt w 4 hw (by omega))) (by simp [qz_vl, hw]) (cs_x h7 (show qz_bs w + 4 = qz_bs w + 4 by omega)) (by decide) (show Int32.toNatClampNeg (30 : Int32) = qz_al 13 by decide) (show 4 ≤ qz_at 13 by decide) rfl e8 rfl ?_
  refine ei_pr hb dX4_init_41 (pc' := 44) (M1 := M9) hcn qz_f_4_30 rfl rfl rfl (by decide +kernel) rfl e9 rfl ?_
  refine ei_aln hb dX4_init_44 (pc' := 45) rfl rfl ?_
  refine ei_c hb dX4_init_45 (v := (0 : Int32)) (pc' := 46) (by decide) rfl ?_
  refine ei_pi hb dX4_init_46 (pc' := 49) (M1 := M10) hcn qz_f_4_34 rfl rfl (fun q => by cases q) rfl e10 rfl ?_
  refine ei_aln hb dX4_init_49 (pc' := 50) rfl rfl ?_
  refine ei_c hb dX4_init_50 (v := (0 : Int32)) (pc' := 51) (by decide) rfl ?_
  refine ei_pi hb dX4_init_51 (pc' := 54) (M1 := M11) hcn qz_f_4_37 rfl rfl (fun q => by cases q) rfl e11 rfl ?_
  refine ei_aln hb dX4_init_54 (pc' := 55) rfl rfl ?_
  refine ei_c hb dX4_init_55 (v := (0 : Int32)) (pc' := 56) (by decide) rfl ?_
  refine ei_pi hb dX4_init_56 (pc' := 59) (M1 := M12) hcn qz_f_4_40 rfl rfl (fun q => by cases q) rfl e12 rfl ?_
  refine ei_aln hb dX4_init_59 (pc' := 60) rfl rfl ?_
  refine ei_c hb dX4_init_60 (v := (0 : Int32)) (pc' := 61) (by decide) rfl ?_
  refine ei_pi hb dX4_init_61 (pc' := 64) (M1 := M13) hcn qz_f_4_43 rfl rfl (fun q => by cases q) rfl e13 rfl ?_
  refine ei_aln hb dX4_init_64 (pc' := 65) rfl rfl ?_
  refine ei_c hb dX4_init_65 (v := (0 : Int32)) (pc' := 66) (by decide) rfl ?_
  refine ei_pi hb dX4_init_66 (pc' := 69) (M1 := M14) hcn qz_f_4_46 rfl rfl (fun q => by cases q) rfl e14 rfl ?_
  refine ei_aln hb dX4_init_69 (pc' := 70) rfl rfl ?_
  refine ei_c hb dX4_init_70 (v := (0 : Int32)) (pc' := 71) (by decide) rfl ?_
  refine ei_pi hb dX4_init_71 (pc' := 74) (M1 := M15) hcn qz_f_4_49 rfl rfl (fun q => by cases q) rfl e15 rfl ?_
  refine ei_aln hb dX4_init_74 (pc' := 75) rfl rfl ?_
  refine ei_c hb dX4_init_75 (v := (0 : Int32)) (pc' := 76) (by decide) rfl ?_
  refine ei_pi hb dX4_init_76 (pc' := 79) (M1 := M16) hcn qz_f_4_52 rfl rfl (fun q => by cases q) rfl e16 rfl ?_
  refine ei_c hb dX4_init_79 (v := (0 : Int32)) (pc' := 80) (by decide) rfl ?_
  refine ei_isn hb dX4_init_80 (pc' := 81) (ls' := [some (.inr (.inl (some ((4, w, 0) : qz_N)))), some (.inl (0 : Int32))]) hml (Nat.le_of_ble_eq_true rfl) rfl rfl rfl ?_
  refine Ea none Mc ?_
  refine ei_c hb dX4_init_104 (v := (0 : Int32)) (pc' := 105) (by decide) rfl ?_
  refine ei_isn hb dX4_init_105 (pc' := 106) (ls' := [some (.inr (.inl (some ((4, w, 0) : qz_N)))), some (.inl (0 : Int32))]) hml (Nat.le_of_ble_eq_true rfl) rfl rfl rfl ?_
  refine Eb none Mc ?_
  refine ei_c hb dX4_init_140 (v := (0 : Int32)) (pc' := 141) (by decide) rfl ?_
  refine ei_isn hb dX4_init_141 (pc' := 142) (ls' := [some (.inr (.inl (some ((4, w, 0) : qz_N)))), some (.inl (0 : Int32))]) hml (Nat.le_of_ble_eq_true rfl) rfl rfl rfl ?_
  refine Ec none Mc ?_
  exact ei_retv hb dX4_init_170 rfl
theorem k_T1  : ∀ (m i : Nat), i + m = 60 → ∀ (M : qz_M) (P Q : qz_N → Nat → Prop), qz_Cs L xs (39 + i) P Q M → P ((1, 0, 0) : qz_N) 2 → ∃ (M1 : qz_M) (P1 Q1 : qz_N → Nat → Prop), qz_Cs L xs (39 + 60) P1 Q1 M1 ∧ (∀ n j, P n j → P1 n j) ∧ (∀ n j, Q n j → Q1 n j) ∧ ((∀ k, i ≤ k → k < 60 → P1 (15, 0, 0) k)) ∧ ∀ (r : Option qz_V) (Mf : qz_M), qz_E 8 61 [some (.inr (.inl (some ((1, 0, 0) : qz_N)))), some (.inl (nI 60))] [] M1 r Mf → qz_E 8 33 [some (.inr (.inl (some ((1, 0, 0) : qz_N)))), some (.inl (nI i))] [] M r Mf := by
  have hb : qz_b 8 = cX1_init := rfl
  have hcn : qz_cn 8 = 1 := rfl
  have hml : qz_ml 8 = 2 := rfl
  intro m
  induction m with
  | zero =>
    intro i him M P Q h p0
    obtain rfl : i = 60 := by omega
    refine ⟨M, P, Q, h, fun _ _ q => q, fun _ _ q => q, fun k a b => by omega, fun r Mf hE => ?_⟩
    have hc : (60 : Int32) ≤ nI 60 := by decide
    refine ei_iln hb dX1_init_33 (pc' := 34) rfl rfl ?_
    refine ei_aln hb dX1_init_34 (pc' := 35) rfl rfl ?_
    refine ei_gr hb dX1_init_35 (pc' := 38) (x := some ((15, 0, 0) : qz_N)) hcn qz_f_1_21 rfl rfl (cs_r h p0 rfl) rfl ?_
    refine ei_len hb dX1_init_38 (pc' := 39) (x := (60 : Int32)) (show ¬ qz_at 15 = 0 by decide) rfl rfl ?_
    refine ei_icT hb dX1_init_39 (pc' := 61) (decide_eq_true hc) (by decide) ?_
    exact hE
  | succ m ih =>
    intro i him M P Q h p0
    have hi : i < 60 := by omega
    have hc : ¬ (60 : Int32) ≤ nI i := fun q => by
      have := (qz_le_nI (a := 60) (b := i) (by decide) (by omega)).mp q
      omega
    obtain ⟨M1, e1, h1⟩ := cs_al h (n := ((3, 0, i) : qz_N)) (qz_nmw hi) (show 39 + i = 39 + i by omega) (show 3 < 30 by decide) (show 39 + i + 1 = 39 + (i + 1) by omega)
    obtain ⟨M2, P2, Q2, h2, l2, lq2, m2, E2⟩ := k_V hi h1 (show 39 + i < 39 + (i + 1) by omega)
    obtain ⟨M3, P3, e3, h3, l3, m3⟩ := cs_ur h2 (n := ((15, 0, 0) : qz_N)) (j := i) (v := some ((3, 0, i) : qz_N)) (show 38 < 39 + (i + 1) by omega) (by simp [qz_fr, hi])
    obtain ⟨Mz, Pz, Qz, hz, lz, lqz, mz, Ez⟩ := ih (i + 1) (by omega) M3 _ _ h3 (l3 _ _ (l2 _ _ p0))
    refine ⟨Mz, Pz, Qz, hz, (fun _ _ q => lz _ _ (l3 _ _ (l2 _ _ q))), (fun _ _ q => lqz _ _ (lq2 _ _ q)), fun k a b => (Nat.eq_or_lt_of_le a).elim (fun e => e ▸ lz _ _ m3) (fun a => mz k a b), fun r Mf hE => ?_⟩
    refine ei_iln hb dX1_init_33 (pc' := 34) rfl rfl ?_
    refine ei_aln hb dX1_init_34 (pc' := 35) rfl rfl ?_
    refine ei_gr hb dX1_init_35 (pc' := 38) (x := some ((15, 0, 0) : qz_N)) hcn qz_f_1_21 rfl rfl (cs_r h p0 rfl) rfl ?_
    refine ei_len hb dX1_init_38 (pc' := 39) (x := (60 : Int32)) (show ¬ qz_at 15 = 0 by decide) rfl rfl ?_
    refine ei_icF hb dX1_init_39 (pc' := 42) (t := 61) (decide_eq_false hc) (by decide) rfl ?_
    refine ei_aln hb dX1_init_42 (pc' := 43) rfl rfl ?_
    refine ei_gr hb dX1_init_43 (pc' := 46) (x := some ((15, 0, 0) : qz_N)) hcn qz_f_1_21 rfl rfl (cs_r h p0 rfl) rfl ?_
    refine ei_iln hb dX1_init_46 (pc' := 47) rfl rfl ?_
    refine ei_new hb dX1_init_47 (pc' := 50) (M1 := M1) (n := ((3, 0, i) : qz_N)) (t := 3) hcn qz_n_1_19 (cs_n h (qz_nmw hi)) rfl (by simp [qz_vl, hi]) (cs_x h (show 39 + i = 39 + i by omega)) e1 rfl ?_
    refine ei_dup hb dX1_init_50 (pc' := 51) rfl rfl ?_
    refine ei_ci hb dX1_init_51 (pc' := 54) (M1 := M2) (as := []) (rest := [.inr (.inl (some ((3, 0, i) : qz_N))), .inl (nI i), .inr (.inl (some ((15, 0, 0) : qz_N)))]) (st' := [.inr (.inl (some ((3, 0, i) : qz_N))), .inl (nI i), .inr (.inl (some ((15, 0, 0) : qz_N)))]) hcn qz_c_1_28 (by decide) qz_ki_13 qz_qi_8_13 (Nat.le_of_ble_eq_true rfl) (Nat.le_of_ble_eq_true rfl) rfl rfl rfl rfl E2 rfl rfl ?_
    refine ei_aas hb dX1_init_54 (pc' := 55) (M1 := M3) (show 4 ≤ qz_at 15 by decide) rfl (qz_xi_nI (n := 60) hi (by decide)) (by rw [qz_cl_nI (by omega)]; exact e3) rfl ?_
    refine ei_inc hb dX1_init_55 (v := ((nI i) + 1)) (pc' := 58) (ls' := [some (.inr (.inl (some ((1, 0, 0) : qz_N)))), some (.inl ((nI i) + 1))]) rfl hml (Nat.le_of_ble_eq_true rfl) rfl rfl rfl rfl ?_
    refine ei_go hb dX1_init_58 (pc' := 33) (by decide) ?_
    rw [qz_nI1]
    exact Ez r Mf hE
theorem k_T (h : qz_Cs L xs 37 P Q M) : ∃ (M1 : qz_M) (P1 Q1 : qz_N → Nat → Prop), qz_Cs L xs 99 P1 Q1 M1 ∧ (∀ n j, P n j → P1 n j) ∧ (∀ n j, Q n j → Q1 n j) ∧ (P1 (1, 0, 0) 0 ∧ P1 (1, 0, 0) 2 ∧ ∀ k, k < 60 → P1 (15, 0, 0) k) ∧ qz_E 8 0 (qz_in0 8 [.inr (.inl (some ((1, 0, 0) : qz_N)))]) [] M none M1 := by
  have hb : qz_b 8 = cX1_init := rfl
  have hcn : qz_cn 8 = 1 := rfl
  have hml : qz_ml 8 = 2 := rfl
  obtain ⟨M1, e1, h1⟩ := cs_al h (n := ((14, 0, 0) : qz_N)) (by decide) (show 37 = 37 by omega) (show 14 < 30 by decide) (show 37 + 1 = 38 by omega)
  obtain ⟨M2, P2, e2, h2, l2, m2⟩ := cs_ur h1 (n := ((1, 0, 0) : qz_N)) (j := 0) (v := some ((14, 0, 0) : qz_N)) (show 36 < 38 by omega) rfl
  obtain ⟨M3, Q3, e3, h3, l3, m3⟩ := cs_ui h2 (n := ((1, 0, 0) : qz_N)) (j := 1) (v := (0 : Int32)) (show 36 < 38 by omega) (show 1 < 30 by decide) (qz_I0z (show 1 < 30 by decide) (show ¬ 1 = 0 by decide) (show ¬ 1 = 11 by decide) (show ¬ 1 = 12 by decide))
  obtain ⟨M4, e4, h4⟩ := cs_al h3 (n := ((15, 0, 0) : qz_N)) (by decide) (show 38 = 38 by omega) (show 15 < 30 by decide) (show 38 + 1 = 39 by omega)
  obtain ⟨M5, P5, e5, h5, l5, m5⟩ := cs_ur h4 (n := ((1, 0, 0) : qz_N)) (j := 2) (v := some ((15, 0, 0) : qz_N)) (show 36 < 39 by omega) rfl
  obtain ⟨M6, Q6, e6, h6, l6, m6⟩ := cs_ui h5 (n := ((1, 0, 0) : qz_N)) (j := 3) (v := (0 : Int32)) (show 36 < 39 by omega) (show 1 < 30 by decide) (qz_I0z (show 1 < 30 by decide) (show ¬ 1 = 0 by decide) (show ¬ 1 = 11 by decide) (show ¬ 1 = 12 by decide))
  obtain ⟨Ma, Pa, Qa, ha, la, lqa, ma, Ea⟩ := k_T1 60 0 rfl M6 _ _ h6 m5
  refine ⟨Ma, Pa, Qa, ha, (fun _ _ q => la _ _ (l5 _ _ (l2 _ _ q))), (fun _ _ q => lqa _ _ (l6 _ _ (l3 _ _ q))), ⟨la _ _ (l5 _ _ m2), la _ _ m5, fun k hk => ma k (Nat.zero_le k) hk⟩, ?_⟩
  show qz_E 8 0 [some (.inr (.inl (some ((1, 0, 0) : qz_N)))), none] [] M _ _
  refine ei_aln hb dX1_init_0 (pc' := 1) rfl rfl ?_
  refine ei_obj hb dX1_init_1 (pc' := 4) hcn (by decide) (Nat.le_of_ble_eq_true rfl) (by decide +kernel) rfl ?_
  refine ei_aln hb dX1_init_4 (pc' := 5) rfl rfl ?_
  refine ei_b hb dX1_init_5 (v := (60 : Int32)) (pc' := 7) (by decide) rfl ?_
  refine ei_nwa hb dX1_init_7 (pc' := 9) (M1 := M1) (n := ((14, 0, 0) : qz_N)) (cs_n h (by decide)) (by decide) (cs_x h (show 37 = 37 by omega)) (by decide) (show Int32.toNatClampNeg (60 : Int32) = qz_al 14 by decide) (Or.inr ⟨rfl, rfl⟩) e1 rfl ?_
  refine ei_pr hb dX1_init_9 (pc' := 12) (M1 := M2) hcn qz_f_1_9 rfl rfl rfl (by decide +kernel) rfl e2 rfl ?_
  refine ei_aln hb dX1_init_12 (pc' := 13) rfl rfl ?_
  refine ei_c hb dX1_init_13 (v := (0 : Int32)) (pc' := 14) (by decide) rfl ?_
  refine ei_pi hb dX1_init_14 (pc' := 17) (M1 := M3) hcn qz_f_1_15 rfl rfl (fun q => by cases q) rfl e3 rfl ?_
  refine ei_aln hb dX1_init_17 (pc' := 18) rfl rfl ?_
  refine ei_b hb dX1_init_18 (v := (60 : Int32)) (pc' := 20) (by decide) rfl ?_
  refine ei_ana hb dX1_init_20 (pc' := 23) (M1 := M4) (n := ((15, 0, 0) : qz_N)) (t := 3) hcn qz_n_1_19 (cs_n h3 (by decide)) (by decide) (cs_x h3 (show 38 = 38 by omega)) (by decide) (show Int32.toNatClampNeg (60 : Int32) = qz_al 15 by decide) (show 4 ≤ qz_at 15 by decide) rfl e4 rfl ?_
  refine ei_pr hb dX1_init_23 (pc' := 26) (M1 := M5) hcn qz_f_1_21 rfl rfl rfl (by decide +kernel) rfl e5 rfl ?_
  refine ei_aln hb dX1_init_26 (pc' := 27) rfl rfl ?_
  refine ei_c hb dX1_init_27 (v := (0 : Int32)) (pc' := 28) (by decide) rfl ?_
  refine ei_pi hb dX1_init_28 (pc' := 31) (M1 := M6) hcn qz_f_1_25 rfl rfl (fun q => by cases q) rfl e6 rfl ?_
  refine ei_c hb dX1_init_31 (v := (0 : Int32)) (pc' := 32) (by decide) rfl ?_
  refine ei_isn hb dX1_init_32 (pc' := 33) (ls' := [some (.inr (.inl (some ((1, 0, 0) : qz_N)))), some (.inl (0 : Int32))]) hml (Nat.le_of_ble_eq_true rfl) rfl rfl rfl ?_
  refine Ea none Ma ?_
  exact ei_retv hb dX1_init_61 rfl
theorem k_H1  : ∀ (m i : Nat), i + m = 4 → ∀ (M : qz_M) (P Q : qz_N → Nat → Prop), qz_Cs L xs (101 + 35 * i) P Q M → P ((2, 0, 0) : qz_N) 0 → ∃ (M1 : qz_M) (P1 Q1 : qz_N → Nat → Prop), qz_Cs L xs (101 + 35 * 4) P1 Q1 M1 ∧ (∀ n j, P n j → P1 n j) ∧ (∀ n j, Q n j → Q1 n j) ∧ ((∀ k, i ≤ k → k < 4 → P1 (16, 0, 0) k ∧ qz_Wf (1 + k) P1 Q1)) ∧ ∀ (r : Option qz_V) (Mf : qz_M), qz_E 9 47 [some (.inr (.inl (some ((2, 0, 0) : qz_N)))), some (.inl (nI 4))] [] M1 r Mf → qz_E 9 19 [some (.inr (.inl (some ((2, 0, 0) : qz_N)))), some (.inl (nI i))] [] M r Mf := by
  have hb : qz_b 9 = cX2_init := rfl
  have hcn : qz_cn 9 = 2 := rfl
  have hml : qz_ml 9 = 2 := rfl
  intro m
  induction m with
  | zero =>
    intro i him M P Q h p0
    obtain rfl : i = 4 := by omega
    refine ⟨M, P, Q, h, fun _ _ q => q, fun _ _ q => q, fun k a b => by omega, fun r Mf hE => ?_⟩
    have hc : (4 : Int32) ≤ nI 4 := by decide
    refine ei_iln hb dX2_init_19 (pc' := 20) rfl rfl ?_
    refine ei_aln hb dX2_init_20 (pc' := 21) rfl rfl ?_
    refine ei_gr hb dX2_init_21 (pc' := 24) (x := some ((16, 0, 0) : qz_N)) hcn qz_f_2_11 rfl rfl (cs_r h p0 rfl) rfl ?_
    refine ei_len hb dX2_init_24 (pc' := 25) (x := (4 : Int32)) (show ¬ qz_at 16 = 0 by decide) rfl rfl ?_
    refine ei_icT hb dX2_init_25 (pc' := 47) (decide_eq_true hc) (by decide) ?_
    exact hE
  | succ m ih =>
    intro i him M P Q h p0
    have hi : i < 4 := by omega
    have hc : ¬ (4 : Int32) ≤ nI i := fun q => by
      have := (qz_le_nI (a := 4) (b := i) (by decide) (by omega)).mp q
      omega
    obtain ⟨M1, e1, h1⟩ := cs_al h (n := ((4, (1 + i), 0) : qz_N)) (qz_nmh hi) (qz_ixh i) (show 4 < 30 by decide) (show 101 + 35 * i + 1 = 101 + 35 * i + 1 by omega)
    obtain ⟨M2, P2, Q2, h2, l2, lq2, m2, E2⟩ := k_W (w := 1 + i) (o0 := 101 + 35 * i + 1) (o1 := 101 + 35 * (i + 1)) (by omega) (by unfold qz_bs; rw [if_neg (by omega)]; omega) (by unfold qz_bs; rw [if_neg (by omega)]; omega) h1
    obtain ⟨M3, P3, e3, h3, l3, m3⟩ := cs_ur h2 (n := ((16, 0, 0) : qz_N)) (j := i) (v := some ((4, (1 + i), 0) : qz_N)) (show 100 < 101 + 35 * (i + 1) by omega) (by simp [qz_fr, qz_p0, hi])
    obtain ⟨Mz, Pz, Qz, hz, lz, lqz, mz, Ez⟩ := ih (i + 1) (by omega) M3 _ _ h3 (l3 _ _ (l2 _ _ p0))
    refine ⟨Mz, Pz, Qz, hz, (fun _ _ q => lz _ _ (l3 _ _ (l2 _ _ q))), (fun _ _ q => lqz _ _ (lq2 _ _ q)), fun k a b => (Nat.eq_or_lt_of_le a).elim (fun e => e ▸ ⟨lz _ _ m3, (m2.up l3 (fun _ _ q => q)).up lz lqz⟩) (fun a => mz k a b), fun r Mf hE => ?_⟩
    refine ei_iln hb dX2_init_19 (pc' := 20) rfl rfl ?_
    refine ei_aln hb dX2_init_20 (pc' := 21) rfl rfl ?_
    refine ei_gr hb dX2_init_21 (pc' := 24) (x := some ((16, 0, 0) : qz_N)) hcn qz_f_2_11 rfl rfl (cs_r h p0 rfl) rfl ?_
    refine ei_len hb dX2_init_24 (pc' := 25) (x := (4 : Int32)) (show ¬ qz_at 16 = 0 by decide) rfl rfl ?_
    refine ei_icF hb dX2_init_25 (pc' := 28) (t := 47) (decide_eq_false hc) (by decide) rfl ?_
    refine ei_aln hb dX2_init_28 (pc' := 29) rfl rfl ?_
    refine ei_gr hb dX2_init_29 (pc' := 32) (x := some ((16, 0, 0) : qz_N)) hcn qz_f_2_11 rfl rfl (cs_r h p0 rfl) rfl ?_
    refine ei_iln hb dX2_init_32 (pc' := 33) rfl rfl ?_
    refine ei_new hb dX2_init_33 (pc' := 36) (M1 := M1) (n := ((4, (1 + i), 0) : qz_N)) (t := 4) hcn qz_n_2_9 (cs_n h (qz_nmh hi)) rfl (show (decide (1 + i < 6) && true) = true by simp; omega) (cs_x h (qz_ixh i)) e1 rfl ?_
    refine ei_dup hb dX2_init_36 (pc' := 37) rfl rfl ?_
    refine ei_ci hb dX2_init_37 (pc' := 40) (M1 := M2) (as := []) (rest := [.inr (.inl (some ((4, (1 + i), 0) : qz_N))), .inl (nI i), .inr (.inl (some ((16, 0, 0) : qz_N)))]) (st' := [.inr (.inl (some ((4, (1 + i), 0) : qz_N))), .inl (nI i), .inr (.inl (some ((16, 0, 0) : qz_N)))]) hcn qz_c_2_21 (by decide) qz_ki_14 qz_qi_9_14 (Nat.le_of_ble_eq_true rfl) (Nat.le_of_ble_eq_true rfl) rfl rfl rfl rfl E2 rfl rfl ?_
    refine ei_aas hb dX2_init_40 (pc' := 41) (M1 := M3) (show 4 ≤ qz_at 16 by decide) rfl (qz_xi_nI (n := 4) hi (by decide)) (by rw [qz_cl_nI (by omega)]; exact e3) rfl ?_
    refine ei_inc hb dX2_init_41 (v := ((nI i) + 1)) (pc' := 44) (ls' := [some (.inr (.inl (some ((2, 0, 0) : qz_N)))), some (.inl ((nI i) + 1))]) rfl hml (Nat.le_of_ble_eq_true rfl) rfl rfl rfl rfl ?_
    refine ei_go hb dX2_init_44 (pc' := 19) (by decide) ?_
    rw [qz_nI1]
    exact Ez r Mf hE
theorem k_H (h : qz_Cs L xs 100 P Q M) : ∃ (M1 : qz_M) (P1 Q1 : qz_N → Nat → Prop), qz_Cs L xs 241 P1 Q1 M1 ∧ (∀ n j, P n j → P1 n j) ∧ (∀ n j, Q n j → Q1 n j) ∧ (P1 (2, 0, 0) 0 ∧ ∀ k, k < 4 → P1 (16, 0, 0) k ∧ qz_Wf (1 + k) P1 Q1) ∧ qz_E 9 0 (qz_in0 9 [.inr (.inl (some ((2, 0, 0) : qz_N)))]) [] M none M1 := by
  have hb : qz_b 9 = cX2_init := rfl
  have hcn : qz_cn 9 = 2 := rfl
  have hml : qz_ml 9 = 2 := rfl
  obtain ⟨M1, e1, h1⟩ := cs_al h (n := ((16, 0, 0) : qz_N)) (by decide) (show 100 = 100 by omega) (show 16 < 30 by decide) (show 100 + 1 = 101 by omega)
  obtain ⟨M2, P2, e2, h2, l2, m2⟩ := cs_ur h1 (n := ((2, 0, 0) : qz_N)) (j := 0) (v := some ((16, 0, 0) : qz_N)) (show 99 < 101 by omega) rfl
  obtain ⟨M3, Q3, e3, h3, l3, m3⟩ := cs_ui h2 (n := ((2, 0, 0) : qz_N)) (j := 1) (v := (0 : Int32)) (show 99 < 101 by omega) (show 2 < 30 by decide) (qz_I0z (show 2 < 30 by decide) (show ¬ 2 = 0 by decide) (show ¬ 2 = 11 by decide) (show ¬ 2 = 12 by decide))
  obtain ⟨Ma, Pa, Qa, ha, la, lqa, ma, Ea⟩ := k_H1 4 0 rfl M3 _ _ h3 m2
  refine ⟨Ma, Pa, Qa, ha, (fun _ _ q => la _ _ (l2 _ _ q)), (fun _ _ q => lqa _ _ (l3 _ _ q)), ⟨la _ _ m2, fun k hk => ma k (Nat.zero_le k) hk⟩, ?_⟩
  show qz_E 9 0 [some (.inr (.inl (some ((2, 0, 0) : qz_N)))), none] [] M _ _
  refine ei_aln hb dX2_init_0 (pc' := 1) rfl rfl ?_
  refine ei_obj hb dX2_init_1 (pc' := 4) hcn (by decide) (Nat.le_of_ble_eq_true rfl) (by decide +kernel) rfl ?_
  refine ei_aln hb dX2_init_4 (pc' := 5) rfl rfl ?_
  refine ei_c hb dX2_init_5 (v := (4 : Int32)) (pc' := 6) (by decide) rfl ?_
  refine ei_ana hb dX2_init_6 (pc' := 9) (M1 := M1) (n := ((16, 0, 0) : qz_N)) (t := 4) hcn qz_n_2_9 (cs_n h (by decide)) (by decide) (cs_x h (show 100 = 100 by omega)) (by decide) (show Int32.toNatClampNeg (4 : Int32) = qz_al 16 by decide) (show 4 ≤ qz_at 16 by decide) rfl e1 rfl ?_
  refine ei_pr hb dX2_init_9 (pc' := 12) (M1 := M2) hcn qz_f_2_11 rfl rfl rfl (by decide +kernel) rfl e2 rfl ?_
  refine ei_aln hb dX2_init_12 (pc' := 13) rfl rfl ?_
  refine ei_c hb dX2_init_13 (v := (0 : Int32)) (pc' := 14) (by decide) rfl ?_
  refine ei_pi hb dX2_init_14 (pc' := 17) (M1 := M3) hcn qz_f_2_17 rfl rfl (fun q => by cases q) rfl e3 rfl ?_
  refine ei_c hb dX2_init_17 (v := (0 : Int32)) (pc' := 18) (by decide) rfl ?_
  refine ei_isn hb dX2_init_18 (pc' := 19) (ls' := [some (.inr (.inl (some ((2, 0, 0) : qz_N)))), some (.inl (0 : Int32))]) hml (Nat.le_of_ble_eq_true rfl) rfl rfl rfl ?_
  refine Ea none Ma ?_
  exact ei_retv hb dX2_init_47 rfl
theorem k_X (h : qz_Cs L xs 1 P Q M) : ∃ (M1 : qz_M) (P1 Q1 : qz_N → Nat → Prop), qz_Cs L xs 276 P1 Q1 M1 ∧ (∀ n j, P n j → P1 n j) ∧ (∀ n j, Q n j → Q1 n j) ∧ ((∀ w, w < 6 → qz_Wf w P1 Q1) ∧ (P1 (1, 0, 0) 0 ∧ P1 (1, 0, 0) 2 ∧ ∀ k, k < 60 → P1 (15, 0, 0) k) ∧ (P1 (2, 0, 0) 0 ∧ ∀ k, k < 4 → P1 (16, 0, 0) k) ∧ P1 (5, 0, 0) 0 ∧ P1 (5, 0, 0) 1 ∧ P1 (5, 0, 0) 2 ∧ P1 (5, 0, 0) 3) ∧ qz_E 49 0 (qz_in0 49 [.inr (.inl (some ((5, 0, 0) : qz_N)))]) [] M none M1 := by
  have hb : qz_b 49 = cX5_init := rfl
  have hcn : qz_cn 49 = 5 := rfl
  have hml : qz_ml 49 = 1 := rfl
  obtain ⟨M1, e1, h1⟩ := cs_al h (n := ((4, 0, 0) : qz_N)) (by decide) (show 1 = 1 by omega) (show 4 < 30 by decide) (show 1 + 1 = 2 by omega)
  obtain ⟨M2, P2, Q2, h2, l2, lq2, m2, E2⟩ := k_W (w := 0) (o0 := 2) (o1 := 36) (by decide) rfl rfl h1
  obtain ⟨M3, P3, e3, h3, l3, m3⟩ := cs_ur h2 (n := ((5, 0, 0) : qz_N)) (j := 0) (v := some ((4, 0, 0) : qz_N)) (show 0 < 36 by omega) rfl
  obtain ⟨M4, e4, h4⟩ := cs_al h3 (n := ((1, 0, 0) : qz_N)) (by decide) (show 36 = 36 by omega) (show 1 < 30 by decide) (show 36 + 1 = 37 by omega)
  obtain ⟨M5, P5, Q5, h5, l5, lq5, m5, E5⟩ := k_T h4
  obtain ⟨M6, P6, e6, h6, l6, m6⟩ := cs_ur h5 (n := ((5, 0, 0) : qz_N)) (j := 1) (v := some ((1, 0, 0) : qz_N)) (show 0 < 99 by omega) rfl
  obtain ⟨M7, e7, h7⟩ := cs_al h6 (n := ((2, 0, 0) : qz_N)) (by decide) (show 99 = 99 by omega) (show 2 < 30 by decide) (show 99 + 1 = 100 by omega)
  obtain ⟨M8, P8, Q8, h8, l8, lq8, m8, E8⟩ := k_H h7
  obtain ⟨M9, P9, e9, h9, l9, m9⟩ := cs_ur h8 (n := ((5, 0, 0) : qz_N)) (j := 2) (v := some ((2, 0, 0) : qz_N)) (show 0 < 241 by omega) rfl
  obtain ⟨M10, e10, h10⟩ := cs_al h9 (n := ((4, 5, 0) : qz_N)) (by decide) (show 241 = 241 by omega) (show 4 < 30 by decide) (show 241 + 1 = 242 by omega)
  obtain ⟨M11, P11, Q11, h11, l11, lq11, m11, E11⟩ := k_W (w := 5) (o0 := 242) (o1 := 276) (by decide) rfl rfl h10
  obtain ⟨M12, P12, e12, h12, l12, m12⟩ := cs_ur h11 (n := ((5, 0, 0) : qz_N)) (j := 3) (v := some ((4, 5, 0) : qz_N)) (show 0 < 276 by omega) rfl
  obtain ⟨M13, Q13, e13, h13, l13, m13⟩ := cs_ui h12 (n := ((5, 0, 0) : qz_N)) (j := 4) (v := (0 : Int32)) (show 0 < 276 by omega) (show 5 < 30 by decide) (qz_I0z (show 5 < 30 by decide) (show ¬ 5 = 0 by decide) (show ¬ 5 = 11 by decide) (show ¬ 5 = 12 by decide))
  have hW0 : qz_Wf 0 _ _ := (m2.up (fun _ _ q => l12 _ _ (l11 _ _ (l9 _ _ (l8 _ _ (l6 _ _ (l5 _ _ (l3 _ _ q))))))) (fun _ _ q => l13 _ _ (lq11 _ _ (lq8 _ _ (lq5 _ _ q)))))
  have hW5 : qz_Wf 5 _ _ := (m11.up (fun _ _ q => l12 _ _ q) (fun _ _ q => l13 _ _ q))
  refine ⟨_, _, _, h13, (fun _ _ q => l12 _ _ (l11 _ _ (l9 _ _ (l8 _ _ (l6 _ _ (l5 _ _ (l3 _ _ (l2 _ _ q)))))))), (fun _ _ q => l13 _ _ (lq11 _ _ (lq8 _ _ (lq5 _ _ (lq2 _ _ q))))), ⟨fun w hw => ?_, ⟨(l12 _ _ (l11 _ _ (l9 _ _ (l8 _ _ (l6 _ _ m5.1))))), (l12 _ _ (l11 _ _ (l9 _ _ (l8 _ _ (l6 _ _ m5.2.1))))), fun k hk => (l12 _ _ (l11 _ _ (l9 _ _ (l8 _ _ (l6 _ _ (m5.2.2 k hk))))))⟩, ⟨(l12 _ _ (l11 _ _ (l9 _ _ m8.1))), fun k hk => (l12 _ _ (l11 _ _ (l9 _ _ (m8.2 k hk).1)))⟩, (l12 _ _ (l11 _ _ (l9 _ _ (l8 _ _ (l6 _ _ (l5 _ _ m3)))))), (l12 _ _ (l11 _ _ (l9 _ _ (l8 _ _ m6)))), (l12 _ _ (l11 _ _ m9)), m12⟩, ?_⟩
  · have hc : w = 0 ∨ w = 5 ∨ (1 ≤ w ∧ w < 5) := by omega
    rcases hc with rfl | rfl | ⟨h1, h2⟩
    · exact hW0
    · exact hW5
    · have h3 := (m8.2 (w - 1) (by omega)).2.up (fun _ _ q => l12 _ _ (l11 _ _ (l9 _ _ q))) (fun _ _ q => l13 _ _ (lq11 _ _ q))
      rw [show 1 + (w - 1) = w by omega] at h3
      exact h3
  · show qz_E 49 0 [some (.inr (.inl (some ((5, 0, 0) : qz_N))))] [] M _ _
    refine ei_aln hb dX5_init_0 (pc' := 1) rfl rfl ?_
    refine ei_obj hb dX5_init_1 (pc' := 4) hcn (by decide) (Nat.le_of_ble_eq_true rfl) (by decide +kernel) rfl ?_
    refine ei_aln hb dX5_init_4 (pc' := 5) rfl rfl ?_
    refine ei_new hb dX5_init_5 (pc' := 8) (M1 := M1) (n := ((4, 0, 0) : qz_N)) (t := 4) hcn qz_n_5_7 (cs_n h (by decide)) rfl (by decide) (cs_x h (show 1 = 1 by omega)) e1 rfl ?_
    refine ei_dup hb dX5_init_8 (pc' := 9) rfl rfl ?_
    refine ei_ci hb dX5_init_9 (pc' := 12) (M1 := M2) (as := []) (rest := [.inr (.inl (some ((4, 0, 0) : qz_N))), .inr (.inl (some ((5, 0, 0) : qz_N)))]) (st' := [.inr (.inl (some ((4, 0, 0) : qz_N))), .inr (.inl (some ((5, 0, 0) : qz_N)))]) hcn qz_c_5_9 (by decide) qz_ki_14 qz_qi_49_14 (Nat.le_of_ble_eq_true rfl) (Nat.le_of_ble_eq_true rfl) rfl rfl rfl rfl E2 rfl rfl ?_
    refine ei_pr hb dX5_init_12 (pc' := 15) (M1 := M3) hcn qz_f_5_10 rfl rfl rfl (by decide +kernel) rfl e3 rfl ?_
    refine ei_aln hb dX5_init_15 (pc' := 16) rfl rfl ?_
    refine ei_new hb dX5_init_16 (pc' := 19) (M1 := M4) (n := ((1, 0, 0) : qz_N)) (t := 1) hcn qz_n_5_16 (cs_n h3 (by decide)) rfl (by decide) (cs_x h3 (show 36 = 36 by omega)) e4 rfl ?_
    refine ei_dup hb dX5_init_19 (pc' := 20) rfl rfl ?_
    refine ei_ci hb dX5_init_20 (pc' := 23) (M1 := M5) (as := []) (rest := [.inr (.inl (some ((1, 0, 0) : qz_N))), .inr (.inl (some ((5, 0, 0) : qz_N)))]) (st' := [.inr (.inl (some ((1, 0, 0) : qz_N))), .inr (.inl (some ((5, 0, 0) : qz_N)))]) hcn qz_c_5_18 (by decide) qz_ki_8 qz_qi_49_8 (Nat.le_of_ble_eq_true rfl) (Nat.le_of_ble_eq_true rfl) rfl rfl rfl rfl E5 rfl rfl ?_
    refine ei_pr hb dX5_init_23 (pc' := 26) (M1 := M6) hcn qz_f_5_19 rfl rfl rfl (by decide +kernel) rfl e6 rfl ?_
    refine ei_aln hb dX5_init_26 (pc' := 27) rfl rfl ?_
    refine ei_new hb dX5_init_27 (pc' := 30) (M1 := M7) (n := ((2, 0, 0) : qz_N)) (t := 2) hcn qz_n_5_23 (cs_n h6 (by decide)) rfl (by decide) (cs_x h6 (show 99 = 99 by omega)) e7 rfl ?_
    refine ei_dup hb dX5_init_30 (pc' := 31) rfl rfl ?_
    refine ei_ci hb dX5_init_31 (pc' := 34) (M1 := M8) (as := []) (rest := [.inr (.inl (some ((2, 0, 0) : qz_N))), .inr (.inl (some ((5, 0, 0) : qz_N)))]) (st' := [.inr (.inl (some ((2, 0, 0) : qz_N))), .inr (.inl (some ((5, 0, 0) : qz_N)))]) hcn qz_c_5_25 (by decide) qz_ki_9 qz_qi_49_9 (Nat.le_of_ble_eq_true rfl) (Nat.le_of_ble_eq_true rfl) rfl rfl rfl rfl E8 rfl rfl ?_
    refine ei_pr hb dX5_init_34 (pc' := 37) (M1 := M9) hcn qz_f_5_26 rfl rfl rfl (by decide +kernel) rfl e9 rfl ?_
    refine ei_aln hb dX5_init_37 (pc' := 38) rfl rfl ?_
    refine ei_new hb dX5_init_38 (pc' := 41) (M1 := M10) (n := ((4, 5, 0) : qz_N)) (t := 4) hcn qz_n_5_7 (cs_n h9 (by decide)) rfl (by decide) (cs_x h9 (show 241 = 241 by omega)) e10 rfl ?_
    refine ei_dup hb dX5_init_41 (pc' := 42) rfl rfl ?_
    refine ei_ci hb dX5_init_42 (pc' := 45) (M1 := M11) (as := []) (rest := [.inr (.inl (some ((4, 5, 0) : qz_N))), .inr (.inl (some ((5, 0, 0) : qz_N)))]) (st' := [.inr (.inl (some ((4, 5, 0) : qz_N))), .inr (.inl (some ((5, 0, 0) : qz_N)))]) hcn qz_c_5_9 (by decide) qz_ki_14 qz_qi_49_14 (Nat.le_of_ble_eq_true rfl) (Nat.le_of_ble_eq_true rfl) rfl rfl rfl rfl E11 rfl rfl ?_
    refine ei_pr hb dX5_init_45 (pc' := 48) (M1 := M12) hcn qz_f_5_30 rfl rfl rfl (by decide +kernel) rfl e12 rfl ?_
    refine ei_aln hb dX5_init_48 (pc' := 49) rfl rfl ?_
    refine ei_c hb dX5_init_49 (v := (0 : Int32)) (pc' := 50) (by decide) rfl ?_
    refine ei_pi hb dX5_init_50 (pc' := 53) (M1 := M13) hcn qz_f_5_33 rfl rfl (fun _ => by decide) rfl e13 rfl ?_
    exact ei_retv hb dX5_init_53 rfl
theorem k_L (r : Option qz_V) (Mf : qz_M) (hE : qz_E 75 8 [some (.inr (.inl (some ((33, 0, 0) : qz_N)))), some (.inr (.inl (some ((5, 0, 0) : qz_N)))), none, none, none, none, none, none, none, none, none, none, none, none, none, none, none, none, none, none, none, none, none, none, none, none, none, none, none, none, none, none, none, none] [] (qz_mk (qz_I0 L xs) qz_p0) r Mf) : qz_E 75 0 (qz_in0 75 [.inr (.inl (some ((33, 0, 0) : qz_N)))]) [] (qz_M0 L xs) r Mf := by
  have hb : qz_b 75 = cL_law := rfl
  have hcn : qz_cn 75 = 8 := rfl
  have hml : qz_ml 75 = 17 := rfl
  obtain ⟨M, hM⟩ : ∃ M, qz_M0 L xs = M := ⟨_, rfl⟩
  have h : qz_Cs L xs 0 (fun _ _ => False) (fun _ _ => False) M := by
    subst hM
    exact ⟨rfl, fun _ _ => ⟨fun q => q.elim, fun _ => rfl⟩, fun _ _ => ⟨fun q => q.elim, fun _ => rfl⟩, fun _ _ q => q.elim, fun _ _ q => q.elim⟩
  rw [hM]
  obtain ⟨M1, e1, h1⟩ := cs_al h (n := ((5, 0, 0) : qz_N)) (by decide) (show 0 = 0 by omega) (show 5 < 30 by decide) (show 0 + 1 = 1 by omega)
  obtain ⟨M2, P2, Q2, h2, l2, lq2, m2, E2⟩ := k_X h1
  have hfin : M2 = qz_mk (qz_I0 L xs) qz_p0 := by
    obtain ⟨x1, x2, x3, x4⟩ := m2
    have lP : ∀ n j, P2 n j → P2 n j := fun _ _ q => q
    have lQ : ∀ n j, Q2 n j → Q2 n j := fun _ _ q => q
    refine cs_end h2 (fun n j hn => ?_) (fun n j hn => ?_)
    · obtain ⟨k, w, i⟩ := n
      unfold qz_fr at hn
      split at hn
      · next hk =>
        simp only at hk hn
        subst hk
        split at hn
        · next hw =>
          obtain ⟨hw, rfl⟩ := hw
          have := (x1 w hw).1
          split at hn
          · next e => subst e; exact lP _ _ this.1
          · split at hn
            · next e => subst e; exact lP _ _ this.2.1
            · split at hn
              · next e => subst e; exact lP _ _ this.2.2.1
              · split at hn
                · next e => subst e; exact lP _ _ this.2.2.2
                · exact absurd rfl hn
        · exact absurd rfl hn
      · next hk =>
        simp only at hk hn
        subst hk
        split at hn
        · next hw => obtain ⟨hw, rfl, hj⟩ := hw; exact lP _ _ ((x1 w hw).2.1 j hj)
        · exact absurd rfl hn
      · next hk =>
        simp only at hk hn
        subst hk
        split at hn
        · next hw =>
          obtain ⟨rfl, rfl⟩ := hw
          split at hn
          · next e => subst e; exact lP _ _ x2.1
          · split at hn
            · next e => subst e; exact lP _ _ x2.2.1
            · exact absurd rfl hn
        · exact absurd rfl hn
      · next hk =>
        simp only at hk hn
        subst hk
        split at hn
        · next hw => obtain ⟨rfl, rfl, hj⟩ := hw; exact lP _ _ (x2.2.2 j hj)
        · exact absurd rfl hn
      · next hk =>
        simp only at hk hn
        subst hk
        split at hn
        · next hw => obtain ⟨rfl, rfl, rfl⟩ := hw; exact lP _ _ x3.1
        · exact absurd rfl hn
      · next hk =>
        simp only at hk hn
        subst hk
        split at hn
        · next hw => obtain ⟨rfl, rfl, hj⟩ := hw; exact lP _ _ (x3.2 j hj)
        · exact absurd rfl hn
      · next hk =>
        simp only at hk hn
        subst hk
        split at hn
        · next hw =>
          obtain ⟨rfl, rfl⟩ := hw
          split at hn
          · next e => subst e; exact lP _ _ x4.1
          · split at hn
            · next e => subst e; exact lP _ _ x4.2.1
            · split at hn
              · next e => subst e; exact lP _ _ x4.2.2.1
              · split at hn
                · next e => subst e; exact lP _ _ x4.2.2.2
                · exact absurd rfl hn
        · exact absurd rfl hn
      · exact absurd rfl hn
    · obtain ⟨k, w, i⟩ := n
      unfold qz_I0 at hn
      split at hn
      · next hk =>
        simp only at hk
        subst hk
        rw [qz_F0d (show 0 < 30 by decide)] at hn
        split at hn
        · next hj =>
          subst hj
          split at hn
          · next hv =>
            simp [qz_vl] at hv
            exact lQ _ _ ((x1 w hv.1).2.2.1 i hv.2)
          · exact absurd rfl hn
        · exact absurd rfl hn
      · split at hn
        · next hk =>
          simp only at hk
          subst hk
          rw [qz_F0d (show 11 < 30 by decide)] at hn
          split at hn
          · next hj => obtain ⟨hj, hw, e⟩ := hj; simp only at hw e; subst e; exact lQ _ _ ((x1 w hw).2.2.2.1 j hj)
          · exact absurd rfl hn
        · split at hn
          · next hk =>
            simp only at hk
            subst hk
            rw [qz_F0d (show 12 < 30 by decide)] at hn
            split at hn
            · next hj => obtain ⟨hj, hw, e⟩ := hj; simp only at hw e; subst e; exact lQ _ _ ((x1 w hw).2.2.2.2 j hj)
            · exact absurd rfl hn
          · exact absurd rfl hn
  show qz_E 75 0 [some (.inr (.inl (some ((33, 0, 0) : qz_N)))), none, none, none, none, none, none, none, none, none, none, none, none, none, none, none, none, none, none, none, none, none, none, none, none, none, none, none, none, none, none, none, none, none] [] M r Mf
  refine ei_new hb dL_law_0 (pc' := 3) (M1 := M1) (n := ((5, 0, 0) : qz_N)) (t := 5) hcn qz_n_8_13 (cs_n h (by decide)) rfl (by decide) (cs_x h (show 0 = 0 by omega)) e1 rfl ?_
  refine ei_dup hb dL_law_3 (pc' := 4) rfl rfl ?_
  refine ei_ci hb dL_law_4 (pc' := 7) (M1 := M2) (as := []) (rest := [.inr (.inl (some ((5, 0, 0) : qz_N)))]) (st' := [.inr (.inl (some ((5, 0, 0) : qz_N)))]) hcn qz_c_8_65 (by decide) qz_ki_49 qz_qi_75_49 (Nat.le_of_ble_eq_true rfl) (Nat.le_of_ble_eq_true rfl) rfl rfl rfl rfl E2 rfl rfl ?_
  refine ei_asn hb dL_law_7 (pc' := 8) (ls' := [some (.inr (.inl (some ((33, 0, 0) : qz_N)))), some (.inr (.inl (some ((5, 0, 0) : qz_N)))), none, none, none, none, none, none, none, none, none, none, none, none, none, none, none, none, none, none, none, none, none, none, none, none, none, none, none, none, none, none, none, none]) hml (Nat.le_of_ble_eq_true rfl) rfl rfl rfl ?_
  rw [hfin]
  exact hE
end QZL
