/-! what the reference tells, read off -/
section QYC
variable {F B : Nat} {f : qz_F}
theorem qm_of {k c : Nat} (hk : k < 30) (hc : c < 8) : gM_of F f (nI k) (nI c) = some ((qy_rm (f (17, 0, 0)) k) c) := by
  unfold gM_of
  rw [show (8 : Int32) = nI 8 from rfl, show (43 : Int32) = nI 43 from rfl, qy_mul, qy_add, qy_add, if_pos (qz_xi_nI (by omega) (by decide)), qz_cl_nI (by omega)]
  unfold qy_rm
  rw [if_pos hc]
theorem qm_o0 {k : Nat} (hk : k < 30) : gM_of F f (nI k) 0 = some ((qy_rm (f (17, 0, 0)) k) 0) := qm_of (c := 0) hk (by decide)
theorem qm_o1 {k : Nat} (hk : k < 30) : gM_of F f (nI k) 1 = some ((qy_rm (f (17, 0, 0)) k) 1) := qm_of (c := 1) hk (by decide)
theorem qm_o2 {k : Nat} (hk : k < 30) : gM_of F f (nI k) 2 = some ((qy_rm (f (17, 0, 0)) k) 2) := qm_of (c := 2) hk (by decide)
theorem qm_o3 {k : Nat} (hk : k < 30) : gM_of F f (nI k) 3 = some ((qy_rm (f (17, 0, 0)) k) 3) := qm_of (c := 3) hk (by decide)
theorem qm_o4 {k : Nat} (hk : k < 30) : gM_of F f (nI k) 4 = some ((qy_rm (f (17, 0, 0)) k) 4) := qm_of (c := 4) hk (by decide)
theorem qm_o5 {k : Nat} (hk : k < 30) : gM_of F f (nI k) 5 = some ((qy_rm (f (17, 0, 0)) k) 5) := qm_of (c := 5) hk (by decide)
theorem qm_o6 {k : Nat} (hk : k < 30) : gM_of F f (nI k) 6 = some ((qy_rm (f (17, 0, 0)) k) 6) := qm_of (c := 6) hk (by decide)
theorem qm_o7 {k : Nat} (hk : k < 30) : gM_of F f (nI k) 7 = some ((qy_rm (f (17, 0, 0)) k) 7) := qm_of (c := 7) hk (by decide)
theorem qm_in (x a b : Int32) : (gM_in f x a b = 0) = ¬ (a ≤ x ∧ x ≤ b) := by
  unfold gM_in
  by_cases h : x < a
  · rw [if_pos h]
    simp [Int32.not_le.mpr h]
  · rw [if_neg h]
    by_cases h2 : b < x
    · rw [if_pos h2]
      simp [Int32.not_le.mpr h2]
    · rw [if_neg h2]
      simp [Int32.not_lt.mp h, Int32.not_lt.mp h2]
theorem qm_in1 (x a b : Int32) : gM_in f x a b = 0 ∨ gM_in f x a b = 1 := by
  unfold gM_in
  by_cases h : x < a
  · rw [if_pos h]; exact Or.inl rfl
  · rw [if_neg h]
    by_cases h2 : b < x
    · rw [if_pos h2]; exact Or.inl rfl
    · rw [if_neg h2]; exact Or.inr rfl
theorem qm_isEnd (hW : qy_Wf (f (17, 0, 0)) B) (x : Int32) : ∃ v, gM_isEnd F f x = some v ∧ (v = 0) = ¬ (0 ≤ x ∧ x < (f (17, 0, 0)) 4) := by
  refine ⟨_, rfl, ?_⟩
  rw [qm_in, hW.1]
  have h10 := hW.2.1
  have h1 : (nI (qy_ec (f (17, 0, 0))) - 1).toInt = (qy_ec (f (17, 0, 0)) : Int) - 1 := qy_subI (b := 1) (by omega) (by decide)
  have h2 : (x ≤ nI (qy_ec (f (17, 0, 0))) - 1) = (x < nI (qy_ec (f (17, 0, 0)))) := by
    rw [Int32.le_iff_toInt_le, Int32.lt_iff_toInt_lt, h1, qy_ti (by omega)]
    exact propext ⟨fun h => by omega, fun h => by omega⟩
  rw [h2]
theorem qm_isLine (x : Int32) : (gM_isLine f x = 0) = ¬ ∃ l, l < 2 ∧ x = nI l := by
  rw [← qy_line (f := f)]
  unfold gM_isLine
  rw [qm_in]
  unfold gX_isLine
  by_cases h : x < 0
  · simp [h, Int32.not_le.mpr h]
  · rw [if_neg h]
    have h1 : (x ≤ 1) = ¬ (2 : Int32) ≤ x := by
      rw [Int32.le_iff_toInt_le, Int32.le_iff_toInt_le]
      have e1 : (1 : Int32).toInt = 1 := rfl
      have e2 : (2 : Int32).toInt = 2 := rfl
      rw [e1, e2]
      exact propext ⟨fun h => by omega, fun h => by omega⟩
    rw [h1]
    by_cases h2 : (2 : Int32) ≤ x <;> simp [h2, Int32.not_lt.mp h]
theorem qm_isStop (x : Int32) : (gM_isStop f x = 0) = ¬ ∃ s, 1 ≤ s ∧ s ≤ 9 ∧ x = nI s := by
  rw [← qy_stop (f := f)]
  unfold gM_isStop
  rw [qm_in]
  unfold gX_isStop
  by_cases h : x < 1
  · simp [h, Int32.not_le.mpr h]
  · rw [if_neg h]
    by_cases h2 : (9 : Int32) < x
    · simp [h2, Int32.not_le.mpr h2]
    · simp [h2, Int32.not_lt.mp h2, Int32.not_lt.mp h]
theorem qm_minute {e : Nat} (h : e < 10) : gM_minute F f (nI e) = some ((f (17, 0, 0)) (13 + e)) := by
  unfold gM_minute
  rw [show (13 : Int32) = nI 13 from rfl, qy_add, if_pos (qz_xi_nI (by omega) (by decide)), qz_cl_nI (by omega)]
theorem qm_partner {l e : Nat} (hl : l < 2) (he : e < 10) : gM_partner F f (nI l) (nI e) = some (qy_pa (f (17, 0, 0)) l e) := by
  unfold gM_partner qy_pa qy_pc
  rw [show (23 : Int32) = nI 23 from rfl, show (10 : Int32) = nI 10 from rfl, qy_mul, qy_add, qy_add, if_pos (qz_xi_nI (by omega) (by decide)), qz_cl_nI (by omega)]
  by_cases h : (f (17, 0, 0)) (23 + 10 * l + e) = 0
  · rw [if_pos h, if_pos h]
  · rw [if_neg h, if_neg h]
theorem qy_pac {g : Nat → Int32} (hW : qy_Wf g B) {l e : Nat} (hl : l < 2) (he : e < 10) : qy_pa g l e = -5 ∧ g (23 + 10 * l + e) = 0 ∨ ∃ o, o < qy_ec g ∧ e < qy_ec g ∧ o ≠ e ∧ qy_pa g l e = nI o ∧ qy_pa g l o = nI e ∧ g (23 + 10 * l + e) = nI (o + 1) ∧ ¬ qy_pa g l e = -5 := by
  have h10 := hW.2.1
  have hs : ∀ o, o < 10 → qy_pc (nI (o + 1)) = nI o ∧ ¬ nI o = -5 := by
    intro o ho
    unfold qy_pc
    have h0 : ¬ nI (o + 1) = 0 := by
      have : ¬ nI (o + 1) = nI 0 := by rw [qy_eq (by omega) (by decide)]; omega
      exact this
    rw [if_neg h0, show (1 : Int32) = nI 1 from rfl, qy_sub (by omega)]
    refine ⟨by congr 1, fun q => ?_⟩
    have := congrArg Int32.toInt q
    rw [qy_ti (by omega)] at this
    have h5 : (-5 : Int32).toInt = -5 := rfl
    rw [h5] at this
    omega
  rcases hW.2.2.2.2.2.2.2.1 l e hl he with h | ⟨o, ho, hee, hne, h1, h2⟩
  · left
    refine ⟨?_, h⟩
    unfold qy_pa qy_pc
    rw [if_pos h]
  · right
    have a1 : qy_pa g l e = nI o := by
      unfold qy_pa
      rw [h1]
      exact (hs o (by omega)).1
    have a2 : qy_pa g l o = nI e := by
      unfold qy_pa
      rw [h2]
      exact (hs e (by omega)).1
    exact ⟨o, ho, hee, hne, a1, a2, h1, by rw [a1]; exact (hs o (by omega)).2⟩
theorem qy_n5 {a : Nat} (h : a < 2147483648) : ¬ nI a = -5 := by
  intro q
  have := congrArg Int32.toInt q
  rw [qy_ti h] at this
  have h5 : (-5 : Int32).toInt = -5 := rfl
  rw [h5] at this
  omega
theorem qm_later (a b : Int32) : gM_later f a b = if a < b then b else a := by
  unfold gM_later
  by_cases h : a < b
  · rw [if_pos h, if_pos (Int32.le_of_lt h)]
  · rw [if_neg h]
    by_cases h2 : a ≤ b
    · rw [if_pos h2]
      exact Int32.le_antisymm (Int32.not_lt.mp h) h2
    · rw [if_neg h2]
theorem qy_stE {g : Nat → Int32} (hW : qy_Wf g B) {e o : Nat} (ho : o < qy_ec g) : qy_st g e (nI o) = if g (13 + e) < g (13 + o) then g (13 + o) else g (13 + e) := by
  have h10 := hW.2.1
  unfold qy_st qy_mi
  rw [if_pos (qy_isE' hW ho), qz_cl_nI (by omega)]
theorem qy_st5 {g : Nat → Int32} {e : Nat} : qy_st g e (-5) = g (13 + e) := by
  unfold qy_st qy_mi
  rw [if_neg (fun q => absurd q.1 (by decide))]
theorem qm_startOf (hW : qy_Wf (f (17, 0, 0)) B) {l e : Nat} (hl : l < 2) (he : e < 10) : gM_startOf F f (nI l) (nI e) = some (qy_st (f (17, 0, 0)) e (qy_pa (f (17, 0, 0)) l e)) := by
  have h10 := hW.2.1
  unfold gM_startOf
  refine qy_bs (qm_partner hl he) ?_
  rcases qy_pac hW hl he with ⟨h, _⟩ | ⟨o, ho, _, _, h, _, _, h5⟩
  · rw [if_pos h, h, qy_st5]
    exact qy_bs (qm_minute he) rfl
  · rw [if_neg h5, h, qy_stE hW ho]
    refine qy_bs (qm_minute he) ?_
    refine qy_bs (qm_minute (by omega)) ?_
    rw [qm_later]
theorem qm_c (hW : qy_Wf (f (17, 0, 0)) B) {i : Nat} (hi : i < qy_n (f (17, 0, 0))) : ¬ (f (17, 0, 0)) 6 ≤ nI i ∧ nI i + 1 = nI (i + 1) ∧ i < 30 := by
  have := hW.2.2.2.1
  refine ⟨?_, qz_nI1 i, by omega⟩
  rw [hW.2.2.1, qy_le (by omega) (by omega)]
  omega
theorem qm_c' (hW : qy_Wf (f (17, 0, 0)) B) : (f (17, 0, 0)) 6 ≤ nI (qy_n (f (17, 0, 0))) := by
  rw [← hW.2.2.1]
  exact Int32.le_refl _
theorem qm_Wr (hW : qy_Wf (f (17, 0, 0)) B) {i : Nat} (hi : i < qy_n (f (17, 0, 0))) : qy_Wr (f (17, 0, 0)) B (qy_rm (f (17, 0, 0)) i) := hW.2.2.2.2.2.2.2.2.1 i hi
theorem qm_p1 {g r : Nat → Int32} (h : qy_Wr g B r) : (r 4 = 1) = (qy_wt r = false) := by
  unfold qy_wt
  rcases h.2.2.2.2 with h | h <;> rw [h] <;> simp
theorem qm_isOn {l e k : Nat} (hk : k < 30) (hl : l < 2) (he : e < 10) : gM_isOn F f (nI k) (nI l) (nI e) = some (if qy_on (nI l) (nI e) (qy_pa (f (17, 0, 0)) l e) (qy_rm (f (17, 0, 0)) k) = true then 1 else 0) := by
  unfold gM_isOn
  refine qy_bs (qm_o2 hk) ?_
  unfold qy_on
  by_cases h1 : (qy_rm (f (17, 0, 0)) k) 2 = nI l
  · rw [if_pos h1]
    refine qy_bs (qm_o1 hk) ?_
    by_cases h2 : (qy_rm (f (17, 0, 0)) k) 1 = nI e
    · rw [if_pos h2, if_pos (by simp [h1, h2])]
    · rw [if_neg h2]
      refine qy_bs (qm_o1 hk) ?_
      refine qy_bs (qm_partner hl he) ?_
      by_cases h3 : (qy_rm (f (17, 0, 0)) k) 1 = qy_pa (f (17, 0, 0)) l e
      · rw [if_pos h3, if_pos (by simp [h1, h3])]
      · rw [if_neg h3, if_neg (by simp [h2, h3])]
  · rw [if_neg h1, if_neg (by simp [h1])]
theorem qm_takenBut (hW : qy_Wf (f (17, 0, 0)) B) (hF : 30 < F) {l e : Nat} (hl : l < 2) (he : e < 10) (s N but : Int32) (hb : ∀ k, k < qy_n (f (17, 0, 0)) → (nI k = but ↔ (qy_rm (f (17, 0, 0)) k) 0 = N)) :
    gM_takenBut F f (nI l) (nI e) s but = some (nI ((qy_Lm (f (17, 0, 0))).countP (qy_tk (nI l) (nI e) (qy_pa (f (17, 0, 0)) l e) s N))) := by
  have h30 := hW.2.2.2.1
  unfold gM_takenBut
  rw [← qy_cLm]
  refine qy_cnt (fun n a y => gM_takenBut_L6 F f (nI l) (nI e) s but _ n a y) some (qy_n (f (17, 0, 0))) _ ?_ ?_ F (by omega)
  · intro n i a hi
    obtain ⟨h1, h2, h3⟩ := qm_c hW hi
    have hr := qm_Wr hW hi
    simp only [gM_takenBut_L6, h1, h2, if_false, qm_o4 h3, qm_o3 h3, qm_isOn h3 hl he, Option.bind_some, qm_p1 hr, Int32.add_zero]
    unfold qy_tk
    have hb' := hb i hi
    by_cases h6 : nI i = but
    · have h7 := hb'.mp h6
      simp [h6, h7]
    · have h7 : ¬ qy_rm (f (17, 0, 0)) i 0 = N := fun q => h6 (hb'.mpr q)
      cases qy_wt (qy_rm (f (17, 0, 0)) i) <;> cases qy_on (nI l) (nI e) (qy_pa (f (17, 0, 0)) l e) (qy_rm (f (17, 0, 0)) i) <;> by_cases h8 : qy_rm (f (17, 0, 0)) i 3 < s <;> simp [h6, h7, h8, Int32.not_le.mpr, Int32.not_lt.mp] <;> exact fun q => absurd h8 (Int32.not_lt.mpr q)
  · intro n a
    simp only [gM_takenBut_L6, qm_c' hW, if_true]
theorem qm_behind {e : Nat} (he : e < 10) (st s : Int32) : gM_behind F f st (nI e) s = some ((st + (f (17, 0, 0)) 0 * s) - (f (17, 0, 0)) (13 + e)) := by
  unfold gM_behind
  exact qy_bs (qm_minute he) rfl
theorem qy_tkle {L : List (Nat → Int32)} {l e x s N : Int32} (hs : 1 ≤ s) : L.countP (qy_tk l e x s N) ≤ L.countP (qy_tk l e x 1 N) := by
  refine List.countP_mono_left (fun r hr h => ?_)
  unfold qy_tk at h ⊢
  simp only [Bool.and_eq_true, decide_eq_true_eq] at h ⊢
  exact ⟨⟨h.1.1, Int32.le_trans hs h.1.2⟩, h.2⟩
theorem qm_len (hW : qy_Wf (f (17, 0, 0)) B) : (qy_Lm (f (17, 0, 0))).length ≤ 30 := by
  unfold qy_Lm
  rw [List.length_map, List.length_range]
  exact hW.2.2.2.1
theorem qm_reasonBut (hW : qy_Wf (f (17, 0, 0)) B) (hF : 30 < F) {l e s : Nat} (hl : l < 2) (he : e < qy_ec (f (17, 0, 0))) (hs : 1 ≤ s) (hs9 : s ≤ 9) (N but : Int32) (hb : ∀ k, k < qy_n (f (17, 0, 0)) → (nI k = but ↔ (qy_rm (f (17, 0, 0)) k) 0 = N)) :
    gM_reasonBut F f (nI l) (nI e) (nI s) but = some (qy_rs (f (17, 0, 0)) (qy_Lm (f (17, 0, 0))) l e (nI s) N) := by
  have h10 := hW.2.1
  unfold gM_reasonBut
  obtain ⟨v, hv, hv'⟩ := qm_isEnd (F := F) hW (nI e)
  refine qy_bs hv ?_
  rw [if_neg (by rw [hv']; exact fun q => q (qy_isE' hW he))]
  have hcl : ∀ t : Int32, (qy_Lm (f (17, 0, 0))).countP (qy_tk (nI l) (nI e) (qy_pa (f (17, 0, 0)) l e) t N) ≤ 30 := fun t => Nat.le_trans List.countP_le_length (qm_len hW)
  obtain ⟨z, hz1, hz30, hz⟩ := hW.2.2.2.2.2.1
  refine qy_lpE (fun n (a : Unit) y => gM_reasonBut_L13 F f (nI l) (nI e) (nI s) but (fun y58 => Option.bind (gM_startOf F f (nI l) (nI e)) fun x9 => Option.bind (gM_behind F f x9 (nI e) (nI s)) fun x11 => if x11 ≤ (f ((17, 0, 0) : qz_N) 3) then (some (0 : Int32)) else (some (3 : Int32))) n y) (s + 1) (fun i a => 1 ≤ i ∧ (2 ≤ i → nI ((qy_Lm (f (17, 0, 0))).countP (qy_tk (nI l) (nI e) (qy_pa (f (17, 0, 0)) l e) 1 N)) < (f (17, 0, 0)) 1)) (fun b => b = some (qy_rs (f (17, 0, 0)) (qy_Lm (f (17, 0, 0))) l e (nI s) N)) ?_ ?_ F 1 () (by omega) (by omega) ⟨by omega, fun h => absurd h (by omega)⟩
  · rintro n i a hi ⟨hi1, hP⟩
    have h1 : ¬ nI s < nI i := by rw [qy_lt (by omega) (by omega)]; omega
    simp only [gM_reasonBut_L13, h1, if_false, qm_takenBut hW hF hl (show e < 10 by omega) (nI i) N but hb, Option.bind_some, qz_nI1]
    have hle : (qy_Lm (f (17, 0, 0))).countP (qy_tk (nI l) (nI e) (qy_pa (f (17, 0, 0)) l e) (nI i) N) ≤ (qy_Lm (f (17, 0, 0))).countP (qy_tk (nI l) (nI e) (qy_pa (f (17, 0, 0)) l e) 1 N) := by
      refine qy_tkle ?_
      have : nI 1 ≤ nI i := by rw [qy_le (by decide) (by omega)]; exact hi1
      exact this
    have hb1 := hcl (nI i)
    have hb2 := hcl 1
    by_cases h2 : nI ((qy_Lm (f (17, 0, 0))).countP (qy_tk (nI l) (nI e) (qy_pa (f (17, 0, 0)) l e) (nI i) N)) < (f (17, 0, 0)) 1
    · left
      rw [if_pos h2]
      refine ⟨(), rfl, by omega, fun _ => ?_⟩
      by_cases h3 : i = 1
      · subst h3; exact h2
      · exact hP (by omega)
    · right
      rw [if_neg h2]
      unfold qy_rs
      rw [if_neg (fun q => ?_)]
      rw [hz, qy_lt (by omega) (by omega)] at h2 q
      omega
  · rintro n a ⟨_, hP⟩
    have h1 : nI s < nI (s + 1) := by rw [qy_lt (by omega) (by omega)]; omega
    simp only [gM_reasonBut_L13, h1, if_true]
    refine qy_bs (qm_startOf hW hl (by omega)) ?_
    refine qy_bs (qm_behind (by omega) _ _) ?_
    unfold qy_rs
    rw [if_pos (hP (by omega))]
    unfold qy_bh qy_mi
    by_cases h2 : (qy_st (f (17, 0, 0)) e (qy_pa (f (17, 0, 0)) l e) + f (17, 0, 0) 0 * nI s) - f (17, 0, 0) (13 + e) ≤ f (17, 0, 0) 3
    · rw [if_pos h2, if_pos h2]
    · rw [if_neg h2, if_neg h2]
theorem qm_reason0 (hW : qy_Wf (f (17, 0, 0)) B) {l x : Int32} (hx : ¬ (0 ≤ x ∧ x < (f (17, 0, 0)) 4)) (s but : Int32) : gM_reasonBut F f l x s but = some 1 := by
  unfold gM_reasonBut
  obtain ⟨v, hv, hv'⟩ := qm_isEnd (F := F) hW x
  refine qy_bs hv ?_
  rw [if_pos (by rw [hv']; exact hx)]
theorem qy_n1 {a : Nat} (h : a < 2147483648) : ¬ nI a = -1 := by
  intro q
  have := congrArg Int32.toInt q
  rw [qy_ti h] at this
  have h5 : (-1 : Int32).toInt = -1 := rfl
  rw [h5] at this
  omega
theorem qm_none (hW : qy_Wf (f (17, 0, 0)) B) : ∀ k, k < qy_n (f (17, 0, 0)) → (nI k = -5 ↔ (qy_rm (f (17, 0, 0)) k) 0 = -1) := by
  intro k hk
  have h30 := hW.2.2.2.1
  have hB := hW.2.2.2.2.2.2.2.2.2.2
  obtain ⟨⟨N, hN, e, e5⟩, _⟩ := qm_Wr hW hk
  refine ⟨fun q => absurd q (qy_n5 (by omega)), fun q => ?_⟩
  rw [e] at q
  exact absurd q (qy_n1 (by omega))
theorem qm_placeOf (hW : qy_Wf (f (17, 0, 0)) B) (hF : 30 < F) (x : Int32) : ∃ v, gM_placeOf F f x = some v ∧ ((v = -5 ∧ ∀ r, r ∈ qy_Lm (f (17, 0, 0)) → ¬ r 0 = x) ∨ ∃ k, k < qy_n (f (17, 0, 0)) ∧ v = nI k ∧ (qy_rm (f (17, 0, 0)) k) 0 = x) := by
  have h30 := hW.2.2.2.1
  unfold gM_placeOf
  refine qy_lpE (fun n (a : Unit) y => gM_placeOf_L2 F f x (fun y25 => some (-5 : Int32)) n y) (qy_n (f (17, 0, 0))) (fun i a => ∀ k, k < i → ¬ (qy_rm (f (17, 0, 0)) k) 0 = x) (fun b => ∃ v, b = some v ∧ ((v = -5 ∧ ∀ r, r ∈ qy_Lm (f (17, 0, 0)) → ¬ r 0 = x) ∨ ∃ k, k < qy_n (f (17, 0, 0)) ∧ v = nI k ∧ (qy_rm (f (17, 0, 0)) k) 0 = x)) ?_ ?_ F 0 () (by omega) (by omega) (fun e h => absurd h (by omega))
  · intro n i a hi hP
    obtain ⟨h1, h2, h3⟩ := qm_c hW hi
    simp only [gM_placeOf_L2, h1, h2, if_false, qm_o0 h3, Option.bind_some]
    by_cases h : (qy_rm (f (17, 0, 0)) i) 0 = x
    · right
      rw [if_pos h]
      exact ⟨_, rfl, Or.inr ⟨i, hi, rfl, h⟩⟩
    · left
      rw [if_neg h]
      refine ⟨(), rfl, fun e he => ?_⟩
      by_cases h' : e = i
      · subst h'; exact h
      · exact hP e (by omega)
  · intro n a hP
    simp only [gM_placeOf_L2, qm_c' hW, if_true]
    refine ⟨_, rfl, Or.inl ⟨rfl, fun r hr => ?_⟩⟩
    obtain ⟨k, hk, rfl⟩ := qy_mLm.mp hr
    exact hP k hk
theorem qm_waiting (hW : qy_Wf (f (17, 0, 0)) B) (hF : 30 < F) : gM_waiting F f = some (nI ((qy_Lm (f (17, 0, 0))).countP qy_wt)) := by
  have h30 := hW.2.2.2.1
  unfold gM_waiting
  rw [← qy_cLm]
  refine qy_cnt (fun n a y => gM_waiting_L4 F f _ n a y) some (qy_n (f (17, 0, 0))) _ ?_ ?_ F (by omega)
  · intro n i a hi
    obtain ⟨h1, h2, h3⟩ := qm_c hW hi
    have hr := qm_Wr hW hi
    simp only [gM_waiting_L4, h1, h2, if_false, qm_o4 h3, Option.bind_some]
    unfold qy_wt
    rcases hr.2.2.2.2 with h | h
    · rw [h]
      simp
    · rw [h]
      simp
  · intro n a
    simp only [gM_waiting_L4, qm_c' hW, if_true]
theorem qm_isOf {k : Nat} (hW : qy_Wf (f (17, 0, 0)) B) (hk : k < qy_n (f (17, 0, 0))) (l e x : Int32) : gM_isOf F f (nI k) l e x = some (if (!qy_wt (qy_rm (f (17, 0, 0)) k) && qy_on l e x (qy_rm (f (17, 0, 0)) k)) = true then 1 else 0) := by
  obtain ⟨_, _, h3⟩ := qm_c hW hk
  have hr := qm_Wr hW hk
  unfold gM_isOf
  refine qy_bs (qm_o4 h3) ?_
  rcases hr.2.2.2.2 with h | h
  · rw [if_neg (by rw [h]; decide), if_neg (by simp [qy_wt, h])]
  · rw [if_pos h]
    have hw : qy_wt (qy_rm (f (17, 0, 0)) k) = false := by simp [qy_wt, h]
    rw [hw]
    refine qy_bs (qm_o2 h3) ?_
    unfold qy_on
    by_cases h1 : (qy_rm (f (17, 0, 0)) k) 2 = l
    · rw [if_pos h1]
      refine qy_bs (qm_o1 h3) ?_
      by_cases h2 : (qy_rm (f (17, 0, 0)) k) 1 = e
      · rw [if_pos h2, if_pos (by simp [h1, h2])]
      · rw [if_neg h2]
        refine qy_bs (qm_o1 h3) ?_
        by_cases h4 : (qy_rm (f (17, 0, 0)) k) 1 = x
        · rw [if_pos h4, if_pos (by simp [h1, h4])]
        · rw [if_neg h4, if_neg (by simp [h2, h4])]
    · rw [if_neg h1, if_neg (by simp [h1])]
theorem qm_it {k : Nat} (hW : qy_Wf (f (17, 0, 0)) B) (hk : k < qy_n (f (17, 0, 0))) (st : Int32) : gM_behind F f st ((qy_rm (f (17, 0, 0)) k) 1) ((qy_rm (f (17, 0, 0)) k) 3) = some ((st + (f (17, 0, 0)) 0 * (qy_rm (f (17, 0, 0)) k) 3) - (f (17, 0, 0)) (13 + ((qy_rm (f (17, 0, 0)) k) 1).toNatClampNeg)) := by
  have h10 := hW.2.1
  obtain ⟨_, ⟨e, he, e1⟩, _⟩ := qm_Wr hW hk
  rw [e1, qz_cl_nI (by omega)]
  exact qm_behind (by omega) _ _
theorem qm_canMerge (hW : qy_Wf (f (17, 0, 0)) B) (hF : 30 < F) {l e e2 : Nat} (hl : l < 2) (he : e < 10) (he2 : e2 < qy_ec (f (17, 0, 0))) :
    gM_canMerge F f (nI l) (nI e) (nI e2) = some (if qy_pa (f (17, 0, 0)) l e = -5 ∧ qy_pa (f (17, 0, 0)) l e2 = -5 ∧ (f (17, 0, 0)) (13 + e) - (f (17, 0, 0)) (13 + e2) ≤ (f (17, 0, 0)) 2 ∧ -((f (17, 0, 0)) (13 + e) - (f (17, 0, 0)) (13 + e2)) ≤ (f (17, 0, 0)) 2 ∧ nI ((qy_Lm (f (17, 0, 0))).countP (fun r => !qy_wt r && qy_on (nI l) (nI e) (nI e2) r)) ≤ (f (17, 0, 0)) 1 ∧ (qy_Lm (f (17, 0, 0))).countP (fun r => !qy_wt r && qy_on (nI l) (nI e) (nI e2) r && !qy_it (f (17, 0, 0)) (qy_st (f (17, 0, 0)) e (nI e2)) r) = 0 then 1 else 0) := by
  have h10 := hW.2.1
  have h30 := hW.2.2.2.1
  unfold gM_canMerge
  refine qy_bs (qm_minute he) ?_
  refine qy_bs (qm_minute (by omega)) ?_
  refine qy_bs (qm_partner hl he) ?_
  by_cases h1 : qy_pa (f (17, 0, 0)) l e = -5
  · rw [if_pos h1]
    refine qy_bs (qm_partner hl (by omega)) ?_
    by_cases h2 : qy_pa (f (17, 0, 0)) l e2 = -5
    · rw [if_pos h2]
      by_cases h3 : (f (17, 0, 0)) (13 + e) - (f (17, 0, 0)) (13 + e2) ≤ (f (17, 0, 0)) 2
      · rw [if_neg (Int32.not_lt.mpr h3)]
        by_cases h4 : -((f (17, 0, 0)) (13 + e) - (f (17, 0, 0)) (13 + e2)) ≤ (f (17, 0, 0)) 2
        · rw [if_pos h4]
          refine qy_bs (qm_minute he) ?_
          refine qy_bs (qm_minute (by omega)) ?_
          rw [← qy_cLm, ← qy_cLm]
          refine qy_lpE (fun n (a : Int32 × Int32) y => gM_canMerge_L84 F f (nI l) (nI e) (nI e2) ((f (17, 0, 0)) (13 + e)) ((f (17, 0, 0)) (13 + e2)) (fun y629 y730 y831 => if y730 = 0 then (some (0 : Int32)) else (if (f ((17, 0, 0) : qz_N) 1) < y629 then (some (0 : Int32)) else (some (1 : Int32)))) n a.1 a.2 y) (qy_n (f (17, 0, 0))) (fun i a => a.1 = nI ((List.range i).countP (fun k => !qy_wt (qy_rm (f (17, 0, 0)) k) && qy_on (nI l) (nI e) (nI e2) (qy_rm (f (17, 0, 0)) k))) ∧ a.2 = if (List.range i).countP (fun k => !qy_wt (qy_rm (f (17, 0, 0)) k) && qy_on (nI l) (nI e) (nI e2) (qy_rm (f (17, 0, 0)) k) && !qy_it (f (17, 0, 0)) (qy_st (f (17, 0, 0)) e (nI e2)) (qy_rm (f (17, 0, 0)) k)) = 0 then 1 else 0) (fun b => b = _) ?_ ?_ F 0 (0, 1) (by omega) (by omega) ⟨rfl, rfl⟩
          · rintro n i ⟨a1, a2⟩ hi ⟨e1, e2'⟩
            left
            simp only at e1 e2'
            obtain ⟨c1, c2, c3⟩ := qm_c hW hi
            simp only [gM_canMerge_L84, c1, c2, if_false, qm_isOf hW hi, Option.bind_some, qm_o1 c3, qm_o3 c3, qm_it hW hi, qm_later]
            rw [← qy_stE hW he2]
            rw [List.range_succ, List.countP_append, List.countP_append, List.countP_singleton, List.countP_singleton, e1, e2']
            have hit : (decide ((qy_st (f (17, 0, 0)) e (nI e2) + (f (17, 0, 0)) 0 * (qy_rm (f (17, 0, 0)) i) 3) - (f (17, 0, 0)) (13 + ((qy_rm (f (17, 0, 0)) i) 1).toNatClampNeg) ≤ (f (17, 0, 0)) 3)) = qy_it (f (17, 0, 0)) (qy_st (f (17, 0, 0)) e (nI e2)) (qy_rm (f (17, 0, 0)) i) := rfl
            cases ho : (!qy_wt (qy_rm (f (17, 0, 0)) i) && qy_on (nI l) (nI e) (nI e2) (qy_rm (f (17, 0, 0)) i))
            · exact ⟨(_, _), by simp; rfl, by simp, by simp⟩
            · by_cases hz : (List.range i).countP (fun k => !qy_wt (qy_rm (f (17, 0, 0)) k) && qy_on (nI l) (nI e) (nI e2) (qy_rm (f (17, 0, 0)) k) && !qy_it (f (17, 0, 0)) (qy_st (f (17, 0, 0)) e (nI e2)) (qy_rm (f (17, 0, 0)) k)) = 0
              · rw [hz]
                by_cases hl' : (qy_st (f (17, 0, 0)) e (nI e2) + (f (17, 0, 0)) 0 * (qy_rm (f (17, 0, 0)) i) 3) - (f (17, 0, 0)) (13 + ((qy_rm (f (17, 0, 0)) i) 1).toNatClampNeg) ≤ (f (17, 0, 0)) 3
                · have hi' : qy_it (f (17, 0, 0)) (qy_st (f (17, 0, 0)) e (nI e2)) (qy_rm (f (17, 0, 0)) i) = true := by rw [← hit]; exact decide_eq_true hl'
                  refine ⟨(nI ((List.range i).countP (fun k => !qy_wt (qy_rm (f (17, 0, 0)) k) && qy_on (nI l) (nI e) (nI e2) (qy_rm (f (17, 0, 0)) k))) + 1, 1), ?_, ?_, ?_⟩
                  · simp [Int32.not_lt.mpr hl']
                  · simp [qz_nI1]
                  · simp [hi']
                · have hi' : qy_it (f (17, 0, 0)) (qy_st (f (17, 0, 0)) e (nI e2)) (qy_rm (f (17, 0, 0)) i) = false := by rw [← hit]; exact decide_eq_false hl'
                  refine ⟨(nI ((List.range i).countP (fun k => !qy_wt (qy_rm (f (17, 0, 0)) k) && qy_on (nI l) (nI e) (nI e2) (qy_rm (f (17, 0, 0)) k))) + 1, 0), ?_, ?_, ?_⟩
                  · simp [Int32.not_le.mp hl']
                  · simp [qz_nI1]
                  · simp [hi']
              · refine ⟨(nI ((List.range i).countP (fun k => !qy_wt (qy_rm (f (17, 0, 0)) k) && qy_on (nI l) (nI e) (nI e2) (qy_rm (f (17, 0, 0)) k))) + 1, 0), ?_, ?_, ?_⟩
                · simp [hz]
                · simp [qz_nI1]
                · simp [hz]
          · rintro n ⟨a1, a2⟩ ⟨e1, e2'⟩
            simp only at e1 e2'
            simp only [gM_canMerge_L84, qm_c' hW, if_true]
            rw [e1, e2']
            by_cases h6 : (List.range (qy_n (f (17, 0, 0)))).countP (fun k => !qy_wt (qy_rm (f (17, 0, 0)) k) && qy_on (nI l) (nI e) (nI e2) (qy_rm (f (17, 0, 0)) k) && !qy_it (f (17, 0, 0)) (qy_st (f (17, 0, 0)) e (nI e2)) (qy_rm (f (17, 0, 0)) k)) = 0
            · by_cases h5 : nI ((List.range (qy_n (f (17, 0, 0)))).countP (fun k => !qy_wt (qy_rm (f (17, 0, 0)) k) && qy_on (nI l) (nI e) (nI e2) (qy_rm (f (17, 0, 0)) k))) ≤ (f (17, 0, 0)) 1
              · rw [if_pos h6, if_neg (show ¬ (1 : Int32) = 0 by decide), if_neg (Int32.not_lt.mpr h5), if_pos ⟨h1, h2, h3, h4, h5, h6⟩]
              · rw [if_pos h6, if_neg (show ¬ (1 : Int32) = 0 by decide), if_pos (Int32.not_le.mp h5), if_neg (fun q => h5 q.2.2.2.2.1)]
            · rw [if_neg h6, if_pos rfl, if_neg (fun q => h6 q.2.2.2.2.2)]
        · rw [if_neg h4, if_neg (fun q => h4 q.2.2.2.1)]
      · rw [if_pos (Int32.not_le.mp h3), if_neg (fun q => h3 q.2.2.1)]
    · rw [if_neg h2, if_neg (fun q => h2 q.2.1)]
  · rw [if_neg h1, if_neg (fun q => h1 q.1)]
theorem qm_pairs (hW : qy_Wf (f (17, 0, 0)) B) (hF : 30 < F) : gM_pairs F f = some (nI ((List.range 20).countP (fun i => !decide (qy_pc ((f (17, 0, 0)) (23 + i)) = -5))) / 2) := by
  unfold gM_pairs
  refine qy_cnt (fun n a y => gM_pairs_L4 F f _ n a y) (fun a => some (a / 2)) 20 _ ?_ ?_ F (by omega)
  · intro n i a hi
    have h1 : ¬ (20 : Int32) ≤ nI i := fun q => by have := (qz_le_nI (a := 20) (b := i) (by decide) (by omega)).mp q; omega
    have h2 : qz_xi ((23 : Int32) + nI i) 283 = true ∧ ((23 : Int32) + nI i).toNatClampNeg = 23 + i := by
      rw [show (23 : Int32) = nI 23 from rfl, qy_add]
      exact ⟨qz_xi_nI (by omega) (by decide), qz_cl_nI (by omega)⟩
    simp only [gM_pairs_L4, h1, if_false, if_true, h2.1, h2.2, qz_nI1]
    have h3 : 23 + 10 * (i / 10) + i % 10 = 23 + i := by omega
    have h4 : qy_pa (f (17, 0, 0)) (i / 10) (i % 10) = qy_pc ((f (17, 0, 0)) (23 + i)) := by unfold qy_pa; rw [h3]
    have h10 := hW.2.1
    rcases qy_pac hW (l := i / 10) (e := i % 10) (by omega) (by omega) with ⟨a1, a2⟩ | ⟨o, ho, _, _, _, _, a2, a1⟩
    · rw [h3] at a2
      rw [h4] at a1
      rw [a1, a2]
      simp
    · rw [h3] at a2
      rw [h4] at a1
      rw [a2]
      rw [a2] at a1
      have : ¬ nI (o + 1) ≤ 0 := by
        have : ¬ nI (o + 1) ≤ nI 0 := by rw [qy_le (by omega) (by decide)]; omega
        exact this
      simp [this, a1]
  · intro n a
    simp only [gM_pairs_L4, show (20 : Int32) ≤ nI 20 from by decide, if_true]
end QYC
