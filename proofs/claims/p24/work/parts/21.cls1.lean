/-! what the class tells, read off -/
section QYA
variable {F B : Nat} {f : qz_F} {g : Nat → Int32}
theorem qy_lv0 (f : qz_F) (i : Nat) : (gB_isLive f i = 0) = (qy_lv (qy_rc f 0 i) = false) := by
  unfold gB_isLive qy_lv
  by_cases h : f (0, 0, i) 0 = -1 <;> simp [qy_rc, h]
theorem qy_wt0 (f : qz_F) (i : Nat) : (gB_isWaiting f i = 0) = ((qy_wt (qy_rc f 0 i) && qy_lv (qy_rc f 0 i)) = false) := by
  unfold gB_isWaiting
  simp only [qy_lv0]
  unfold qy_wt
  by_cases h : f (0, 0, i) 4 = 0 <;> cases hl : qy_lv (qy_rc f 0 i) <;> simp [qy_rc, h]
theorem qy_rd0 (f : qz_F) (i : Nat) : (gB_isRider f i = 0) = ((!qy_wt (qy_rc f 0 i) && qy_lv (qy_rc f 0 i)) = false) := by
  unfold gB_isRider
  simp only [qy_lv0]
  unfold qy_wt
  by_cases h : f (0, 0, i) 4 = 0 <;> cases hl : qy_lv (qy_rc f 0 i) <;> simp [qy_rc, h]
theorem qy_on0 (f : qz_F) (i : Nat) (l e x : Int32) : (gB_isOfBus f i l e x = 0) = ((qy_on l e x (qy_rc f 0 i) && qy_lv (qy_rc f 0 i)) = false) := by
  unfold gB_isOfBus
  simp only [qy_lv0]
  unfold qy_on
  by_cases h : f (0, 0, i) 2 = l <;> by_cases h1 : f (0, 0, i) 1 = e <;> by_cases h2 : f (0, 0, i) 1 = x <;> cases hl : qy_lv (qy_rc f 0 i) <;> simp [qy_rc, h, h1, h2]
theorem qy_c30 {i : Nat} (hi : i < 30) : ¬ (30 : Int32) ≤ nI i ∧ qz_xi (nI i) 30 = true ∧ (nI i).toNatClampNeg = i ∧ nI i + 1 = nI (i + 1) :=
  ⟨fun q => by have := (qz_le_nI (a := 30) (b := i) (by decide) (by omega)).mp q; omega, qz_xi_nI hi (by decide), qz_cl_nI (by omega), qz_nI1 i⟩
theorem qy_c30' : (30 : Int32) ≤ nI 30 := by decide
theorem qy_hasEnd (hR : qy_Rel f 0 g) (x : Int32) : (gW_hasEnd f x = 0) = ¬ (0 ≤ x ∧ x < g 4) := by
  unfold gW_hasEnd
  rw [hR.1]
  by_cases h : x < 0
  · simp [h, Int32.not_le.mpr h]
  · have h' := Int32.not_lt.mp h
    by_cases h2 : g 4 ≤ x
    · simp [h, h2, h', Int32.not_lt.mpr h2]
    · simp [h, h2, h', Int32.not_le.mp h2]
theorem qy_isE (hW : qy_Wf g B) {x : Int32} (h : 0 ≤ x ∧ x < g 4) : ∃ e, e < qy_ec g ∧ x = nI e := by
  obtain ⟨k, hk, rfl⟩ := qy_of h.1
  refine ⟨k, ?_, rfl⟩
  have h2 := h.2
  rw [hW.1, qy_lt hk (by have := hW.2.1; omega)] at h2
  exact h2
theorem qy_isE' (hW : qy_Wf g B) {e : Nat} (h : e < qy_ec g) : 0 ≤ nI e ∧ nI e < g 4 := by
  have := hW.2.1
  refine ⟨qy_ge0 (by omega), ?_⟩
  rw [hW.1, qy_lt (by omega) (by omega)]
  exact h
theorem qy_hasEnd1 (hR : qy_Rel f 0 g) (hW : qy_Wf g B) {e : Nat} (h : e < qy_ec g) : ¬ gW_hasEnd f (nI e) = 0 := by
  rw [qy_hasEnd hR]
  exact fun q => q (qy_isE' hW h)
theorem qy_minute (hR : qy_Rel f 0 g) {e : Nat} (h : e < 10) : gW_minuteOf F f (nI e) = some (g (13 + e)) := by
  unfold gW_minuteOf
  have h1 : ¬ (10 : Int32) ≤ nI e := fun q => by have := (qz_le_nI (a := 10) (b := e) (by decide) (by omega)).mp q; omega
  rw [if_neg (qy_nn (by omega)), if_neg h1, if_pos (qz_xi_nI h (by decide)), qz_cl_nI (by omega), hR.2.2.2.1 e h]
theorem qy_set0 (hR : qy_Rel f 0 g) : gW_setting F f 0 = some (g 0) := by
  have h := hR.2.2.2.2.2.1 0 (by decide)
  rw [← h]; rfl
theorem qy_set1 (hR : qy_Rel f 0 g) : gW_setting F f 1 = some (g 1) := by
  have h := hR.2.2.2.2.2.1 1 (by decide)
  rw [← h]; rfl
theorem qy_set2 (hR : qy_Rel f 0 g) : gW_setting F f 2 = some (g 2) := by
  have h := hR.2.2.2.2.2.1 2 (by decide)
  rw [← h]; rfl
theorem qy_set3 (hR : qy_Rel f 0 g) : gW_setting F f 3 = some (g 3) := by
  have h := hR.2.2.2.2.2.1 3 (by decide)
  rw [← h]; rfl
theorem qy_line (x : Int32) : (gX_isLine f x = 0) = ¬ ∃ l, l < 2 ∧ x = nI l := by
  unfold gX_isLine
  by_cases h : x < 0
  · rw [if_pos h]
    simp only [true_iff, eq_iff_iff]
    rintro ⟨l, hl, rfl⟩
    exact qy_nn (by omega) h
  · obtain ⟨k, hk, rfl⟩ := qy_of (Int32.not_lt.mp h)
    rw [if_neg h]
    by_cases h2 : (2 : Int32) ≤ nI k
    · rw [if_pos h2]
      have h3 := (qz_le_nI (a := 2) (b := k) (by decide) hk).mp h2
      simp only [true_iff, eq_iff_iff]
      rintro ⟨l, hl, e⟩
      rw [qy_eq hk (by omega)] at e
      omega
    · rw [if_neg h2]
      have h3 : ¬ 2 ≤ k := fun q => h2 ((qz_le_nI (a := 2) (b := k) (by decide) hk).mpr q)
      simp only [eq_iff_iff]
      refine ⟨fun q => absurd q (by decide), fun q => absurd ⟨k, by omega, rfl⟩ q⟩
theorem qy_stop (x : Int32) : (gX_isStop f x = 0) = ¬ ∃ s, 1 ≤ s ∧ s ≤ 9 ∧ x = nI s := by
  unfold gX_isStop
  by_cases h : x < 1
  · rw [if_pos h]
    simp only [true_iff, eq_iff_iff]
    rintro ⟨l, hl, hl', rfl⟩
    have : nI l < nI 1 := h
    rw [qy_lt (by omega) (by decide)] at this
    omega
  · have h1 : (0 : Int32) ≤ x := Int32.le_trans (show (0 : Int32) ≤ 1 by decide) (Int32.not_lt.mp h)
    obtain ⟨k, hk, rfl⟩ := qy_of h1
    rw [if_neg h]
    have h' : 1 ≤ k := by
      have := Int32.not_lt.mp h
      exact (qz_le_nI (a := 1) (b := k) (by decide) hk).mp this
    by_cases h2 : (9 : Int32) < nI k
    · rw [if_pos h2]
      have h3 : nI 9 < nI k := h2
      rw [qy_lt (by decide) hk] at h3
      simp only [true_iff, eq_iff_iff]
      rintro ⟨l, hl, hl', e⟩
      rw [qy_eq hk (by omega)] at e
      omega
    · rw [if_neg h2]
      have h3 : ¬ nI 9 < nI k := h2
      rw [qy_lt (by decide) hk] at h3
      simp only [eq_iff_iff]
      refine ⟨fun q => absurd q (by decide), fun q => absurd ⟨k, h', by omega, rfl⟩ q⟩
theorem qy_bix {l e : Nat} (hl : l < 2) (he : e < 10) : gW_busIndex f (nI l) (nI e) = nI (10 * l + e) := by
  unfold gW_busIndex
  have h1 : ¬ (10 : Int32) ≤ nI e := fun q => by have := (qz_le_nI (a := 10) (b := e) (by decide) (by omega)).mp q; omega
  rw [if_neg (by rw [qy_line]; exact fun q => q ⟨l, hl, rfl⟩), if_neg (qy_nn (by omega)), if_neg h1]
  rw [show (10 : Int32) = nI 10 from rfl, qy_mul, qy_add, Nat.mul_comm]
theorem qy_partner (hR : qy_Rel f 0 g) {l e : Nat} (hl : l < 2) (he : e < 10) : gW_partnerOf F f (nI l) (nI e) = some (qy_pa g l e) := by
  unfold gW_partnerOf
  rw [qy_bix hl he]
  have h1 : ¬ (20 : Int32) ≤ nI (10 * l + e) := fun q => by have := (qz_le_nI (a := 20) (b := 10 * l + e) (by decide) (by omega)).mp q; omega
  rw [if_neg (qy_nn (by omega)), if_neg h1, if_pos (qz_xi_nI (by omega) (by decide)), qz_cl_nI (by omega), hR.2.2.2.2.1 _ (by omega)]
  unfold qy_pa
  rw [Nat.add_assoc]
theorem qy_start (hR : qy_Rel f 0 g) (hW : qy_Wf g B) {e : Nat} (he : e < 10) (x : Int32) : gW_startOf F f (nI e) x = some (qy_st g e x) := by
  unfold gW_startOf qy_st
  by_cases h : 0 ≤ x ∧ x < g 4
  · rw [if_neg (by rw [qy_hasEnd hR]; exact fun q => q h), if_pos h]
    obtain ⟨k, hk, rfl⟩ := qy_isE hW h
    have := hW.2.1
    rw [qy_minute hR he, qy_minute hR (show k < 10 by omega), qz_cl_nI (by omega)]
    rfl
  · rw [if_pos (by rw [qy_hasEnd hR]; exact h), if_neg h, qy_minute hR he]
    rfl
theorem qy_behindS (hR : qy_Rel f 0 g) {e : Nat} (he : e < 10) (s st : Int32) : gW_minutesBehind F f (nI e) s st = some ((st + g 0 * s) - g (13 + e)) := by
  unfold gW_minutesBehind
  refine qy_bs (qy_minute hR he) ?_
  refine qy_bs (qy_set0 hR) ?_
  exact congrArg some (qy_t1 _ _ _ _)
theorem qy_inTimeS (hR : qy_Rel f 0 g) {e : Nat} (he : e < 10) (s st : Int32) : gW_isInTime F f (nI e) s st = some (if (st + g 0 * s) - g (13 + e) ≤ g 3 then 1 else 0) := by
  unfold gW_isInTime
  refine qy_bs (qy_behindS hR he s st) ?_
  refine qy_bs (qy_set3 hR) ?_
  by_cases h : (st + g 0 * s) - g (13 + e) ≤ g 3
  · rw [if_neg (Int32.not_lt.mpr h), if_pos h]
  · rw [if_pos (Int32.not_le.mp h), if_neg h]
theorem qy_taken (hF : 30 < F) (l e x s N : Int32) (o : Option Nat) (ho : ∀ i, i < 30 → qy_lv (qy_rc f 0 i) = true → (o = some i ↔ (qy_rc f 0 i) 0 = N)) :
    gW_takenSeats F f l e x s o = some (nI ((qy_Lc f 0).countP (qy_tk l e x s N))) := by
  unfold gW_takenSeats
  rw [← qy_cLc]
  refine qy_cnt (fun n a y => gW_takenSeats_L17 F f l e x s o _ n a y) some 30 _ ?_ ?_ F hF
  · intro n i a hi
    obtain ⟨h1, h2, h3, h4⟩ := qy_c30 hi
    simp only [gW_takenSeats_L17, h1, h2, h3, h4, if_false, if_true]
    simp only [qy_rd0, qy_on0]
    have ho' := ho i hi
    have h5 : f (0, 0, i) 3 = (qy_rc f 0 i) 3 := rfl
    rw [h5]
    unfold qy_tk
    cases hl : qy_lv (qy_rc f 0 i)
    · simp
    · rw [hl] at ho'
      have ho' := ho' rfl
      by_cases h6 : o = some i
      · have h7 := ho'.mp h6
        simp [h6, h7]
      · have h7 : ¬ qy_rc f 0 i 0 = N := fun q => h6 (ho'.mpr q)
        cases qy_wt (qy_rc f 0 i) <;> cases qy_on l e x (qy_rc f 0 i) <;> by_cases h8 : qy_rc f 0 i 3 < s <;> simp [h6, h7, h8, Int32.not_le.mpr, Int32.not_lt.mp] <;> exact fun q => absurd h8 (Int32.not_lt.mpr q)
  · intro n a
    simp only [gW_takenSeats_L17, qy_c30', if_true]
theorem qy_none (f : qz_F) : ∀ i, i < 30 → qy_lv (qy_rc f 0 i) = true → ((none : Option Nat) = some i ↔ (qy_rc f 0 i) 0 = -1) := by
  intro i _ h
  simp [qy_lv] at h
  simp [h]
theorem qy_reason (hR : qy_Rel f 0 g) (hW : qy_Wf g B) (hF : 30 < F) {l e : Nat} (hl : l < 2) (he : e < qy_ec g) (s N : Int32) (o : Option Nat) (ho : ∀ i, i < 30 → qy_lv (qy_rc f 0 i) = true → (o = some i ↔ (qy_rc f 0 i) 0 = N)) :
    gW_reason F f (nI l) (nI e) s o = some (qy_rs g (qy_Lc f 0) l e s N) := by
  unfold gW_reason qy_rs
  have h10 : e < 10 := by have := hW.2.1; omega
  rw [if_neg (qy_hasEnd1 hR hW he)]
  refine qy_bs (qy_partner hR hl h10) ?_
  refine qy_bs (qy_taken hF _ _ _ _ N o ho) ?_
  refine qy_bs (qy_set1 hR) ?_
  by_cases h1 : nI (List.countP (qy_tk (nI l) (nI e) (qy_pa g l e) 1 N) (qy_Lc f 0)) < g 1
  · rw [if_pos h1, if_pos h1]
    refine qy_bs (qy_start hR hW h10 _) ?_
    refine qy_bs (qy_inTimeS hR h10 s _) ?_
    by_cases h2 : qy_bh g l e s ≤ g 3
    · have h2' : (qy_st g e (qy_pa g l e) + g 0 * s) - g (13 + e) ≤ g 3 := h2
      rw [if_pos h2', if_neg (by decide), if_pos h2]
    · have h2' : ¬ (qy_st g e (qy_pa g l e) + g 0 * s) - g (13 + e) ≤ g 3 := h2
      rw [if_neg h2', if_pos rfl, if_neg h2]
  · rw [if_neg h1, if_neg h1]
theorem qy_reason0 (hR : qy_Rel f 0 g) {l x : Int32} (hx : ¬ (0 ≤ x ∧ x < g 4)) (s : Int32) (o : Option Nat) : gW_reason F f l x s o = some 1 := by
  unfold gW_reason
  rw [if_pos (by rw [qy_hasEnd hR]; exact hx)]
end QYA
