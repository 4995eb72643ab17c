/-! what the class tells, read off: the loops -/
def qy_mx (L : List (Nat → Int32)) (p : (Nat → Int32) → Bool) (m : Nat) : Prop :=
  (∀ r, r ∈ L → p r = true → (r 3).toNatClampNeg ≤ m) ∧ (m = 0 ∨ ∃ r, r ∈ L ∧ p r = true ∧ (r 3).toNatClampNeg = m)
def qy_ah (g : Nat → Int32) (st e x : Int32) (r q : Nat → Int32) : Bool :=
  !qy_wt q && qy_on (r 2) e x q && qy_it g st q && (decide (r 3 < q 3) || (decide (q 3 = r 3) && decide (q 0 < r 0)))
def qy_cr (g : Nat → Int32) (L : List (Nat → Int32)) (e : Nat) (x : Int32) (r : Nat → Int32) : Bool :=
  qy_it g (qy_st g e x) r && decide (nI (L.countP (qy_ah g (qy_st g e x) (nI e) x r)) < g 1)
def qy_er (g : Nat → Int32) (o e : Nat) : Bool := decide ((g (13 + o)).toNatClampNeg < (g (13 + e)).toNatClampNeg ∨ ((g (13 + o)).toNatClampNeg = (g (13 + e)).toNatClampNeg ∧ o < e))
def qy_rk (g : Nat → Int32) (e : Nat) : Nat := (List.range (qy_ec g)).countP (fun o => qy_er g o e)
theorem qy_mx1 {L L' : List (Nat → Int32)} {p p' : (Nat → Int32) → Bool} {m m' : Nat} (hL : ∀ r, r ∈ L ↔ r ∈ L') (hp : ∀ r, r ∈ L → p r = p' r) (h : qy_mx L p m) (h' : qy_mx L' p' m') : m = m' := by
  have a1 : m ≤ m' := by
    rcases h.2 with h2 | ⟨r, hr, hpr, e⟩
    · omega
    · have := h'.1 r ((hL r).mp hr) (by rw [← hp r hr]; exact hpr)
      omega
  have a2 : m' ≤ m := by
    rcases h'.2 with h2 | ⟨r, hr, hpr, e⟩
    · omega
    · have := h.1 r ((hL r).mpr hr) (by rw [hp r ((hL r).mpr hr)]; exact hpr)
      omega
  omega
section QYB
variable {F B : Nat} {f : qz_F} {g : Nat → Int32}
theorem qy_WrC (hR : qy_Rel f 0 g) (hW : qy_Wf g B) {r : Nat → Int32} (h : r ∈ qy_Lc f 0) : qy_Wr g B r := by
  have h' := (hR.2.2.2.2.2.2.1.mem_iff).mp h
  obtain ⟨k, hk, rfl⟩ := qy_mLm.mp h'
  exact hW.2.2.2.2.2.2.2.2.1 k hk
theorem qy_WrI (hR : qy_Rel f 0 g) (hW : qy_Wf g B) {i : Nat} (hi : i < 30) (h : qy_lv (qy_rc f 0 i) = true) : qy_Wr g B (qy_rc f 0 i) :=
  qy_WrC hR hW (qy_mLc.mpr ⟨i, hi, rfl, h⟩)
theorem qy_wcnt (hF : 30 < F) : gW_workerCount F f = some (nI (qy_Lc f 0).length) := by
  unfold gW_workerCount
  rw [← List.countP_true, ← qy_cLc]
  refine qy_cnt (fun n a y => gW_workerCount_L13 F f _ n a y) some 30 _ ?_ ?_ F hF
  · intro n i a hi
    obtain ⟨h1, h2, h3, h4⟩ := qy_c30 hi
    simp only [gW_workerCount_L13, h1, h2, h3, h4, if_false, if_true, qy_lv0]
    cases qy_lv (qy_rc f 0 i) <;> simp
  · intro n a
    simp only [gW_workerCount_L13, qy_c30', if_true]
theorem qy_wait (hF : 30 < F) : gW_waitingCount F f = some (nI ((qy_Lc f 0).countP qy_wt)) := by
  unfold gW_waitingCount
  rw [← qy_cLc]
  refine qy_cnt (fun n a y => gW_waitingCount_L13 F f _ n a y) some 30 _ ?_ ?_ F hF
  · intro n i a hi
    obtain ⟨h1, h2, h3, h4⟩ := qy_c30 hi
    simp only [gW_waitingCount_L13, h1, h2, h3, h4, if_false, if_true, qy_wt0]
    cases qy_lv (qy_rc f 0 i) <;> cases qy_wt (qy_rc f 0 i) <;> simp
  · intro n a
    simp only [gW_waitingCount_L13, qy_c30', if_true]
theorem qy_waitFor (hF : 30 < F) (l e x : Int32) : gW_waitingFor F f l e x = some (nI ((qy_Lc f 0).countP (fun r => qy_wt r && qy_on l e x r))) := by
  unfold gW_waitingFor
  rw [← qy_cLc]
  refine qy_cnt (fun n a y => gW_waitingFor_L17 F f l e x _ n a y) some 30 _ ?_ ?_ F hF
  · intro n i a hi
    obtain ⟨h1, h2, h3, h4⟩ := qy_c30 hi
    simp only [gW_waitingFor_L17, h1, h2, h3, h4, if_false, if_true, qy_wt0, qy_on0]
    cases qy_lv (qy_rc f 0 i) <;> cases qy_wt (qy_rc f 0 i) <;> cases qy_on l e x (qy_rc f 0 i) <;> simp
  · intro n a
    simp only [gW_waitingFor_L17, qy_c30', if_true]
/-- greatest stop over the slots, while a loop goes -/
def qy_mi' (f : qz_F) (p : (Nat → Int32) → Bool) (i m : Nat) : Prop :=
  m ≤ 9 ∧ (∀ k, k < i → qy_lv (qy_rc f 0 k) = true → p (qy_rc f 0 k) = true → ((qy_rc f 0 k) 3).toNatClampNeg ≤ m) ∧ (m = 0 ∨ ∃ k, k < i ∧ qy_lv (qy_rc f 0 k) = true ∧ p (qy_rc f 0 k) = true ∧ ((qy_rc f 0 k) 3).toNatClampNeg = m)
theorem qy_mi0 (p : (Nat → Int32) → Bool) : qy_mi' f p 0 0 := ⟨by decide, fun k h => absurd h (by omega), Or.inl rfl⟩
theorem qy_miE {p : (Nat → Int32) → Bool} {m : Nat} (h : qy_mi' f p 30 m) : qy_mx (qy_Lc f 0) p m := by
  refine ⟨fun r hr hp => ?_, ?_⟩
  · obtain ⟨i, hi, rfl, hl⟩ := qy_mLc.mp hr
    exact h.2.1 i hi hl hp
  · rcases h.2.2 with h2 | ⟨k, hk, hl, hp, e⟩
    · exact Or.inl h2
    · exact Or.inr ⟨_, qy_mLc.mpr ⟨k, hk, rfl, hl⟩, hp, e⟩
theorem qy_miN {p : (Nat → Int32) → Bool} {i m : Nat} (h : qy_mi' f p i m) (hn : (p (qy_rc f 0 i) && qy_lv (qy_rc f 0 i)) = false) : qy_mi' f p (i + 1) m := by
  refine ⟨h.1, fun k hk hl hp => ?_, ?_⟩
  · by_cases e : k = i
    · subst e
      rw [hl, hp] at hn
      exact absurd hn (by decide)
    · exact h.2.1 k (by omega) hl hp
  · rcases h.2.2 with h2 | ⟨k, hk, h2⟩
    · exact Or.inl h2
    · exact Or.inr ⟨k, by omega, h2⟩
theorem qy_miY {p : (Nat → Int32) → Bool} {i m : Nat} (h : qy_mi' f p i m) (hl : qy_lv (qy_rc f 0 i) = true) (hp : p (qy_rc f 0 i) = true) {s : Nat} (hs : s ≤ 9) (e3 : (qy_rc f 0 i) 3 = nI s) :
    ∃ m', qy_mi' f p (i + 1) m' ∧ (if nI m < f (0, 0, i) 3 then f (0, 0, i) 3 else nI m) = nI m' := by
  have e3' : f (0, 0, i) 3 = nI s := e3
  have ec : (nI s).toNatClampNeg = s := qz_cl_nI (by omega)
  have hm := h.1
  simp only [e3', qy_lt (show m < 2147483648 by omega) (show s < 2147483648 by omega)]
  by_cases hlt : m < s
  · refine ⟨s, ⟨hs, fun k hk hl hp => ?_, Or.inr ⟨i, by omega, hl, hp, by rw [e3, ec]⟩⟩, by rw [if_pos hlt]⟩
    by_cases e : k = i
    · subst e
      rw [e3, ec]
      exact Nat.le_refl _
    · have := h.2.1 k (by omega) hl hp
      omega
  · refine ⟨m, ⟨hm, fun k hk hl hp => ?_, ?_⟩, by rw [if_neg hlt]⟩
    · by_cases e : k = i
      · subst e
        rw [e3, ec]
        omega
      · exact h.2.1 k (by omega) hl hp
    · rcases h.2.2 with h2 | ⟨k, hk, h2⟩
      · exact Or.inl h2
      · exact Or.inr ⟨k, by omega, h2⟩
theorem qy_far (hR : qy_Rel f 0 g) (hW : qy_Wf g B) (hF : 30 < F) (l e x : Int32) : ∃ m, qy_mx (qy_Lc f 0) (fun r => !qy_wt r && qy_on l e x r) m ∧ gW_farthestPromised F f l e x = some (nI m) := by
  unfold gW_farthestPromised
  refine qy_lpE (fun n a y => gW_farthestPromised_L17 F f l e x (fun y45 y76 => some y45) n a y) 30 (fun i a => ∃ m, a = nI m ∧ qy_mi' f (fun r => !qy_wt r && qy_on l e x r) i m) (fun b => ∃ m, qy_mx (qy_Lc f 0) (fun r => !qy_wt r && qy_on l e x r) m ∧ b = some (nI m)) ?_ ?_ F 0 0 (by omega) (by omega) ⟨0, rfl, qy_mi0 _⟩
  · rintro n i a hi ⟨m, rfl, hm⟩
    left
    obtain ⟨h1, h2, h3, h4⟩ := qy_c30 hi
    simp only [gW_farthestPromised_L17, h1, h2, h3, h4, if_false, if_true, qy_rd0, qy_on0]
    cases hl : qy_lv (qy_rc f 0 i)
    · refine ⟨_, ?_, m, rfl, qy_miN hm (by rw [hl, Bool.and_false])⟩
      simp
    · cases hw : qy_wt (qy_rc f 0 i)
      · cases ho : qy_on l e x (qy_rc f 0 i)
        · refine ⟨_, ?_, m, rfl, qy_miN hm (by simp [hw, ho])⟩
          simp
        · obtain ⟨_, _, _, ⟨s, hs1, hs9, e3⟩, _⟩ := qy_WrI hR hW hi hl
          obtain ⟨m', hm', e'⟩ := qy_miY hm hl (by simp [hw, ho]) hs9 e3
          exact ⟨_, by simp, m', e', hm'⟩
      · refine ⟨_, ?_, m, rfl, qy_miN hm (by simp [hw])⟩
        simp
  · rintro n a ⟨m, rfl, hm⟩
    simp only [gW_farthestPromised_L17, qy_c30', if_true]
    exact ⟨m, qy_miE hm, rfl⟩
theorem qy_inTime (hR : qy_Rel f 0 g) (hW : qy_Wf g B) {i : Nat} (hi : i < 30) (hl : qy_lv (qy_rc f 0 i) = true) (st : Int32) : gW_isInTime F f (f (0, 0, i) 1) (f (0, 0, i) 3) st = some (if qy_it g st (qy_rc f 0 i) = true then 1 else 0) := by
  obtain ⟨_, ⟨e, he, e1⟩, _, _, _⟩ := qy_WrI hR hW hi hl
  have e1' : f (0, 0, i) 1 = nI e := e1
  have h10 : e < 10 := by have := hW.2.1; omega
  rw [e1', qy_inTimeS hR h10]
  unfold qy_it
  rw [e1, qz_cl_nI (by omega)]
  have h3 : f (0, 0, i) 3 = (qy_rc f 0 i) 3 := rfl
  rw [h3]
  by_cases h : (st + g 0 * qy_rc f 0 i 3) - g (13 + e) ≤ g 3
  · rw [if_pos h, if_pos (by simp [h])]
  · rw [if_neg h, if_neg (by simp [h])]
theorem qy_inAll (hR : qy_Rel f 0 g) (hW : qy_Wf g B) (hF : 30 < F) {e : Nat} (he : e < 10) (l x : Int32) :
    gW_isInTimeForAll F f l (nI e) x = some (if (qy_Lc f 0).countP (fun r => !qy_wt r && qy_on l (nI e) x r && !qy_it g (qy_st g e x) r) = 0 then 1 else 0) := by
  unfold gW_isInTimeForAll
  refine qy_bs (qy_start hR hW he x) ?_
  rw [← qy_cLc]
  refine qy_lpE (fun n (a : Unit) y => gW_isInTimeForAll_L22 F f l (nI e) x (qy_st g e x) (fun y710 => some (1 : Int32)) n y) 30 (fun i a => (List.range i).countP (fun i => (!qy_wt (qy_rc f 0 i) && qy_on l (nI e) x (qy_rc f 0 i) && !qy_it g (qy_st g e x) (qy_rc f 0 i)) && qy_lv (qy_rc f 0 i)) = 0) (fun b => b = some (if (List.range 30).countP (fun i => (!qy_wt (qy_rc f 0 i) && qy_on l (nI e) x (qy_rc f 0 i) && !qy_it g (qy_st g e x) (qy_rc f 0 i)) && qy_lv (qy_rc f 0 i)) = 0 then 1 else 0)) ?_ ?_ F 0 () (by omega) (by omega) rfl
  · intro n i a hi hP
    obtain ⟨h1, h2, h3, h4⟩ := qy_c30 hi
    simp only [gW_isInTimeForAll_L22, h1, h2, h3, h4, if_false, if_true, qy_rd0, qy_on0]
    rw [List.range_succ, List.countP_append, List.countP_singleton, hP]
    cases hl : qy_lv (qy_rc f 0 i)
    · simp
    · cases hw : qy_wt (qy_rc f 0 i)
      · cases ho : qy_on l (nI e) x (qy_rc f 0 i)
        · simp
        · rw [qy_inTime hR hW hi hl]
          cases hi' : qy_it g (qy_st g e x) (qy_rc f 0 i)
          · right
            simp only [Bool.not_false, Bool.and_true, Option.bind_some, if_true, if_false, Bool.false_eq_true, reduceCtorEq]
            refine congrArg some (if_neg (fun q => ?_)).symm
            have := List.countP_eq_zero.mp q i (List.mem_range.mpr hi)
            simp [hl, hw, ho, hi'] at this
          · simp
      · simp
  · intro n a hP
    simp only [gW_isInTimeForAll_L22, qy_c30', if_true]
    rw [if_pos hP]
theorem qy_min (hW : qy_Wf g B) {e : Nat} (he : e < 10) : ∃ m, m < 1440 ∧ g (13 + e) = nI m ∧ (g (13 + e)).toNatClampNeg = m := by
  obtain ⟨m, hm, e1⟩ := hW.2.2.2.2.2.2.1 e he
  exact ⟨m, hm, e1, by rw [e1, qz_cl_nI (by omega)]⟩
theorem qy_canMerge (hR : qy_Rel f 0 g) (hW : qy_Wf g B) (hF : 30 < F) {l e e2 : Nat} (hl : l < 2) (he : e < 10) (he2 : e2 < 10) :
    gW_canMerge F f (nI l) (nI e) (nI e2) = some (if qy_pa g l e = -5 ∧ qy_pa g l e2 = -5 ∧ g (13 + e) - g (13 + e2) ≤ g 2 ∧ -(g (13 + e) - g (13 + e2)) ≤ g 2 ∧ nI ((qy_Lc f 0).countP (qy_tk (nI l) (nI e) (nI e2) 1 (-1))) ≤ g 1 ∧ (qy_Lc f 0).countP (fun r => !qy_wt r && qy_on (nI l) (nI e) (nI e2) r && !qy_it g (qy_st g e (nI e2)) r) = 0 then 1 else 0) := by
  unfold gW_canMerge
  refine qy_bs (qy_partner hR hl he) ?_
  by_cases h1 : qy_pa g l e = -5
  · rw [if_pos h1]
    refine qy_bs (qy_partner hR hl he2) ?_
    by_cases h2 : qy_pa g l e2 = -5
    · rw [if_pos h2]
      refine qy_bs (qy_minute hR he) ?_
      refine qy_bs (qy_minute hR he2) ?_
      refine qy_bs (qy_set2 hR) ?_
      obtain ⟨m1, hm1, a1, _⟩ := qy_min hW he
      obtain ⟨m2, hm2, a2, _⟩ := qy_min hW he2
      have hab : ((if 0 ≤ g (13 + e) - g (13 + e2) then g (13 + e) - g (13 + e2) else 0 - (g (13 + e) - g (13 + e2))) ≤ g 2) = (g (13 + e) - g (13 + e2) ≤ g 2 ∧ -(g (13 + e) - g (13 + e2)) ≤ g 2) := by
        rw [a1, a2]
        exact qy_absI (by omega) (by omega) _
      by_cases h3 : (if 0 ≤ g (13 + e) - g (13 + e2) then g (13 + e) - g (13 + e2) else 0 - (g (13 + e) - g (13 + e2))) ≤ g 2
      · rw [if_pos h3]
        rw [hab] at h3
        refine qy_bs (qy_taken hF _ _ _ _ (-1) none (qy_none f)) ?_
        refine qy_bs (qy_set1 hR) ?_
        by_cases h4 : nI ((qy_Lc f 0).countP (qy_tk (nI l) (nI e) (nI e2) 1 (-1))) ≤ g 1
        · rw [if_neg (Int32.not_lt.mpr h4)]
          refine qy_bs (qy_inAll hR hW hF he _ _) ?_
          by_cases h5 : (qy_Lc f 0).countP (fun r => !qy_wt r && qy_on (nI l) (nI e) (nI e2) r && !qy_it g (qy_st g e (nI e2)) r) = 0
          · have e5 : (if (qy_Lc f 0).countP (fun r => !qy_wt r && qy_on (nI l) (nI e) (nI e2) r && !qy_it g (qy_st g e (nI e2)) r) = 0 then (1 : Int32) else 0) = 1 := if_pos h5
            rw [e5, if_neg (show ¬ (1 : Int32) = 0 by decide), if_pos ⟨h1, h2, h3.1, h3.2, h4, h5⟩]
          · have e5 : (if (qy_Lc f 0).countP (fun r => !qy_wt r && qy_on (nI l) (nI e) (nI e2) r && !qy_it g (qy_st g e (nI e2)) r) = 0 then (1 : Int32) else 0) = 0 := if_neg h5
            rw [e5, if_pos rfl, if_neg (fun q => h5 q.2.2.2.2.2)]
        · rw [if_pos (Int32.not_le.mp h4), if_neg (fun q => h4 q.2.2.2.2.1)]
      · rw [if_neg h3]
        rw [hab] at h3
        rw [if_neg (fun q => h3 ⟨q.2.2.1, q.2.2.2.1⟩)]
    · rw [if_neg h2, if_neg (fun q => h2 q.2.1)]
  · rw [if_neg h1, if_neg (fun q => h1 q.1)]
theorem qy_gs (f : qz_F) (i b : Nat) : (gB_getsSeatAheadOf f i b = 0) = ((decide ((qy_rc f 0 b) 3 < (qy_rc f 0 i) 3) || (decide ((qy_rc f 0 i) 3 = (qy_rc f 0 b) 3) && decide ((qy_rc f 0 i) 0 < (qy_rc f 0 b) 0))) = false) := by
  have h0 : ∀ i c, c < 8 → f (0, 0, i) c = (qy_rc f 0 i) c := fun i c hc => (if_pos hc).symm
  unfold gB_getsSeatAheadOf
  rw [h0 i 3 (by decide), h0 b 3 (by decide), h0 i 0 (by decide), h0 b 0 (by decide)]
  by_cases h1 : qy_rc f 0 i 3 = qy_rc f 0 b 3
  · rw [if_pos h1]
    by_cases h2 : qy_rc f 0 b 0 ≤ qy_rc f 0 i 0
    · simp [h1, h2, Int32.not_lt.mpr h2]
    · simp [h1, h2, Int32.not_le.mp h2]
  · rw [if_neg h1]
    by_cases h2 : qy_rc f 0 i 3 ≤ qy_rc f 0 b 3
    · simp [h1, h2, Int32.not_lt.mpr h2]
    · simp [h1, h2, Int32.not_le.mp h2]
theorem qy_canRide (hR : qy_Rel f 0 g) (hW : qy_Wf g B) (hF : 30 < F) {b e : Nat} (hb : b < 30) (hlb : qy_lv (qy_rc f 0 b) = true) (he : e < 10) (x : Int32) :
    gW_canRide F f b (nI e) x = some (if qy_cr g (qy_Lc f 0) e x (qy_rc f 0 b) = true then 1 else 0) := by
  unfold gW_canRide qy_cr
  refine qy_bs (qy_start hR hW he x) ?_
  refine qy_bs (qy_inTime hR hW hb hlb _) ?_
  cases hi : qy_it g (qy_st g e x) (qy_rc f 0 b)
  · rw [if_pos (by simp)]
    simp
  · rw [if_neg (by simp)]
    rw [← qy_cLc]
    refine (qy_cnt (fun n a y => gW_canRide_L44 F f b (nI e) x (qy_st g e x) (fun y514 y815 => Option.bind (gW_setting F f (1 : Int32)) fun x17 => if x17 ≤ y514 then (some (0 : Int32)) else (some (1 : Int32))) n a y) (fun a => if g 1 ≤ a then some 0 else some 1) 30 (fun i => qy_ah g (qy_st g e x) (nI e) x (qy_rc f 0 b) (qy_rc f 0 i) && qy_lv (qy_rc f 0 i)) ?_ ?_ F hF).trans ?_
    · intro n i a hi
      obtain ⟨h1, h2, h3, h4⟩ := qy_c30 hi
      have h2' : f (0, 0, b) 2 = (qy_rc f 0 b) 2 := rfl
      simp only [gW_canRide_L44, h1, h2, h3, h4, if_false, if_true, qy_rd0, qy_on0, h2', qy_gs]
      unfold qy_ah
      cases hl : qy_lv (qy_rc f 0 i)
      · simp
      · rw [qy_inTime hR hW hi hl]
        cases qy_wt (qy_rc f 0 i) <;> cases qy_on ((qy_rc f 0 b) 2) (nI e) x (qy_rc f 0 i) <;> cases qy_it g (qy_st g e x) (qy_rc f 0 i) <;> cases (decide ((qy_rc f 0 b) 3 < (qy_rc f 0 i) 3) || (decide ((qy_rc f 0 i) 3 = (qy_rc f 0 b) 3) && decide ((qy_rc f 0 i) 0 < (qy_rc f 0 b) 0))) <;> simp
    · intro n a
      simp only [gW_canRide_L44, qy_c30', if_true]
      exact qy_bs (qy_set1 hR) rfl
    · by_cases h : nI (List.countP (fun i => qy_ah g (qy_st g e x) (nI e) x (qy_rc f 0 b) (qy_rc f 0 i) && qy_lv (qy_rc f 0 i)) (List.range 30)) < g 1
      · rw [if_neg (Int32.not_le.mpr h), if_pos (by simp [h])]
      · rw [if_pos (Int32.not_lt.mp h), if_neg (by simp [h])]
theorem qy_cost (hR : qy_Rel f 0 g) (hW : qy_Wf g B) (hF : 30 < F) {e : Nat} (he : e < 10) (l x : Int32) : ∃ m, m ≤ 9 ∧ qy_mx (qy_Lc f 0) (fun r => (!qy_wt r && qy_on l (nI e) x r) && qy_cr g (qy_Lc f 0) e x r) m ∧ gW_costToday F f l (nI e) x = some (if m = 0 then 0 else nI (20 + 2 * m)) := by
  unfold gW_costToday
  refine qy_lpE (fun n a y => gW_costToday_L17 F f l (nI e) x (fun y48 y79 => if y48 = 0 then (some (0 : Int32)) else (some ((20 : Int32) + ((2 : Int32) * y48)))) n a y) 30 (fun i a => ∃ m, a = nI m ∧ qy_mi' f (fun r => (!qy_wt r && qy_on l (nI e) x r) && qy_cr g (qy_Lc f 0) e x r) i m) (fun b => ∃ m, m ≤ 9 ∧ qy_mx (qy_Lc f 0) (fun r => (!qy_wt r && qy_on l (nI e) x r) && qy_cr g (qy_Lc f 0) e x r) m ∧ b = some (if m = 0 then 0 else nI (20 + 2 * m))) ?_ ?_ F 0 0 (by omega) (by omega) ⟨0, rfl, qy_mi0 _⟩
  · rintro n i a hi ⟨m, rfl, hm⟩
    left
    obtain ⟨h1, h2, h3, h4⟩ := qy_c30 hi
    simp only [gW_costToday_L17, h1, h2, h3, h4, if_false, if_true, qy_rd0, qy_on0]
    cases hl : qy_lv (qy_rc f 0 i)
    · refine ⟨_, ?_, m, rfl, qy_miN hm (by rw [hl, Bool.and_false])⟩
      simp
    · rw [qy_canRide hR hW hF hi hl he]
      cases hw : qy_wt (qy_rc f 0 i)
      · cases ho : qy_on l (nI e) x (qy_rc f 0 i)
        · refine ⟨_, ?_, m, rfl, qy_miN hm (by simp [hw, ho])⟩
          simp
        · cases hc : qy_cr g (qy_Lc f 0) e x (qy_rc f 0 i)
          · refine ⟨_, ?_, m, rfl, qy_miN hm (by simp [hw, ho, hc])⟩
            simp
          · obtain ⟨_, _, _, ⟨s, hs1, hs9, e3⟩, _⟩ := qy_WrI hR hW hi hl
            obtain ⟨m', hm', e'⟩ := qy_miY hm hl (by simp [hw, ho, hc]) hs9 e3
            exact ⟨_, by simp, m', e', hm'⟩
      · refine ⟨_, ?_, m, rfl, qy_miN hm (by simp [hw])⟩
        simp
  · rintro n a ⟨m, rfl, hm⟩
    simp only [gW_costToday_L17, qy_c30', if_true]
    have hm9 := hm.1
    refine ⟨m, hm.1, qy_miE hm, ?_⟩
    by_cases h0 : m = 0
    · subst h0
      rfl
    · have h0' : ¬ nI m = 0 := by
        have : ¬ nI m = nI 0 := by rw [qy_eq (by omega) (by omega)]; exact h0
        exact this
      rw [if_neg h0', if_neg h0]
      rw [show (2 : Int32) = nI 2 from rfl, show (20 : Int32) = nI 20 from rfl, qy_mul, qy_add]
theorem qy_earlier (hR : qy_Rel f 0 g) (hW : qy_Wf g B) {o e : Nat} (ho : o < 10) (he : e < 10) : gW_isEarlier F f (nI o) (nI e) = some (if qy_er g o e = true then 1 else 0) := by
  unfold gW_isEarlier
  refine qy_bs (qy_minute hR ho) ?_
  refine qy_bs (qy_minute hR he) ?_
  obtain ⟨m1, hm1, a1, b1⟩ := qy_min hW ho
  obtain ⟨m2, hm2, a2, b2⟩ := qy_min hW he
  unfold qy_er
  rw [b1, b2, a1, a2]
  simp only [qy_sub0 (show m1 < 1000000000 by omega) (show m2 < 1000000000 by omega), qy_subge (show m1 < 1000000000 by omega) (show m2 < 1000000000 by omega), qy_le (show e < 2147483648 by omega) (show o < 2147483648 by omega), decide_eq_true_eq]
  by_cases h1 : m1 = m2
  · by_cases h2 : e ≤ o
    · rw [if_pos h1, if_pos h2, if_neg (by omega)]
    · rw [if_pos h1, if_neg h2, if_pos (by omega)]
  · by_cases h2 : m2 ≤ m1
    · rw [if_neg h1, if_pos h2, if_neg (by omega)]
    · rw [if_neg h1, if_neg h2, if_pos (by omega)]
theorem qy_cec (hR : qy_Rel f 0 g) (hW : qy_Wf g B) {i : Nat} (hi : i < qy_ec g) : ¬ f (4, 0, 0) 0 ≤ nI i := by
  have := hW.2.1
  rw [hR.1, hW.1, qy_le (by omega) (by omega)]
  omega
theorem qy_cec' (hR : qy_Rel f 0 g) (hW : qy_Wf g B) : f (4, 0, 0) 0 ≤ nI (qy_ec g) := by
  rw [hR.1, hW.1]
  exact Int32.le_refl _
theorem qy_pairs (hR : qy_Rel f 0 g) (hF : 30 < F) : gW_pairCount F f = some (nI ((List.range 20).countP (fun i => !decide (qy_pc (g (23 + i)) = -5))) / 2) := by
  unfold gW_pairCount
  refine qy_cnt (fun n a y => gW_pairCount_L13 F f _ n a y) (fun a => some (a / 2)) 20 _ ?_ ?_ F (by omega)
  · intro n i a hi
    have h1 : ¬ (20 : Int32) ≤ nI i := fun q => by have := (qz_le_nI (a := 20) (b := i) (by decide) (by omega)).mp q; omega
    simp only [gW_pairCount_L13, h1, if_false, if_true, qz_xi_nI (show i < 20 from hi) (by decide), qz_cl_nI (show i < 2 ^ 31 by omega), qz_nI1, hR.2.2.2.2.1 i hi]
    by_cases h : qy_pc (g (23 + i)) = -5 <;> simp [h]
  · intro n a
    simp only [gW_pairCount_L13, show (20 : Int32) ≤ nI 20 from by decide, if_true]
theorem qy_bookingOf (hF : 30 < F) (x : Int32) : ∃ o, gW_bookingOf F f x = some o ∧ ((o = none ∧ ∀ r, r ∈ qy_Lc f 0 → ¬ r 0 = x) ∨ ∃ i, i < 30 ∧ o = some i ∧ qy_lv (qy_rc f 0 i) = true ∧ (qy_rc f 0 i) 0 = x) := by
  unfold gW_bookingOf
  refine qy_lpE (fun n (a : Unit) y => gW_bookingOf_L11 F f x (fun y45 => some none) n y) 30 (fun i a => ∀ k, k < i → qy_lv (qy_rc f 0 k) = true → ¬ (qy_rc f 0 k) 0 = x) (fun b => ∃ o, b = some o ∧ ((o = none ∧ ∀ r, r ∈ qy_Lc f 0 → ¬ r 0 = x) ∨ ∃ i, i < 30 ∧ o = some i ∧ qy_lv (qy_rc f 0 i) = true ∧ (qy_rc f 0 i) 0 = x)) ?_ ?_ F 0 () (by omega) (by omega) (fun e h => absurd h (by omega))
  · intro n i a hi hP
    obtain ⟨h1, h2, h3, h4⟩ := qy_c30 hi
    have h5 : f (0, 0, i) 0 = (qy_rc f 0 i) 0 := rfl
    simp only [gW_bookingOf_L11, h1, h2, h3, h4, if_false, if_true, qy_lv0, h5]
    cases hl : qy_lv (qy_rc f 0 i)
    · left
      refine ⟨(), by simp, fun k hk hk' => ?_⟩
      by_cases h' : k = i
      · subst h'; rw [hl] at hk'; exact absurd hk' (by decide)
      · exact hP k (by omega) hk'
    · by_cases h : (qy_rc f 0 i) 0 = x
      · right
        exact ⟨some i, by simp [h], Or.inr ⟨i, hi, rfl, hl, h⟩⟩
      · left
        refine ⟨(), by simp [h], fun k hk hk' => ?_⟩
        by_cases h' : k = i
        · subst h'; exact h
        · exact hP k (by omega) hk'
  · intro n a hP
    simp only [gW_bookingOf_L11, qy_c30', if_true]
    refine ⟨none, rfl, Or.inl ⟨rfl, fun r hr => ?_⟩⟩
    obtain ⟨i, hi, rfl, hl⟩ := qy_mLc.mp hr
    exact hP i hi hl
end QYB
