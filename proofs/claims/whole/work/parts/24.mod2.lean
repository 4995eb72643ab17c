/-! who rides, by the reference -/
section QYD
variable {F B : Nat}
theorem qy_cset {t t' : Nat → Bool} {k : Nat} (h1 : ∀ j, j ≠ k → t' j = t j) (h2 : t k = false) (h3 : t' k = true) : ∀ n, (List.range n).countP t' = (List.range n).countP t + if k < n then 1 else 0 := by
  intro n
  induction n with
  | zero => rfl
  | succ n ih =>
    rw [List.range_succ, List.countP_append, List.countP_append, List.countP_singleton, List.countP_singleton, ih]
    by_cases h : k = n
    · subst h
      rw [h2, h3]
      simp
    · rw [h1 n (fun q => h q.symm)]
      by_cases h4 : k < n
      · rw [if_pos h4, if_pos (show k < n + 1 by omega)]
        omega
      · rw [if_neg h4, if_neg (show ¬ k < n + 1 by omega)]
        omega
theorem qy_csame {t t' : Nat → Bool} {n : Nat} (h : ∀ j, j < n → t j = t' j) : (List.range n).countP t = (List.range n).countP t' := by
  refine List.countP_congr (fun j hj => ?_)
  rw [h j (List.mem_range.mp hj)]
def qy_gt (q r : Nat → Int32) : Bool := decide (r 3 < q 3) || (decide (q 3 = r 3) && decide (q 0 < r 0))
/-- who may ride -/
def qy_ca (g : Nat → Int32) (l e x st : Int32) (r : Nat → Int32) : Bool := (!qy_wt r && qy_on l e x r) && qy_it g st r
/-- who rides -/
def qy_ri (g : Nat → Int32) (L : List (Nat → Int32)) (l e x st : Int32) (r : Nat → Int32) : Bool :=
  qy_ca g l e x st r && decide (nI (L.countP (fun q => qy_ca g l e x st q && qy_gt q r)) < g 1)
theorem qm_sorted {g : Nat → Int32} (hW : qy_Wf g B) {i k : Nat} (hi : i < qy_n g) (hk : k < qy_n g) : ((qy_rm g i) 0 < (qy_rm g k) 0) = (i < k) := by
  have hs := hW.2.2.2.2.2.2.2.2.2.1
  refine propext ⟨fun h => ?_, fun h => hs i k h hk⟩
  rcases Nat.lt_trichotomy i k with h1 | h1 | h1
  · exact h1
  · subst h1
    exact absurd h (Int32.lt_irrefl)
  · exact absurd (Int32.lt_trans h (hs k i h1 hi)) (Int32.lt_irrefl)
def qm_D (g : Nat → Int32) (s k j : Nat) : Bool := decide (s < ((qy_rm g j) 3).toNatClampNeg ∨ (((qy_rm g j) 3).toNatClampNeg = s ∧ j < k))
/-- while rides are laid -/
def qm_LI (f0 : qz_F) (p0 : Nat → Nat) (l e x st : Int32) (s k : Nat) (y5 : Int32) (T : qz_S) : Prop :=
  T.2 = p0 ∧ (∀ n j, ¬ n = (22, 0, 0) → ¬ (n = (6, 0, 0) ∧ j = 10) → T.1 n j = f0 n j) ∧
  y5 = nI (min ((f0 (17, 0, 0)) 1).toNatClampNeg ((List.range (qy_n (f0 (17, 0, 0)))).countP (fun j => qy_ca (f0 (17, 0, 0)) l e x st (qy_rm (f0 (17, 0, 0)) j) && qm_D (f0 (17, 0, 0)) s k j))) ∧
  (∀ j, j < qy_n (f0 (17, 0, 0)) → T.1 (22, 0, 0) j = if (qm_D (f0 (17, 0, 0)) s k j && qy_ri (f0 (17, 0, 0)) (qy_Lm (f0 (17, 0, 0))) l e x st (qy_rm (f0 (17, 0, 0)) j)) = true then 1 else 0) ∧
  (∃ m, m ≤ 9 ∧ T.1 (6, 0, 0) 10 = nI m ∧ (∀ j, j < qy_n (f0 (17, 0, 0)) → (qm_D (f0 (17, 0, 0)) s k j && qy_ri (f0 (17, 0, 0)) (qy_Lm (f0 (17, 0, 0))) l e x st (qy_rm (f0 (17, 0, 0)) j)) = true → ((qy_rm (f0 (17, 0, 0)) j) 3).toNatClampNeg ≤ m) ∧
    (m = 0 ∨ ∃ j, j < qy_n (f0 (17, 0, 0)) ∧ (qm_D (f0 (17, 0, 0)) s k j && qy_ri (f0 (17, 0, 0)) (qy_Lm (f0 (17, 0, 0))) l e x st (qy_rm (f0 (17, 0, 0)) j)) = true ∧ ((qy_rm (f0 (17, 0, 0)) j) 3).toNatClampNeg = m))
/-- the invariant speaks of D alone -/
theorem qm_LIc {f0 : qz_F} {p0 : Nat → Nat} {l e x st : Int32} {s k s' k' : Nat} {y5 : Int32} {T : qz_S} (h : qm_LI f0 p0 l e x st s k y5 T) (hD : ∀ j, j < qy_n (f0 (17, 0, 0)) → (qm_D (f0 (17, 0, 0)) s k j && qy_ca (f0 (17, 0, 0)) l e x st (qy_rm (f0 (17, 0, 0)) j)) = (qm_D (f0 (17, 0, 0)) s' k' j && qy_ca (f0 (17, 0, 0)) l e x st (qy_rm (f0 (17, 0, 0)) j))) : qm_LI f0 p0 l e x st s' k' y5 T := by
  obtain ⟨h1, h2, h3, h4, m, h5, h6, h7, h8⟩ := h
  have hD' : ∀ j, j < qy_n (f0 (17, 0, 0)) → (qm_D (f0 (17, 0, 0)) s k j && qy_ri (f0 (17, 0, 0)) (qy_Lm (f0 (17, 0, 0))) l e x st (qy_rm (f0 (17, 0, 0)) j)) = (qm_D (f0 (17, 0, 0)) s' k' j && qy_ri (f0 (17, 0, 0)) (qy_Lm (f0 (17, 0, 0))) l e x st (qy_rm (f0 (17, 0, 0)) j)) := by
    intro j hj
    have := hD j hj
    unfold qy_ri
    rw [← Bool.and_assoc, ← Bool.and_assoc, this]
  refine ⟨h1, h2, ?_, ?_, m, h5, h6, ?_, ?_⟩
  · rw [h3]
    congr 2
    refine qy_csame (fun j hj => ?_)
    rw [Bool.and_comm, hD j hj, Bool.and_comm]
  · intro j hj
    rw [h4 j hj, hD' j hj]
  · intro j hj
    rw [← hD' j hj]
    exact h7 j hj
  · rcases h8 with h8 | ⟨j, hj, h9, h10⟩
    · exact Or.inl h8
    · exact Or.inr ⟨j, hj, by rw [← hD' j hj]; exact h9, h10⟩
theorem qm_LIs {f0 : qz_F} {p0 : Nat → Nat} (hW : qy_Wf (f0 (17, 0, 0)) B) {l e x st : Int32} {s k : Nat} {T : qz_S} {y5 : Int32} (hk : k < qy_n (f0 (17, 0, 0))) (hs0 : 0 < s) (hs : ((qy_rm (f0 (17, 0, 0)) k) 3).toNatClampNeg = s) (hc : qy_ca (f0 (17, 0, 0)) l e x st (qy_rm (f0 (17, 0, 0)) k) = true)
    (h : qm_LI f0 p0 l e x st s k y5 T) : (¬ (f0 (17, 0, 0)) 1 ≤ y5 → ∀ v, v = (if T.1 (6, 0, 0) 10 = 0 then nI s else T.1 (6, 0, 0) 10) → qm_LI f0 p0 l e x st s (k + 1) (y5 + 1) (qz_wr (qz_wr T (22, 0, 0) k 1) (6, 0, 0) 10 v)) ∧ ((f0 (17, 0, 0)) 1 ≤ y5 → qm_LI f0 p0 l e x st s (k + 1) y5 T) := by
  obtain ⟨h1, h2, h3, h4, m, h5, h6, h7, h8⟩ := h
  have h30 := hW.2.2.2.1
  obtain ⟨z, hz1, hz30, hz⟩ := hW.2.2.2.2.2.1
  have hzz : ((f0 (17, 0, 0)) 1).toNatClampNeg = z := by rw [hz, qz_cl_nI (by omega)]
  have hDk : qm_D (f0 (17, 0, 0)) s k k = false := by unfold qm_D; rw [hs]; simp
  have hDk' : qm_D (f0 (17, 0, 0)) s (k + 1) k = true := by unfold qm_D; rw [hs]; simp
  have hDj : ∀ j, j ≠ k → qm_D (f0 (17, 0, 0)) s (k + 1) j = qm_D (f0 (17, 0, 0)) s k j := by
    intro j hj
    unfold qm_D
    have : (j < k + 1) = (j < k) := propext ⟨fun h => by omega, fun h => by omega⟩
    simp only [this]
  have hcnt := qy_cset (t := fun j => qy_ca (f0 (17, 0, 0)) l e x st (qy_rm (f0 (17, 0, 0)) j) && qm_D (f0 (17, 0, 0)) s k j) (t' := fun j => qy_ca (f0 (17, 0, 0)) l e x st (qy_rm (f0 (17, 0, 0)) j) && qm_D (f0 (17, 0, 0)) s (k + 1) j) (k := k) (fun j hj => by simp only [hDj j hj]) (by simp only [hDk, Bool.and_false]) (by simp only [hDk', hc, Bool.and_true]) (qy_n (f0 (17, 0, 0)))
  rw [if_pos hk] at hcnt
  have hah : (qy_Lm (f0 (17, 0, 0))).countP (fun q => qy_ca (f0 (17, 0, 0)) l e x st q && qy_gt q (qy_rm (f0 (17, 0, 0)) k)) = (List.range (qy_n (f0 (17, 0, 0)))).countP (fun j => qy_ca (f0 (17, 0, 0)) l e x st (qy_rm (f0 (17, 0, 0)) j) && qm_D (f0 (17, 0, 0)) s k j) := by
    rw [← qy_cLm]
    refine qy_csame (fun j hj => ?_)
    congr 1
    unfold qy_gt qm_D
    obtain ⟨_, _, _, ⟨s1, _, hs9, e1⟩, _⟩ := qm_Wr (f := f0) hW hj
    obtain ⟨_, _, _, ⟨s2, _, hs9', e2⟩, _⟩ := qm_Wr (f := f0) hW hk
    rw [e2, qz_cl_nI (by omega)] at hs
    subst hs
    simp only [qm_sorted hW hj hk]
    rw [e1, e2, qz_cl_nI (show s1 < 2 ^ 31 by omega)]
    simp only [qy_lt (show s2 < 2147483648 by omega) (show s1 < 2147483648 by omega), qy_eq (show s1 < 2147483648 by omega) (show s2 < 2147483648 by omega)]
    rw [Bool.eq_iff_iff]
    simp
  have hCle : (List.range (qy_n (f0 (17, 0, 0)))).countP (fun j => qy_ca (f0 (17, 0, 0)) l e x st (qy_rm (f0 (17, 0, 0)) j) && qm_D (f0 (17, 0, 0)) s k j) ≤ 30 := by
    refine Nat.le_trans List.countP_le_length ?_
    rw [List.length_range]
    exact h30
  have hri : ∀ j, j ≠ k → (qm_D (f0 (17, 0, 0)) s (k + 1) j && qy_ri (f0 (17, 0, 0)) (qy_Lm (f0 (17, 0, 0))) l e x st (qy_rm (f0 (17, 0, 0)) j)) = (qm_D (f0 (17, 0, 0)) s k j && qy_ri (f0 (17, 0, 0)) (qy_Lm (f0 (17, 0, 0))) l e x st (qy_rm (f0 (17, 0, 0)) j)) := fun j hj => by rw [hDj j hj]
  have hrk : qy_ri (f0 (17, 0, 0)) (qy_Lm (f0 (17, 0, 0))) l e x st (qy_rm (f0 (17, 0, 0)) k) = decide ((List.range (qy_n (f0 (17, 0, 0)))).countP (fun j => qy_ca (f0 (17, 0, 0)) l e x st (qy_rm (f0 (17, 0, 0)) j) && qm_D (f0 (17, 0, 0)) s k j) < z) := by
    unfold qy_ri
    rw [hc, hah, hz, Bool.true_and]
    congr 1
    exact qy_lt (by omega) (by omega)
  rw [hzz] at h3
  have hle : ((f0 (17, 0, 0)) 1 ≤ y5) = ¬ ((List.range (qy_n (f0 (17, 0, 0)))).countP (fun j => qy_ca (f0 (17, 0, 0)) l e x st (qy_rm (f0 (17, 0, 0)) j) && qm_D (f0 (17, 0, 0)) s k j) < z) := by
    rw [hz, h3, qy_le (by omega) (by omega)]
    exact propext ⟨fun h => by omega, fun h => by omega⟩
  rw [hle]
  constructor
  · intro hlt v hv
    have hlt := Decidable.not_not.mp hlt
    have hrk1 : qy_ri (f0 (17, 0, 0)) (qy_Lm (f0 (17, 0, 0))) l e x st (qy_rm (f0 (17, 0, 0)) k) = true := by rw [hrk]; exact decide_eq_true hlt
    have hv0 : v = nI (if m = 0 then s else m) := by
      rw [hv, h6]
      by_cases hm : m = 0
      · subst hm
        rfl
      · have : ¬ nI m = 0 := by
          have : ¬ nI m = nI 0 := by rw [qy_eq (by omega) (by omega)]; exact hm
          exact this
        rw [if_neg this, if_neg hm]
    have hms : m = 0 ∨ s ≤ m := by
      rcases h8 with h8 | ⟨j, hj, h9, h10⟩
      · exact Or.inl h8
      · right
        simp only [Bool.and_eq_true, qm_D, decide_eq_true_eq] at h9
        omega
    have hs9 : s ≤ 9 := by
      obtain ⟨_, _, _, ⟨s2, _, hs9', e2⟩, _⟩ := qm_Wr (f := f0) hW hk
      rw [e2, qz_cl_nI (by omega)] at hs
      omega
    refine ⟨h1, ?_, ?_, ?_, if m = 0 then s else m, ?_, ?_, ?_, ?_⟩
    · intro n j hn1 hn2
      simp only [qz_wr]
      rw [if_neg hn2, if_neg (fun q => hn1 q.1)]
      exact h2 n j hn1 hn2
    · rw [hcnt, h3, qz_nI1, hzz]
      congr 1
      omega
    · intro j hj
      simp only [qz_wr]
      rw [if_neg (fun q => absurd q.1 (by decide))]
      by_cases hjk : j = k
      · subst hjk
        rw [if_pos (by simp), hDk', hrk1]
        rfl
      · rw [if_neg (fun q => hjk q.2), hri j hjk]
        exact h4 j hj
    · by_cases hm : m = 0
      · rw [if_pos hm]; exact hs9
      · rw [if_neg hm]; exact h5
    · simp only [qz_wr]
      rw [if_pos ⟨trivial, trivial⟩]
      exact hv0
    · intro j hj hh
      by_cases hjk : j = k
      · subst hjk
        rw [hs]
        by_cases hm : m = 0
        · rw [if_pos hm]; exact Nat.le_refl _
        · rw [if_neg hm]; omega
      · rw [hri j hjk] at hh
        have := h7 j hj hh
        by_cases hm : m = 0
        · rw [if_pos hm]; omega
        · rw [if_neg hm]; exact this
    · right
      by_cases hm : m = 0
      · exact ⟨k, hk, by rw [hDk', hrk1]; rfl, by rw [hs, if_pos hm]⟩
      · rcases h8 with h8 | ⟨j, hj, h9, h10⟩
        · exact absurd h8 hm
        · have hjk : j ≠ k := by
            intro q
            subst q
            rw [hDk] at h9
            simp at h9
          exact ⟨j, hj, by rw [hri j hjk]; exact h9, by rw [h10, if_neg hm]⟩
  · intro hlt
    have hrk1 : qy_ri (f0 (17, 0, 0)) (qy_Lm (f0 (17, 0, 0))) l e x st (qy_rm (f0 (17, 0, 0)) k) = false := by rw [hrk]; exact decide_eq_false hlt
    have hri' : ∀ j, (qm_D (f0 (17, 0, 0)) s (k + 1) j && qy_ri (f0 (17, 0, 0)) (qy_Lm (f0 (17, 0, 0))) l e x st (qy_rm (f0 (17, 0, 0)) j)) = (qm_D (f0 (17, 0, 0)) s k j && qy_ri (f0 (17, 0, 0)) (qy_Lm (f0 (17, 0, 0))) l e x st (qy_rm (f0 (17, 0, 0)) j)) := by
      intro j
      by_cases hjk : j = k
      · subst hjk
        rw [hrk1, Bool.and_false, Bool.and_false]
      · exact hri j hjk
    refine ⟨h1, h2, ?_, ?_, m, h5, h6, ?_, ?_⟩
    · rw [hcnt, h3, hzz]
      congr 1
      omega
    · intro j hj
      rw [hri' j]
      exact h4 j hj
    · intro j hj
      rw [hri' j]
      exact h7 j hj
    · rcases h8 with h8 | ⟨j, hj, h9, h10⟩
      · exact Or.inl h8
      · exact Or.inr ⟨j, hj, by rw [hri' j]; exact h9, h10⟩
theorem qm_itC {k : Nat} {f : qz_F} (hW : qy_Wf (f (17, 0, 0)) B) (hk : k < qy_n (f (17, 0, 0))) (st s : Int32) (hs : (qy_rm (f (17, 0, 0)) k) 3 = s) : ∃ v, gM_behind F f st ((qy_rm (f (17, 0, 0)) k) 1) s = some v ∧ ((f (17, 0, 0)) 3 < v) = (qy_it (f (17, 0, 0)) st (qy_rm (f (17, 0, 0)) k) = false) := by
  subst hs
  refine ⟨_, qm_it hW hk st, ?_⟩
  unfold qy_it
  rw [decide_eq_false_iff_not, Int32.not_le]
theorem qm_rides0 {f0 : qz_F} {p0 : Nat → Nat} (hW : qy_Wf (f0 (17, 0, 0)) B) (hF : 30 < F) (l e x st : Int32) (T : qz_S) (hT : T.2 = p0) (hf : ∀ n j, ¬ n = (22, 0, 0) → ¬ (n = (6, 0, 0) ∧ j = 10) → T.1 n j = f0 n j) (h10 : T.1 (6, 0, 0) 10 = 0) (hz : ∀ j, j < qy_n (f0 (17, 0, 0)) → T.1 (22, 0, 0) j = 0) : qm_LI f0 p0 l e x st 9 0 0 T := by
  have hD : ∀ j, j < qy_n (f0 (17, 0, 0)) → qm_D (f0 (17, 0, 0)) 9 0 j = false := by
    intro j hj
    obtain ⟨_, _, _, ⟨s1, _, hs9, e1⟩, _⟩ := qm_Wr (f := f0) hW hj
    unfold qm_D
    rw [e1, qz_cl_nI (by omega)]
    exact decide_eq_false (by omega)
  refine ⟨hT, hf, ?_, ?_, 0, by omega, h10, ?_, Or.inl rfl⟩
  · have : (List.range (qy_n (f0 (17, 0, 0)))).countP (fun j => qy_ca (f0 (17, 0, 0)) l e x st (qy_rm (f0 (17, 0, 0)) j) && qm_D (f0 (17, 0, 0)) 9 0 j) = 0 := by
      rw [List.countP_eq_zero]
      intro j hj
      rw [hD j (List.mem_range.mp hj)]
      simp
    rw [this, Nat.min_zero]
    rfl
  · intro j hj
    rw [hD j hj, hz j hj]
    rfl
  · intro j hj h
    rw [hD j hj] at h
    simp at h
theorem qm_rides1 {f0 : qz_F} {p0 : Nat → Nat} (hW : qy_Wf (f0 (17, 0, 0)) B) (hF : 30 < F) (l e x st : Int32) {s : Nat} (hs1 : 1 ≤ s) (hs9 : s ≤ 9) (K : Int32 → Int32 → qz_S → Option qz_S) (Q : Option qz_S → Prop) (hK : ∀ y5 T, qm_LI f0 p0 l e x st s (qy_n (f0 (17, 0, 0))) y5 T → Q (K y5 (nI (qy_n (f0 (17, 0, 0)))) T)) (y5 : Int32) (T : qz_S) (h : qm_LI f0 p0 l e x st s 0 y5 T) : Q (gM_laysRides_L49 F l e x st (nI s) K F y5 0 T) := by
  have h30 := hW.2.2.2.1
  refine qy_lpE (fun n (a : Int32 × qz_S) y => gM_laysRides_L49 F l e x st (nI s) K n a.1 y a.2) (qy_n (f0 (17, 0, 0))) (fun i a => qm_LI f0 p0 l e x st s i a.1 a.2) Q ?_ ?_ F 0 (y5, T) (by omega) (by omega) h
  · rintro n i ⟨y, T⟩ hi hP
    left
    simp only at hP ⊢
    have hg : T.1 (17, 0, 0) = f0 (17, 0, 0) := by
      funext j
      exact hP.2.1 _ _ (by decide) (fun q => absurd q.1 (by decide))
    have hW' : qy_Wf (T.1 (17, 0, 0)) B := by rw [hg]; exact hW
    have hi' : i < qy_n (T.1 (17, 0, 0)) := by rw [hg]; exact hi
    obtain ⟨c1, c2, c3⟩ := qm_c hW' hi'
    obtain ⟨_, _, _, ⟨s1, hs1', hs9', e1⟩, _⟩ := qm_Wr (f := f0) hW hi
    simp only [gM_laysRides_L49, c1, c2, if_false, qm_isOf hW' hi', Option.bind_some, qm_o1 c3, qm_o3 c3]
    rw [hg, e1]
    have hskip : (qm_D (f0 (17, 0, 0)) s i i = qm_D (f0 (17, 0, 0)) s (i + 1) i ∨ qy_ca (f0 (17, 0, 0)) l e x st (qy_rm (f0 (17, 0, 0)) i) = false) → qm_LI f0 p0 l e x st s (i + 1) y T := by
      intro hh
      refine qm_LIc hP (fun j hj => ?_)
      by_cases hji : j = i
      · subst hji
        rcases hh with hh | hh
        · rw [hh]
        · rw [hh, Bool.and_false, Bool.and_false]
      · congr 1
        unfold qm_D
        have : (j < i + 1) = (j < i) := propext ⟨fun h => by omega, fun h => by omega⟩
        simp only [this]
    cases ho : (!qy_wt (qy_rm (f0 (17, 0, 0)) i) && qy_on l e x (qy_rm (f0 (17, 0, 0)) i))
    · refine ⟨(y, T), by simp, hskip (Or.inr ?_)⟩
      unfold qy_ca
      rw [ho, Bool.false_and]
    · by_cases hss : s1 = s
      · subst hss
        have e1' : (qy_rm (T.1 (17, 0, 0)) i) 3 = nI s1 := by rw [hg]; exact e1
        obtain ⟨v, hv, hv'⟩ := qm_itC (F := F) hW' hi' st (nI s1) e1'
        rw [hg] at hv hv'
        have hbool : vp_nar .boolean (1 : Int32) = 1 := by decide
        by_cases hit : qy_it (f0 (17, 0, 0)) st (qy_rm (f0 (17, 0, 0)) i) = true
        · have hca : qy_ca (f0 (17, 0, 0)) l e x st (qy_rm (f0 (17, 0, 0)) i) = true := by unfold qy_ca; rw [ho, hit]; rfl
          have hst := qm_LIs hW hi (by omega) (by rw [e1, qz_cl_nI (by omega)]) hca hP
          have hnl : ¬ (f0 (17, 0, 0)) 3 < v := by rw [hv', hit]; decide
          by_cases hle : (f0 (17, 0, 0)) 1 ≤ y
          · exact ⟨(y, T), by simp [hle], hst.2 hle⟩
          · refine ⟨(y + 1, qz_wr (qz_wr T (22, 0, 0) i 1) (6, 0, 0) 10 (if T.1 (6, 0, 0) 10 = 0 then nI s1 else T.1 (6, 0, 0) 10)), ?_, hst.1 hle _ rfl⟩
            have h60 : (qz_wr T (22, 0, 0) i 1).1 (6, 0, 0) 10 = T.1 (6, 0, 0) 10 := by
              simp only [qz_wr]
              rw [if_neg (fun q => absurd q.1 (by decide))]
            simp only [if_neg (show ¬ (1 : Int32) = 0 by decide), if_true, if_neg hle, hv, Option.bind_some, if_neg hnl, qz_xi_nI c3 (show 30 < 2 ^ 31 by decide), qz_let, hbool, qz_cl_nI (show i < 2 ^ 31 by omega), h60]
            by_cases hz : T.1 (6, 0, 0) 10 = 0
            · simp only [if_pos hz]
            · simp only [if_neg hz]
        · have hit := Bool.eq_false_iff.mpr hit
          have hyl : (f0 (17, 0, 0)) 3 < v := by rw [hv', hit]
          refine ⟨(y, T), ?_, hskip (Or.inr (by unfold qy_ca; rw [hit, Bool.and_false]))⟩
          by_cases hle : (f0 (17, 0, 0)) 1 ≤ y
          · simp [hle]
          · simp [hle, hv, hyl]
      · refine ⟨(y, T), ?_, hskip (Or.inl ?_)⟩
        · have : ¬ nI s1 = nI s := by rw [qy_eq (by omega) (by omega)]; exact hss
          simp [this]
        · unfold qm_D
          rw [e1, qz_cl_nI (by omega)]
          congr 1
          exact propext ⟨fun h => by omega, fun h => by omega⟩
  · rintro n ⟨y, T⟩ hP
    simp only at hP ⊢
    have hg : T.1 (17, 0, 0) = f0 (17, 0, 0) := by
      funext j
      exact hP.2.1 _ _ (by decide) (fun q => absurd q.1 (by decide))
    have hW' : qy_Wf (T.1 (17, 0, 0)) B := by rw [hg]; exact hW
    have c := qm_c' hW'
    rw [hg] at c
    simp only [gM_laysRides_L49, hg, c, if_true]
    exact hK y T hP
end QYD
