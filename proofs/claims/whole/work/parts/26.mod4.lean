/-! the order of the shift ends, by the reference -/
section QYF
variable {F B : Nat}
def qy_mm (g : Nat → Int32) (e : Nat) : Nat := (g (13 + e)).toNatClampNeg
theorem qy_mmE {g : Nat → Int32} (hW : qy_Wf g B) {e : Nat} (he : e < 10) : g (13 + e) = nI (qy_mm g e) ∧ qy_mm g e < 1440 := by
  obtain ⟨m, hm, a1, a2⟩ := qy_min hW he
  unfold qy_mm
  rw [a2]
  exact ⟨a1, hm⟩
theorem qy_erE {g : Nat → Int32} {o e : Nat} : qy_er g o e = decide (qy_mm g o < qy_mm g e ∨ (qy_mm g o = qy_mm g e ∧ o < e)) := rfl
/-- the first m ends, ordered -/
def qm_so (g : Nat → Int32) (a : Nat → Int32) (m : Nat) : Prop :=
  (∀ i, i < m → ∃ v, v < m ∧ a i = nI v) ∧ (∀ i j, i < j → j < m → qy_er g (a i).toNatClampNeg (a j).toNatClampNeg = true) ∧ ((List.range m).map (fun i => (a i).toNatClampNeg)).Perm (List.range m)
theorem qm_ins {g : Nat → Int32} {a a' : Nat → Int32} {m y : Nat} (h : qm_so g a m) (hm : m < 10) (hy : y ≤ m) (h1 : ∀ i, i < y → a' i = a i) (h2 : ∀ i, y < i → i ≤ m → a' i = a (i - 1) ∧ qy_mm g m < qy_mm g (a (i - 1)).toNatClampNeg) (h3 : y = 0 ∨ qy_mm g (a (y - 1)).toNatClampNeg ≤ qy_mm g m) (h4 : a' y = nI m) : qm_so g a' (m + 1) := by
  obtain ⟨s1, s2, s3⟩ := h
  have hcl : (nI m).toNatClampNeg = m := qz_cl_nI (by omega)
  have hlow : ∀ i, i < y → qy_er g (a i).toNatClampNeg m = true := by
    intro i hi
    obtain ⟨v, hv, ev⟩ := s1 i (by omega)
    have hcv : (a i).toNatClampNeg = v := by rw [ev, qz_cl_nI (by omega)]
    have hle : qy_mm g v ≤ qy_mm g m := by
      rcases h3 with h3 | h3
      · omega
      · by_cases he : i = y - 1
        · rw [← he, hcv] at h3
          exact h3
        · have := s2 i (y - 1) (by omega) (by omega)
          rw [hcv, qy_erE, decide_eq_true_eq] at this
          omega
    rw [hcv, qy_erE]
    exact decide_eq_true (by omega)
  refine ⟨?_, ?_, ?_⟩
  · intro i hi
    rcases Nat.lt_trichotomy i y with hc | hc | hc
    · obtain ⟨v, hv, ev⟩ := s1 i (by omega)
      exact ⟨v, by omega, by rw [h1 i hc, ev]⟩
    · exact ⟨m, by omega, by rw [hc, h4]⟩
    · obtain ⟨v, hv, ev⟩ := s1 (i - 1) (by omega)
      exact ⟨v, by omega, by rw [(h2 i hc (by omega)).1, ev]⟩
  · intro i j hij hj
    rcases Nat.lt_trichotomy j y with hc | hc | hc
    · rw [h1 i (by omega), h1 j hc]
      exact s2 i j hij (by omega)
    · rw [hc, h4, hcl, h1 i (by omega)]
      exact hlow i (by omega)
    · obtain ⟨e1, e2⟩ := h2 j hc (by omega)
      rw [e1]
      rcases Nat.lt_trichotomy i y with hd | hd | hd
      · rw [h1 i hd]
        exact s2 i (j - 1) (by omega) (by omega)
      · rw [hd, h4, hcl, qy_erE]
        exact decide_eq_true (Or.inl e2)
      · rw [(h2 i hd (by omega)).1]
        exact s2 (i - 1) (j - 1) (by omega) (by omega)
  · have hm1 : m + 1 = y + (1 + (m - y)) := by omega
    have e1 : (List.range (m + 1)).map (fun i => (a' i).toNatClampNeg) = (List.range y).map (fun i => (a i).toNatClampNeg) ++ m :: (List.range (m - y)).map (fun i => (a (y + i)).toNatClampNeg) := by
      rw [hm1, List.range_add, List.map_append]
      congr 1
      · refine List.map_congr_left (fun i hi => ?_)
        rw [h1 i (List.mem_range.mp hi)]
      · rw [Nat.add_comm 1 (m - y), List.range_succ_eq_map, List.map_cons, List.map_cons, List.map_map, List.map_map]
        congr 1
        · rw [Nat.add_zero, h4, hcl]
        · refine List.map_congr_left (fun i hi => ?_)
          have := List.mem_range.mp hi
          simp only [Function.comp]
          rw [(h2 (y + i.succ) (by omega) (by omega)).1]
          congr 2
    have e2 : (List.range m).map (fun i => (a i).toNatClampNeg) = (List.range y).map (fun i => (a i).toNatClampNeg) ++ (List.range (m - y)).map (fun i => (a (y + i)).toNatClampNeg) := by
      have : m = y + (m - y) := by omega
      rw [this, List.range_add, List.map_append, List.map_map]
      congr 1
      rw [← this]
      rfl
    rw [e1]
    refine List.perm_middle.trans ?_
    rw [← e2, List.range_succ]
    exact (List.Perm.cons m s3).trans (List.perm_append_singleton m (List.range m)).symm
theorem qy_cltn (k : Nat) : ∀ n, (List.range n).countP (fun i => decide (i < k)) = min n k := by
  intro n
  induction n with
  | zero => simp
  | succ n ih =>
    rw [List.range_succ, List.countP_append, List.countP_singleton, ih]
    by_cases h : n < k
    · simp [h]; omega
    · simp [h]; omega
theorem qm_soR {g : Nat → Int32} {a : Nat → Int32} (h : qm_so g a (qy_ec g)) : (∀ i, i < qy_ec g → qy_rk g (a i).toNatClampNeg = i) ∧ (∀ e, e < qy_ec g → ∃ i, i < qy_ec g ∧ (a i).toNatClampNeg = e) := by
  obtain ⟨s1, s2, s3⟩ := h
  refine ⟨fun k hk => ?_, fun e he => ?_⟩
  · unfold qy_rk
    rw [← s3.countP_eq, List.countP_map]
    have : (List.range (qy_ec g)).countP ((fun o => qy_er g o (a k).toNatClampNeg) ∘ fun i => (a i).toNatClampNeg) = (List.range (qy_ec g)).countP (fun i => decide (i < k)) := by
      refine qy_csame (fun i hi => ?_)
      simp only [Function.comp]
      rcases Nat.lt_trichotomy i k with hc | hc | hc
      · rw [s2 i k hc hk]
        simp [hc]
      · subst hc
        rw [qy_erE]
        simp
      · have := s2 k i hc hi
        rw [qy_erE, decide_eq_true_eq] at this
        rw [qy_erE]
        have h2 : ¬ i < k := by omega
        simp only [h2, decide_false]
        exact decide_eq_false (by omega)
    rw [this, qy_cltn]
    omega
  · have := s3.mem_iff.mpr (List.mem_range.mpr he)
    obtain ⟨i, hi, e1⟩ := List.mem_map.mp this
    exact ⟨i, List.mem_range.mp hi, e1⟩
theorem qm_ranks1 {T : qz_S} (hW : qy_Wf (T.1 (17, 0, 0)) B) (hF : 30 < F) {m : Nat} (hm : m < 10) (hs : ∀ i, i < m → ∃ v, v < m ∧ T.1 (21, 0, 0) i = nI v) (K : Int32 → qz_S → Option qz_S) (Q : Option qz_S → Prop)
    (hK : ∀ y T', y ≤ m → T'.2 = T.2 → (∀ n j, ¬ n = (21, 0, 0) → T'.1 n j = T.1 n j) → (∀ i, i < y → T'.1 (21, 0, 0) i = T.1 (21, 0, 0) i) →
      (∀ i, y < i → i ≤ m → T'.1 (21, 0, 0) i = T.1 (21, 0, 0) (i - 1) ∧ qy_mm (T.1 (17, 0, 0)) m < qy_mm (T.1 (17, 0, 0)) (T.1 (21, 0, 0) (i - 1)).toNatClampNeg) → (y = 0 ∨ qy_mm (T.1 (17, 0, 0)) (T.1 (21, 0, 0) (y - 1)).toNatClampNeg ≤ qy_mm (T.1 (17, 0, 0)) m) → Q (K (nI y) T')) :
    Q (gM_ranks_L14 F (nI m) K F (nI m) T) := by
  have h0 : nI m - nI 0 = nI m := qy_sub (by omega)
  have := qy_lpE (fun n (T : qz_S) y => gM_ranks_L14 F (nI m) K n (nI m - y) T) m (fun i T' => T'.2 = T.2 ∧ (∀ n j, ¬ n = (21, 0, 0) → T'.1 n j = T.1 n j) ∧ (∀ j, j < m - i → T'.1 (21, 0, 0) j = T.1 (21, 0, 0) j) ∧
      (∀ j, m - i < j → j ≤ m → T'.1 (21, 0, 0) j = T.1 (21, 0, 0) (j - 1) ∧ qy_mm (T.1 (17, 0, 0)) m < qy_mm (T.1 (17, 0, 0)) (T.1 (21, 0, 0) (j - 1)).toNatClampNeg)) Q ?_ ?_ F 0 T (by omega) (by omega) ⟨rfl, fun _ _ _ => rfl, fun _ _ => rfl, fun j a b => absurd a (by omega)⟩
  · skip
    rw [show (nI m - nI 0) = nI m from h0] at this
    exact this
  · rintro n i T' hi ⟨p1, p2, p3, p4⟩
    skip
    rw [qy_sub (show i ≤ m by omega), qy_sub (show i + 1 ≤ m by omega)]
    have hc : ¬ nI (m - i) ≤ 0 := by
      have : ¬ nI (m - i) ≤ nI 0 := by rw [qy_le (by omega) (by decide)]; omega
      exact this
    have e1 : nI (m - i) - 1 = nI (m - (i + 1)) := by
      have : nI (m - i) - nI 1 = nI (m - i - 1) := qy_sub (by omega)
      rw [show (1 : Int32) = nI 1 from rfl, this]
      congr 1
    have e2 : nI (m - i) + -1 = nI (m - (i + 1)) := by rw [← e1]; grind
    have hg : T'.1 (17, 0, 0) = T.1 (17, 0, 0) := by
      funext j
      exact p2 _ _ (by decide)
    obtain ⟨v, hv, ev⟩ := hs (m - (i + 1)) (by omega)
    have ev' : T'.1 (21, 0, 0) (m - (i + 1)) = nI v := by rw [p3 _ (by omega), ev]
    simp only [gM_ranks_L14, hc, if_false, e1, e2, qz_xi_nI (show m - (i + 1) < 10 by omega) (show 10 < 2 ^ 31 by decide), if_true, qz_cl_nI (show m - (i + 1) < 2 ^ 31 by omega), ev', qm_minute (show v < 10 by omega), qm_minute hm, Option.bind_some, hg, (qy_mmE hW (show v < 10 by omega)).1, (qy_mmE hW hm).1, qz_xi_nI (show m - i < 10 by omega) (show 10 < 2 ^ 31 by decide), qz_cl_nI (show m - i < 2 ^ 31 by omega)]
    have b1 := (qy_mmE hW (show v < 10 by omega)).2
    have b2 := (qy_mmE hW hm).2
    have hcv : (T.1 (21, 0, 0) (m - (i + 1))).toNatClampNeg = v := by rw [ev, qz_cl_nI (by omega)]
    by_cases hle : nI (qy_mm (T.1 (17, 0, 0)) v) ≤ nI (qy_mm (T.1 (17, 0, 0)) m)
    · right
      rw [if_pos hle]
      rw [qy_le (by omega) (by omega)] at hle
      refine hK (m - i) T' (by omega) p1 p2 p3 p4 (Or.inr ?_)
      have : m - i - 1 = m - (i + 1) := by omega
      rw [this, hcv]
      exact hle
    · left
      rw [if_neg hle]
      rw [qy_le (by omega) (by omega)] at hle
      refine ⟨qz_wr T' (21, 0, 0) (m - i) (nI v), rfl, p1, ?_, ?_, ?_⟩
      · intro n j hn
        simp only [qz_wr]
        rw [if_neg (fun q => hn q.1)]
        exact p2 n j hn
      · intro j hj
        simp only [qz_wr]
        rw [if_neg (fun q => absurd q.2 (by omega))]
        exact p3 j (by omega)
      · intro j hj hj'
        simp only [qz_wr]
        by_cases hje : j = m - i
        · rw [if_pos ⟨trivial, hje⟩]
          have : j - 1 = m - (i + 1) := by omega
          rw [this, hcv, ev]
          exact ⟨rfl, by omega⟩
        · rw [if_neg (fun q => hje q.2)]
          exact p4 j (by omega) hj'
  · rintro n T' ⟨p1, p2, p3, p4⟩
    skip
    rw [qy_sub (Nat.le_refl m), Nat.sub_self]
    have hc : nI 0 ≤ 0 := by decide
    simp only [gM_ranks_L14, hc, if_true]
    refine hK 0 T' (by omega) p1 p2 (fun i h => absurd h (by omega)) ?_ (Or.inl rfl)
    intro i h1 h2
    exact p4 i (by omega) h2
theorem qm_ranks {S : qz_S} (hW : qy_Wf (S.1 (17, 0, 0)) B) (hF : 30 < F) : ∃ S', gM_ranks F S = some S' ∧ S'.2 = S.2 ∧ (∀ n j, ¬ n = (21, 0, 0) → S'.1 n j = S.1 n j) ∧ qm_so (S.1 (17, 0, 0)) (S'.1 (21, 0, 0)) (qy_ec (S.1 (17, 0, 0))) := by
  have h10 := hW.2.1
  unfold gM_ranks
  refine qy_lpE (fun n (T : qz_S) y => gM_ranks_L2 F (fun y115 T16 => some T16) n y T) (qy_ec (S.1 (17, 0, 0))) (fun i T => T.2 = S.2 ∧ (∀ n j, ¬ n = (21, 0, 0) → T.1 n j = S.1 n j) ∧ qm_so (S.1 (17, 0, 0)) (T.1 (21, 0, 0)) i) (fun b => ∃ S', b = some S' ∧ S'.2 = S.2 ∧ (∀ n j, ¬ n = (21, 0, 0) → S'.1 n j = S.1 n j) ∧ qm_so (S.1 (17, 0, 0)) (S'.1 (21, 0, 0)) (qy_ec (S.1 (17, 0, 0)))) ?_ ?_ F 0 S (by omega) (by omega) ⟨rfl, fun _ _ _ => rfl, fun i h => absurd h (by omega), fun i j _ h => absurd h (by omega), List.Perm.refl _⟩
  · rintro n i T hi ⟨p1, p2, p3⟩
    left
    have hg : T.1 (17, 0, 0) = S.1 (17, 0, 0) := by
      funext j
      exact p2 _ _ (by decide)
    have hc : ¬ T.1 (17, 0, 0) 4 ≤ nI i := by
      rw [hg, hW.1, qy_le (by omega) (by omega)]
      omega
    have hW' : qy_Wf (T.1 (17, 0, 0)) B := by rw [hg]; exact hW
    simp only [gM_ranks_L2, hc, if_false]
    refine qm_ranks1 hW' hF (show i < 10 by omega) p3.1 _ (fun b => ∃ a', b = gM_ranks_L2 F (fun y115 T16 => some T16) n (nI (i + 1)) a' ∧ a'.2 = S.2 ∧ (∀ n j, ¬ n = (21, 0, 0) → a'.1 n j = S.1 n j) ∧ qm_so (S.1 (17, 0, 0)) (a'.1 (21, 0, 0)) (i + 1)) ?_
    intro y T' hy q1 q2 q3 q4 q5
    simp only [qz_xi_nI (show y < 10 by omega) (show 10 < 2 ^ 31 by decide), if_true, qz_let, qz_cl_nI (show y < 2 ^ 31 by omega), qz_nI1]
    rw [hg] at q4 q5
    refine ⟨_, rfl, q1.trans p1, ?_, ?_⟩
    · intro n j hn
      simp only [qz_wr]
      rw [if_neg (fun q => hn q.1), q2 n j hn, p2 n j hn]
    · refine qm_ins p3 (show i < 10 by omega) hy ?_ ?_ q5 ?_
      · intro k hk
        simp only [qz_wr]
        rw [if_neg (fun q => absurd q.2 (by omega))]
        exact q3 k hk
      · intro k hk hk'
        simp only [qz_wr]
        rw [if_neg (fun q => absurd q.2 (by omega))]
        exact q4 k hk hk'
      · simp [qz_wr]
  · rintro n T ⟨p1, p2, p3⟩
    have hg : T.1 (17, 0, 0) = S.1 (17, 0, 0) := by
      funext j
      exact p2 _ _ (by decide)
    have hc : T.1 (17, 0, 0) 4 ≤ nI (qy_ec (S.1 (17, 0, 0))) := by
      rw [hg, ← hW.1]
      exact Int32.le_refl _
    simp only [gM_ranks_L2, hc, if_true]
    exact ⟨T, rfl, p1, p2, p3⟩
end QYF
