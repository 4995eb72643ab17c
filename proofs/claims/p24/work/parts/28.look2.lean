/-! who waits is looked at, by the class -/
def qy_pf (Q : Int32 → Bool) (f : qz_F) : qz_F := fun n j => if (n.1 = 0 ∧ n.2.1 = 0 ∧ n.2.2 < 30 ∧ j = 4) ∧ Q (f n 0) = true then 1 else f n j
section QYH
variable {F B : Nat} {f : qz_F} {g : Nat → Int32}
theorem qy_pfr {Q : Int32 → Bool} {i : Nat} (hi : i < 30) : qy_rc (qy_pf Q f) 0 i = qy_pr Q (qy_rc f 0 i) := by
  funext c
  unfold qy_rc qy_pr qy_pf
  by_cases hc : c < 8
  · by_cases h4 : c = 4 <;> simp [h4, hc, hi]
  · have h4 : ¬ c = 4 := by omega
    simp [hc, h4]
theorem qy_prlv {Q : Int32 → Bool} {r : Nat → Int32} : qy_lv (qy_pr Q r) = qy_lv r := by
  unfold qy_lv
  rw [qy_prc (by decide)]
theorem qy_pfL {Q : Int32 → Bool} : qy_Lc (qy_pf Q f) 0 = (qy_Lc f 0).map (qy_pr Q) := by
  unfold qy_Lc
  have : (List.range 30).map (qy_rc (qy_pf Q f) 0) = ((List.range 30).map (qy_rc f 0)).map (qy_pr Q) := by
    rw [List.map_map]
    exact List.map_congr_left (fun i hi => qy_pfr (List.mem_range.mp hi))
  rw [this, List.filter_map]
  congr 1
theorem qy_pf0 {Q : Int32 → Bool} {n : qz_N} {j : Nat} (h : ¬ n.1 = 0) : qy_pf Q f n j = f n j := by
  unfold qy_pf
  rw [if_neg (fun q => h q.1.1)]
theorem qy_pfR {Q : Int32 → Bool} (hR : qy_Rel f 0 g) : qy_Rel (qy_pf Q f) 0 (qy_pg Q g) := by
  obtain ⟨h1, h2, h3, h4, h5, h6, h7, h8, h9⟩ := hR
  unfold qy_Rel
  rw [qy_pglo (show 4 < 43 by decide), qy_pglo (show 5 < 43 by decide), qy_pf0 (by decide), qy_pf0 (by decide), qy_pfL, qy_pgL]
  refine ⟨h1, h2, ?_, ?_, ?_, ?_, h7.map _, ?_, ?_⟩
  · intro c hc
    rw [qy_pf0 (by show ¬ (4 : Nat) = 0; decide), qy_pglo (by omega)]
    exact h3 c hc
  · intro i hi
    rw [qy_pf0 (by show ¬ (10 : Nat) = 0; decide), qy_pglo (by omega)]
    exact h4 i hi
  · intro i hi
    rw [qy_pf0 (by show ¬ (11 : Nat) = 0; decide), qy_pglo (by omega)]
    exact h5 i hi
  · intro i hi
    rw [qy_pf0 (by show ¬ (12 : Nat) = 0; decide), qy_pglo (by omega)]
    exact h6 i hi
  · intro i hi
    unfold qy_pf
    by_cases hq : Q (f (0, 0, i) 0) = true
    · right
      rw [if_pos ⟨⟨rfl, rfl, hi, rfl⟩, hq⟩]
    · rw [if_neg (fun q => hq q.2)]
      exact h8 i hi
  · intro i hi h0 c hc
    unfold qy_pf at h0 ⊢
    rw [if_neg (fun q => absurd q.1.2.2.2 (by decide))] at h0
    rw [if_neg (fun q => absurd q.1.2.2.2 (by omega))]
    exact h9 i hi h0 c hc
theorem qy_U (hW : qy_Wf g B) : ∀ r q, r ∈ qy_Lm g → q ∈ qy_Lm g → r 0 = q 0 → r = q := by
  intro r q hr hq h
  obtain ⟨i, hi, rfl⟩ := qy_mLm.mp hr
  obtain ⟨k, hk, rfl⟩ := qy_mLm.mp hq
  have hs := hW.2.2.2.2.2.2.2.2.2.1
  rcases Nat.lt_trichotomy i k with hc | hc | hc
  · have := hs i k hc hk
    rw [h] at this
    exact absurd this Int32.lt_irrefl
  · rw [hc]
  · have := hs k i hc hi
    rw [h] at this
    exact absurd this Int32.lt_irrefl
theorem qy_Uc (hR : qy_Rel f 0 g) (hW : qy_Wf g B) : ∀ r q, r ∈ qy_Lc f 0 → q ∈ qy_Lc f 0 → r 0 = q 0 → r = q :=
  fun r q hr hq => qy_U hW r q (hR.2.2.2.2.2.2.1.mem_iff.mp hr) (hR.2.2.2.2.2.2.1.mem_iff.mp hq)
theorem qy_nd (hW : qy_Wf g B) : ((qy_Lm g).map (fun r => r 0)).Pairwise (· ≠ ·) := by
  unfold qy_Lm
  rw [List.map_map, List.pairwise_map, List.pairwise_iff_getElem]
  intro i j hi hj hij
  rw [List.length_range] at hi hj
  simp only [List.getElem_range, Function.comp]
  intro h
  have := hW.2.2.2.2.2.2.2.2.2.1 i j hij hj
  rw [h] at this
  exact absurd this Int32.lt_irrefl
theorem qy_slot (hR : qy_Rel f 0 g) (hW : qy_Wf g B) {i k : Nat} (hi : i < 30) (hk : k < 30) (hli : qy_lv (qy_rc f 0 i) = true) (hlk : qy_lv (qy_rc f 0 k) = true) (h : (qy_rc f 0 i) 0 = (qy_rc f 0 k) 0) : i = k := by
  have h1 : ((qy_Lc f 0).map (fun r => r 0)).Pairwise (· ≠ ·) := (hR.2.2.2.2.2.2.1.map _).symm.pairwise (qy_nd hW) (fun h q => h q.symm)
  unfold qy_Lc at h1
  rw [List.pairwise_map, List.pairwise_filter, List.pairwise_map, List.pairwise_iff_getElem] at h1
  simp only [List.getElem_range, List.length_range] at h1
  rcases Nat.lt_trichotomy i k with hc | hc | hc
  · exact absurd h (h1 i k hi hk hc hli hlk)
  · exact hc
  · exact absurd h.symm (h1 k i hk hi hc hlk hli)
theorem qy_ahead (hR : qy_Rel f 0 g) (hW : qy_Wf g B) {i k : Nat} (hi : qy_Wr g B (qy_rc f 0 i)) (hk : qy_Wr g B (qy_rc f 0 k)) : gW_isLookedAtAheadOf F f i k = some (if qy_ky g (qy_rc f 0 i) < qy_ky g (qy_rc f 0 k) then 1 else 0) := by
  have h10 := hW.2.1
  have hB := hW.2.2.2.2.2.2.2.2.2.2
  obtain ⟨⟨N, hN, a0, _⟩, ⟨e, he, a1⟩, ⟨l, hl, a2⟩, ⟨s, hs1, hs9, a3⟩, _⟩ := hi
  obtain ⟨⟨N', hN', b0, _⟩, ⟨e', he', b1⟩, ⟨l', hl', b2⟩, ⟨s', hs1', hs9', b3⟩, _⟩ := hk
  have a0' : f (0, 0, i) 0 = nI N := a0
  have a1' : f (0, 0, i) 1 = nI e := a1
  have a2' : f (0, 0, i) 2 = nI l := a2
  have a3' : f (0, 0, i) 3 = nI s := a3
  have b0' : f (0, 0, k) 0 = nI N' := b0
  have b1' : f (0, 0, k) 1 = nI e' := b1
  have b2' : f (0, 0, k) 2 = nI l' := b2
  have b3' : f (0, 0, k) 3 = nI s' := b3
  unfold gW_isLookedAtAheadOf qy_ky
  rw [a0', a1', a2', a3', b0', b1', b2', b3', a0, a1, a2, a3, b0, b1, b2, b3]
  rw [qz_cl_nI (show N < 2 ^ 31 by omega), qz_cl_nI (show N' < 2 ^ 31 by omega), qz_cl_nI (show e < 2 ^ 31 by omega), qz_cl_nI (show e' < 2 ^ 31 by omega), qz_cl_nI (show l < 2 ^ 31 by omega), qz_cl_nI (show l' < 2 ^ 31 by omega), qz_cl_nI (show s < 2 ^ 31 by omega), qz_cl_nI (show s' < 2 ^ 31 by omega)]
  simp only [qy_eq (show e < 2147483648 by omega) (show e' < 2147483648 by omega), qy_eq (show l < 2147483648 by omega) (show l' < 2147483648 by omega), qy_eq (show s < 2147483648 by omega) (show s' < 2147483648 by omega), qy_le (show N' < 2147483648 by omega) (show N < 2147483648 by omega), qy_le (show s' < 2147483648 by omega) (show s < 2147483648 by omega), qy_le (show l' < 2147483648 by omega) (show l < 2147483648 by omega), qy_earlier hR hW (show e < 10 by omega) (show e' < 10 by omega), Option.bind_some]
  have m1 := (qy_mmE hW (show e < 10 by omega)).2
  have m2 := (qy_mmE hW (show e' < 10 by omega)).2
  by_cases c1 : e = e'
  · subst c1
    rw [if_pos rfl]
    by_cases c2 : l = l'
    · subst c2
      rw [if_pos rfl]
      by_cases c3 : s = s'
      · subst c3
        rw [if_pos rfl]
        by_cases c4 : N' ≤ N
        · rw [if_pos c4, if_neg (by omega)]
        · rw [if_neg c4, if_pos (by omega)]
      · rw [if_neg c3]
        by_cases c4 : s' ≤ s
        · rw [if_pos c4, if_neg (by omega)]
        · rw [if_neg c4, if_pos (by omega)]
    · rw [if_neg c2]
      by_cases c4 : l' ≤ l
      · rw [if_pos c4, if_neg (by omega)]
      · rw [if_neg c4, if_pos (by omega)]
  · rw [if_neg c1, qy_erE]
    by_cases c4 : qy_mm g e < qy_mm g e' ∨ (qy_mm g e = qy_mm g e' ∧ e < e')
    · rw [if_pos (decide_eq_true c4), if_pos (by omega)]
    · rw [if_neg (by rw [decide_eq_false c4]; decide), if_neg (by omega)]
def qy_NW (f : qz_F) (g : Nat → Int32) (b i : Nat) (o : Option Nat) : Prop :=
  (o = none ∧ ∀ k, k < i → qy_lv (qy_rc f 0 k) = true → qy_wt (qy_rc f 0 k) = true → qy_ky g (qy_rc f 0 k) < b) ∨
  (∃ j, j < 30 ∧ o = some j ∧ qy_lv (qy_rc f 0 j) = true ∧ qy_wt (qy_rc f 0 j) = true ∧ b ≤ qy_ky g (qy_rc f 0 j) ∧ ∀ k, k < i → qy_lv (qy_rc f 0 k) = true → qy_wt (qy_rc f 0 k) = true → b ≤ qy_ky g (qy_rc f 0 k) → qy_ky g (qy_rc f 0 j) ≤ qy_ky g (qy_rc f 0 k))
theorem qy_next (hR : qy_Rel f 0 g) (hW : qy_Wf g B) (hF : 30 < F) (o0 : Option Nat) (b : Nat) (hb : (o0 = none ∧ b = 0) ∨ ∃ j, o0 = some j ∧ qy_Wr g B (qy_rc f 0 j) ∧ b = qy_ky g (qy_rc f 0 j) + 1) : ∃ o, gW_nextWaiting F f o0 = some o ∧ qy_NW f g b 30 o := by
  unfold gW_nextWaiting
  refine qy_lpE (fun n (q : Option Nat) y => gW_nextWaiting_L14 F f o0 (fun q216 y517 => some q216) n q y) 30 (fun i q => qy_NW f g b i q) (fun r => ∃ o, r = some o ∧ qy_NW f g b 30 o) ?_ ?_ F 0 none (by omega) (by omega) (Or.inl ⟨rfl, fun k h => absurd h (by omega)⟩)
  · intro n i q hi hP
    left
    obtain ⟨h1, h2, h3, h4⟩ := qy_c30 hi
    simp only [gW_nextWaiting_L14, h1, h2, h3, h4, if_false, if_true, qy_wt0]
    have hsk : (qy_wt (qy_rc f 0 i) && qy_lv (qy_rc f 0 i)) = false ∨ qy_ky g (qy_rc f 0 i) < b → qy_NW f g b (i + 1) q := by
      intro hh
      rcases hP with ⟨e, hP⟩ | ⟨j, hj, e, p1, p2, p3, p4⟩
      · refine Or.inl ⟨e, fun k hk a1 a2 => ?_⟩
        by_cases hki : k = i
        · subst hki
          rcases hh with hh | hh
          · rw [a1, a2] at hh
            exact absurd hh (by decide)
          · exact hh
        · exact hP k (by omega) a1 a2
      · refine Or.inr ⟨j, hj, e, p1, p2, p3, fun k hk a1 a2 a3 => ?_⟩
        by_cases hki : k = i
        · subst hki
          rcases hh with hh | hh
          · rw [a1, a2] at hh
            exact absurd hh (by decide)
          · omega
        · exact p4 k (by omega) a1 a2 a3
    cases hwl : (qy_wt (qy_rc f 0 i) && qy_lv (qy_rc f 0 i))
    · exact ⟨q, by simp, hsk (Or.inl hwl)⟩
    · have hw : qy_wt (qy_rc f 0 i) = true := by
        cases hx : qy_wt (qy_rc f 0 i)
        · rw [hx] at hwl; exact absurd hwl (by simp)
        · rfl
      have hl : qy_lv (qy_rc f 0 i) = true := by
        rw [hw] at hwl
        exact hwl
      have hWi := qy_WrI hR hW hi hl
      have hgo : b ≤ qy_ky g (qy_rc f 0 i) → ∃ a', (Option.elim q ((gW_nextWaiting_L14 F f o0 (fun q216 y517 => some q216)) n (some i) (nI (i + 1))) (fun j5 => Option.bind (gW_isLookedAtAheadOf F f i j5) fun x6 => if x6 = 0 then ((gW_nextWaiting_L14 F f o0 (fun q216 y517 => some q216)) n (some j5) (nI (i + 1))) else ((gW_nextWaiting_L14 F f o0 (fun q216 y517 => some q216)) n (some i) (nI (i + 1))))) = gW_nextWaiting_L14 F f o0 (fun q216 y517 => some q216) n a' (nI (i + 1)) ∧ qy_NW f g b (i + 1) a' := by
        intro hbk
        rcases hP with ⟨e, hP⟩ | ⟨j, hj, e, p1, p2, p3, p4⟩
        · subst e
          refine ⟨some i, rfl, Or.inr ⟨i, hi, rfl, hl, hw, hbk, fun k hk a1 a2 a3 => ?_⟩⟩
          by_cases hki : k = i
          · subst hki
            exact Nat.le_refl _
          · have := hP k (by omega) a1 a2
            omega
        · subst e
          simp only [Option.elim_some, qy_ahead hR hW hWi (qy_WrI hR hW hj p1), Option.bind_some]
          by_cases hlt : qy_ky g (qy_rc f 0 i) < qy_ky g (qy_rc f 0 j)
          · refine ⟨some i, by simp [hlt], Or.inr ⟨i, hi, rfl, hl, hw, hbk, fun k hk a1 a2 a3 => ?_⟩⟩
            by_cases hki : k = i
            · subst hki
              exact Nat.le_refl _
            · have := p4 k (by omega) a1 a2 a3
              omega
          · refine ⟨some j, by simp [hlt], Or.inr ⟨j, hj, rfl, p1, p2, p3, fun k hk a1 a2 a3 => ?_⟩⟩
            by_cases hki : k = i
            · subst hki
              omega
            · exact p4 k (by omega) a1 a2 a3
      rw [if_neg (by decide)]
      rcases hb with ⟨e0, eb⟩ | ⟨j0, e0, hWj, eb⟩
      · subst e0
        simp only [Option.elim_none]
        exact hgo (by omega)
      · subst e0
        simp only [Option.elim_some, qy_ahead hR hW hWj hWi, Option.bind_some]
        by_cases hlt : qy_ky g (qy_rc f 0 j0) < qy_ky g (qy_rc f 0 i)
        · rw [if_pos hlt, if_neg (by decide)]
          exact hgo (by omega)
        · rw [if_neg hlt, if_pos rfl]
          exact ⟨q, rfl, hsk (Or.inr (by omega))⟩
  · intro n q hP
    simp only [gW_nextWaiting_L14, qy_c30', if_true]
    exact ⟨q, rfl, hP⟩
theorem qy_pgky {Q : Int32 → Bool} {r : Nat → Int32} (hr : qy_Wr g B r) (hec : qy_ec g ≤ 10) : qy_ky (qy_pg Q g) (qy_pr Q r) = qy_ky g r := by
  obtain ⟨_, ⟨e, he, e1⟩, _⟩ := hr
  unfold qy_ky
  rw [qy_prc (by decide), qy_prc (by decide), qy_prc (by decide), qy_prc (by decide), e1, qz_cl_nI (by omega), qy_pgmm (by omega)]
end QYH
