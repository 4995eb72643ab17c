/-! a day: the class brings home -/
def qy_w7 (g : Nat → Int32) (L : List (Nat → Int32)) (r : Nat → Int32) : Int32 := if (!qy_wt r && qy_dr g L r) = true then 1 else 0
def qy_w8 (g : Nat → Int32) (L : List (Nat → Int32)) (r : Nat → Int32) : Int32 := if (!qy_wt r && !qy_dr g L r) = true then 1 else 0
def qy_w9 (r : Nat → Int32) : Int32 := if qy_wt r = true then 1 else 0
def qy_w11 (g : Nat → Int32) (L : List (Nat → Int32)) (r : Nat → Int32) : Int32 := if (!qy_wt r && !qy_dr g L r) = true then 8 + 3 * r 3 else 0
theorem wr_ne {S : qz_S} {n n' : qz_N} {j j' : Nat} {x : Int32} (h : ¬ (n' = n ∧ j' = j)) : (qz_wr S n j x).1 n' j' = S.1 n' j' := if_neg h
theorem wr_eq {S : qz_S} {n : qz_N} {j : Nat} {x : Int32} : (qz_wr S n j x).1 n j = x := if_pos ⟨rfl, rfl⟩
theorem wr_2 {S : qz_S} {n : qz_N} {j : Nat} {x : Int32} : (qz_wr S n j x).2 = S.2 := rfl
section QYL
variable {F B : Nat} {f : qz_F} {g : Nat → Int32}
def qy_BI (f : qz_F) (g : Nat → Int32) (S : qz_S) (i : Nat) (T : qz_S) : Prop :=
  T.2 = S.2 ∧ (∀ n j, ¬ (n.1 = 0 ∧ n.2.1 = 0 ∧ 5 ≤ j) → ¬ (n = (4, 0, 0) ∧ 6 ≤ j) → T.1 n j = f n j) ∧
  (∀ k c, k < 30 → c < 8 → T.1 (0, 0, k) c = if k < i ∧ qy_lv (qy_rc f 0 k) = true then qy_ud g (qy_Lc f 0) (qy_rc f 0 k) c else f (0, 0, k) c) ∧
  T.1 (4, 0, 0) 6 = S.1 (4, 0, 0) 6 ∧ T.1 (4, 0, 0) 10 = S.1 (4, 0, 0) 10 ∧
  T.1 (4, 0, 0) 7 = S.1 (4, 0, 0) 7 + qy_sr i (fun k => if qy_lv (qy_rc f 0 k) = true then qy_w7 g (qy_Lc f 0) (qy_rc f 0 k) else 0) ∧
  T.1 (4, 0, 0) 8 = S.1 (4, 0, 0) 8 + qy_sr i (fun k => if qy_lv (qy_rc f 0 k) = true then qy_w8 g (qy_Lc f 0) (qy_rc f 0 k) else 0) ∧
  T.1 (4, 0, 0) 9 = S.1 (4, 0, 0) 9 + qy_sr i (fun k => if qy_lv (qy_rc f 0 k) = true then qy_w9 (qy_rc f 0 k) else 0) ∧
  T.1 (4, 0, 0) 11 = S.1 (4, 0, 0) 11 + qy_sr i (fun k => if qy_lv (qy_rc f 0 k) = true then qy_w11 g (qy_Lc f 0) (qy_rc f 0 k) else 0)
theorem qy_BIs {S T T' : qz_S} {i : Nat} (hi : i < 30) (h : qy_BI f g S i T) (h2 : T'.2 = T.2) (hn : ∀ n j, ¬ (n = (0, 0, i) ∧ 5 ≤ j) → ¬ (n = (4, 0, 0) ∧ 6 ≤ j) → T'.1 n j = T.1 n j)
    (hr : ∀ c, c < 8 → T'.1 (0, 0, i) c = if qy_lv (qy_rc f 0 i) = true then qy_ud g (qy_Lc f 0) (qy_rc f 0 i) c else f (0, 0, i) c)
    (h6 : T'.1 (4, 0, 0) 6 = T.1 (4, 0, 0) 6) (h10 : T'.1 (4, 0, 0) 10 = T.1 (4, 0, 0) 10)
    (h7 : T'.1 (4, 0, 0) 7 = T.1 (4, 0, 0) 7 + if qy_lv (qy_rc f 0 i) = true then qy_w7 g (qy_Lc f 0) (qy_rc f 0 i) else 0)
    (h8 : T'.1 (4, 0, 0) 8 = T.1 (4, 0, 0) 8 + if qy_lv (qy_rc f 0 i) = true then qy_w8 g (qy_Lc f 0) (qy_rc f 0 i) else 0)
    (h9 : T'.1 (4, 0, 0) 9 = T.1 (4, 0, 0) 9 + if qy_lv (qy_rc f 0 i) = true then qy_w9 (qy_rc f 0 i) else 0)
    (h11 : T'.1 (4, 0, 0) 11 = T.1 (4, 0, 0) 11 + if qy_lv (qy_rc f 0 i) = true then qy_w11 g (qy_Lc f 0) (qy_rc f 0 i) else 0) : qy_BI f g S (i + 1) T' := by
  obtain ⟨a1, a2, a3, a4, a5, a6, a7, a8, a9⟩ := h
  refine ⟨h2.trans a1, ?_, ?_, h6.trans a4, h10.trans a5, ?_, ?_, ?_, ?_⟩
  · intro n j b1 b2
    rw [hn n j (fun q => b1 (by rw [q.1]; exact ⟨rfl, rfl, q.2⟩)) b2]
    exact a2 n j b1 b2
  · intro k c hk hc
    by_cases e : k = i
    · subst e
      rw [hr c hc]
      simp
    · have e2 : ¬ ((0, 0, k) : qz_N) = (0, 0, i) := fun q => e (congrArg (fun x => x.2.2) q)
      have e3 : ¬ ((0, 0, k) : qz_N) = (4, 0, 0) := fun q => absurd (congrArg Prod.fst q) (show ¬ (0 : Nat) = 4 by decide)
      rw [hn _ _ (fun q => e2 q.1) (fun q => e3 q.1), a3 k c hk hc]
      have : (k < i + 1) = (k < i) := propext ⟨fun h => by omega, fun h => by omega⟩
      simp only [this]
  · rw [h7, a6, qy_srS, Int32.add_assoc]
  · rw [h8, a7, qy_srS, Int32.add_assoc]
  · rw [h9, a8, qy_srS, Int32.add_assoc]
  · rw [h11, a9, qy_srS, Int32.add_assoc]
theorem qy_BIc {S T : qz_S} {i : Nat} (h : qy_BI f g S i T) : qy_cg f T.1 := fun n j b1 b2 => h.2.1 n j (fun q => b1 ⟨q.1, q.2.2⟩) b2
theorem qy_drc {L : List (Nat → Int32)} {r : Nat → Int32} {l e : Nat} (hl : l < 2) (he : e < 10) (e2 : r 2 = nI l) (e1 : r 1 = nI e) (hw : qy_wt r = false) : qy_dr g L r = qy_cr g L e (qy_pa g l e) r := by
  unfold qy_dr
  rw [e1, e2, qz_cl_nI (by omega), qz_cl_nI (by omega), ← qy_cri, hw]
  have : qy_on (nI l) (nI e) (qy_pa g l e) r = true := by
    unfold qy_on
    rw [e1, e2]
    simp
  rw [this]
  simp
theorem qy_bring {S : qz_S} (hR : qy_Rel f 0 g) (hW : qy_Wf g B) (hF : 30 < F) (hS : ∀ n j, ¬ (n = (4, 0, 0) ∧ 6 ≤ j) → S.1 n j = f n j) : ∃ T, gW_bringHome F S = some T ∧ qy_BI f g S 30 T := by
  have h10 := hW.2.1
  unfold gW_bringHome
  refine qy_lpE (fun n (T : qz_S) y => gW_bringHome_L10 F (fun y39 T10 => some T10) n y T) 30 (fun i T => qy_BI f g S i T) (fun r => ∃ T, r = some T ∧ qy_BI f g S 30 T) ?_ ?_ F 0 S (by omega) (by omega) ?_
  · intro n i T hi hP
    left
    have hcg := qy_BIc hP
    obtain ⟨h1, h2, h3, h4⟩ := qy_c30 hi
    simp only [gW_bringHome_L10, h1, h2, h3, h4, if_false, if_true, cg_rd hcg, cg_wt hcg, qy_rd0, qy_wt0]
    have hcell : ∀ c, c < 8 → T.1 (0, 0, i) c = f (0, 0, i) c := fun c hc => by
      rw [hP.2.2.1 i c hi hc, if_neg (fun q => absurd q.1 (by omega))]
    have hrc : ∀ c, c < 8 → f (0, 0, i) c = (qy_rc f 0 i) c := fun c hc => (if_pos hc).symm
    cases hl : qy_lv (qy_rc f 0 i)
    · refine ⟨T, by simp, qy_BIs hi hP rfl (fun _ _ _ _ => rfl) ?_ rfl rfl ?_ ?_ ?_ ?_⟩
      · intro c hc
        rw [hl, if_neg Bool.false_ne_true]
        exact hcell c hc
      all_goals rw [hl, if_neg Bool.false_ne_true, Int32.add_zero]
    · obtain ⟨_, ⟨e, he, e1⟩, ⟨l, hl2, e2⟩, _, _⟩ := qy_WrI hR hW hi hl
      cases hw : qy_wt (qy_rc f 0 i)
      · have hp : gW_partnerOf F T.1 (T.1 (0, 0, i) 2) (T.1 (0, 0, i) 1) = some (qy_pa g l e) := by
          rw [cg_pa hcg, hcell 2 (by decide), hcell 1 (by decide), hrc 2 (by decide), hrc 1 (by decide), e1, e2]
          exact qy_partner hR hl2 (by omega)
        have hcr : gW_canRide F T.1 i (T.1 (0, 0, i) 1) (qy_pa g l e) = some (if qy_dr g (qy_Lc f 0) (qy_rc f 0 i) = true then 1 else 0) := by
          rw [cg_cr hcg, hcell 1 (by decide), hrc 1 (by decide), e1, qy_drc hl2 (by omega) e2 e1 hw]
          exact qy_canRide hR hW hF hi hl (by omega) _
        simp only [Bool.not_false, Bool.and_true, Bool.true_eq_false, if_false, gW_bringRiderHome, hp, hcr, Option.bind_some]
        cases hd : qy_dr g (qy_Lc f 0) (qy_rc f 0 i)
        · rw [if_neg Bool.false_ne_true, if_pos rfl]
          simp only [qz_let, Option.bind_some]
          refine ⟨_, rfl, qy_BIs hi hP rfl ?_ ?_ ?_ ?_ ?_ ?_ ?_ ?_⟩
          · intro n j b1 b2
            rw [wr_ne (fun q => b2 ⟨q.1, by omega⟩), wr_ne (fun q => b2 ⟨q.1, by omega⟩), wr_ne (fun q => b1 ⟨q.1, by omega⟩)]
          · intro c hc
            rw [wr_ne (fun q => absurd (congrArg Prod.fst q.1) (show ¬ (0 : Nat) = 4 by decide)), wr_ne (fun q => absurd (congrArg Prod.fst q.1) (show ¬ (0 : Nat) = 4 by decide)), hl, if_pos rfl]
            unfold qy_ud
            rw [hw, hd]
            by_cases hc6 : c = 6
            · subst hc6
              rw [wr_eq, if_pos (Or.inr (Or.inr ⟨rfl, rfl, rfl⟩)), hcell 6 (by decide), hrc 6 (by decide)]
            · rw [wr_ne (fun q => hc6 q.2), hcell c hc, hrc c hc, if_neg (by simp [hc6])]
          · rw [wr_ne (fun q => absurd q.2 (by decide)), wr_ne (fun q => absurd q.2 (by decide)), wr_ne (fun q => absurd (congrArg Prod.fst q.1) (show ¬ (4 : Nat) = 0 by decide))]
          · rw [wr_ne (fun q => absurd q.2 (by decide)), wr_ne (fun q => absurd q.2 (by decide)), wr_ne (fun q => absurd q.2 (by decide))]
          · rw [wr_ne (fun q => absurd q.2 (by decide)), wr_ne (fun q => absurd q.2 (by decide)), wr_ne (fun q => absurd q.2 (by decide)), hl]
            unfold qy_w7
            simp [hd]
          · rw [wr_ne (fun q => absurd q.2 (by decide)), wr_eq, wr_ne (fun q => absurd q.2 (by decide)), hl]
            unfold qy_w8
            simp [hd, hw]
          · rw [wr_ne (fun q => absurd q.2 (by decide)), wr_ne (fun q => absurd q.2 (by decide)), wr_ne (fun q => absurd q.2 (by decide)), hl]
            unfold qy_w9
            simp [hw]
          · rw [wr_eq, wr_ne (fun q => absurd q.2 (by decide)), wr_ne (fun q => absurd q.2 (by decide)), wr_ne (fun q => absurd (congrArg Prod.fst q.1) (show ¬ (0 : Nat) = 4 by decide)), wr_ne (fun q => absurd q.2 (by decide)), hl, hcell 3 (by decide), hrc 3 (by decide)]
            unfold qy_w11
            simp [hd, hw]
        · rw [if_pos rfl, if_neg (by decide)]
          simp only [qz_let, Option.bind_some]
          refine ⟨_, rfl, qy_BIs hi hP rfl ?_ ?_ ?_ ?_ ?_ ?_ ?_ ?_⟩
          · intro n j b1 b2
            rw [wr_ne (fun q => b2 ⟨q.1, by omega⟩), wr_ne (fun q => b1 ⟨q.1, by omega⟩)]
          · intro c hc
            rw [wr_ne (fun q => absurd (congrArg Prod.fst q.1) (show ¬ (0 : Nat) = 4 by decide)), hl, if_pos rfl]
            unfold qy_ud
            rw [hw, hd]
            by_cases hc6 : c = 5
            · subst hc6
              rw [wr_eq, if_pos (Or.inr (Or.inl ⟨rfl, rfl, rfl⟩)), hcell 5 (by decide), hrc 5 (by decide)]
            · rw [wr_ne (fun q => hc6 q.2), hcell c hc, hrc c hc, if_neg (by simp [hc6])]
          · rw [wr_ne (fun q => absurd q.2 (by decide)), wr_ne (fun q => absurd q.2 (by decide))]
          · rw [wr_ne (fun q => absurd q.2 (by decide)), wr_ne (fun q => absurd q.2 (by decide))]
          · rw [wr_eq, wr_ne (fun q => absurd q.2 (by decide)), hl]
            unfold qy_w7
            simp [hd, hw]
          · rw [wr_ne (fun q => absurd q.2 (by decide)), wr_ne (fun q => absurd q.2 (by decide)), hl]
            unfold qy_w8
            simp [hd]
          · rw [wr_ne (fun q => absurd q.2 (by decide)), wr_ne (fun q => absurd q.2 (by decide)), hl]
            unfold qy_w9
            simp [hw]
          · rw [wr_ne (fun q => absurd q.2 (by decide)), wr_ne (fun q => absurd q.2 (by decide)), hl]
            unfold qy_w11
            simp [hd]
      · simp only [Bool.not_true, Bool.false_and, Bool.and_true, if_true, Bool.true_eq_false, if_false, qz_let]
        refine ⟨_, rfl, qy_BIs hi hP rfl ?_ ?_ ?_ ?_ ?_ ?_ ?_ ?_⟩
        · intro n j b1 b2
          rw [wr_ne (fun q => b2 ⟨q.1, by omega⟩), wr_ne (fun q => b1 ⟨q.1, by omega⟩)]
        · intro c hc
          rw [wr_ne (fun q => absurd (congrArg Prod.fst q.1) (show ¬ (0 : Nat) = 4 by decide)), hl, if_pos rfl]
          unfold qy_ud
          rw [hw]
          by_cases hc6 : c = 7
          · subst hc6
            rw [wr_eq, if_pos (Or.inl ⟨rfl, rfl⟩), hcell 7 (by decide), hrc 7 (by decide)]
          · rw [wr_ne (fun q => hc6 q.2), hcell c hc, hrc c hc, if_neg (by simp [hc6])]
        · rw [wr_ne (fun q => absurd q.2 (by decide)), wr_ne (fun q => absurd q.2 (by decide))]
        · rw [wr_ne (fun q => absurd q.2 (by decide)), wr_ne (fun q => absurd q.2 (by decide))]
        · rw [wr_ne (fun q => absurd q.2 (by decide)), wr_ne (fun q => absurd (congrArg Prod.fst q.1) (show ¬ (4 : Nat) = 0 by decide)), hl]
          unfold qy_w7
          simp [hw]
        · rw [wr_ne (fun q => absurd q.2 (by decide)), wr_ne (fun q => absurd q.2 (by decide)), hl]
          unfold qy_w8
          simp [hw]
        · rw [wr_eq, wr_ne (fun q => absurd q.2 (by decide)), hl]
          unfold qy_w9
          simp [hw]
        · rw [wr_ne (fun q => absurd q.2 (by decide)), wr_ne (fun q => absurd q.2 (by decide)), hl]
          unfold qy_w11
          simp [hw]
  · intro n T hP
    simp only [gW_bringHome_L10, qy_c30', if_true]
    exact ⟨T, rfl, hP⟩
  · refine ⟨rfl, ?_, ?_, rfl, rfl, ?_, ?_, ?_, ?_⟩
    · intro n j b1 b2
      exact hS n j b2
    · intro k c hk hc
      rw [if_neg (fun q => absurd q.1 (by omega))]
      exact hS _ _ (fun q => absurd (congrArg Prod.fst q.1) (show ¬ (0 : Nat) = 4 by decide))
    all_goals exact (Int32.add_zero _).symm
end QYL
