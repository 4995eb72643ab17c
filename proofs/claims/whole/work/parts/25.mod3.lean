/-! rides are laid; what a bus costs; ranks -/
section QYE
variable {F B : Nat}
/-- only what a query may change: thrown, the farthest stop, ranked, rides -/
def qm_fr (f f' : qz_F) : Prop := ∀ n j, ¬ n = (21, 0, 0) → ¬ n = (22, 0, 0) → ¬ (n = (6, 0, 0) ∧ (j = 0 ∨ j = 10)) → f' n j = f n j
theorem qm_fr_refl (f : qz_F) : qm_fr f f := fun _ _ _ _ _ => rfl
theorem qm_fr_trans {f f' f'' : qz_F} (h : qm_fr f f') (h' : qm_fr f' f'') : qm_fr f f'' := fun n j a b c => (h' n j a b c).trans (h n j a b c)
theorem qm_fr_g {f f' : qz_F} (h : qm_fr f f') : f' (17, 0, 0) = f (17, 0, 0) := by
  funext j
  exact h _ _ (by decide) (by decide) (fun q => absurd q.1 (by decide))
theorem qm_laysRides {S : qz_S} (hW : qy_Wf (S.1 (17, 0, 0)) B) (hF : 300 < F) (l e x st : Int32) : ∃ S', gM_laysRides F S l e x st = some S' ∧ S'.2 = S.2 ∧ qm_fr S.1 S'.1 ∧
    (∀ j, j < qy_n (S.1 (17, 0, 0)) → S'.1 (22, 0, 0) j = if qy_ri (S.1 (17, 0, 0)) (qy_Lm (S.1 (17, 0, 0))) l e x st (qy_rm (S.1 (17, 0, 0)) j) = true then 1 else 0) ∧
    ∃ m, m ≤ 9 ∧ S'.1 (6, 0, 0) 10 = nI m ∧ qy_mx (qy_Lm (S.1 (17, 0, 0))) (qy_ri (S.1 (17, 0, 0)) (qy_Lm (S.1 (17, 0, 0))) l e x st) m := by
  have h30 := hW.2.2.2.1
  unfold gM_laysRides qz_let
  refine qy_lpE (fun n (T : qz_S) y => gM_laysRides_L11 F l e x st (fun y65 T6 => gM_laysRides_L41 F l e x st (fun y532 y633 T34 => some T34) F (0 : Int32) (9 : Int32) T6) n y T) (qy_n (S.1 (17, 0, 0))) (fun i T => T.2 = S.2 ∧ (∀ n j, ¬ n = (22, 0, 0) → ¬ (n = (6, 0, 0) ∧ j = 10) → T.1 n j = S.1 n j) ∧ T.1 (6, 0, 0) 10 = 0 ∧ ∀ j, j < i → T.1 (22, 0, 0) j = 0) (fun b => ∃ S', b = some S' ∧ S'.2 = S.2 ∧ qm_fr S.1 S'.1 ∧
    (∀ j, j < qy_n (S.1 (17, 0, 0)) → S'.1 (22, 0, 0) j = if qy_ri (S.1 (17, 0, 0)) (qy_Lm (S.1 (17, 0, 0))) l e x st (qy_rm (S.1 (17, 0, 0)) j) = true then 1 else 0) ∧
    ∃ m, m ≤ 9 ∧ S'.1 (6, 0, 0) 10 = nI m ∧ qy_mx (qy_Lm (S.1 (17, 0, 0))) (qy_ri (S.1 (17, 0, 0)) (qy_Lm (S.1 (17, 0, 0))) l e x st) m) ?_ ?_ F 0 _ (by omega) (by omega) ?_
  · rintro n i T hi ⟨h1, h2, h3, h4⟩
    left
    have hg : T.1 (17, 0, 0) = S.1 (17, 0, 0) := by
      funext j
      exact h2 _ _ (by decide) (fun q => absurd q.1 (by decide))
    have hW' : qy_Wf (T.1 (17, 0, 0)) B := by rw [hg]; exact hW
    have hi' : i < qy_n (T.1 (17, 0, 0)) := by rw [hg]; exact hi
    obtain ⟨c1, c2, c3⟩ := qm_c hW' hi'
    have hbool : vp_nar .boolean (0 : Int32) = 0 := by decide
    refine ⟨qz_wr T (22, 0, 0) i 0, ?_, h1, ?_, ?_, ?_⟩
    · simp only [gM_laysRides_L11, c1, c2, if_false, if_true, qz_xi_nI c3 (show 30 < 2 ^ 31 by decide), qz_let, hbool, qz_cl_nI (show i < 2 ^ 31 by omega)]
    · intro n j hn1 hn2
      simp only [qz_wr]
      rw [if_neg (fun q => hn1 q.1)]
      exact h2 n j hn1 hn2
    · simp only [qz_wr]
      rw [if_neg (fun q => absurd q.1 (by decide))]
      exact h3
    · intro j hj
      simp only [qz_wr]
      by_cases hji : j = i
      · rw [if_pos ⟨trivial, hji⟩]
      · rw [if_neg (fun q => hji q.2)]
        exact h4 j (by omega)
  · rintro n T ⟨h1, h2, h3, h4⟩
    have hg : T.1 (17, 0, 0) = S.1 (17, 0, 0) := by
      funext j
      exact h2 _ _ (by decide) (fun q => absurd q.1 (by decide))
    have c : T.1 (17, 0, 0) 6 ≤ nI (qy_n (S.1 (17, 0, 0))) := by
      have hW' : qy_Wf (T.1 (17, 0, 0)) B := by rw [hg]; exact hW
      have := qm_c' hW'
      rw [hg] at this ⊢
      exact this
    simp only [gM_laysRides_L11, c, if_true]
    refine qy_lpE (fun n (a : Int32 × qz_S) y => gM_laysRides_L41 F l e x st (fun y532 y633 T34 => some T34) n a.1 (9 - y) a.2) 9 (fun i a => qm_LI S.1 S.2 l e x st (9 - i) 0 a.1 a.2) (fun b => ∃ S', b = some S' ∧ S'.2 = S.2 ∧ qm_fr S.1 S'.1 ∧
    (∀ j, j < qy_n (S.1 (17, 0, 0)) → S'.1 (22, 0, 0) j = if qy_ri (S.1 (17, 0, 0)) (qy_Lm (S.1 (17, 0, 0))) l e x st (qy_rm (S.1 (17, 0, 0)) j) = true then 1 else 0) ∧
    ∃ m, m ≤ 9 ∧ S'.1 (6, 0, 0) 10 = nI m ∧ qy_mx (qy_Lm (S.1 (17, 0, 0))) (qy_ri (S.1 (17, 0, 0)) (qy_Lm (S.1 (17, 0, 0))) l e x st) m) ?_ ?_ F 0 (0, T) (by omega) (by omega) (qm_rides0 (F := F) hW (by omega) l e x st T h1 h2 h3 h4)
    · rintro n i ⟨y, T⟩ hi hP
      left
      simp only at hP ⊢
      have e9 : (9 : Int32) - nI i = nI (9 - i) := qy_sub (a := 9) (by omega)
      have e9' : (9 : Int32) - nI (i + 1) = nI (9 - (i + 1)) := qy_sub (a := 9) (by omega)
      have e9'' : nI (9 - i) + -1 = nI (9 - (i + 1)) := by
        have : nI (9 - i) = nI (9 - (i + 1)) + 1 := by rw [qz_nI1]; congr 1; omega
        rw [this]
        grind
      have hc : ¬ nI (9 - i) ≤ 0 := by
        have : ¬ nI (9 - i) ≤ nI 0 := by rw [qy_le (by omega) (by decide)]; omega
        exact this
      rw [e9, e9']
      simp only [gM_laysRides_L41, hc, if_false, e9'']
      refine qm_rides1 hW (by omega) l e x st (s := 9 - i) (by omega) (by omega) _ (fun b => ∃ a' : Int32 × qz_S, b = gM_laysRides_L41 F l e x st (fun y532 y633 T34 => some T34) n a'.1 (nI (9 - (i + 1))) a'.2 ∧ qm_LI S.1 S.2 l e x st (9 - (i + 1)) 0 a'.1 a'.2) ?_ y T hP
      intro y5 T' hLI
      refine ⟨(y5, T'), rfl, qm_LIc hLI (fun j hj => ?_)⟩
      congr 1
      unfold qm_D
      congr 1
      exact propext ⟨fun h => by omega, fun h => by omega⟩
    · rintro n ⟨y, T⟩ hP
      simp only at hP ⊢
      have hc : (9 : Int32) - nI 9 ≤ 0 := by decide
      simp only [gM_laysRides_L41, hc, if_true]
      obtain ⟨h1, h2, h3, h4, m, h5, h6, h7, h8⟩ := hP
      have hD : ∀ j, j < qy_n (S.1 (17, 0, 0)) → qm_D (S.1 (17, 0, 0)) (9 - 9) 0 j = true := by
        intro j hj
        obtain ⟨_, _, _, ⟨s1, hs1, hs9, e1⟩, _⟩ := qm_Wr hW hj
        unfold qm_D
        rw [e1, qz_cl_nI (by omega)]
        exact decide_eq_true (by omega)
      refine ⟨T, rfl, h1, ?_, ?_, m, h5, h6, ?_, ?_⟩
      · intro n j a b c
        exact h2 n j b (fun q => c ⟨q.1, Or.inr q.2⟩)
      · intro j hj
        rw [h4 j hj, hD j hj, Bool.true_and]
      · intro r hr hp
        obtain ⟨j, hj, rfl⟩ := qy_mLm.mp hr
        refine h7 j hj ?_
        rw [hD j hj, Bool.true_and]
        exact hp
      · rcases h8 with h8 | ⟨j, hj, h9, h10⟩
        · exact Or.inl h8
        · rw [hD j hj, Bool.true_and] at h9
          exact Or.inr ⟨_, qy_mLm.mpr ⟨j, hj, rfl⟩, h9, h10⟩
  · refine ⟨rfl, ?_, ?_, fun j h => absurd h (by omega)⟩
    · intro n j hn1 hn2
      simp only [qz_wr]
      rw [if_neg hn2]
    · simp [qz_wr]
theorem qm_cost {f : qz_F} {m : Nat} (hm : m ≤ 9) (h : f (6, 0, 0) 10 = nI m) : gM_cost f = if m = 0 then 0 else nI (20 + 2 * m) := by
  unfold gM_cost
  rw [h]
  by_cases h0 : m = 0
  · subst h0
    rfl
  · have h0' : ¬ nI m = 0 := by
      have : ¬ nI m = nI 0 := by rw [qy_eq (by omega) (by omega)]; exact h0
      exact this
    rw [if_neg h0', if_neg h0]
    rw [show (2 : Int32) = nI 2 from rfl, show (20 : Int32) = nI 20 from rfl, qy_mul, qy_add]
theorem qy_on5 {g r : Nat → Int32} (h : qy_Wr g B r) (hec : qy_ec g ≤ 10) (l e : Int32) : qy_on l e (-5) r = qy_on l e e r := by
  obtain ⟨_, ⟨a, ha, e1⟩, _⟩ := h
  unfold qy_on
  rw [e1]
  have : ¬ nI a = -5 := qy_n5 (by omega)
  simp [this]
theorem qy_rion {g : Nat → Int32} {L : List (Nat → Int32)} (hL : ∀ r, r ∈ L → qy_Wr g B r) (hec : qy_ec g ≤ 10) (l e st : Int32) {r : Nat → Int32} (hr : r ∈ L) : qy_ri g L l e (-5) st r = qy_ri g L l e e st r := by
  unfold qy_ri qy_ca
  rw [qy_on5 (hL r hr) hec]
  congr 3
  refine congrArg nI (List.countP_congr (fun q hq => ?_))
  rw [qy_on5 (hL q hq) hec]
theorem qm_costOf {S : qz_S} (hW : qy_Wf (S.1 (17, 0, 0)) B) (hF : 300 < F) {l e : Nat} (hl : l < 2) (he : e < 10) : ∃ S' m, gM_costOf F S (nI l) (nI e) = some ((if m = 0 then 0 else nI (20 + 2 * m)), S') ∧ m ≤ 9 ∧ S'.2 = S.2 ∧ qm_fr S.1 S'.1 ∧
    (∀ j, j < qy_n (S.1 (17, 0, 0)) → S'.1 (22, 0, 0) j = if qy_ri (S.1 (17, 0, 0)) (qy_Lm (S.1 (17, 0, 0))) (nI l) (nI e) (qy_pa (S.1 (17, 0, 0)) l e) (qy_st (S.1 (17, 0, 0)) e (qy_pa (S.1 (17, 0, 0)) l e)) (qy_rm (S.1 (17, 0, 0)) j) = true then 1 else 0) ∧
    qy_mx (qy_Lm (S.1 (17, 0, 0))) (qy_ri (S.1 (17, 0, 0)) (qy_Lm (S.1 (17, 0, 0))) (nI l) (nI e) (qy_pa (S.1 (17, 0, 0)) l e) (qy_st (S.1 (17, 0, 0)) e (qy_pa (S.1 (17, 0, 0)) l e))) m := by
  have h10 := hW.2.1
  have hall : ∀ r, r ∈ qy_Lm (S.1 (17, 0, 0)) → qy_Wr (S.1 (17, 0, 0)) B r := by
    intro r hr
    obtain ⟨k, hk, rfl⟩ := qy_mLm.mp hr
    exact qm_Wr hW hk
  unfold gM_costOf
  rw [qm_partner hl he]
  simp only [Option.bind_some]
  by_cases h5 : qy_pa (S.1 (17, 0, 0)) l e = -5
  · rw [if_pos h5, qm_startOf hW hl he]
    simp only [Option.bind_some]
    obtain ⟨S', hS, a1, a2, a3, m, hm, a4, a5⟩ := qm_laysRides hW hF (nI l) (nI e) (nI e) (qy_st (S.1 (17, 0, 0)) e (qy_pa (S.1 (17, 0, 0)) l e))
    rw [hS]
    simp only [Option.bind_some]
    rw [qm_cost hm a4]
    refine ⟨S', m, rfl, hm, a1, a2, ?_, ?_⟩
    · intro j hj
      rw [a3 j hj, h5, qy_rion hall h10 _ _ _ (qy_mLm.mpr ⟨j, hj, rfl⟩)]
    · rw [h5] at a5 ⊢
      refine ⟨fun r hr hp => a5.1 r hr (by rw [← qy_rion hall h10 _ _ _ hr]; exact hp), ?_⟩
      rcases a5.2 with h | ⟨r, hr, hp, e1⟩
      · exact Or.inl h
      · exact Or.inr ⟨r, hr, by rw [qy_rion hall h10 _ _ _ hr]; exact hp, e1⟩
  · rw [if_neg h5, qm_startOf hW hl he]
    simp only [Option.bind_some]
    obtain ⟨S', hS, a1, a2, a3, m, hm, a4, a5⟩ := qm_laysRides hW hF (nI l) (nI e) (qy_pa (S.1 (17, 0, 0)) l e) (qy_st (S.1 (17, 0, 0)) e (qy_pa (S.1 (17, 0, 0)) l e))
    rw [hS]
    simp only [Option.bind_some]
    rw [qm_cost hm a4]
    exact ⟨S', m, rfl, hm, a1, a2, a3, a5⟩
end QYE
