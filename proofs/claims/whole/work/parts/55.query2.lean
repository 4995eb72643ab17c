/-! queries: bus, spares, byMinute -/
section QYf
variable {F B B' k : Nat} {f0 f : qz_F} {g : Nat → Int32} {S S' : qz_S}
theorem qy_mxU {L : List (Nat → Int32)} {p : (Nat → Int32) → Bool} {m : Nat} (h : qy_mx L p m) : m = qy_xf L p := qy_mx1 (fun _ => Iff.rfl) (fun _ _ => rfl) h (qy_xfx L p)
theorem qy_mxP {L L' : List (Nat → Int32)} {p : (Nat → Int32) → Bool} {m : Nat} (hp : L.Perm L') (h : qy_mx L p m) : m = qy_xf L' p := qy_mx1 (fun _ => hp.mem_iff) (fun _ _ => rfl) h (qy_xfx L' p)
theorem qm_costV {S : qz_S} (hg : S.1 (17, 0, 0) = g) (hW : qy_Wf g B) (hF : 300 < F) {l e : Nat} (hl : l < 2) (he : e < 10) : ∃ S', gM_costOf F S (nI l) (nI e) = some (qy_cv g (qy_Lm g) l e (qy_pa g l e), S') ∧ S'.2 = S.2 ∧ qm_fr S.1 S'.1 := by
  obtain ⟨S', m, a1, _, a3, a4, _, a6⟩ := qm_costOf (F := F) (S := S) (B := B) (by rw [hg]; exact hW) hF hl he
  rw [hg] at a6
  refine ⟨S', ?_, a3, a4⟩
  rw [a1]
  unfold qy_cv
  rw [qy_mxU a6]
theorem qm_over (hW : qy_Wf (f (17, 0, 0)) B) (hF : 30 < F) {l e : Nat} (hl : l < 2) (he : e < 10) (a2 : Int32) :
    gM_overRiders F f (nI l) (nI e) a2 = some (if a2 = 4 then nI (qy_xf (qy_Lm (f (17, 0, 0))) (fun r => !qy_wt r && qy_on (nI l) (nI e) (qy_pa (f (17, 0, 0)) l e) r)) else if a2 = 2 then nI ((qy_Lm (f (17, 0, 0))).countP (fun r => !qy_wt r && qy_on (nI l) (nI e) (qy_pa (f (17, 0, 0)) l e) r)) else nI ((qy_Lm (f (17, 0, 0))).countP (fun r => qy_wt r && qy_on (nI l) (nI e) (qy_pa (f (17, 0, 0)) l e) r))) := by
  have h30 := hW.2.2.2.1
  obtain ⟨x, hx⟩ : ∃ x, x = qy_pa (f (17, 0, 0)) l e := ⟨_, rfl⟩
  obtain ⟨t, ht⟩ : ∃ t : Nat → Bool, t = fun j => if a2 = 2 then (!qy_wt (qy_rm (f (17, 0, 0)) j) && qy_on (nI l) (nI e) x (qy_rm (f (17, 0, 0)) j)) else (qy_wt (qy_rm (f (17, 0, 0)) j) && qy_on (nI l) (nI e) x (qy_rm (f (17, 0, 0)) j)) := ⟨_, rfl⟩
  unfold gM_overRiders
  rw [← hx]
  refine qy_lpE (fun n (a : Int32 × Int32) y => gM_overRiders_L9 F f (nI l) (nI e) a2 _ n a.1 a.2 y) (qy_n (f (17, 0, 0)))
    (fun i a => a.1 = nI ((List.range i).countP t) ∧ ∃ m, m ≤ 9 ∧ a.2 = nI m ∧ (∀ j, j < i → (!qy_wt (qy_rm (f (17, 0, 0)) j) && qy_on (nI l) (nI e) x (qy_rm (f (17, 0, 0)) j)) = true → (qy_rm (f (17, 0, 0)) j 3).toNatClampNeg ≤ m) ∧ (m = 0 ∨ ∃ j, j < i ∧ (!qy_wt (qy_rm (f (17, 0, 0)) j) && qy_on (nI l) (nI e) x (qy_rm (f (17, 0, 0)) j)) = true ∧ (qy_rm (f (17, 0, 0)) j 3).toNatClampNeg = m))
    (fun r => r = some (if a2 = 4 then nI (qy_xf (qy_Lm (f (17, 0, 0))) (fun r => !qy_wt r && qy_on (nI l) (nI e) x r)) else if a2 = 2 then nI ((qy_Lm (f (17, 0, 0))).countP (fun r => !qy_wt r && qy_on (nI l) (nI e) x r)) else nI ((qy_Lm (f (17, 0, 0))).countP (fun r => qy_wt r && qy_on (nI l) (nI e) x r)))) ?_ ?_ F 0 (0, 0) (by omega) (by omega) ⟨rfl, 0, by omega, rfl, fun j h => absurd h (by omega), Or.inl rfl⟩
  · rintro n i ⟨y4, y5⟩ hi ⟨q1, m, q2, q3, q4, q5⟩
    left
    simp only at q1 q3 ⊢
    obtain ⟨c1, c2, c3⟩ := qm_c hW hi
    have hWr := qm_Wr hW hi
    obtain ⟨_, _, _, ⟨s, s1, s9, w3⟩, _⟩ := id hWr
    have hcs : (qy_rm (f (17, 0, 0)) i 3).toNatClampNeg = s := by rw [w3]; exact qz_cl_nI (by omega)
    simp only [gM_overRiders_L9, c1, if_false, c2, qm_isOn c3 hl he, Option.bind_some, qm_o4 c3, qm_o3 c3, qm_p1 hWr, ← hx]
    have hcnt : (List.range (i + 1)).countP t = (List.range i).countP t + if t i = true then 1 else 0 := by
      rw [List.range_succ, List.countP_append, List.countP_singleton]
    cases hon : qy_on (nI l) (nI e) x (qy_rm (f (17, 0, 0)) i)
    · have hti : t i = false := by rw [ht]; simp [hon]
      rw [if_neg Bool.false_ne_true, if_pos rfl]
      refine ⟨(y4, y5), rfl, ?_, m, q2, q3, ?_, ?_⟩
      · rw [hcnt, hti]
        simpa using q1
      · intro j hj hp
        by_cases ej : j = i
        · rw [ej, hon] at hp
          simp at hp
        · exact q4 j (by omega) hp
      · rcases q5 with q | ⟨j, j1, j2, j3⟩
        · exact Or.inl q
        · exact Or.inr ⟨j, by omega, j2, j3⟩
    · rw [if_pos rfl, if_neg (by decide)]
      cases hwt : qy_wt (qy_rm (f (17, 0, 0)) i)
      · rw [if_pos rfl]
        have hmax : ∀ m', (m' = if s ≤ m then m else s) → m' ≤ 9 ∧ (∀ j, j < i + 1 → (!qy_wt (qy_rm (f (17, 0, 0)) j) && qy_on (nI l) (nI e) x (qy_rm (f (17, 0, 0)) j)) = true → (qy_rm (f (17, 0, 0)) j 3).toNatClampNeg ≤ m') ∧ (m' = 0 ∨ ∃ j, j < i + 1 ∧ (!qy_wt (qy_rm (f (17, 0, 0)) j) && qy_on (nI l) (nI e) x (qy_rm (f (17, 0, 0)) j)) = true ∧ (qy_rm (f (17, 0, 0)) j 3).toNatClampNeg = m') := by
          intro m' hm'
          have hme : m' = m ∧ s ≤ m ∨ m' = s ∧ m < s := by
            by_cases q : s ≤ m
            · rw [if_pos q] at hm'; exact Or.inl ⟨hm', q⟩
            · rw [if_neg q] at hm'; exact Or.inr ⟨hm', by omega⟩
          refine ⟨by omega, ?_, ?_⟩
          · intro j hj hp
            by_cases ej : j = i
            · rw [ej, hcs]; omega
            · have := q4 j (by omega) hp
              omega
          · rcases hme with ⟨e1, e2⟩ | ⟨e1, e2⟩
            · rcases q5 with q | ⟨j, j1, j2, j3⟩
              · omega
              · exact Or.inr ⟨j, by omega, j2, by omega⟩
            · exact Or.inr ⟨i, by omega, by rw [hon, hwt]; rfl, by omega⟩
        by_cases h2 : a2 = 2
        · have hti : t i = true := by rw [ht]; simp [hon, hwt, h2]
          rw [if_pos h2]
          have e4 : y4 + 1 = nI ((List.range (i + 1)).countP t) := by rw [hcnt, hti, q1, if_pos rfl, qz_nI1]
          by_cases hle : qy_rm (f (17, 0, 0)) i 3 ≤ y5
          · have hsm : s ≤ m := by
              rw [w3, q3] at hle
              exact (qz_le_nI (by omega) (by omega)).mp hle
            rw [if_pos hle]
            obtain ⟨z1, z2, z3⟩ := hmax m (by rw [if_pos hsm])
            exact ⟨(y4 + 1, y5), rfl, e4, m, z1, q3, z2, z3⟩
          · have hsm : ¬ s ≤ m := by
              rw [w3, q3] at hle
              exact fun q => hle ((qz_le_nI (by omega) (by omega)).mpr q)
            rw [if_neg hle]
            obtain ⟨z1, z2, z3⟩ := hmax s (by rw [if_neg hsm])
            exact ⟨(y4 + 1, _), rfl, e4, s, z1, w3, z2, z3⟩
        · have hti : t i = false := by rw [ht]; simp [hwt, h2]
          rw [if_neg h2]
          have e4 : y4 + 0 = nI ((List.range (i + 1)).countP t) := by
            rw [hcnt, hti, q1, Int32.add_zero]
            simp
          by_cases hle : qy_rm (f (17, 0, 0)) i 3 ≤ y5
          · have hsm : s ≤ m := by
              rw [w3, q3] at hle
              exact (qz_le_nI (by omega) (by omega)).mp hle
            rw [if_pos hle]
            obtain ⟨z1, z2, z3⟩ := hmax m (by rw [if_pos hsm])
            exact ⟨(y4 + 0, y5), rfl, e4, m, z1, q3, z2, z3⟩
          · have hsm : ¬ s ≤ m := by
              rw [w3, q3] at hle
              exact fun q => hle ((qz_le_nI (by omega) (by omega)).mpr q)
            rw [if_neg hle]
            obtain ⟨z1, z2, z3⟩ := hmax s (by rw [if_neg hsm])
            exact ⟨(y4 + 0, _), rfl, e4, s, z1, w3, z2, z3⟩
      · rw [if_neg (by decide)]
        have hkeep : ∀ j, j < i + 1 → (!qy_wt (qy_rm (f (17, 0, 0)) j) && qy_on (nI l) (nI e) x (qy_rm (f (17, 0, 0)) j)) = true → (qy_rm (f (17, 0, 0)) j 3).toNatClampNeg ≤ m := by
          intro j hj hp
          by_cases ej : j = i
          · rw [ej, hwt] at hp
            simp at hp
          · exact q4 j (by omega) hp
        have hex : m = 0 ∨ ∃ j, j < i + 1 ∧ (!qy_wt (qy_rm (f (17, 0, 0)) j) && qy_on (nI l) (nI e) x (qy_rm (f (17, 0, 0)) j)) = true ∧ (qy_rm (f (17, 0, 0)) j 3).toNatClampNeg = m := by
          rcases q5 with q | ⟨j, j1, j2, j3⟩
          · exact Or.inl q
          · exact Or.inr ⟨j, by omega, j2, j3⟩
        by_cases h2 : a2 = 2
        · have hti : t i = false := by rw [ht]; simp [hwt, h2]
          rw [if_pos h2]
          refine ⟨(y4 + 0, y5), rfl, ?_, m, q2, q3, hkeep, hex⟩
          show y4 + 0 = _
          rw [hcnt, hti, q1, Int32.add_zero]
          simp
        · have hti : t i = true := by rw [ht]; simp [hon, hwt, h2]
          rw [if_neg h2]
          refine ⟨(y4 + 1, y5), rfl, ?_, m, q2, q3, hkeep, hex⟩
          show y4 + 1 = _
          rw [hcnt, hti, q1, if_pos rfl, qz_nI1]
  · rintro n ⟨y4, y5⟩ ⟨q1, m, q2, q3, q4, q5⟩
    simp only at q1 q3
    simp only [gM_overRiders_L9, qm_c' hW, if_true]
    have hmx : qy_mx (qy_Lm (f (17, 0, 0))) (fun r => !qy_wt r && qy_on (nI l) (nI e) x r) m := by
      constructor
      · intro r hr hp
        obtain ⟨j, hj, rfl⟩ := qy_mLm.mp hr
        exact q4 j hj hp
      · rcases q5 with q | ⟨j, j1, j2, j3⟩
        · exact Or.inl q
        · exact Or.inr ⟨_, qy_mLm.mpr ⟨j, j1, rfl⟩, j2, j3⟩
    by_cases h4 : a2 = 4
    · rw [if_pos h4, if_pos h4, q3, qy_mxU hmx]
    · rw [if_neg h4, if_neg h4, q1, ht]
      by_cases h2 : a2 = 2
      · simp only [if_pos h2]
        rw [qy_cLm (f (17, 0, 0)) (fun r => !qy_wt r && qy_on (nI l) (nI e) x r)]
      · simp only [if_neg h2]
        rw [qy_cLm (f (17, 0, 0)) (fun r => qy_wt r && qy_on (nI l) (nI e) x r)]
theorem qy_tk1 (hR : qy_Rel f 0 g) (hW : qy_Wf g B) (l e : Nat) (x : Int32) : (qy_Lc f 0).countP (qy_tk (nI l) (nI e) x 1 (-1)) = (qy_Lm g).countP (fun r => !qy_wt r && qy_on (nI l) (nI e) x r) := by
  rw [← hR.2.2.2.2.2.2.1.countP_eq]
  refine List.countP_congr (fun r hr => ?_)
  obtain ⟨⟨N, hN, e0, _⟩, _, _, ⟨s, s1, s9, e3⟩, _⟩ := qy_WrC hR hW hr
  have hB := hW.2.2.2.2.2.2.2.2.2.2
  have c1 : (1 : Int32) ≤ nI s := (qz_le_nI (a := 1) (b := s) (by decide) (by omega)).mpr s1
  have c2 : ¬ nI N = -1 := qy_n1 (by omega)
  unfold qy_tk
  rw [e3, e0]
  simp [c1, c2]
theorem qy_bus (hI : qy_Inv f0 B S) (hF : 1132 < F) (a0 a1 a2 : Int32) : qy_Qry f0 B (gX_bus F S.1 a0 a1 a2) (gM_bus F S a0 a1 a2) := by
  have hR := hI.1.1
  have hW := hI.1.2
  have h10 := hW.2.1
  have hp := hR.2.2.2.2.2.2.1
  have hW0 : qy_Wf ((qz_wr S (6, 0, 0) 0 0).1 (17, 0, 0)) B := by rw [qy_e17]; exact hW
  by_cases hl : ∃ l, l < 2 ∧ a0 = nI l
  · have x1 : ¬ gX_isLine S.1 a0 = 0 := by rw [qy_line]; exact fun q => q hl
    have m1 : ¬ gM_isLine (qz_wr S (6, 0, 0) 0 0).1 a0 = 0 := by rw [qm_isLine]; exact fun q => q hl
    obtain ⟨v, v1, v2⟩ := qm_isEnd (F := F) (f := (qz_wr S (6, 0, 0) 0 0).1) hW0 a1
    rw [qy_e17] at v2
    by_cases h1 : 0 ≤ a1 ∧ a1 < S.1 (17, 0, 0) 4
    · have x2 : ¬ gW_hasEnd S.1 a1 = 0 := by rw [qy_hasEnd hR]; exact fun q => q h1
      have v3 : ¬ v = 0 := by rw [v2]; exact fun q => q h1
      obtain ⟨l, hl2, rfl⟩ := hl
      obtain ⟨e, he, rfl⟩ := qy_isE hW h1
      have hov := qm_over (F := F) hW0 (by omega) hl2 (show e < 10 by omega)
      rw [qy_e17] at hov
      have hcx : gX_bus F S.1 (nI l) (nI e) a2 = (fun x3 => if a2 = 0 then (Option.bind (gW_startOf F S.1 (nI e) x3) fun x6 => some x6) else (if a2 = 1 then (some x3) else (if a2 = 2 then (Option.bind (gW_takenSeats F S.1 (nI l) (nI e) x3 (1 : Int32) none) fun x10 => some x10) else (if a2 = 3 then (Option.bind (gW_waitingFor F S.1 (nI l) (nI e) x3) fun x13 => some x13) else (if a2 = 4 then (Option.bind (gW_farthestPromised F S.1 (nI l) (nI e) x3) fun x16 => some x16) else (if a2 = 5 then (Option.bind (gW_costToday F S.1 (nI l) (nI e) x3) fun x19 => some x19) else (some (-2 : Int32)))))))) (qy_pa (S.1 (17, 0, 0)) l e) := by
        unfold gX_bus
        rw [if_neg x1, if_neg x2, qy_partner hR hl2 (by omega)]
        rfl
      have hcm : gM_bus F S (nI l) (nI e) a2 = (fun S1 => if a2 = 0 then (Option.bind (gM_startOf F S1.1 (nI l) (nI e)) fun x7 => some (x7, S1)) else (if a2 = 1 then (Option.bind (gM_partner F S1.1 (nI l) (nI e)) fun x10 => some (x10, S1)) else (if a2 = 2 then (Option.bind (gM_overRiders F S1.1 (nI l) (nI e) a2) fun x13 => some (x13, S1)) else (if a2 = 3 then (Option.bind (gM_overRiders F S1.1 (nI l) (nI e) a2) fun x16 => some (x16, S1)) else (if a2 = 4 then (Option.bind (gM_overRiders F S1.1 (nI l) (nI e) a2) fun x19 => some (x19, S1)) else (if a2 = 5 then (Option.bind (gM_costOf F S1 (nI l) (nI e)) fun R22 => some (R22.1, R22.2)) else (some ((-2 : Int32), S1)))))))) (qz_wr S (6, 0, 0) 0 0) := by
        unfold gM_bus
        rw [qt_letE, if_neg m1, v1]
        simp only [Option.bind_some]
        rw [if_neg v3]
      rw [hcx, hcm]
      simp only
      by_cases h0 : a2 = 0
      · rw [if_pos h0, if_pos h0]
        refine qy_qn (v := qy_st (S.1 (17, 0, 0)) e (qy_pa (S.1 (17, 0, 0)) l e)) hI ?_ ?_
        · rw [qy_start hR hW (by omega)]; rfl
        · rw [qm_startOf hW0 hl2 (by omega), qy_e17]; rfl
      · rw [if_neg h0, if_neg h0]
        by_cases h1' : a2 = 1
        · rw [if_pos h1', if_pos h1']
          refine qy_qn (v := qy_pa (S.1 (17, 0, 0)) l e) hI rfl ?_
          rw [qm_partner hl2 (by omega), qy_e17]; rfl
        · rw [if_neg h1', if_neg h1']
          by_cases h2 : a2 = 2
          · rw [if_pos h2, if_pos h2]
            refine qy_qn (v := nI ((qy_Lm (S.1 (17, 0, 0))).countP (fun r => !qy_wt r && qy_on (nI l) (nI e) (qy_pa (S.1 (17, 0, 0)) l e) r))) hI ?_ ?_
            · rw [qy_taken (by omega) _ _ _ _ (-1) none (qy_none S.1), qy_tk1 hR hW]; rfl
            · rw [hov, if_neg (by rw [h2]; decide), if_pos h2]; rfl
          · rw [if_neg h2, if_neg h2]
            by_cases h3 : a2 = 3
            · rw [if_pos h3, if_pos h3]
              refine qy_qn (v := nI ((qy_Lm (S.1 (17, 0, 0))).countP (fun r => qy_wt r && qy_on (nI l) (nI e) (qy_pa (S.1 (17, 0, 0)) l e) r))) hI ?_ ?_
              · rw [qy_waitFor (by omega), hp.countP_eq]; rfl
              · rw [hov, if_neg (by rw [h3]; decide), if_neg h2]; rfl
            · rw [if_neg h3, if_neg h3]
              by_cases h4 : a2 = 4
              · rw [if_pos h4, if_pos h4]
                obtain ⟨m, z1, z2⟩ := qy_far (F := F) hR hW (by omega) (nI l) (nI e) (qy_pa (S.1 (17, 0, 0)) l e)
                refine qy_qn (v := nI (qy_xf (qy_Lm (S.1 (17, 0, 0))) (fun r => !qy_wt r && qy_on (nI l) (nI e) (qy_pa (S.1 (17, 0, 0)) l e) r))) hI ?_ ?_
                · rw [z2, qy_mxP hp z1]; rfl
                · rw [hov, if_pos h4]; rfl
              · rw [if_neg h4, if_neg h4]
                by_cases h5 : a2 = 5
                · rw [if_pos h5, if_pos h5]
                  obtain ⟨S', z1, z2, z3⟩ := qm_costV (F := F) (S := qz_wr S (6, 0, 0) 0 0) (qy_e17 S 0) hW (by omega) hl2 (show e < 10 by omega)
                  refine ⟨qy_cv (S.1 (17, 0, 0)) (qy_Lm (S.1 (17, 0, 0))) l e (qy_pa (S.1 (17, 0, 0)) l e), S', ?_, ?_, qy_fzI z2 (qy_fzfr z3) (qy_I0 hI)⟩
                  · rw [qy_costv hR hW (by omega) (by omega), qy_cvp hp]; rfl
                  · rw [z1]; rfl
                · rw [if_neg h5, if_neg h5]
                  exact qy_qn (v := -2) hI rfl rfl
    · refine qy_qn (v := -1) hI ?_ ?_
      · unfold gX_bus
        rw [if_neg x1, if_pos (by rw [qy_hasEnd hR]; exact h1)]
      · unfold gM_bus
        rw [qt_letE, if_neg m1, v1]
        simp only [Option.bind_some]
        rw [if_pos (by rw [v2]; exact h1)]
  · refine qy_qn (v := -1) hI ?_ ?_
    · unfold gX_bus
      rw [if_pos (by rw [qy_line]; exact hl)]
    · unfold gM_bus
      rw [qt_letE, if_pos (by rw [qm_isLine]; exact hl)]
theorem qy_spares (hI : qy_Inv f0 B S) (hF : 1132 < F) (a0 a1 a2 : Int32) : qy_Qry f0 B (gX_spares F S.1 a0 a1 a2) (gM_spares F S a0 a1 a2) := by
  have hR := hI.1.1
  have hW := hI.1.2
  have h10 := hW.2.1
  have hp := hR.2.2.2.2.2.2.1
  rcases qy_merr (F := F) hR hW (by omega) a0 a1 a2 with ⟨v, hv, x, mm⟩ | ⟨l, e, o, hl, he, ho, hne, rfl, rfl, rfl, hcm, x, mm⟩
  · refine qy_qn (v := v) hI ?_ ?_
    · unfold gX_spares
      rw [x]
      simp only [Option.bind_some]
      rw [if_neg hv]
    · exact mm (qz_wr S (6, 0, 0) 0 0) (Option.bind (gM_costOf F (qz_wr S (6, 0, 0) 0 0) a0 a1) fun R13 => Option.bind (gM_costOf F R13.2 a0 a2) fun R15 => Option.bind (gM_minute F R15.2.1 a1) fun x17 => Option.bind (gM_minute F R15.2.1 a2) fun x19 => Option.bind (gM_laysRides F R15.2 a0 a1 a2 (gM_later R15.2.1 x17 x19)) fun R21 => some (((R13.1 + R15.1) - (gM_cost R21.1)), R21)) (qy_e17 S 0)
  · generalize hg : S.1 (17, 0, 0) = g at *
    have he10 : e < 10 := by omega
    have ho10 : o < 10 := by omega
    obtain ⟨S1, a1, a2, a3⟩ := qm_costV (F := F) (S := qz_wr S (6, 0, 0) 0 0) ((qy_e17 S 0).trans hg) hW (by omega) hl he10
    have g1 : S1.1 (17, 0, 0) = g := (qm_fr_g a3).trans ((qy_e17 S 0).trans hg)
    obtain ⟨S2, b1, b2, b3⟩ := qm_costV (F := F) (S := S1) g1 hW (by omega) hl ho10
    have g2 : S2.1 (17, 0, 0) = g := (qm_fr_g b3).trans g1
    have hst : gM_later S2.1 (g (13 + e)) (g (13 + o)) = qy_st g e (nI o) := by rw [qm_later, qy_stE hW ho]
    obtain ⟨S3, c1, c2, c3, _, m, m9, c4, c5⟩ := qm_laysRides (F := F) (S := S2) (B := B) (by rw [g2]; exact hW) (by omega) (nI l) (nI e) (nI o) (qy_st g e (nI o))
    rw [g2] at c5
    rw [hcm.1] at a1
    rw [hcm.2.1] at b1
    have hc3 : gM_cost S3.1 = qy_cv g (qy_Lm g) l e (nI o) := by
      rw [qm_cost m9 c4]
      unfold qy_cv
      rw [qy_mxU c5]
    refine ⟨(qy_cv g (qy_Lm g) l e (-5) + qy_cv g (qy_Lm g) l o (-5)) - qy_cv g (qy_Lm g) l e (nI o), S3, ?_, ?_, ?_⟩
    · unfold gX_spares
      rw [x]
      simp only [Option.bind_some]
      rw [if_pos trivial, qy_costv hR hW (by omega) he10, qy_cvp hp]
      simp only [Option.bind_some]
      rw [qy_costv hR hW (by omega) ho10, qy_cvp hp]
      simp only [Option.bind_some]
      rw [qy_costv hR hW (by omega) he10, qy_cvp hp]
      rfl
    · refine (mm (qz_wr S (6, 0, 0) 0 0) (Option.bind (gM_costOf F (qz_wr S (6, 0, 0) 0 0) (nI l) (nI e)) fun R13 => Option.bind (gM_costOf F R13.2 (nI l) (nI o)) fun R15 => Option.bind (gM_minute F R15.2.1 (nI e)) fun x17 => Option.bind (gM_minute F R15.2.1 (nI o)) fun x19 => Option.bind (gM_laysRides F R15.2 (nI l) (nI e) (nI o) (gM_later R15.2.1 x17 x19)) fun R21 => some (((R13.1 + R15.1) - (gM_cost R21.1)), R21)) ((qy_e17 S 0).trans hg)).trans ?_
      rw [a1]
      simp only [Option.bind_some]
      rw [b1]
      simp only [Option.bind_some]
      rw [qm_minute he10, qm_minute ho10, g2]
      simp only [Option.bind_some]
      rw [hst, c1]
      simp only [Option.bind_some]
      rw [hc3]
    · refine qy_fzI (S := qz_wr S (6, 0, 0) 0 0) ?_ ?_ (qy_I0 hI)
      · rw [c2, b2, a2]
      · exact qy_fzT (qy_fzT (qy_fzfr a3) (qy_fzfr b3)) (qy_fzfr c3)
theorem qy_byMinute (hI : qy_Inv f0 B S) (hF : 1132 < F) (a : Int32) : qy_Qry f0 B (gX_byMinute F S.1 a) (gM_byMinute F S a) := by
  have hR := hI.1.1
  have hW := hI.1.2
  have h10 := hW.2.1
  by_cases h0 : 0 ≤ a
  · obtain ⟨S1, a1, a2, a3, a4⟩ := qm_ranks (F := F) (S := qz_wr S (6, 0, 0) 0 0) (B := B) (by rw [qy_e17]; exact hW) (by omega)
    rw [qy_e17] at a4
    have g1 : S1.1 (17, 0, 0) = S.1 (17, 0, 0) := by
      rw [← qy_e17 S 0]
      exact funext fun j => a3 _ _ (by decide)
    obtain ⟨r1, r2⟩ := qm_soR a4
    obtain ⟨v, v1, v2⟩ := qy_endOfRank (F := F) hR hW (by omega) a
    have hI1 : qy_Inv f0 B S1 := qy_fzI (S := qz_wr S (6, 0, 0) 0 0) a2 (fun n j _ h21 _ _ _ _ => a3 n j h21) (qy_I0 hI)
    generalize hg : S.1 (17, 0, 0) = g at *
    refine ⟨v, S1, ?_, ?_, hI1⟩
    · unfold gX_byMinute
      rw [if_pos h0, v1]
      rfl
    · unfold gM_byMinute
      rw [qt_letE, if_pos h0, a1]
      simp only [Option.bind_some]
      obtain ⟨r, hr, rfl⟩ := qy_of h0
      rw [g1, hW.1]
      by_cases hle : nI (qy_ec g) ≤ nI r
      · rw [if_pos hle]
        rcases v2 with ⟨e, he, e1, e2⟩ | ⟨e1, _⟩
        · exfalso
          obtain ⟨i, hi, ei⟩ := r2 e he
          have := r1 i hi
          rw [ei] at this
          rw [this, qy_eq (by omega) hr] at e1
          have := (qz_le_nI (a := qy_ec g) (b := r) (by omega) (by omega)).mp hle
          omega
        · rw [e1]
      · have hlt : r < qy_ec g := by
          by_cases q : r < qy_ec g
          · exact q
          · exact absurd ((qz_le_nI (a := qy_ec g) (b := r) (by omega) (by omega)).mpr (by omega)) hle
        rw [if_neg hle, if_pos (qz_xi_nI (by omega) (by decide)), qz_cl_nI (by omega)]
        obtain ⟨w, hw, ew⟩ := a4.1 r hlt
        rcases v2 with ⟨e, he, e1, e2⟩ | ⟨_, e2⟩
        · obtain ⟨i, hi, ei⟩ := r2 e he
          have q := r1 i hi
          rw [ei] at q
          rw [q, qy_eq (by omega) hr] at e1
          subst e1
          rw [e2, ew]
          rw [ew, qz_cl_nI (show w < 2 ^ 31 by omega)] at ei
          rw [ei]
        · exfalso
          have q := r1 r hlt
          rw [ew, qz_cl_nI (show w < 2 ^ 31 by omega)] at q
          exact e2 w hw (by rw [q])
  · refine qy_qn (v := -2) hI ?_ ?_
    · unfold gX_byMinute
      rw [if_neg h0]
    · unfold gM_byMinute
      rw [qt_letE, if_neg h0]
end QYf
