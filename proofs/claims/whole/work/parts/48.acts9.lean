/-! acts: book -/
section QYb
variable {F B B' m : Nat} {f0 f f' : qz_F} {g g' : Nat → Int32} {S S' : qz_S}
theorem qy_book (hI : qy_Inv f0 B S) (hF : 1132 < F) (hB6 : B + 1 ≤ 60000) (a0 a1 a2 : Int32) : qy_Call f0 (B + 1) (gX_book F S a0 a1 a2) (fun T => gM_book F T a0 a1 a2) := by
  have hW := hI.1.2
  have hR := hI.1.1
  have h30 := hW.2.2.2.1
  have hI' := qy_InvB (B' := B + 1) (by omega) hB6 hI
  have e17 : ∀ T : qz_S, (qz_wr T (6, 0, 0) 0 0).1 (17, 0, 0) = T.1 (17, 0, 0) := fun T => funext fun j => wr_ne (fun q => qy_kn (by decide) q.1)
  generalize hg : S.1 (17, 0, 0) = g at *
  have mE : ∀ T : qz_S, T.1 (17, 0, 0) = g → ∃ v, gM_isEnd F T.1 a0 = some v ∧ (v = 0) = ¬ (0 ≤ a0 ∧ a0 < g 4) := fun T hT => by
    obtain ⟨v, e1, e2⟩ := qm_isEnd (F := F) (f := T.1) (B := B) (by rw [hT]; exact hW) a0
    rw [hT] at e2
    exact ⟨v, e1, e2⟩
  by_cases h1 : 0 ≤ a0 ∧ a0 < g 4
  · have x1 : ¬ gW_hasEnd S.1 a0 = 0 := by rw [qy_hasEnd hR]; exact fun q => q h1
    by_cases hl : ∃ l, l < 2 ∧ a1 = nI l
    · have x2 : ¬ gX_isLine S.1 a1 = 0 := by rw [qy_line]; exact fun q => q hl
      have m2 : ∀ T : qz_S, ¬ gM_isLine T.1 a1 = 0 := fun T => by rw [qm_isLine]; exact fun q => q hl
      by_cases hs : ∃ s, 1 ≤ s ∧ s ≤ 9 ∧ a2 = nI s
      · have x3 : ¬ gX_isStop S.1 a2 = 0 := by rw [qy_stop]; exact fun q => q hs
        have m3 : ∀ T : qz_S, ¬ gM_isStop T.1 a2 = 0 := fun T => by rw [qm_isStop]; exact fun q => q hs
        have hwc : gW_workerCount F S.1 = some (nI (qy_n g)) := by rw [qy_wcnt (by omega), qy_lenR hR]
        have h6 : ∀ T : qz_S, T.1 (17, 0, 0) = g → (qz_wr T (6, 0, 0) 0 0).1 (17, 0, 0) 6 = nI (qy_n g) := fun T hT => by rw [e17, hT]; exact hW.2.2.1
        by_cases hn : qy_n g < 30
        · have c1 : nI (qy_n g) < (30 : Int32) := by rw [show (30 : Int32) = nI 30 from rfl, qy_lt (by omega) (by omega)]; exact hn
          have c2 : ¬ nI (qy_n g) = (30 : Int32) := by rw [show (30 : Int32) = nI 30 from rfl, qy_eq (by omega) (by omega)]; omega
          refine qy_act0 (F := F) (g := g) hI (Nat.le_succ B) hB6 hF hg
            (XC := fun R7 => Option.bind (gW_enter F R7 a0 a1 a2) fun R9 => some (R9.1, R9.2)) (MC := fun R8 => Option.bind (gM_books F R8 a0 a1 a2) fun R10 => some (R10.1, R10.2)) ?_ ?_ ?_
          · unfold gX_book
            rw [if_neg x1, if_neg x2, if_neg x3, hwc]
            simp only [Option.bind_some]
            rw [if_pos c1]
          · intro S' hS'
            obtain ⟨v, v1, v2⟩ := mE _ ((e17 S').trans hS')
            unfold gM_book
            simp only [qz_let]
            rw [v1]
            simp only [Option.bind_some]
            rw [if_neg (by rw [v2]; exact fun q => q h1), if_neg (m2 _), if_neg (m3 _), h6 S' hS', if_neg c2]
          · intro S1 k1 _
            obtain ⟨e, he, rfl⟩ := qy_isE hW h1
            obtain ⟨l, hl2, rfl⟩ := hl
            obtain ⟨s, hs1, hs9, rfl⟩ := hs
            obtain ⟨N, S2, G1, b1, b2, b3, b4, b5, _, _, b8⟩ := qy_enter (F := F) k1 hW hF hB6 hl2 he hs1 hs9 hn
            refine ⟨N, S2, ?_, b2, b3, ?_⟩
            · show (Option.bind (gW_enter F S1 (nI e) (nI l) (nI s)) fun R9 => some (R9.1, R9.2)) = _
              rw [b1]
              rfl
            · intro S3 c1 _
              obtain ⟨S4, d1, d2, d3, d4⟩ := b8 S3 c1
              refine ⟨S4, by rw [d1]; rfl, d2, fun n j n17 _ _ _ => d3 n j n17, by rw [d4]; exact b4, by rw [d4]; exact b5⟩
        · have en : qy_n g = 30 := by omega
          refine qy_no (v := -3) hI' ?_ ?_
          · unfold gX_book
            rw [if_neg x1, if_neg x2, if_neg x3, hwc, en]
            rfl
          · obtain ⟨v, v1, v2⟩ := mE _ ((e17 S).trans hg)
            unfold gM_book
            simp only [qz_let]
            rw [v1]
            simp only [Option.bind_some]
            rw [if_neg (by rw [v2]; exact fun q => q h1), if_neg (m2 _), if_neg (m3 _), h6 S hg, en]
            rfl
      · refine qy_no (v := -1) hI' ?_ ?_
        · unfold gX_book
          rw [if_neg x1, if_neg x2, if_pos (by rw [qy_stop]; exact hs)]
        · obtain ⟨v, v1, v2⟩ := mE _ ((e17 S).trans hg)
          unfold gM_book
          simp only [qz_let]
          rw [v1]
          simp only [Option.bind_some]
          rw [if_neg (by rw [v2]; exact fun q => q h1), if_neg (m2 _), if_pos (by rw [qm_isStop]; exact hs)]
    · refine qy_no (v := -1) hI' ?_ ?_
      · unfold gX_book
        rw [if_neg x1, if_pos (by rw [qy_line]; exact hl)]
      · obtain ⟨v, v1, v2⟩ := mE _ ((e17 S).trans hg)
        unfold gM_book
        simp only [qz_let]
        rw [v1]
        simp only [Option.bind_some]
        rw [if_neg (by rw [v2]; exact fun q => q h1), if_pos (by rw [qm_isLine]; exact hl)]
  · refine qy_no (v := -1) hI' ?_ ?_
    · unfold gX_book
      rw [if_pos (by rw [qy_hasEnd hR]; exact h1)]
    · obtain ⟨v, v1, v2⟩ := mE _ ((e17 S).trans hg)
      unfold gM_book
      simp only [qz_let]
      rw [v1]
      simp only [Option.bind_some]
      rw [if_pos (by rw [v2]; exact h1)]
end QYb
