/-! acts: merge, part, a setting -/
section QYW
variable {F B B' m : Nat} {f0 f f' : qz_F} {g g' : Nat → Int32} {S S' : qz_S}
theorem qy_0pc {l e : Nat} (hW : qy_Wf g B) (hl : l < 2) (he : e < 10) : g (23 + 10 * l + e) = 0 ∨ ∃ o, o < 10 ∧ g (23 + 10 * l + e) = nI (o + 1) := by
  have h10 := hW.2.1
  rcases hW.2.2.2.2.2.2.2.1 l e hl he with h | ⟨o, ho, _, _, h, _⟩
  · exact Or.inl h
  · exact Or.inr ⟨o, by omega, h⟩
theorem qy_merge (hI : qy_Inv f0 B S) (hF : 1132 < F) (hB6 : B ≤ 60000) (a0 a1 a2 : Int32) : qy_Call f0 B (gX_merge F S a0 a1 a2) (fun T => gM_merge F T a0 a1 a2) := by
  have hW := hI.1.2
  have hR := hI.1.1
  have h10 := hW.2.1
  have e17 : ∀ T : qz_S, (qz_wr T (6, 0, 0) 0 0).1 (17, 0, 0) = T.1 (17, 0, 0) := fun T => funext fun j => wr_ne (fun q => qy_kn (by decide) q.1)
  rcases qy_merr (F := F) hR hW (by omega) a0 a1 a2 with ⟨v, hv, x, mm⟩ | ⟨l, e, o, hl, he, ho, hne, rfl, rfl, rfl, hcm, x, mm⟩
  · refine qy_no (v := v) hI ?_ ?_
    · unfold gX_merge
      rw [x]
      simp only [Option.bind_some]
      rw [if_neg hv]
    · exact mm (qz_wr S (6, 0, 0) 0 0) (Option.bind (gM_records F (qz_wr S (6, 0, 0) 0 0)) fun R13 => Option.bind (gM_layMerged F R13 a0 a1 a2) fun R15 => Option.bind (gM_layMerged F R15 a0 a2 a1) fun R17 => Option.bind (gM_looksAtAll F R17) fun R19 => Option.bind (gM_startOf F R19.1 a0 a1) fun x21 => some (x21, R19)) (e17 S)
  · generalize hg : S.1 (17, 0, 0) = g at *
    have he10 : e < 10 := by omega
    have ho10 : o < 10 := by omega
    refine qy_act0 (F := F) (g := g) hI (Nat.le_refl B) hB6 hF hg
      (XC := fun R4 => Option.bind (gW_tie F R4 (nI l) (nI e) (nI o)) fun R6 => Option.bind (gW_tie F R6 (nI l) (nI o) (nI e)) fun R8 => Option.bind (gW_lookAtWaiting F R8) fun R10 => Option.bind (gW_startOf F R10.1 (nI e) (nI o)) fun x12 => some (x12, R10))
      (MC := fun R13 => Option.bind (gM_layMerged F R13 (nI l) (nI e) (nI o)) fun R15 => Option.bind (gM_layMerged F R15 (nI l) (nI o) (nI e)) fun R17 => Option.bind (gM_looksAtAll F R17) fun R19 => Option.bind (gM_startOf F R19.1 (nI l) (nI e)) fun x21 => some (x21, R19)) ?_ ?_ ?_
    · unfold gX_merge
      rw [x]
      rfl
    · intro S' hS'
      exact mm (qz_wr S' (6, 0, 0) 0 0) (Option.bind (gM_records F (qz_wr S' (6, 0, 0) 0 0)) fun R13 => Option.bind (gM_layMerged F R13 (nI l) (nI e) (nI o)) fun R15 => Option.bind (gM_layMerged F R15 (nI l) (nI o) (nI e)) fun R17 => Option.bind (gM_looksAtAll F R17) fun R19 => Option.bind (gM_startOf F R19.1 (nI l) (nI e)) fun x21 => some (x21, R19)) ((e17 S').trans hS')
    · intro S1 k1 _
      have z0 := qy_pcn5 (qy_0pc hW hl he10) hcm.1
      have z1 := qy_pcn5 (qy_0pc hW hl ho10) hcm.2.1
      have hRT : ∀ S3 : qz_S, S3.1 (17, 0, 0) = g → _ := fun S3 c1 => qy_ties (x := nI (o + 1)) (y := nI (e + 1)) (S1 := S1) (S3 := S3) k1 hW c1 hl he10 ho10 hne
      have hR2 := (hRT (fun n => if n = (17, 0, 0) then g else fun _ => 0, fun _ => 0) (show (if ((17, 0, 0) : qz_N) = (17, 0, 0) then g else fun _ => 0) = g from if_pos rfl)).2
      rw [qy_pc1 ho10, qy_pc1 he10] at hR2
      obtain ⟨G1, hG1⟩ : ∃ G1 : Nat → Int32, G1 = (fun c => if c = 23 + 10 * l + o then nI (e + 1) else if c = 23 + 10 * l + e then nI (o + 1) else g c) := ⟨_, rfl⟩
      have hGe : G1 (23 + 10 * l + e) = nI (o + 1) := by
        rw [hG1]
        show (if _ then _ else _) = _
        rw [if_neg (by omega), if_pos rfl]
      have hW2 : qy_Wf G1 B := by
        rw [hG1]
        refine qy_WfT hW hl he10 ho10 (fun l' e' hl' he' => ?_)
        simp only
        by_cases b1 : 23 + 10 * l' + e' = 23 + 10 * l + o
        · rw [if_pos b1]
          have el : l' = l := by omega
          have ee : e' = o := by omega
          subst el
          subst ee
          exact Or.inr ⟨e, he, ho, hne, rfl, by rw [if_neg (by omega), if_pos rfl]⟩
        · rw [if_neg b1]
          by_cases b2 : 23 + 10 * l' + e' = 23 + 10 * l + e
          · rw [if_pos b2]
            have el : l' = l := by omega
            have ee : e' = e := by omega
            subst el
            subst ee
            exact Or.inr ⟨o, ho, he, hne.symm, rfl, by rw [if_pos rfl]⟩
          · rw [if_neg b2]
            rcases hW.2.2.2.2.2.2.2.1 l' e' hl' he' with h | ⟨o', d1, d2, d3, d4, d5⟩
            · exact Or.inl h
            · refine Or.inr ⟨o', d1, d2, d3, d4, ?_⟩
              have n0 : ¬ nI (e' + 1) = 0 := by rw [show (0 : Int32) = nI 0 from rfl, qy_eq (by omega) (by omega)]; omega
              rw [if_neg (fun q => n0 (by rw [← d5, q]; exact z1)), if_neg (fun q => n0 (by rw [← d5, q]; exact z0))]
              exact d5
      rw [← hG1] at hR2
      obtain ⟨S2, Q, l1, l2, l3, l4, l5, l6⟩ := qy_look (F := F) hR2 hW2 (by omega)
      have hs := qy_start (F := F) l4 l5 he10 (nI o)
      refine ⟨qy_st (qy_pg Q G1) e (nI o), S2, ?_, l2, qy_fwT (qy_fwT (qy_fwW (by decide)) (qy_fwW (by decide))) (qy_fwl l3), ?_⟩
      · show (Option.bind (gW_tie F S1 (nI l) (nI e) (nI o)) fun R6 => _) = _
        rw [qy_tie F S1 hl he10]
        simp only [Option.bind_some]
        rw [qy_tie F _ hl ho10]
        simp only [Option.bind_some]
        rw [l1]
        simp only [Option.bind_some]
        rw [hs]
        rfl
      · intro S3 c1 _
        have hG3 : (qz_wr (qz_wr S3 (17, 0, 0) (23 + 10 * l + e) (nI (o + 1))) (17, 0, 0) (23 + 10 * l + o) (nI (e + 1))).1 (17, 0, 0) = G1 := by
          rw [hG1]
          exact funext (hRT S3 c1).1
        obtain ⟨S4, m1, m2, m3, m4⟩ := l6 _ hG3
        refine ⟨S4, ?_, m2, qm_fs_trans (qm_fs_trans qm_fsW qm_fsW) m3, by rw [m4]; exact l4, by rw [m4]; exact l5⟩
        rw [qm_layM F S3 hl he10, if_neg (qy_n5 (by omega)), qz_nI1]
        simp only [Option.bind_some]
        rw [qm_layM F _ hl ho10, if_neg (qy_n5 (by omega)), qz_nI1]
        simp only [Option.bind_some]
        rw [m1]
        simp only [Option.bind_some]
        rw [qm_startOf (B := B) (by rw [m4]; exact l5) hl he10, m4]
        have : qy_pa (qy_pg Q G1) l e = nI o := by
          rw [qy_pgpa hl he10]
          unfold qy_pa
          rw [hGe, qy_pc1 ho10]
        rw [this]
        rfl
theorem qy_part (hI : qy_Inv f0 B S) (hF : 1132 < F) (hB6 : B ≤ 60000) (a0 a1 : Int32) : qy_Call f0 B (gX_part F S a0 a1) (fun T => gM_part F T a0 a1) := by
  have hW := hI.1.2
  have hR := hI.1.1
  have h10 := hW.2.1
  have e17 : ∀ T : qz_S, (qz_wr T (6, 0, 0) 0 0).1 (17, 0, 0) = T.1 (17, 0, 0) := fun T => funext fun j => wr_ne (fun q => qy_kn (by decide) q.1)
  generalize hg : S.1 (17, 0, 0) = g at *
  by_cases hl : ∃ l, l < 2 ∧ a0 = nI l
  · have x1 : ¬ gX_isLine S.1 a0 = 0 := by rw [qy_line]; exact fun q => q hl
    have m1 : ∀ T : qz_S, ¬ gM_isLine T.1 a0 = 0 := fun T => by rw [qm_isLine]; exact fun q => q hl
    obtain ⟨l, hl, rfl⟩ := hl
    by_cases h1 : 0 ≤ a1 ∧ a1 < g 4
    · have x2 : ¬ gW_hasEnd S.1 a1 = 0 := by rw [qy_hasEnd hR]; exact fun q => q h1
      have mE : ∀ T : qz_S, T.1 (17, 0, 0) = g → ∃ v, gM_isEnd F T.1 a1 = some v ∧ ¬ v = 0 := fun T hT => by
        obtain ⟨v, e1, e2⟩ := qm_isEnd (F := F) (f := T.1) (B := B) (by rw [hT]; exact hW) a1
        refine ⟨v, e1, ?_⟩
        rw [e2, hT]
        exact fun q => q h1
      obtain ⟨e, he, rfl⟩ := qy_isE hW h1
      have he10 : e < 10 := by omega
      rcases qy_pac hW hl he10 with ⟨h5, _⟩ | ⟨o, ho, _, hne, b1, b2, b3, h5⟩
      · refine qy_no (v := -5) hI ?_ ?_
        · unfold gX_part
          rw [if_neg x1, if_neg x2, qy_partner hR hl he10]
          simp only [Option.bind_some]
          rw [if_pos h5]
        · obtain ⟨v1, e1, n1⟩ := mE (qz_wr S (6, 0, 0) 0 0) ((e17 S).trans hg)
          unfold gM_part
          simp only [qz_let]
          rw [if_neg (m1 _), e1]
          simp only [Option.bind_some]
          rw [if_neg n1, qm_partner hl he10, e17, hg]
          simp only [Option.bind_some]
          rw [if_pos h5]
      · have ho10 : o < 10 := by omega
        refine qy_act0 (F := F) (g := g) hI (Nat.le_refl B) hB6 hF hg
          (XC := fun R6 => Option.bind (gW_tie F R6 (nI l) (nI e) (-5 : Int32)) fun R8 => Option.bind (gW_tie F R8 (nI l) (nI o) (-5 : Int32)) fun R10 => Option.bind (gW_lookAtWaiting F R10) fun R12 => some (nI o, R12))
          (MC := fun R9 => Option.bind (gM_layMerged F R9 (nI l) (nI e) (-5 : Int32)) fun R11 => Option.bind (gM_layMerged F R11 (nI l) (nI o) (-5 : Int32)) fun R13 => Option.bind (gM_looksAtAll F R13) fun R15 => some (nI o, R15)) ?_ ?_ ?_
        · unfold gX_part
          rw [if_neg x1, if_neg x2, qy_partner hR hl he10]
          simp only [Option.bind_some]
          rw [if_neg h5, b1]
        · intro S' hS'
          obtain ⟨v1, e1, n1⟩ := mE (qz_wr S' (6, 0, 0) 0 0) ((e17 S').trans hS')
          unfold gM_part
          simp only [qz_let]
          rw [if_neg (m1 _), e1]
          simp only [Option.bind_some]
          rw [if_neg n1, qm_partner hl he10, e17, hS']
          simp only [Option.bind_some]
          rw [if_neg h5, b1]
        · intro S1 k1 _
          have hRT : ∀ S3 : qz_S, S3.1 (17, 0, 0) = g → _ := fun S3 c1 => qy_ties (x := 0) (y := 0) (S1 := S1) (S3 := S3) k1 hW c1 hl he10 ho10 hne.symm
          have hR2 := (hRT (fun n => if n = (17, 0, 0) then g else fun _ => 0, fun _ => 0) (show (if ((17, 0, 0) : qz_N) = (17, 0, 0) then g else fun _ => 0) = g from if_pos rfl)).2
          have hpc : qy_pc 0 = -5 := if_pos rfl
          rw [hpc] at hR2
          obtain ⟨G1, hG1⟩ : ∃ G1 : Nat → Int32, G1 = (fun c => if c = 23 + 10 * l + o then 0 else if c = 23 + 10 * l + e then 0 else g c) := ⟨_, rfl⟩
          have b4 : g (23 + 10 * l + o) = nI (e + 1) := by
            rcases qy_pac hW hl ho10 with ⟨q, _⟩ | ⟨o2, ho2, _, _, q1, _, q3, _⟩
            · rw [b2] at q
              exact absurd q (qy_n5 (by omega))
            · rw [b2, qy_eq (by omega) (by omega)] at q1
              rw [q3, q1]
          have hW2 : qy_Wf G1 B := by
            rw [hG1]
            refine qy_WfT hW hl he10 ho10 (fun l' e' hl' he' => ?_)
            simp only
            by_cases c1 : 23 + 10 * l' + e' = 23 + 10 * l + o
            · rw [if_pos c1]; exact Or.inl rfl
            · rw [if_neg c1]
              by_cases c2 : 23 + 10 * l' + e' = 23 + 10 * l + e
              · rw [if_pos c2]; exact Or.inl rfl
              · rw [if_neg c2]
                rcases hW.2.2.2.2.2.2.2.1 l' e' hl' he' with h | ⟨o', d1, d2, d3, d4, d5⟩
                · exact Or.inl h
                · refine Or.inr ⟨o', d1, d2, d3, d4, ?_⟩
                  rw [if_neg, if_neg]
                  · exact d5
                  · intro q
                    rw [q, b3, qy_eq (by omega) (by omega)] at d5
                    omega
                  · intro q
                    rw [q, b4, qy_eq (by omega) (by omega)] at d5
                    omega
          rw [← hG1] at hR2
          obtain ⟨S2, Q, l1, l2, l3, l4, l5, l6⟩ := qy_look (F := F) hR2 hW2 (by omega)
          refine ⟨nI o, S2, ?_, l2, qy_fwT (qy_fwT (qy_fwW (by decide)) (qy_fwW (by decide))) (qy_fwl l3), ?_⟩
          · show (Option.bind (gW_tie F S1 (nI l) (nI e) (-5 : Int32)) fun R6 => _) = _
            rw [qy_tie F S1 hl he10]
            simp only [Option.bind_some]
            rw [qy_tie F _ hl ho10]
            simp only [Option.bind_some]
            rw [l1]
            rfl
          · intro S3 c1 _
            have hG3 : (qz_wr (qz_wr S3 (17, 0, 0) (23 + 10 * l + e) 0) (17, 0, 0) (23 + 10 * l + o) 0).1 (17, 0, 0) = G1 := by
              rw [hG1]
              exact funext (hRT S3 c1).1
            obtain ⟨S4, m1, m2, m3, m4⟩ := l6 _ hG3
            refine ⟨S4, ?_, m2, qm_fs_trans (qm_fs_trans qm_fsW qm_fsW) m3, by rw [m4]; exact l4, by rw [m4]; exact l5⟩
            rw [qm_layM F S3 hl he10, if_pos rfl]
            simp only [Option.bind_some]
            rw [qm_layM F _ hl ho10, if_pos rfl]
            simp only [Option.bind_some]
            rw [m1]
            rfl
    · refine qy_no (v := -1) hI ?_ ?_
      · have x2 : gW_hasEnd S.1 a1 = 0 := by rw [qy_hasEnd hR]; exact h1
        unfold gX_part
        rw [if_neg x1, if_pos x2]
      · obtain ⟨v1, e1, n1⟩ := qm_isEnd (F := F) (f := (qz_wr S (6, 0, 0) 0 0).1) (B := B) (by rw [e17, hg]; exact hW) a1
        rw [e17, hg] at n1
        unfold gM_part
        simp only [qz_let]
        rw [if_neg (m1 _), e1]
        simp only [Option.bind_some]
        rw [if_pos (by rw [n1]; exact h1)]
  · refine qy_no (v := -1) hI ?_ ?_
    · have x1 : gX_isLine S.1 a0 = 0 := by rw [qy_line]; exact hl
      unfold gX_part
      rw [if_pos x1]
    · have m1 : gM_isLine (qz_wr S (6, 0, 0) 0 0).1 a0 = 0 := by rw [qm_isLine]; exact hl
      unfold gM_part
      simp only [qz_let]
      rw [if_pos m1]
theorem qy_isSet (hI : qy_Inv f0 B S) (hK : qy_K f0) {k : Nat} (hk : k < 4) (v : Int32) : ∃ w, gX_isSettingValue F S.1 (nI k) v = some w ∧ (w = 0) = ¬ qy_vs k v := by
  have h31 : S.1 (31, 0, 0) k = qz_g31 k := (hI.2.2.2.2 _ _ (by decide)).trans (congrFun hK.1 k)
  have h32 : S.1 (32, 0, 0) k = qz_g32 k := (hI.2.2.2.2 _ _ (by decide)).trans (congrFun hK.2 k)
  have c1 : ¬ (4 : Int32) ≤ nI k := fun q => by have := (qz_le_nI (a := 4) (b := k) (by decide) (by omega)).mp q; omega
  unfold gX_isSettingValue qy_vs
  rw [if_neg (qy_nn (by omega)), if_neg c1, if_pos (Int32.not_le.mp c1), if_pos (qz_xi_nI hk (by decide)), qz_cl_nI (by omega), h31, h32]
  by_cases a : v < qz_g31 k
  · rw [if_pos a]
    exact ⟨0, rfl, by simp [Int32.not_le.mpr a]⟩
  · rw [if_neg a]
    by_cases b : qz_g32 k < v
    · rw [if_pos b]
      exact ⟨0, rfl, by simp [Int32.not_le.mpr b]⟩
    · rw [if_neg b]
      exact ⟨1, rfl, by simp [Int32.not_lt.mp a, Int32.not_lt.mp b]⟩
theorem qm_isSet {k : Nat} (hk : k < 4) (v : Int32) : (gM_isSetting f (nI k) v = 0) = ¬ qy_vs k v := by
  unfold gM_isSetting qy_vs
  have hc : k = 0 ∨ k = 1 ∨ k = 2 ∨ k = 3 := by omega
  rcases hc with rfl | rfl | rfl | rfl
  · rw [if_pos (show nI 0 = 0 from rfl), qm_in]; rfl
  · rw [if_neg (by decide), if_pos (show nI 1 = 1 from rfl), qm_in]; rfl
  · rw [if_neg (by decide), if_neg (by decide), if_pos (show nI 2 = 2 from rfl), qm_in]; rfl
  · rw [if_neg (by decide), if_neg (by decide), if_neg (by decide), if_pos (show nI 3 = 3 from rfl)]
    have h := qm_in (f := f) v 10 300
    by_cases q : gM_in f v 10 300 = 0
    · rw [if_pos q]
      simp only [q, eq_iff_iff, true_iff] at h ⊢
      exact h
    · rw [if_neg q]
      simp only [q, eq_iff_iff, false_iff] at h ⊢
      exact ⟨fun z => absurd z (by decide), fun z => absurd z h⟩
end QYW
