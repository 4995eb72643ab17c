/-! acts: a setting -/
section QYX
variable {F B B' m : Nat} {f0 f f' : qz_F} {g g' : Nat → Int32} {S S' : qz_S}
theorem qy_set4 (hR : qy_Rel f 0 g) {k : Nat} (hk : k < 4) : gW_setting F f (nI k) = some (g k) := by
  have c1 : ¬ (4 : Int32) ≤ nI k := fun q => by have := (qz_le_nI (a := 4) (b := k) (by decide) (by omega)).mp q; omega
  unfold gW_setting
  rw [if_neg (qy_nn (by omega)), if_neg c1, if_pos (qz_xi_nI hk (by decide)), qz_cl_nI (by omega), hR.2.2.2.2.2.1 k hk]
theorem qy_set (hI : qy_Inv f0 B S) (hK : qy_K f0) (hF : 1132 < F) (hB6 : B ≤ 60000) (a0 a1 : Int32) : qy_Call f0 B (gX_set F S a0 a1) (fun T => gM_set F T a0 a1) := by
  have hW := hI.1.2
  have hR := hI.1.1
  have e17 : ∀ T : qz_S, (qz_wr T (6, 0, 0) 0 0).1 (17, 0, 0) = T.1 (17, 0, 0) := fun T => funext fun j => wr_ne (fun q => qy_kn (by decide) q.1)
  by_cases h : ∃ k, k < 4 ∧ a0 = nI k
  · obtain ⟨k, hk, rfl⟩ := h
    obtain ⟨w, w1, w2⟩ := qy_isSet (F := F) hI hK hk a1
    generalize hg : S.1 (17, 0, 0) = g at *
    by_cases hv : qy_vs k a1
    · have wn : ¬ w = 0 := by rw [w2]; exact fun q => q hv
      have mn : ∀ f : qz_F, ¬ gM_isSetting f (nI k) a1 = 0 := fun f => by rw [qm_isSet hk]; exact fun q => q hv
      have hxi : qz_xi (nI k) 283 = true := qz_xi_nI (by omega) (by decide)
      have hcl : (nI k).toNatClampNeg = k := qz_cl_nI (by omega)
      by_cases hs : g k = a1
      · refine qy_no (v := -5) hI ?_ ?_
        · unfold gX_set
          rw [w1]
          simp only [Option.bind_some]
          rw [if_neg wn, qy_set4 hR hk]
          simp only [Option.bind_some]
          rw [if_pos hs]
        · unfold gM_set
          simp only [qz_let]
          rw [if_neg (mn _), if_pos hxi, hcl, e17, hg, if_pos hs]
      · refine qy_act0 (F := F) (g := g) hI (Nat.le_refl B) hB6 hF hg
          (XC := fun R7 => Option.bind (gW_changeSetting F R7 (nI k) a1) fun R9 => if nI k = (2 : Int32) then (some (g k, R9)) else (Option.bind (gW_lookAtWaiting F R9) fun R12 => some (g k, R12)))
          (MC := fun R5 => qz_let (qz_wr R5 ((17, 0, 0) : qz_N) k a1) fun S7 => if nI k = (2 : Int32) then (some (g k, S7)) else (Option.bind (gM_looksAtAll F S7) fun R9 => some (g k, R9))) ?_ ?_ ?_
        · unfold gX_set
          rw [w1]
          simp only [Option.bind_some]
          rw [if_neg wn, qy_set4 hR hk]
          simp only [Option.bind_some]
          rw [if_neg hs]
        · intro S' hS'
          unfold gM_set
          simp only [qz_let]
          rw [if_neg (mn _), if_pos hxi, hcl, e17, hS', if_neg hs]
        · intro S1 k1 _
          obtain ⟨G1, hG1⟩ : ∃ G1 : Nat → Int32, G1 = (fun c => if c = k then a1 else g c) := ⟨_, rfl⟩
          have hGo : ∀ c, c ≠ k → G1 c = g c := fun c hc => by rw [hG1]; exact if_neg hc
          have hGk : G1 k = a1 := by rw [hG1]; exact if_pos rfl
          have hch : gW_changeSetting F S1 (nI k) a1 = some (qz_wr S1 (12, 0, 0) k a1) := by
            have c1 : ¬ (4 : Int32) ≤ nI k := fun q => by have := (qz_le_nI (a := 4) (b := k) (by decide) (by omega)).mp q; omega
            unfold gW_changeSetting
            rw [if_neg (qy_nn (by omega)), if_neg c1, if_pos (qz_xi_nI hk (by decide)), hcl]
            rfl
          have e0 : ∀ k' i j, k' ≠ 12 → (qz_wr S1 (12, 0, 0) k a1).1 (k', 0, i) j = S1.1 (k', 0, i) j := fun k' i j hk' => wr_ne (fun q => qy_kn hk' q.1)
          have hR2 : qy_Rel (qz_wr S1 (12, 0, 0) k a1).1 0 G1 := by
            refine qy_RelL k1 (fun i j => e0 _ _ _ (by decide)) (fun c h1 _ => hGo c (by omega)) (hGo 6 (by omega)) hW.2.2.2.1 ?_ ?_ ?_ ?_ ?_ ?_
            · rw [e0 _ _ _ (by decide), hGo 4 (by omega)]; exact k1.1
            · rw [e0 _ _ _ (by decide), hGo 5 (by omega)]; exact k1.2.1
            · intro c hc
              rw [e0 _ _ _ (by decide), hGo _ (by omega)]; exact k1.2.2.1 c hc
            · intro i hi
              rw [e0 _ _ _ (by decide), hGo _ (by omega)]; exact k1.2.2.2.1 i hi
            · intro i hi
              rw [e0 _ _ _ (by decide), hGo _ (by omega)]; exact k1.2.2.2.2.1 i hi
            · intro i hi
              by_cases e : i = k
              · subst e
                rw [wr_eq, hGk]
              · rw [wr_ne (fun q => e q.2), hGo i e]; exact k1.2.2.2.2.2.1 i hi
          have hec : qy_ec G1 = qy_ec g := by unfold qy_ec; rw [hGo 4 (by omega)]
          have hW2 : qy_Wf G1 B := by
            refine qy_WfL hW (fun c h1 _ => hGo c (by omega)) (hGo 5 (by omega)) (hGo 6 (by omega)) ?_ ?_ ?_ ?_ ?_ ?_
            · rw [hec, hGo 4 (by omega)]; exact hW.1
            · rw [hec]; exact hW.2.1
            · rw [hec]; exact Nat.le_refl _
            · by_cases e : k = 1
              · subst e
                rw [hGk]
                obtain ⟨v1, v2⟩ := hv
                have v1 : (1 : Int32) ≤ a1 := v1
                have v2 : a1 ≤ (30 : Int32) := v2
                obtain ⟨s, hs, rfl⟩ := qy_of (Int32.le_trans (show (0 : Int32) ≤ 1 by decide) v1)
                exact ⟨s, (qz_le_nI (a := 1) (b := s) (by decide) (by omega)).mp v1, (qz_le_nI (a := s) (b := 30) (by omega) (by decide)).mp v2, rfl⟩
              · rw [hGo 1 (by omega)]; exact hW.2.2.2.2.2.1
            · intro i hi
              rw [hGo _ (by omega)]; exact hW.2.2.2.2.2.2.1 i hi
            · intro l e hl he
              rw [hec, hGo _ (by omega)]
              rcases hW.2.2.2.2.2.2.2.1 l e hl he with h | ⟨o, b1, b2, b3, b4, b5⟩
              · exact Or.inl h
              · exact Or.inr ⟨o, b1, b2, b3, b4, by rw [hGo _ (by omega)]; exact b5⟩
          have hG3 : ∀ S3 : qz_S, S3.1 (17, 0, 0) = g → (qz_wr S3 (17, 0, 0) k a1).1 (17, 0, 0) = G1 := by
            intro S3 c1
            funext c
            by_cases e : c = k
            · rw [e, wr_eq, hGk]
            · rw [qm_wr17 e, c1, hGo c e]
          by_cases h2 : nI k = (2 : Int32)
          · refine ⟨g k, qz_wr S1 (12, 0, 0) k a1, ?_, rfl, qy_fwW (by decide), ?_⟩
            · show (Option.bind (gW_changeSetting F S1 (nI k) a1) fun R9 => _) = _
              rw [hch]
              simp only [Option.bind_some]
              rw [if_pos h2]
            · intro S3 c1 _
              refine ⟨qz_wr S3 (17, 0, 0) k a1, ?_, rfl, qm_fsW, by rw [hG3 S3 c1]; exact hR2, by rw [hG3 S3 c1]; exact hW2⟩
              simp only [qz_let]
              rw [if_pos h2]
          · obtain ⟨S2, Q, l1, l2, l3, l4, l5, l6⟩ := qy_look (F := F) hR2 hW2 (by omega)
            refine ⟨g k, S2, ?_, l2, qy_fwT (qy_fwW (by decide)) (qy_fwl l3), ?_⟩
            · show (Option.bind (gW_changeSetting F S1 (nI k) a1) fun R9 => _) = _
              rw [hch]
              simp only [Option.bind_some]
              rw [if_neg h2, l1]
              rfl
            · intro S3 c1 _
              obtain ⟨S4, m1, m2, m3, m4⟩ := l6 _ (hG3 S3 c1)
              refine ⟨S4, ?_, m2, qm_fs_trans qm_fsW m3, by rw [m4]; exact l4, by rw [m4]; exact l5⟩
              simp only [qz_let]
              rw [if_neg h2, m1]
              rfl
    · have wn : w = 0 := by rw [w2]; exact hv
      refine qy_no (v := -2) hI ?_ ?_
      · unfold gX_set
        rw [w1]
        simp only [Option.bind_some]
        rw [if_pos wn]
      · unfold gM_set
        simp only [qz_let]
        rw [if_pos (by rw [qm_isSet hk]; exact hv)]
  · have hx : gX_isSettingValue F S.1 a0 a1 = some 0 := by
      unfold gX_isSettingValue
      by_cases h0 : a0 < 0
      · rw [if_pos h0]
      · rw [if_neg h0]
        obtain ⟨k, hk, rfl⟩ := qy_of (Int32.not_lt.mp h0)
        have : (4 : Int32) ≤ nI k := (qz_le_nI (a := 4) (b := k) (by decide) (by omega)).mpr (by
          by_cases q : 4 ≤ k
          · exact q
          · exact absurd ⟨k, by omega, rfl⟩ h)
        rw [if_pos this]
    have hm : ∀ f : qz_F, gM_isSetting f a0 a1 = 0 := by
      intro f
      unfold gM_isSetting
      rw [if_neg (show ¬ a0 = 0 from fun q => h ⟨0, by decide, q⟩), if_neg (show ¬ a0 = 1 from fun q => h ⟨1, by decide, q⟩), if_neg (show ¬ a0 = 2 from fun q => h ⟨2, by decide, q⟩), if_neg (show ¬ a0 = 3 from fun q => h ⟨3, by decide, q⟩)]
    refine qy_no (v := -2) hI ?_ ?_
    · unfold gX_set
      rw [hx]
      rfl
    · unfold gM_set
      simp only [qz_let]
      rw [if_pos (hm _)]
end QYX
