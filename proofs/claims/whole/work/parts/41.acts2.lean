/-! acts: a shift end, a setting, merge, part -/
section QYU
variable {F B B' m : Nat} {f0 f f' : qz_F} {g g' : Nat → Int32} {S S' : qz_S}
theorem qy_RelL (h : qy_Rel f 0 g) (h0 : ∀ i j, f' (0, 0, i) j = f (0, 0, i) j) (hg : ∀ c, 43 ≤ c → c < 283 → g' c = g c) (h6 : g' 6 = g 6) (hn : qy_n g ≤ 30)
    (a1 : f' (4, 0, 0) 0 = g' 4) (a2 : f' (4, 0, 0) 5 = g' 5) (a3 : ∀ c, c < 6 → f' (4, 0, 0) (6 + c) = g' (7 + c)) (a4 : ∀ i, i < 10 → f' (10, 0, 0) i = g' (13 + i)) (a5 : ∀ i, i < 20 → f' (11, 0, 0) i = qy_pc (g' (23 + i))) (a6 : ∀ i, i < 4 → f' (12, 0, 0) i = g' i) : qy_Rel f' 0 g' := by
  have hrc : qy_rc f' 0 = qy_rc f 0 := by
    funext i c
    unfold qy_rc
    rw [h0]
  have hLc : qy_Lc f' 0 = qy_Lc f 0 := by
    unfold qy_Lc
    rw [hrc]
  have hnn : qy_n g' = qy_n g := by
    unfold qy_n
    rw [h6]
  have hLm : qy_Lm g' = qy_Lm g := by
    unfold qy_Lm
    rw [hnn]
    refine List.map_congr_left (fun k hk => ?_)
    have hk := List.mem_range.mp hk
    funext c
    unfold qy_rm
    by_cases hc : c < 8
    · rw [if_pos hc, if_pos hc, hg _ (by omega) (by omega)]
    · rw [if_neg hc, if_neg hc]
  refine ⟨a1, a2, a3, a4, a5, a6, ?_, ?_, ?_⟩
  · rw [hLc, hLm]
    exact h.2.2.2.2.2.2.1
  · intro i hi
    rw [h0]
    exact h.2.2.2.2.2.2.2.1 i hi
  · intro i hi k c hc
    rw [h0] at k ⊢
    exact h.2.2.2.2.2.2.2.2 i hi k c hc
theorem qy_WfL (h : qy_Wf g B) (hg : ∀ c, 43 ≤ c → c < 283 → g' c = g c) (h5 : g' 5 = g 5) (h6 : g' 6 = g 6) (a : g' 4 = nI (qy_ec g')) (a10 : qy_ec g' ≤ 10) (aec : qy_ec g ≤ qy_ec g') (a1 : ∃ s, 1 ≤ s ∧ s ≤ 30 ∧ g' 1 = nI s) (am : ∀ i, i < 10 → ∃ m, m < 1440 ∧ g' (13 + i) = nI m)
    (ap : ∀ l e, l < 2 → e < 10 → g' (23 + 10 * l + e) = 0 ∨ ∃ o, o < qy_ec g' ∧ e < qy_ec g' ∧ o ≠ e ∧ g' (23 + 10 * l + e) = nI (o + 1) ∧ g' (23 + 10 * l + o) = nI (e + 1)) : qy_Wf g' B := by
  obtain ⟨h1, h2, h3, h4, h5', h6', h7, h8, h9, h10, h11⟩ := h
  have hnn : qy_n g' = qy_n g := by
    unfold qy_n
    rw [h6]
  have hrm : ∀ k, k < qy_n g → qy_rm g' k = qy_rm g k := by
    intro k hk
    funext c
    unfold qy_rm
    by_cases hc : c < 8
    · rw [if_pos hc, if_pos hc, hg _ (by omega) (by omega)]
    · rw [if_neg hc, if_neg hc]
  refine ⟨a, a10, ?_, ?_, ?_, a1, am, ap, ?_, ?_, h11⟩
  · rw [h6, hnn]; exact h3
  · rw [hnn]; exact h4
  · rw [h5]; exact h5'
  · intro k hk
    rw [hnn] at hk
    rw [hrm k hk]
    obtain ⟨⟨N, hN, e1, e2⟩, ⟨e, he, e3⟩, b⟩ := h9 k hk
    exact ⟨⟨N, hN, e1, by rw [h5]; exact e2⟩, ⟨e, by omega, e3⟩, b⟩
  · intro i k hik hk
    rw [hnn] at hk
    rw [hrm i (by omega), hrm k hk]
    exact h10 i k hik hk
theorem qy_look {S1 : qz_S} (hR : qy_Rel S1.1 0 g) (hW : qy_Wf g B) (hF : 300 < F) : ∃ S2 Q, gW_lookAtWaiting F S1 = some S2 ∧ S2.2 = S1.2 ∧ (∀ n j, ¬ (n.1 = 0 ∧ n.2.1 = 0 ∧ j = 4) → S2.1 n j = S1.1 n j) ∧ qy_Rel S2.1 0 (qy_pg Q g) ∧ qy_Wf (qy_pg Q g) B ∧
    ∀ S3 : qz_S, S3.1 (17, 0, 0) = g → ∃ S4, gM_looksAtAll F S3 = some S4 ∧ S4.2 = S3.2 ∧ qm_fs S3.1 S4.1 ∧ S4.1 (17, 0, 0) = qy_pg Q g := by
  obtain ⟨Q, a1, a2⟩ := qy_lookC (F := F) (S := S1) hR hW (by omega)
  refine ⟨_, Q, a1, rfl, ?_, qy_pfR hR, qy_pgW hW, ?_⟩
  · intro n j hn
    show qy_pf Q S1.1 n j = _
    unfold qy_pf
    rw [if_neg (fun q => hn ⟨q.1.1, q.1.2.1, q.1.2.2.2⟩)]
  · intro S3 c1
    obtain ⟨Q', f', b1, b2, b3, b4⟩ := qm_looksAll (F := F) (S := S3) (B := B) (by rw [c1]; exact hW) (by omega)
    rw [c1] at b3 b4
    have hp := hR.2.2.2.2.2.2.1
    have hQ : qy_pg Q' g = qy_pg Q g := by
      refine qy_pge (fun r hr => ?_)
      exact (qy_uniq hp a2 b4 (qy_ky g r + 1) r (Nat.lt_succ_self _) (hp.mem_iff.mpr hr)).symm
    refine ⟨_, b1, rfl, ?_, b3.trans hQ⟩
    intro n j n17 n21 _ _
    exact b2 n j n17 n21
theorem qy_fw4 {S1 : qz_S} {i j : Nat} {x : Int32} : qy_fw 0 S1.1 (qz_wr S1 (0, 0, i) j x).1 := fun n k hn => wr_ne (fun q => hn (by rw [q.1]; exact ⟨rfl, Or.inl rfl⟩))
theorem qy_fwW {S1 : qz_S} {k i j : Nat} {x : Int32} (hk : k = 0 ∨ k = 4 ∨ k = 10 ∨ k = 11 ∨ k = 12) : qy_fw 0 S1.1 (qz_wr S1 (k, 0, i) j x).1 := fun n _ hn => wr_ne (fun q => hn (by rw [q.1]; exact ⟨rfl, hk⟩))
theorem qy_fwT {f1 f2 f3 : qz_F} {w : Nat} (h : qy_fw w f1 f2) (h' : qy_fw w f2 f3) : qy_fw w f1 f3 := fun n j hn => (h' n j hn).trans (h n j hn)
theorem qy_fwl {f1 f2 : qz_F} (h : ∀ n j, ¬ (n.1 = 0 ∧ n.2.1 = 0 ∧ j = 4) → f2 n j = f1 n j) : qy_fw 0 f1 f2 := fun n j hn => h n j (fun q => hn ⟨q.2.1, Or.inl q.1⟩)
theorem qm_fsW {S1 : qz_S} {j : Nat} {x : Int32} : qm_fs S1.1 (qz_wr S1 (17, 0, 0) j x).1 := fun n _ n17 _ _ _ => wr_ne (fun q => n17 q.1)
theorem qy_addEnd (hI : qy_Inv f0 B S) (hF : 1132 < F) (hB6 : B ≤ 60000) (a : Int32) : qy_Call f0 B (gX_addEnd F S a) (fun T => gM_addEnd F T a) := by
  have hR := hI.1.1
  have hW := hI.1.2
  have h10 := hW.2.1
  have h4 : S.1 (4, 0, 0) 0 = nI (qy_ec (S.1 (17, 0, 0))) := by rw [hR.1]; exact hW.1
  have hm4 : ∀ T : qz_S, T.1 (17, 0, 0) = S.1 (17, 0, 0) → (qz_wr T (6, 0, 0) 0 0).1 (17, 0, 0) 4 = nI (qy_ec (S.1 (17, 0, 0))) := fun T hT => by
    rw [wr_ne (fun q => qy_kn (by decide) q.1), hT]; exact hW.1
  by_cases ha : (0 : Int32) ≤ a ∧ a ≤ 1439
  · obtain ⟨k, hk, rfl⟩ := qy_of ha.1
    have hk2 : k ≤ 1439 := (qz_le_nI (a := k) (b := 1439) (by omega) (by decide)).mp ha.2
    have c1 : nI k < (1440 : Int32) := by rw [show (1440 : Int32) = nI 1440 from rfl, qy_lt (by omega) (by omega)]; omega
    have c2 : ¬ (gM_in S.1 (nI k) 0 1439 = 0) := by rw [qm_in]; exact fun q => q ha
    by_cases he : qy_ec (S.1 (17, 0, 0)) < 10
    · generalize hg : S.1 (17, 0, 0) = g at *
      have d1 : nI (qy_ec g) < (10 : Int32) := by rw [show (10 : Int32) = nI 10 from rfl, qy_lt (by omega) (by omega)]; exact he
      have d2 : ¬ nI (qy_ec g) = (10 : Int32) := by rw [show (10 : Int32) = nI 10 from rfl, qy_eq (by omega) (by omega)]; omega
      refine qy_act0 (F := F) (g := g) hI (Nat.le_refl B) hB6 hF hg (XC := fun R4 => Option.bind (gW_openEnd F R4 (nI k)) fun R6 => some (R6.1, R6.2)) (MC := fun R4 => if qz_xi ((13 : Int32) + (R4.1 ((17, 0, 0) : qz_N) 4)) 283 = true then (qz_let (qz_wr R4 ((17, 0, 0) : qz_N) (((13 : Int32) + (R4.1 ((17, 0, 0) : qz_N) 4))).toNatClampNeg (nI k)) fun S7 => qz_let (qz_wr S7 ((17, 0, 0) : qz_N) 4 ((S7.1 ((17, 0, 0) : qz_N) 4) + (1 : Int32))) fun S8 => some (((S8.1 ((17, 0, 0) : qz_N) 4) - (1 : Int32)), S8)) else none) ?_ ?_ ?_
      · unfold gX_addEnd
        rw [if_neg (qy_nn hk), if_pos c1, h4, if_pos d1]
      · intro S' hS'
        unfold gM_addEnd
        simp only [qz_let]
        have c2' : ¬ gM_in (qz_wr S' (6, 0, 0) 0 0).1 (nI k) 0 1439 = 0 := by rw [qm_in]; exact fun q => q ha
        rw [if_neg c2', hm4 S' hS', if_neg d2]
      · intro S1 k1 k2
        have h41 : S1.1 (4, 0, 0) 0 = nI (qy_ec g) := by rw [k1.1]; exact hW.1
        refine ⟨nI (qy_ec g), qz_wr (qz_wr S1 (10, 0, 0) (qy_ec g) (nI k)) (4, 0, 0) 0 (nI (qy_ec g) + 1), ?_, rfl, ?_, ?_⟩
        · unfold gW_openEnd
          rw [h41, if_neg (qy_nn (by omega)), if_pos d1, if_pos (qz_xi_nI he (by decide)), qz_cl_nI (by omega)]
          rfl
        · exact qy_fwT (qy_fwW (Or.inr (Or.inr (Or.inl rfl)))) (qy_fwW (Or.inr (Or.inl rfl)))
        · intro S3 c1 _
          have e1 : (13 : Int32) + S3.1 (17, 0, 0) 4 = nI (13 + qy_ec g) := by rw [c1, hW.1, show (13 : Int32) = nI 13 from rfl, qy_add]
          have e2 : (qz_wr S3 (17, 0, 0) (13 + qy_ec g) (nI k)).1 (17, 0, 0) 4 = nI (qy_ec g) := by rw [qm_wr17 (by omega), c1]; exact hW.1
          have hG : ∀ c, (qz_wr (qz_wr S3 (17, 0, 0) (13 + qy_ec g) (nI k)) (17, 0, 0) 4 (nI (qy_ec g) + 1)).1 (17, 0, 0) c = if c = 4 then nI (qy_ec g + 1) else if c = 13 + qy_ec g then nI k else g c := by
            intro c
            by_cases c4 : c = 4
            · rw [if_pos c4, c4, wr_eq, qz_nI1]
            · rw [if_neg c4, qm_wr17 c4]
              by_cases c5 : c = 13 + qy_ec g
              · rw [if_pos c5, c5, wr_eq]
              · rw [if_neg c5, qm_wr17 c5, c1]
          refine ⟨qz_wr (qz_wr S3 (17, 0, 0) (13 + qy_ec g) (nI k)) (17, 0, 0) 4 (nI (qy_ec g) + 1), ?_, rfl, ?_, ?_, ?_⟩
          · rw [e1, if_pos (qz_xi_nI (by omega) (by decide)), qz_cl_nI (by omega)]
            simp only [qz_let]
            rw [e2, wr_eq]
            have : nI (qy_ec g) + 1 - 1 = nI (qy_ec g) := by grind
            rw [this]
          · intro n j n17 _ _ _
            rw [wr_ne (fun q => n17 q.1), wr_ne (fun q => n17 q.1)]
          · have hec : ∀ i, i ≠ 0 → (qz_wr (qz_wr S1 (10, 0, 0) (qy_ec g) (nI k)) (4, 0, 0) 0 (nI (qy_ec g) + 1)).1 (4, 0, 0) i = S1.1 (4, 0, 0) i := fun i hi => by
              rw [wr_ne (fun q => hi q.2), wr_ne (fun q => qy_kn (by decide) q.1)]
            refine qy_RelL k1 (fun i j => ?_) (fun c h1 _ => ?_) ?_ hW.2.2.2.1 ?_ ?_ ?_ ?_ ?_ ?_
            · rw [wr_ne (fun q => qy_kn (by decide) q.1), wr_ne (fun q => qy_kn (by decide) q.1)]
            · rw [hG, if_neg (by omega), if_neg (by omega)]
            · rw [hG, if_neg (by omega), if_neg (by omega)]
            · rw [hG, if_pos rfl, wr_eq, qz_nI1]
            · rw [hG, if_neg (by omega), if_neg (by omega), hec 5 (by omega)]; exact k1.2.1
            · intro c hc
              rw [hG, if_neg (by omega), if_neg (by omega), hec _ (by omega)]; exact k1.2.2.1 c hc
            · intro i hi
              rw [hG, if_neg (by omega), wr_ne (fun q => qy_kn (by decide) q.1)]
              by_cases e : i = qy_ec g
              · rw [if_pos (by omega), e, wr_eq]
              · rw [if_neg (by omega), wr_ne (fun q => e q.2)]; exact k1.2.2.2.1 i hi
            · intro i hi
              rw [hG, if_neg (by omega), if_neg (by omega), wr_ne (fun q => qy_kn (by decide) q.1), wr_ne (fun q => qy_kn (by decide) q.1)]; exact k1.2.2.2.2.1 i hi
            · intro i hi
              rw [hG, if_neg (by omega), if_neg (by omega), wr_ne (fun q => qy_kn (by decide) q.1), wr_ne (fun q => qy_kn (by decide) q.1)]; exact k1.2.2.2.2.2.1 i hi
          · have hec : qy_ec ((qz_wr (qz_wr S3 (17, 0, 0) (13 + qy_ec g) (nI k)) (17, 0, 0) 4 (nI (qy_ec g) + 1)).1 (17, 0, 0)) = qy_ec g + 1 := by
              have := hG 4
              rw [if_pos rfl] at this
              unfold qy_ec at this ⊢
              rw [this]
              exact qz_cl_nI (by unfold qy_ec at he; omega)
            refine qy_WfL hW (fun c h1 _ => ?_) ?_ ?_ ?_ ?_ ?_ ?_ ?_ ?_
            · rw [hG, if_neg (by omega), if_neg (by omega)]
            · rw [hG, if_neg (by omega), if_neg (by omega)]
            · rw [hG, if_neg (by omega), if_neg (by omega)]
            · rw [hec, hG, if_pos rfl]
            · rw [hec]; omega
            · rw [hec]; omega
            · rw [hG, if_neg (by omega), if_neg (by omega)]; exact hW.2.2.2.2.2.1
            · intro i hi
              rw [hG, if_neg (by omega)]
              by_cases e : i = qy_ec g
              · rw [if_pos (by omega)]; exact ⟨k, by omega, rfl⟩
              · rw [if_neg (by omega)]; exact hW.2.2.2.2.2.2.1 i hi
            · intro l e hl he'
              rw [hec, hG, if_neg (by omega), if_neg (by omega)]
              rcases hW.2.2.2.2.2.2.2.1 l e hl he' with h | ⟨o, b1, b2, b3, b4, b5⟩
              · exact Or.inl h
              · exact Or.inr ⟨o, by omega, by omega, b3, b4, by rw [hG, if_neg (by omega), if_neg (by omega)]; exact b5⟩
    · have e10 : qy_ec (S.1 (17, 0, 0)) = 10 := by omega
      rw [e10] at h4 hm4
      refine qy_no (v := -3) hI ?_ ?_
      · unfold gX_addEnd
        rw [if_neg (qy_nn hk), if_pos c1, h4, if_neg (by decide)]
      · unfold gM_addEnd
        simp only [qz_let]
        have c2' : ¬ gM_in (qz_wr S (6, 0, 0) 0 0).1 (nI k) 0 1439 = 0 := by rw [qm_in]; exact fun q => q ha
        rw [if_neg c2', hm4 S rfl, if_pos (show nI 10 = (10 : Int32) from rfl)]
  · refine qy_no (v := -2) hI ?_ ?_
    · unfold gX_addEnd
      by_cases h0 : a < 0
      · rw [if_pos h0]
      · rw [if_neg h0, if_neg]
        intro q
        apply ha
        obtain ⟨k, hk, rfl⟩ := qy_of (Int32.not_lt.mp h0)
        rw [show (1440 : Int32) = nI 1440 from rfl, qy_lt (by omega) (by omega)] at q
        exact ⟨qy_ge0 hk, (qz_le_nI (a := k) (b := 1439) (by omega) (by decide)).mpr (by omega)⟩
    · unfold gM_addEnd
      simp only [qz_let]
      have c2' : gM_in (qz_wr S (6, 0, 0) 0 0).1 a 0 1439 = 0 := by rw [qm_in]; exact ha
      rw [if_pos c2']
end QYU
