/-! acts: stay -/
def qy_us (N a : Int32) (r : Nat → Int32) : Nat → Int32 := if r 0 = N then (fun c => if c = 1 then a else if c = 4 then 0 else r c) else r
section QYZ
variable {F B B' m : Nat} {f0 f f' : qz_F} {g g' : Nat → Int32} {S S' : qz_S}
theorem qy_stay (hI : qy_Inv f0 B S) (hF : 1132 < F) (hB6 : B ≤ 60000) (a a1 : Int32) : qy_Call f0 B (gX_stay F S a a1) (fun T => gM_stay F T a a1) := by
  have hW := hI.1.2
  have hR := hI.1.1
  have h30 := hW.2.2.2.1
  have h10 := hW.2.1
  have e17 : ∀ T : qz_S, (qz_wr T (6, 0, 0) 0 0).1 (17, 0, 0) = T.1 (17, 0, 0) := fun T => funext fun j => wr_ne (fun q => qy_kn (by decide) q.1)
  generalize hg : S.1 (17, 0, 0) = g at *
  rcases qy_find (F := F) hR hW (by omega) a with ⟨x, mm⟩ | ⟨i, k, hi, hk, x, hl, h0, hrr, mm⟩
  · refine qy_no (v := -1) hI ?_ ?_
    · unfold gX_stay
      rw [x]
      rfl
    · unfold gM_stay
      simp only [qz_let]
      rw [mm _ ((e17 S).trans hg)]
      rfl
  · have n5 : ¬ nI k = -5 := qy_n5 (by omega)
    have hk30 : k < 30 := by omega
    have mE : ∀ T : qz_S, T.1 (17, 0, 0) = g → ∃ v, gM_isEnd F T.1 a1 = some v ∧ (v = 0) = ¬ (0 ≤ a1 ∧ a1 < g 4) := fun T hT => by
      obtain ⟨v, e1, e2⟩ := qm_isEnd (F := F) (f := T.1) (B := B) (by rw [hT]; exact hW) a1
      rw [hT] at e2
      exact ⟨v, e1, e2⟩
    by_cases h1 : 0 ≤ a1 ∧ a1 < g 4
    · have x2 : ¬ gW_hasEnd S.1 a1 = 0 := by rw [qy_hasEnd hR]; exact fun q => q h1
      have hend : S.1 (0, 0, i) 1 = qy_rm g k 1 := by
        rw [← hrr]
        rfl
      by_cases hs : qy_rm g k 1 = a1
      · refine qy_no (v := -5) hI ?_ ?_
        · unfold gX_stay
          rw [x]
          simp only [Option.bind_some, Option.elim_some]
          rw [if_neg x2, hend, if_pos hs]
        · obtain ⟨v, v1, v2⟩ := mE _ ((e17 S).trans hg)
          unfold gM_stay
          simp only [qz_let]
          rw [mm _ ((e17 S).trans hg)]
          simp only [Option.bind_some]
          rw [if_neg n5, v1]
          simp only [Option.bind_some]
          rw [if_neg (by rw [v2]; exact fun q => q h1), qm_o1 hk30, e17, hg]
          simp only [Option.bind_some]
          rw [if_pos hs]
      · refine qy_act0 (F := F) (g := g) hI (Nat.le_refl B) hB6 hF hg
          (XC := fun R6 => qz_let (qz_wr R6 ((0, 0, i) : qz_N) 1 a1) fun S8 => qz_let (qz_wr S8 ((0, 0, i) : qz_N) 4 (0 : Int32)) fun S9 => Option.bind (gW_lookAtWaiting F S9) fun R10 => if (R10.1 ((0, 0, i) : qz_N) 4) = 0 then (some ((0 : Int32), R10)) else (some ((1 : Int32), R10)))
          (MC := fun R11 => Option.bind (gM_lay F R11 (nI k) (1 : Int32) a1) fun R13 => Option.bind (gM_lay F R13 (nI k) (4 : Int32) (0 : Int32)) fun R15 => Option.bind (gM_looksAtAll F R15) fun R17 => Option.bind (gM_of F R17.1 (nI k) (4 : Int32)) fun x19 => some (x19, R17)) ?_ ?_ ?_
        · unfold gX_stay
          rw [x]
          simp only [Option.bind_some, Option.elim_some]
          rw [if_neg x2, hend, if_neg hs]
        · intro S' hS'
          obtain ⟨v, v1, v2⟩ := mE _ ((e17 S').trans hS')
          unfold gM_stay
          simp only [qz_let]
          rw [mm _ ((e17 S').trans hS')]
          simp only [Option.bind_some]
          rw [if_neg n5, v1]
          simp only [Option.bind_some]
          rw [if_neg (by rw [v2]; exact fun q => q h1), qm_o1 hk30, e17, hS']
          simp only [Option.bind_some]
          rw [if_neg hs]
        · intro S1 k1 k2
          have hrc1 : ∀ j, qy_rc S1.1 0 j = qy_rc S.1 0 j := by
            intro j
            funext c
            unfold qy_rc
            rw [k2 _ _ (fun q => absurd q.1 (show ¬ 1 ≤ 0 by decide)) (qy_kn (by decide))]
          obtain ⟨e, he, rfl⟩ := qy_isE hW h1
          obtain ⟨S2a, s1⟩ : ∃ S2a, S2a = qz_wr (qz_wr S1 (0, 0, i) 1 (nI e)) (0, 0, i) 4 0 := ⟨_, rfl⟩
          have s3 : ∀ n j, n ≠ (0, 0, i) → S2a.1 n j = S1.1 n j := fun n j hn => by
            rw [s1, wr_ne (fun q => hn q.1), wr_ne (fun q => hn q.1)]
          have s4 : ∀ c, S2a.1 (0, 0, i) c = if c = 1 then nI e else if c = 4 then 0 else S1.1 (0, 0, i) c := by
            intro c
            rw [s1]
            by_cases c1 : c = 1
            · rw [if_pos c1, c1, wr_ne (fun q => absurd q.2 (by decide)), wr_eq]
            · rw [if_neg c1]
              by_cases c4 : c = 4
              · rw [if_pos c4, c4, wr_eq]
              · rw [if_neg c4, wr_ne (fun q => c4 q.2), wr_ne (fun q => c1 q.2)]
          obtain ⟨G1, hG1⟩ : ∃ G1 : Nat → Int32, G1 = (fun c => if c = 43 + 8 * k + 4 then 0 else if c = 43 + 8 * k + 1 then nI e else g c) := ⟨_, rfl⟩
          have hGlo : ∀ c, c < 43 → G1 c = g c := fun c h1 => by
            rw [hG1]
            show (if _ then _ else _) = _
            rw [if_neg (by omega), if_neg (by omega)]
          have hGn : qy_n G1 = qy_n g := by unfold qy_n; rw [hGlo 6 (by decide)]
          have hec : qy_ec G1 = qy_ec g := by unfold qy_ec; rw [hGlo 4 (by decide)]
          have hr0 : ∀ j, j ≠ k → qy_rm G1 j = qy_rm g j := by
            intro j hj
            funext c
            unfold qy_rm
            by_cases hc : c < 8
            · rw [if_pos hc, if_pos hc, hG1]
              show (if _ then _ else _) = _
              rw [if_neg (by omega), if_neg (by omega)]
            · rw [if_neg hc, if_neg hc]
          have hrk : ∀ c, qy_rm G1 k c = if c = 1 then nI e else if c = 4 then 0 else qy_rm g k c := by
            intro c
            unfold qy_rm
            by_cases hc : c < 8
            · rw [if_pos hc, if_pos hc, hG1]
              show (if _ then _ else _) = _
              by_cases c1 : c = 1
              · rw [if_neg (by omega), if_pos (by omega), if_pos c1]
              · rw [if_neg c1]
                by_cases c4 : c = 4
                · rw [if_pos (by omega), if_pos c4]
                · rw [if_neg (by omega), if_neg (by omega), if_neg c4]
            · rw [if_neg hc, if_neg hc, if_neg (by omega), if_neg (by omega)]
          have hnum : ∀ j, j < qy_n g → (qy_rm g j 0 = a ↔ j = k) := by
            intro j hj
            have ek : qy_rm g k 0 = a := by rw [← hrr]; exact h0
            refine ⟨fun q => ?_, fun q => by rw [q]; exact ek⟩
            have a1 := qm_sorted hW hj hk
            have a2 := qm_sorted hW hk hj
            rw [q, ek] at a1 a2
            have n1 : ¬ j < k := fun q => Int32.lt_irrefl (by rw [a1]; exact q)
            have n2 : ¬ k < j := fun q => Int32.lt_irrefl (by rw [a2]; exact q)
            omega
          have hLm : qy_Lm G1 = (qy_Lm g).map (qy_us a (nI e)) := by
            unfold qy_Lm
            rw [hGn, List.map_map]
            refine List.map_congr_left (fun j hj => ?_)
            have hj := List.mem_range.mp hj
            show qy_rm G1 j = qy_us a (nI e) (qy_rm g j)
            unfold qy_us
            by_cases ej : j = k
            · rw [if_pos ((hnum j hj).mpr ej), ej]
              exact funext hrk
            · rw [if_neg (fun q => ej ((hnum j hj).mp q)), hr0 j ej]
          have hslot : ∀ j, j < 30 → qy_lv (qy_rc S1.1 0 j) = true → (qy_rc S1.1 0 j 0 = a ↔ j = i) := by
            intro j hj hlj
            refine ⟨fun q => ?_, fun q => by rw [q, hrc1]; exact h0⟩
            exact qy_slot k1 hW hj hi hlj (by rw [hrc1]; exact hl) (q.trans (by rw [hrc1]; exact h0.symm))
          have hLc : qy_Lc S2a.1 0 = (qy_Lc S1.1 0).map (qy_us a (nI e)) := by
            refine qy_fmL (qy_us a (nI e)) (qy_rc S1.1 0) (qy_rc S2a.1 0) (List.range 30) (fun j hj => ?_) (fun j hj hlj => ?_)
            · have hj := List.mem_range.mp hj
              have : qy_rc S2a.1 0 j 0 = qy_rc S1.1 0 j 0 := by
                show S2a.1 (0, 0, j) 0 = S1.1 (0, 0, j) 0
                by_cases ej : j = i
                · rw [ej, s4, if_neg (by decide), if_neg (by decide)]
                · exact s3 _ _ (fun q => ej (congrArg (fun n : qz_N => n.2.2) q))
              unfold qy_lv
              rw [this]
            · have hj := List.mem_range.mp hj
              unfold qy_us
              by_cases ej : j = i
              · rw [if_pos ((hslot j hj hlj).mpr ej), ej]
                funext c
                unfold qy_rc
                by_cases hc : c < 8
                · rw [if_pos hc, if_pos hc, s4]
                · rw [if_neg hc, if_neg hc, if_neg (by omega), if_neg (by omega)]
              · rw [if_neg (fun q => ej ((hslot j hj hlj).mp q))]
                funext c
                unfold qy_rc
                rw [s3 _ _ (fun q => ej (congrArg (fun n : qz_N => n.2.2) q))]
          have k1' := k1
          obtain ⟨h1, h2, h3, h4, h5, h6, h7, h8, h9⟩ := k1
          have hR2 : qy_Rel S2a.1 0 G1 := by
            refine ⟨?_, ?_, ?_, ?_, ?_, ?_, ?_, ?_, ?_⟩
            · rw [s3 _ _ (qy_kn (by decide)), hGlo 4 (by decide)]; exact h1
            · rw [s3 _ _ (qy_kn (by decide)), hGlo 5 (by decide)]; exact h2
            · intro c hc
              rw [s3 _ _ (qy_kn (by decide)), hGlo _ (by omega)]; exact h3 c hc
            · intro j hj
              rw [s3 _ _ (qy_kn (by decide)), hGlo _ (by omega)]; exact h4 j hj
            · intro j hj
              rw [s3 _ _ (qy_kn (by decide)), hGlo _ (by omega)]; exact h5 j hj
            · intro j hj
              rw [s3 _ _ (qy_kn (by decide)), hGlo _ (by omega)]; exact h6 j hj
            · rw [hLc, hLm]
              exact h7.map _
            · intro j hj
              by_cases ej : j = i
              · rw [ej, s4]
                exact Or.inl rfl
              · rw [s3 _ _ (fun q => ej (congrArg (fun n : qz_N => n.2.2) q))]
                exact h8 j hj
            · intro j hj hj0 c hc
              by_cases ej : j = i
              · rw [ej, s4, if_neg (by decide), if_neg (by decide)] at hj0
                rw [ej, s4, if_neg (by omega), if_neg (by omega)]
                exact h9 i hi hj0 c hc
              · rw [s3 _ _ (fun q => ej (congrArg (fun n : qz_N => n.2.2) q))] at hj0 ⊢
                exact h9 j hj hj0 c hc
          have hW2 : qy_Wf G1 B := by
            refine ⟨?_, ?_, ?_, ?_, ?_, ?_, ?_, ?_, ?_, ?_, hW.2.2.2.2.2.2.2.2.2.2⟩
            · rw [hec, hGlo 4 (by decide)]; exact hW.1
            · rw [hec]; exact hW.2.1
            · rw [hGn, hGlo 6 (by decide)]; exact hW.2.2.1
            · rw [hGn]; exact h30
            · rw [hGlo 5 (by decide)]; exact hW.2.2.2.2.1
            · rw [hGlo 1 (by decide)]; exact hW.2.2.2.2.2.1
            · intro j hj
              rw [hGlo _ (by omega)]; exact hW.2.2.2.2.2.2.1 j hj
            · intro l e' hl' he'
              rw [hec, hGlo _ (by omega)]
              rcases hW.2.2.2.2.2.2.2.1 l e' hl' he' with h | ⟨o, b1, b2, b3, b4, b5⟩
              · exact Or.inl h
              · exact Or.inr ⟨o, b1, b2, b3, b4, by rw [hGlo _ (by omega)]; exact b5⟩
            · intro j hj
              rw [hGn] at hj
              have hw := hW.2.2.2.2.2.2.2.2.1 j hj
              by_cases ej : j = k
              · subst ej
                obtain ⟨⟨N, hN, w1, w2⟩, _, w4, w5, _⟩ := hw
                refine ⟨⟨N, hN, ?_, ?_⟩, ⟨e, by rw [hec]; exact he, ?_⟩, ?_, ?_, ?_⟩
                · rw [hrk]; exact w1
                · rw [hrk, hGlo 5 (by decide)]; exact w2
                · rw [hrk]; rfl
                · rw [hrk]; exact w4
                · rw [hrk]; exact w5
                · rw [hrk]; exact Or.inl rfl
              · rw [hr0 j ej]
                exact qy_WrD hec (hGlo 5 (by decide)) hw
            · intro j j' hjj hj'
              rw [hGn] at hj'
              have hz : ∀ t, qy_rm G1 t 0 = qy_rm g t 0 := by
                intro t
                by_cases et : t = k
                · rw [et, hrk, if_neg (by decide), if_neg (by decide)]
                · rw [hr0 t et]
              rw [hz, hz]
              exact hW.2.2.2.2.2.2.2.2.2.1 j j' hjj hj'
          obtain ⟨S2, Q, l1, l2, l3, l4, l5, l6⟩ := qy_look (F := F) hR2 hW2 (by omega)
          have hkn : k < qy_n (qy_pg Q G1) := by rw [qy_pgn, hGn]; exact hk
          have hn2 : qy_rc S2.1 0 i 0 = a := by
            show S2.1 (0, 0, i) 0 = a
            rw [l3 _ _ (fun q => absurd q.2.2 (by decide)), s4, if_neg (by decide), if_neg (by decide)]
            have : qy_rc S1.1 0 i 0 = a := by rw [hrc1]; exact h0
            exact this
          have hl2 : qy_lv (qy_rc S2.1 0 i) = true := by
            have := hl
            unfold qy_lv at this ⊢
            rw [hn2]
            rw [h0] at this
            exact this
          have hnk : qy_rm (qy_pg Q G1) k 0 = a := by
            rw [qy_pgr (by rw [hGn]; exact hk), qy_prc (by decide), hrk, if_neg (by decide), if_neg (by decide), ← hrr]
            exact h0
          have hsame : qy_rc S2.1 0 i = qy_rm (qy_pg Q G1) k := by
            have m1 : qy_rc S2.1 0 i ∈ qy_Lm (qy_pg Q G1) := l4.2.2.2.2.2.2.1.mem_iff.mp (qy_mLc.mpr ⟨i, hi, rfl, hl2⟩)
            exact qy_U l5 _ _ m1 (qy_mLm.mpr ⟨k, hkn, rfl⟩) (by rw [hn2, hnk])
          have h4s : S2.1 (0, 0, i) 4 = qy_rm (qy_pg Q G1) k 4 := congrFun hsame 4
          refine ⟨qy_rm (qy_pg Q G1) k 4, S2, ?_, ?_, ?_, ?_⟩
          · show Option.bind (gW_lookAtWaiting F (qz_wr (qz_wr S1 (0, 0, i) 1 (nI e)) (0, 0, i) 4 0)) _ = _
            rw [← s1, l1]
            simp only [Option.bind_some]
            rw [h4s]
            rcases (l5.2.2.2.2.2.2.2.2.1 k hkn).2.2.2.2 with q | q
            · rw [if_pos q, q]
            · rw [if_neg (by rw [q]; decide), q]
          · rw [l2, s1]
            rfl
          · refine qy_fwT ?_ (qy_fwl l3)
            intro n j hn
            exact s3 n j (fun q => hn (by rw [q]; exact ⟨rfl, Or.inl rfl⟩))
          · intro S3 c1 _
            have hG3 : (qz_wr (qz_wr S3 (17, 0, 0) (43 + 8 * k + 1) (nI e)) (17, 0, 0) (43 + 8 * k + 4) 0).1 (17, 0, 0) = G1 := by
              funext c
              rw [hG1]
              show _ = (if _ then _ else _)
              by_cases c4 : c = 43 + 8 * k + 4
              · rw [if_pos c4, c4, wr_eq]
              · rw [if_neg c4, qm_wr17 c4]
                by_cases c5 : c = 43 + 8 * k + 1
                · rw [if_pos c5, c5, wr_eq]
                · rw [if_neg c5, qm_wr17 c5, c1]
            obtain ⟨S4, m1, m2, m3, m4⟩ := l6 _ hG3
            have w1 : gM_lay F S3 (nI k) 1 (nI e) = some (qz_wr S3 (17, 0, 0) (43 + 8 * k + 1) (nI e)) := qm_lay (c := 1) hk30 (by decide) _
            have w4 : ∀ T : qz_S, gM_lay F T (nI k) 4 0 = some (qz_wr T (17, 0, 0) (43 + 8 * k + 4) 0) := fun T => qm_lay (c := 4) hk30 (by decide) _
            refine ⟨S4, ?_, m2, qm_fs_trans (qm_fs_trans qm_fsW qm_fsW) m3, by rw [m4]; exact l4, by rw [m4]; exact l5⟩
            rw [w1]
            simp only [Option.bind_some]
            rw [w4]
            simp only [Option.bind_some]
            rw [m1]
            simp only [Option.bind_some]
            rw [qm_o4 hk30, m4]
            rfl
    · refine qy_no (v := -1) hI ?_ ?_
      · have x2 : gW_hasEnd S.1 a1 = 0 := by rw [qy_hasEnd hR]; exact h1
        unfold gX_stay
        rw [x]
        simp only [Option.bind_some, Option.elim_some]
        rw [if_pos x2]
      · obtain ⟨v, v1, v2⟩ := mE _ ((e17 S).trans hg)
        unfold gM_stay
        simp only [qz_let]
        rw [mm _ ((e17 S).trans hg)]
        simp only [Option.bind_some]
        rw [if_neg n5, v1]
        simp only [Option.bind_some]
        rw [if_pos (by rw [v2]; exact h1)]
end QYZ
