/-! p24: the acts merge, part -/
section QVC
variable {F B B' m : Nat} {f0 f f' : qz_F} {g g' : Nat → Int32} {S S' : qz_S} {k : Option (Nat → Int32)}
theorem qv_merr (hW : qy_Wf g B) (hF : 30 < F) (a0 a1 a2 : Int32) :
    (∃ v, v < 0 ∧ ∀ f : qz_F, qy_Rel f 0 g → gX_mergingError F f a0 a1 a2 = some v) ∨
    (∃ l e o, l < 2 ∧ e < qy_ec g ∧ o < qy_ec g ∧ e ≠ o ∧ a0 = nI l ∧ a1 = nI e ∧ a2 = nI o ∧ qy_cm g l e o ∧ ∀ f : qz_F, qy_Rel f 0 g → gX_mergingError F f a0 a1 a2 = some 0) := by
  have h10 := hW.2.1
  by_cases hl : ∃ l, l < 2 ∧ a0 = nI l
  · have x1 : ∀ f : qz_F, ¬ gX_isLine f a0 = 0 := fun f => by rw [qy_line]; exact fun q => q hl
    obtain ⟨l, hl2, rfl⟩ := hl
    by_cases h1 : 0 ≤ a1 ∧ a1 < g 4
    · have x2 : ∀ f : qz_F, qy_Rel f 0 g → ¬ gW_hasEnd f a1 = 0 := fun f hR => by rw [qy_hasEnd hR]; exact fun q => q h1
      by_cases h2 : 0 ≤ a2 ∧ a2 < g 4
      · have x3 : ∀ f : qz_F, qy_Rel f 0 g → ¬ gW_hasEnd f a2 = 0 := fun f hR => by rw [qy_hasEnd hR]; exact fun q => q h2
        by_cases h3 : a1 = a2
        · refine Or.inl ⟨-2, by decide, fun f hR => ?_⟩
          unfold gX_mergingError
          rw [if_neg (x1 f), if_neg (x2 f hR), if_neg (x3 f hR), if_pos h3]
        · obtain ⟨e, he, rfl⟩ := qy_isE hW h1
          obtain ⟨o, ho, rfl⟩ := qy_isE hW h2
          have hne : e ≠ o := fun q => h3 (by rw [q])
          by_cases h4 : qy_cm g l e o
          · refine Or.inr ⟨l, e, o, hl2, he, ho, hne, rfl, rfl, rfl, h4, fun f hR => ?_⟩
            unfold gX_mergingError
            rw [if_neg (x1 f), if_neg (x2 f hR), if_neg (x3 f hR), if_neg h3, (qy_canM hR hW hF hl2 (by omega) (by omega)).1 h4]
            rfl
          · refine Or.inl ⟨-4, by decide, fun f hR => ?_⟩
            unfold gX_mergingError
            rw [if_neg (x1 f), if_neg (x2 f hR), if_neg (x3 f hR), if_neg h3, (qy_canM hR hW hF hl2 (by omega) (by omega)).2 h4]
            rfl
      · refine Or.inl ⟨-1, by decide, fun f hR => ?_⟩
        have x3 : gW_hasEnd f a2 = 0 := by rw [qy_hasEnd hR]; exact h2
        unfold gX_mergingError
        rw [if_neg (x1 f), if_neg (x2 f hR), if_pos x3]
    · refine Or.inl ⟨-1, by decide, fun f hR => ?_⟩
      have x2 : gW_hasEnd f a1 = 0 := by rw [qy_hasEnd hR]; exact h1
      unfold gX_mergingError
      rw [if_neg (x1 f), if_pos x2]
  · refine Or.inl ⟨-1, by decide, fun f hR => ?_⟩
    have x1 : gX_isLine f a0 = 0 := by rw [qy_line]; exact hl
    unfold gX_mergingError
    rw [if_pos x1]
/-- two places of the partners are laid -/
theorem qv_ties {l e o : Nat} {x y : Int32} {S1 : qz_S} (hR : qy_Rel S1.1 0 g) (hW : qy_Wf g B) (hl : l < 2) (he : e < 10) (ho : o < 10) :
    qy_Rel (qz_wr (qz_wr S1 (11, 0, 0) (10 * l + e) (qy_pc x)) (11, 0, 0) (10 * l + o) (qy_pc y)).1 0 (fun c => if c = 23 + 10 * l + o then y else if c = 23 + 10 * l + e then x else g c) := by
  have e0 : ∀ k i j, k ≠ 11 → (qz_wr (qz_wr S1 (11, 0, 0) (10 * l + e) (qy_pc x)) (11, 0, 0) (10 * l + o) (qy_pc y)).1 (k, 0, i) j = S1.1 (k, 0, i) j := fun k i j hk => by
    rw [wr_ne (fun q => qy_kn hk q.1), wr_ne (fun q => qy_kn hk q.1)]
  refine qy_RelL hR (fun i j => e0 _ _ _ (by decide)) (fun c h1 _ => ?_) ?_ hW.2.2.2.1 ?_ ?_ ?_ ?_ ?_ ?_
  · rw [if_neg (by omega), if_neg (by omega)]
  · rw [if_neg (by omega), if_neg (by omega)]
  · rw [if_neg (by omega), if_neg (by omega), e0 _ _ _ (by decide)]; exact hR.1
  · rw [if_neg (by omega), if_neg (by omega), e0 _ _ _ (by decide)]; exact hR.2.1
  · intro c hc
    rw [if_neg (by omega), if_neg (by omega), e0 _ _ _ (by decide)]; exact hR.2.2.1 c hc
  · intro i hi
    rw [if_neg (by omega), if_neg (by omega), e0 _ _ _ (by decide)]; exact hR.2.2.2.1 i hi
  · intro i hi
    by_cases h1 : i = 10 * l + o
    · rw [if_pos (by omega), h1, wr_eq]
    · rw [if_neg (by omega), wr_ne (fun q => h1 q.2)]
      by_cases h2 : i = 10 * l + e
      · rw [if_pos (by omega), h2, wr_eq]
      · rw [if_neg (by omega), wr_ne (fun q => h2 q.2)]; exact hR.2.2.2.2.1 i hi
  · intro i hi
    rw [if_neg (by omega), if_neg (by omega), e0 _ _ _ (by decide)]; exact hR.2.2.2.2.2.1 i hi
theorem qv_st0 (hW : qy_Wf g B) {e o : Nat} (he : e < 10) (ho : o < qy_ec g) : 0 ≤ qy_st g e (nI o) := by
  have h10 := hW.2.1
  obtain ⟨m1, hm1, a1, _⟩ := qy_min hW he
  obtain ⟨m2, hm2, a2, _⟩ := qy_min hW (show o < 10 by omega)
  rw [qy_stE hW ho]
  split
  · rw [a2]; exact qy_ge0 (by omega)
  · rw [a1]; exact qy_ge0 (by omega)
theorem qv_merge (hWv : qv_Wf g B) (hF : 30 < F) (a0 a1 a2 : Int32) : ∃ v g', qv_Act F f0 B B k g (fun S => gX_merge F S a0 a1 a2) v g' := by
  have hW := hWv.1
  have h10 := hW.2.1
  rcases qv_merr (F := F) hW hF a0 a1 a2 with ⟨v, hv, x⟩ | ⟨l, e, o, hl, he, ho, hne, rfl, rfl, rfl, hcm, x⟩
  · refine qv_no (v := v) hWv hv (fun S hR _ => ?_)
    show gX_merge F S a0 a1 a2 = _
    unfold gX_merge
    rw [x S.1 hR]
    simp only [Option.bind_some]
    rw [if_neg (fun q => by rw [q] at hv; exact absurd hv (by decide))]
  · have he10 : e < 10 := by omega
    have ho10 : o < 10 := by omega
    have z0 := qy_pcn5 (qy_0pc hW hl he10) hcm.1
    have z1 := qy_pcn5 (qy_0pc hW hl ho10) hcm.2.1
    obtain ⟨G1, hG1⟩ : ∃ G1 : Nat → Int32, G1 = (fun c => if c = 23 + 10 * l + o then nI (e + 1) else if c = 23 + 10 * l + e then nI (o + 1) else g c) := ⟨_, rfl⟩
    have hGlo : ∀ c, c < 23 → G1 c = g c := fun c hc => by
      rw [hG1]
      show (if _ then _ else _) = _
      rw [if_neg (by omega), if_neg (by omega)]
    have hec : qy_ec G1 = qy_ec g := by unfold qy_ec; rw [hGlo 4 (by decide)]
    have hW2 : qy_Wf G1 B := by
      rw [hG1]
      refine qy_WfT hW hl he10 ho10 (fun l' e' hl' he' => ?_)
      simp only
      by_cases b1 : 23 + 10 * l' + e' = 23 + 10 * l + o
      · rw [if_pos b1]
        have el : l' = l := by omega
        have ee : e' = o := by omega
        subst el
        subst ee
        exact Or.inr ⟨e, he, ho, hne, rfl, by rw [if_neg (by omega), if_pos rfl]⟩
      · rw [if_neg b1]
        by_cases b2 : 23 + 10 * l' + e' = 23 + 10 * l + e
        · rw [if_pos b2]
          have el : l' = l := by omega
          have ee : e' = e := by omega
          subst el
          subst ee
          exact Or.inr ⟨o, ho, he, hne.symm, rfl, by rw [if_pos rfl]⟩
        · rw [if_neg b2]
          rcases hW.2.2.2.2.2.2.2.1 l' e' hl' he' with h | ⟨o', d1, d2, d3, d4, d5⟩
          · exact Or.inl h
          · refine Or.inr ⟨o', d1, d2, d3, d4, ?_⟩
            have n0 : ¬ nI (e' + 1) = 0 := by rw [show (0 : Int32) = nI 0 from rfl, qy_eq (by omega) (by omega)]; omega
            rw [if_neg (fun q => n0 (by rw [← d5, q]; exact z1)), if_neg (fun q => n0 (by rw [← d5, q]; exact z0))]
            exact d5
    have hS2 : qv_Ws G1 := fun j hj => by rw [hGlo j (by omega)]; exact hWv.2 j hj
    obtain ⟨G2, hW3, ⟨Q, eQ⟩, l0⟩ := qv_look (F := F) (show qv_Wf G1 B from ⟨hW2, hS2⟩) hF
    have hec2 : qy_ec G2 = qy_ec g := by rw [eQ, qy_pgec, hec]
    refine ⟨qy_st G2 e (nI o), G2, hW3, Or.inr ⟨qv_st0 hW3.1 he10 (by rw [hec2]; exact ho), fun S hR hJ => ⟨fun R4 => Option.bind (gW_tie F R4 (nI l) (nI e) (nI o)) fun R6 => Option.bind (gW_tie F R6 (nI l) (nI o) (nI e)) fun R8 => Option.bind (gW_lookAtWaiting F R8) fun R10 => Option.bind (gW_startOf F R10.1 (nI e) (nI o)) fun x12 => some (x12, R10), ?_, fun S1 k1 k2 => ?_⟩⟩⟩
    · show gX_merge F S (nI l) (nI e) (nI o) = _
      unfold gX_merge
      rw [x S.1 hR]
      rfl
    · have hR2 := qv_ties (x := nI (o + 1)) (y := nI (e + 1)) k1 hW hl he10 ho10
      rw [qy_pc1 ho10, qy_pc1 he10, ← hG1] at hR2
      obtain ⟨S2, l1, l2, l3, l4⟩ := l0 _ hR2
      have hs := qy_start (F := F) l4 hW3.1 he10 (nI o)
      refine ⟨S2, ?_, l2, qy_fwT (qy_fwT (qy_fwW (by decide)) (qy_fwW (by decide))) (qy_fwl l3), l4⟩
      show (Option.bind (gW_tie F S1 (nI l) (nI e) (nI o)) fun R6 => _) = _
      rw [qy_tie F S1 hl he10]
      simp only [Option.bind_some]
      rw [qy_tie F _ hl ho10]
      simp only [Option.bind_some]
      rw [l1]
      simp only [Option.bind_some]
      rw [hs]
      rfl
theorem qv_part (hWv : qv_Wf g B) (hF : 30 < F) (a0 a1 : Int32) : ∃ v g', qv_Act F f0 B B k g (fun S => gX_part F S a0 a1) v g' := by
  have hW := hWv.1
  have h10 := hW.2.1
  by_cases hl : ∃ l, l < 2 ∧ a0 = nI l
  · have x1 : ∀ f : qz_F, ¬ gX_isLine f a0 = 0 := fun f => by rw [qy_line]; exact fun q => q hl
    obtain ⟨l, hl, rfl⟩ := hl
    by_cases h1 : 0 ≤ a1 ∧ a1 < g 4
    · have x2 : ∀ f : qz_F, qy_Rel f 0 g → ¬ gW_hasEnd f a1 = 0 := fun f hR => by rw [qy_hasEnd hR]; exact fun q => q h1
      obtain ⟨e, he, rfl⟩ := qy_isE hW h1
      have he10 : e < 10 := by omega
      rcases qy_pac hW hl he10 with ⟨h5, _⟩ | ⟨o, ho, _, hne, b1, b2, b3, h5⟩
      · refine qv_no (v := -5) hWv (by decide) (fun S hR _ => ?_)
        show gX_part F S (nI l) (nI e) = _
        unfold gX_part
        rw [if_neg (x1 _), if_neg (x2 _ hR), qy_partner hR hl he10]
        simp only [Option.bind_some]
        rw [if_pos h5]
      · have ho10 : o < 10 := by omega
        have b4 : g (23 + 10 * l + o) = nI (e + 1) := by
          rcases qy_pac hW hl ho10 with ⟨q, _⟩ | ⟨o2, ho2, _, _, q1, _, q3, _⟩
          · rw [b2] at q
            exact absurd q (qy_n5 (by omega))
          · rw [b2, qy_eq (by omega) (by omega)] at q1
            rw [q3, q1]
        obtain ⟨G1, hG1⟩ : ∃ G1 : Nat → Int32, G1 = (fun c => if c = 23 + 10 * l + o then 0 else if c = 23 + 10 * l + e then 0 else g c) := ⟨_, rfl⟩
        have hW2 : qy_Wf G1 B := by
          rw [hG1]
          refine qy_WfT hW hl he10 ho10 (fun l' e' hl' he' => ?_)
          simp only
          by_cases c1 : 23 + 10 * l' + e' = 23 + 10 * l + o
          · rw [if_pos c1]; exact Or.inl rfl
          · rw [if_neg c1]
            by_cases c2 : 23 + 10 * l' + e' = 23 + 10 * l + e
            · rw [if_pos c2]; exact Or.inl rfl
            · rw [if_neg c2]
              rcases hW.2.2.2.2.2.2.2.1 l' e' hl' he' with h | ⟨o', d1, d2, d3, d4, d5⟩
              · exact Or.inl h
              · refine Or.inr ⟨o', d1, d2, d3, d4, ?_⟩
                rw [if_neg, if_neg]
                · exact d5
                · intro q
                  rw [q, b3, qy_eq (by omega) (by omega)] at d5
                  omega
                · intro q
                  rw [q, b4, qy_eq (by omega) (by omega)] at d5
                  omega
        have hS2 : qv_Ws G1 := fun j hj => by
          rw [hG1]
          show qy_vs j (if _ then _ else _)
          rw [if_neg (by omega), if_neg (by omega)]
          exact hWv.2 j hj
        obtain ⟨G2, hW3, _, l0⟩ := qv_look (F := F) (show qv_Wf G1 B from ⟨hW2, hS2⟩) hF
        refine ⟨nI o, G2, hW3, Or.inr ⟨qy_ge0 (by omega), fun S hR hJ => ⟨fun R6 => Option.bind (gW_tie F R6 (nI l) (nI e) (-5 : Int32)) fun R8 => Option.bind (gW_tie F R8 (nI l) (nI o) (-5 : Int32)) fun R10 => Option.bind (gW_lookAtWaiting F R10) fun R12 => some (nI o, R12), ?_, fun S1 k1 k2 => ?_⟩⟩⟩
        · show gX_part F S (nI l) (nI e) = _
          unfold gX_part
          rw [if_neg (x1 _), if_neg (x2 _ hR), qy_partner hR hl he10]
          simp only [Option.bind_some]
          rw [if_neg h5, b1]
        · have hR2 := qv_ties (x := 0) (y := 0) k1 hW hl he10 ho10
          have hpc : qy_pc 0 = -5 := if_pos rfl
          rw [hpc, ← hG1] at hR2
          obtain ⟨S2, l1, l2, l3, l4⟩ := l0 _ hR2
          refine ⟨S2, ?_, l2, qy_fwT (qy_fwT (qy_fwW (by decide)) (qy_fwW (by decide))) (qy_fwl l3), l4⟩
          show (Option.bind (gW_tie F S1 (nI l) (nI e) (-5 : Int32)) fun R6 => _) = _
          rw [qy_tie F S1 hl he10]
          simp only [Option.bind_some]
          rw [qy_tie F _ hl ho10]
          simp only [Option.bind_some]
          rw [l1]
          rfl
    · refine qv_no (v := -1) hWv (by decide) (fun S hR _ => ?_)
      have x2 : gW_hasEnd S.1 a1 = 0 := by rw [qy_hasEnd hR]; exact h1
      show gX_part F S (nI l) a1 = _
      unfold gX_part
      rw [if_neg (x1 _), if_pos x2]
  · refine qv_no (v := -1) hWv (by decide) (fun S hR _ => ?_)
    have x1 : gX_isLine S.1 a0 = 0 := by rw [qy_line]; exact hl
    show gX_part F S a0 a1 = _
    unfold gX_part
    rw [if_pos x1]
end QVC
