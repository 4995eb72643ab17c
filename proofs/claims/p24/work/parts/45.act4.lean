/-! p24: the act book -/
section QVE
variable {F B B' m : Nat} {f0 f f' : qz_F} {g g' : Nat → Int32} {S S' : qz_S} {kk : Option (Nat → Int32)}
theorem qv_enter (hW : qy_Wf g B) (hF : 30 < F) (hB6 : B + 1 ≤ 60000) {l e s : Nat} (hl : l < 2) (he : e < qy_ec g) (hs1 : 1 ≤ s) (hs9 : s ≤ 9) (hn : qy_n g < 30) :
    ∃ (N : Int32) (G1 : Nat → Int32), 0 ≤ N ∧ qy_Wf G1 (B + 1) ∧ (∀ c, c < 4 → G1 c = g c) ∧ ∀ S : qz_S, qy_Rel S.1 0 g → ∃ S2, gW_enter F S (nI e) (nI l) (nI s) = some (N, S2) ∧ S2.2 = S.2 ∧ qy_fw 0 S.1 S2.1 ∧ qy_Rel S2.1 0 G1 := by
  have h10 := hW.2.1
  have h30 := hW.2.2.2.1
  obtain ⟨x, hx, h5⟩ := hW.2.2.2.2.1
  obtain ⟨p, hpv⟩ : ∃ p : Int32, p = if qy_rs g (qy_Lm g) l e (nI s) (-1) = 0 then 1 else 0 := ⟨_, rfl⟩
  obtain ⟨G1, hG1⟩ : ∃ G1 : Nat → Int32, G1 = (fun c => if c = 5 then nI (x + 1) else if c = 6 then nI (qy_n g + 1) else if 43 + 8 * qy_n g ≤ c ∧ c < 43 + 8 * qy_n g + 8 then qy_nr (nI x) (nI e) (nI l) (nI s) p (c - (43 + 8 * qy_n g)) else g c) := ⟨_, rfl⟩
  have hG5 : G1 5 = nI (x + 1) := by rw [hG1]; rfl
  have hG6 : G1 6 = nI (qy_n g + 1) := by rw [hG1]; rfl
  have hGlo : ∀ c, c < 43 → c ≠ 5 → c ≠ 6 → G1 c = g c := fun c h1 h2 h3 => by
    rw [hG1]
    show (if _ then _ else _) = _
    rw [if_neg h2, if_neg h3, if_neg (by omega)]
  have hGn : qy_n G1 = qy_n g + 1 := by
    unfold qy_n at hG6 ⊢
    rw [hG6]
    exact qz_cl_nI (by unfold qy_n at h30; omega)
  have hec : qy_ec G1 = qy_ec g := by unfold qy_ec; rw [hGlo 4 (by decide) (by decide) (by decide)]
  have hr0 : ∀ j, j < qy_n g → qy_rm G1 j = qy_rm g j := by
    intro j hj
    funext c
    unfold qy_rm
    by_cases hc : c < 8
    · rw [if_pos hc, if_pos hc, hG1]
      show (if _ then _ else _) = _
      rw [if_neg (by omega), if_neg (by omega), if_neg (by omega)]
    · rw [if_neg hc, if_neg hc]
  have hrn : qy_rm G1 (qy_n g) = qy_nr (nI x) (nI e) (nI l) (nI s) p := by
    funext c
    unfold qy_rm
    by_cases hc : c < 8
    · rw [if_pos hc, hG1]
      show (if _ then _ else _) = _
      rw [if_neg (by omega), if_neg (by omega), if_pos (by omega)]
      congr 1
      omega
    · rw [if_neg hc]
      unfold qy_nr
      rw [if_neg (by omega), if_neg (by omega), if_neg (by omega), if_neg (by omega), if_neg (by omega)]
  have hLm : qy_Lm G1 = qy_Lm g ++ [qy_nr (nI x) (nI e) (nI l) (nI s) p] := by
    unfold qy_Lm
    rw [hGn, List.range_succ, List.map_append, List.map_singleton, hrn]
    congr 1
    exact List.map_congr_left (fun j hj => hr0 j (List.mem_range.mp hj))
  have hx6 : x < 2147483648 := by omega
  have hlt : nI x < nI (x + 1) := by
    rw [qy_lt (by omega) (by omega)]
    omega
  have hW2 : qy_Wf G1 (B + 1) := by
    refine ⟨?_, ?_, ?_, ?_, ?_, ?_, ?_, ?_, ?_, ?_, hB6⟩
    · rw [hec, hGlo 4 (by decide) (by decide) (by decide)]; exact hW.1
    · rw [hec]; exact hW.2.1
    · rw [hGn]; exact hG6
    · rw [hGn]; omega
    · exact ⟨x + 1, by omega, hG5⟩
    · rw [hGlo 1 (by decide) (by decide) (by decide)]; exact hW.2.2.2.2.2.1
    · intro j hj
      rw [hGlo _ (by omega) (by omega) (by omega)]; exact hW.2.2.2.2.2.2.1 j hj
    · intro l' e' hl' he'
      rw [hec, hGlo _ (by omega) (by omega) (by omega)]
      rcases hW.2.2.2.2.2.2.2.1 l' e' hl' he' with h | ⟨o, b1, b2, b3, b4, b5⟩
      · exact Or.inl h
      · exact Or.inr ⟨o, b1, b2, b3, b4, by rw [hGlo _ (by omega) (by omega) (by omega)]; exact b5⟩
    · intro j hj
      rw [hGn] at hj
      by_cases ej : j = qy_n g
      · rw [ej, hrn]
        refine ⟨⟨x, by omega, rfl, by rw [hG5]; exact hlt⟩, ⟨e, by rw [hec]; exact he, rfl⟩, ⟨l, hl, rfl⟩, ⟨s, hs1, hs9, rfl⟩, ?_⟩
        show p = 0 ∨ p = 1
        rw [hpv]
        split
        · exact Or.inr rfl
        · exact Or.inl rfl
      · rw [hr0 j (by omega)]
        obtain ⟨⟨N, hN, w1, w2⟩, ⟨e', w3, w4⟩, w5⟩ := hW.2.2.2.2.2.2.2.2.1 j (by omega)
        refine ⟨⟨N, by omega, w1, ?_⟩, ⟨e', by rw [hec]; exact w3, w4⟩, w5⟩
        rw [hG5]
        rw [h5] at w2
        exact Int32.lt_trans w2 hlt
    · intro j j' hjj hj'
      rw [hGn] at hj'
      rw [hr0 j (by omega)]
      by_cases ej : j' = qy_n g
      · rw [ej, hrn]
        obtain ⟨⟨N, hN, w1, w2⟩, _⟩ := hW.2.2.2.2.2.2.2.2.1 j (by omega)
        rw [h5] at w2
        exact w2
      · rw [hr0 j' (by omega)]
        exact hW.2.2.2.2.2.2.2.2.2.1 j j' hjj (by omega)
  refine ⟨nI x, G1, qy_ge0 hx6, hW2, fun c hc => hGlo c (by omega) (by omega) (by omega), fun S hR => ?_⟩
  have hp := hR.2.2.2.2.2.2.1
  have hrs : gW_reason F S.1 (nI l) (nI e) (nI s) none = some (qy_rs g (qy_Lm g) l e (nI s) (-1)) := by
    rw [qy_reason hR hW (by omega) hl he (nI s) (-1) none (qy_none S.1)]
    unfold qy_rs
    rw [hp.countP_eq]
  have hlen : (qy_Lc S.1 0).length < 30 := by rw [qy_lenR hR]; exact hn
  have hcls : ∃ i S2, i < 30 ∧ qy_lv (qy_rc S.1 0 i) = false ∧ gW_enter F S (nI e) (nI l) (nI s) = some (S.1 (4, 0, 0) 5, S2) ∧ S2.2 = S.2 ∧ S2.1 (4, 0, 0) 5 = S.1 (4, 0, 0) 5 + 1 ∧ (∀ n j, n ≠ (0, 0, i) → ¬ (n = (4, 0, 0) ∧ j = 5) → S2.1 n j = S.1 n j) ∧
      ∀ c, S2.1 (0, 0, i) c = if c = 0 then S.1 (4, 0, 0) 5 else if c = 1 then nI e else if c = 2 then nI l else if c = 3 then nI s else if c = 4 then p else S.1 (0, 0, i) c := by
    unfold gW_enter
    rw [hrs]
    simp only [Option.bind_some]
    by_cases hq : qy_rs g (qy_Lm g) l e (nI s) (-1) = 0
    · rw [if_pos hq] at hpv ⊢
      exact qy_ent1 (fun n T y => gW_enter_L32 F (nI e) (nI l) (nI s) (fun y713 T14 => some ((-3 : Int32), T14)) n y T) _ (nI e) (nI l) (nI s) p (by omega) hlen (fun n T y => by rw [gW_enter_L32, hpv])
    · rw [if_neg hq] at hpv ⊢
      exact qy_ent1 (fun n T y => gW_enter_L32b F (nI e) (nI l) (nI s) (fun y725 T26 => some ((-3 : Int32), T26)) n y T) _ (nI e) (nI l) (nI s) p (by omega) hlen (fun n T y => by rw [gW_enter_L32b, hpv])
  obtain ⟨i, S2, hi, hdead, a1, a2, a3, a4, a5⟩ := hcls
  have e5 : S.1 (4, 0, 0) 5 = nI x := hR.2.1.trans h5
  rw [e5] at a1 a3 a5
  have hd0 : S.1 (0, 0, i) 0 = -1 := by
    unfold qy_lv at hdead
    have : qy_rc S.1 0 i 0 = S.1 (0, 0, i) 0 := rfl
    rw [this] at hdead
    simpa using hdead
  have hrci : qy_rc S2.1 0 i = qy_nr (nI x) (nI e) (nI l) (nI s) p := by
    funext c
    unfold qy_rc
    by_cases hc : c < 8
    · rw [if_pos hc, a5]
      unfold qy_nr
      by_cases c5 : c < 5
      · have hcc : c = 0 ∨ c = 1 ∨ c = 2 ∨ c = 3 ∨ c = 4 := by omega
        rcases hcc with rfl | rfl | rfl | rfl | rfl <;> rfl
      · rw [if_neg (by omega), if_neg (by omega), if_neg (by omega), if_neg (by omega), if_neg (by omega), if_neg (by omega), if_neg (by omega), if_neg (by omega), if_neg (by omega), if_neg (by omega)]
        have := hR.2.2.2.2.2.2.2.2 i hi hd0 (c - 5) (by omega)
        rw [show 5 + (c - 5) = c by omega] at this
        exact this
    · rw [if_neg hc]
      unfold qy_nr
      rw [if_neg (by omega), if_neg (by omega), if_neg (by omega), if_neg (by omega), if_neg (by omega)]
  have hlive : qy_lv (qy_rc S2.1 0 i) = true := by
    rw [hrci]
    unfold qy_lv qy_nr
    have := qy_n1 (a := x) hx6
    simp [this]
  have hLc : (qy_Lc S2.1 0).Perm (qy_nr (nI x) (nI e) (nI l) (nI s) p :: qy_Lc S.1 0) := by
    rw [← hrci]
    refine qy_flt (qy_rc S2.1 0) (qy_rc S.1 0) i hlive hdead (List.range 30) List.nodup_range (List.mem_range.mpr hi) (fun j _ hj => ?_)
    funext c
    unfold qy_rc
    rw [a4 _ _ (fun q => hj (congrArg (fun n : qz_N => n.2.2) q)) (fun q => qy_kn (by decide) q.1)]
  obtain ⟨h1, h2, h3, h4, h5', h6, h7, h8, h9⟩ := hR
  have k1 : ∀ k j, k ≠ 0 → k ≠ 4 → S2.1 (k, 0, 0) j = S.1 (k, 0, 0) j := fun k j hk hk4 => a4 _ _ (qy_kn hk) (fun q => qy_kn hk4 q.1)
  have k4 : ∀ j, j ≠ 5 → S2.1 (4, 0, 0) j = S.1 (4, 0, 0) j := fun j hj => a4 _ _ (qy_kn (by decide)) (fun q => hj q.2)
  have hR2 : qy_Rel S2.1 0 G1 := by
    refine ⟨?_, ?_, ?_, ?_, ?_, ?_, ?_, ?_, ?_⟩
    · rw [k4 0 (by decide), hGlo 4 (by decide) (by decide) (by decide)]; exact h1
    · rw [a3, hG5, qz_nI1]
    · intro c hc
      rw [k4 _ (by omega), hGlo _ (by omega) (by omega) (by omega)]; exact h3 c hc
    · intro j hj
      rw [k1 10 j (by decide) (by decide), hGlo _ (by omega) (by omega) (by omega)]; exact h4 j hj
    · intro j hj
      rw [k1 11 j (by decide) (by decide), hGlo _ (by omega) (by omega) (by omega)]; exact h5' j hj
    · intro j hj
      rw [k1 12 j (by decide) (by decide), hGlo _ (by omega) (by omega) (by omega)]; exact h6 j hj
    · rw [hLm]
      exact hLc.trans ((h7.cons _).trans (List.perm_append_singleton _ _).symm)
    · intro j hj
      by_cases ej : j = i
      · rw [ej, a5, if_neg (by decide), if_neg (by decide), if_neg (by decide), if_neg (by decide), if_pos rfl, hpv]
        split
        · exact Or.inr rfl
        · exact Or.inl rfl
      · rw [a4 _ _ (fun q => ej (congrArg (fun n : qz_N => n.2.2) q)) (fun q => qy_kn (by decide) q.1)]
        exact h8 j hj
    · intro j hj hj0 c hc
      by_cases ej : j = i
      · rw [ej, a5, if_pos rfl] at hj0
        exact absurd hj0 (qy_n1 hx6)
      · rw [a4 _ _ (fun q => ej (congrArg (fun n : qz_N => n.2.2) q)) (fun q => qy_kn (by decide) q.1)] at hj0 ⊢
        exact h9 j hj hj0 c hc
  refine ⟨S2, a1, a2, ?_, hR2⟩
  intro n j hnj
  exact a4 n j (fun q => hnj (by rw [q]; exact ⟨rfl, Or.inl rfl⟩)) (fun q => hnj (by rw [q.1]; exact ⟨rfl, Or.inr (Or.inl rfl)⟩))
theorem qv_book (hWv : qv_Wf g B) (hF : 30 < F) (hB6 : B + 1 ≤ 60000) (a0 a1 a2 : Int32) : ∃ v g', qv_Act F f0 B (B + 1) kk g (fun S => gX_book F S a0 a1 a2) v g' := by
  have hW := hWv.1
  have h30 := hW.2.2.2.1
  have hW' : qv_Wf g (B + 1) := qv_WfB (Nat.le_succ B) hB6 hWv
  by_cases h1 : 0 ≤ a0 ∧ a0 < g 4
  · have x1 : ∀ f : qz_F, qy_Rel f 0 g → ¬ gW_hasEnd f a0 = 0 := fun f hR => by rw [qy_hasEnd hR]; exact fun q => q h1
    by_cases hl : ∃ l, l < 2 ∧ a1 = nI l
    · have x2 : ∀ f : qz_F, ¬ gX_isLine f a1 = 0 := fun f => by rw [qy_line]; exact fun q => q hl
      by_cases hs : ∃ s, 1 ≤ s ∧ s ≤ 9 ∧ a2 = nI s
      · have x3 : ∀ f : qz_F, ¬ gX_isStop f a2 = 0 := fun f => by rw [qy_stop]; exact fun q => q hs
        have hwc : ∀ f : qz_F, qy_Rel f 0 g → gW_workerCount F f = some (nI (qy_n g)) := fun f hR => by rw [qy_wcnt hF, qy_lenR hR]
        by_cases hn : qy_n g < 30
        · have c1 : nI (qy_n g) < (30 : Int32) := by rw [show (30 : Int32) = nI 30 from rfl, qy_lt (by omega) (by omega)]; exact hn
          obtain ⟨e, he, rfl⟩ := qy_isE hW h1
          obtain ⟨l, hl2, rfl⟩ := hl
          obtain ⟨s, hs1, hs9, rfl⟩ := hs
          obtain ⟨N, G1, b0, b1, b2, b3⟩ := qv_enter (F := F) hW hF hB6 hl2 he hs1 hs9 hn
          refine ⟨N, G1, ⟨b1, fun j hj => by rw [b2 j hj]; exact hWv.2 j hj⟩, Or.inr ⟨b0, fun S hR hJ => ⟨fun R7 => Option.bind (gW_enter F R7 (nI e) (nI l) (nI s)) fun R9 => some (R9.1, R9.2), ?_, fun S1 k1 k2 => ?_⟩⟩⟩
          · show gX_book F S (nI e) (nI l) (nI s) = _
            unfold gX_book
            rw [if_neg (x1 _ hR), if_neg (x2 _), if_neg (x3 _), hwc _ hR]
            simp only [Option.bind_some]
            rw [if_pos c1]
          · obtain ⟨S2, d1, d2, d3, d4⟩ := b3 S1 k1
            refine ⟨S2, ?_, d2, d3, d4⟩
            show (Option.bind (gW_enter F S1 (nI e) (nI l) (nI s)) fun R9 => some (R9.1, R9.2)) = _
            rw [d1]
            rfl
        · have en : qy_n g = 30 := by omega
          refine qv_no (v := -3) hW' (by decide) (fun S hR _ => ?_)
          show gX_book F S a0 a1 a2 = _
          unfold gX_book
          rw [if_neg (x1 _ hR), if_neg (x2 _), if_neg (x3 _), hwc _ hR, en]
          rfl
      · refine qv_no (v := -1) hW' (by decide) (fun S hR _ => ?_)
        show gX_book F S a0 a1 a2 = _
        unfold gX_book
        rw [if_neg (x1 _ hR), if_neg (x2 _), if_pos (by rw [qy_stop]; exact hs)]
    · refine qv_no (v := -1) hW' (by decide) (fun S hR _ => ?_)
      show gX_book F S a0 a1 a2 = _
      unfold gX_book
      rw [if_neg (x1 _ hR), if_pos (by rw [qy_line]; exact hl)]
  · refine qv_no (v := -1) hW' (by decide) (fun S hR _ => ?_)
    show gX_book F S a0 a1 a2 = _
    unfold gX_book
    rw [if_pos (by rw [qy_hasEnd hR]; exact h1)]
end QVE
