/-! p24: the acts takeBack, stay -/
section QVD
variable {F B B' m : Nat} {f0 f f' : qz_F} {g g' : Nat → Int32} {S S' : qz_S} {kk : Option (Nat → Int32)}
theorem qv_find (hW : qy_Wf g B) (hF : 30 < F) (x : Int32) :
    (∀ f : qz_F, qy_Rel f 0 g → gW_bookingOf F f x = some none) ∨
    ∃ k, k < qy_n g ∧ qy_rm g k 0 = x ∧ ∀ f : qz_F, qy_Rel f 0 g → ∃ i, i < 30 ∧ gW_bookingOf F f x = some (some i) ∧ qy_lv (qy_rc f 0 i) = true ∧ qy_rc f 0 i 0 = x ∧ qy_rc f 0 i = qy_rm g k := by
  by_cases h : ∃ k, k < qy_n g ∧ qy_rm g k 0 = x
  · obtain ⟨k, hk, h0⟩ := h
    refine Or.inr ⟨k, hk, h0, fun f hR => ?_⟩
    have hp := hR.2.2.2.2.2.2.1
    have hmk : qy_rm g k ∈ qy_Lm g := qy_mLm.mpr ⟨k, hk, rfl⟩
    obtain ⟨o, a1, a2⟩ := qy_bookingOf (F := F) (f := f) hF x
    rcases a2 with ⟨rfl, a2⟩ | ⟨i, hi, rfl, hl, h0'⟩
    · exact absurd h0 (a2 _ (hp.mem_iff.mpr hmk))
    · have hm : qy_rc f 0 i ∈ qy_Lm g := hp.mem_iff.mp (qy_mLc.mpr ⟨i, hi, rfl, hl⟩)
      exact ⟨i, hi, a1, hl, h0', qy_U hW _ _ hm hmk (h0'.trans h0.symm)⟩
  · refine Or.inl (fun f hR => ?_)
    have hp := hR.2.2.2.2.2.2.1
    obtain ⟨o, a1, a2⟩ := qy_bookingOf (F := F) (f := f) hF x
    rcases a2 with ⟨rfl, a2⟩ | ⟨i, hi, rfl, hl, h0'⟩
    · exact a1
    · have hm : qy_rc f 0 i ∈ qy_Lm g := hp.mem_iff.mp (qy_mLc.mpr ⟨i, hi, rfl, hl⟩)
      obtain ⟨k, hk, e⟩ := qy_mLm.mp hm
      exact absurd ⟨k, hk, by rw [e]; exact h0'⟩ h
theorem qv_takeBack (hWv : qv_Wf g B) (hF : 30 < F) (a : Int32) : ∃ v g', qv_Act F f0 B B kk g (fun S => gX_takeBack F S a) v g' := by
  have hW := hWv.1
  have h30 := hW.2.2.2.1
  rcases qv_find (F := F) hW hF a with x | ⟨k, hk, hk0, x⟩
  · refine qv_no (v := -1) hWv (by decide) (fun S hR _ => ?_)
    show gX_takeBack F S a = _
    unfold gX_takeBack
    rw [x _ hR]
    rfl
  · obtain ⟨G1, hG1⟩ : ∃ G1 : Nat → Int32, G1 = (fun c => if c = 6 then nI (qy_n g - 1) else if 43 + 8 * k ≤ c ∧ c < 43 + 8 * (qy_n g - 1) then g (c + 8) else g c) := ⟨_, rfl⟩
    have hG6 : G1 6 = nI (qy_n g - 1) := by rw [hG1]; exact if_pos rfl
    have hGlo : ∀ c, c < 43 → c ≠ 6 → G1 c = g c := fun c h1 h2 => by
      rw [hG1]
      show (if _ then _ else _) = _
      rw [if_neg h2, if_neg (by omega)]
    have hGn : qy_n G1 = qy_n g - 1 := by
      unfold qy_n at hG6 ⊢
      rw [hG6]
      exact qz_cl_nI (by unfold qy_n at h30; omega)
    have hr1 : ∀ j, j < k → qy_rm G1 j = qy_rm g j := by
      intro j hj
      funext c
      unfold qy_rm
      by_cases hc : c < 8
      · rw [if_pos hc, if_pos hc, hG1]
        show (if _ then _ else _) = _
        rw [if_neg (by omega), if_neg (by omega)]
      · rw [if_neg hc, if_neg hc]
    have hr2 : ∀ j, k ≤ j → j < qy_n g - 1 → qy_rm G1 j = qy_rm g (j + 1) := by
      intro j hj hj2
      funext c
      unfold qy_rm
      by_cases hc : c < 8
      · rw [if_pos hc, if_pos hc, hG1]
        show (if _ then _ else _) = _
        rw [if_neg (by omega), if_pos (by omega)]
        congr 1
        omega
      · rw [if_neg hc, if_neg hc]
    have hLm : (qy_Lm g).Perm (qy_rm g k :: qy_Lm G1) := by
      unfold qy_Lm
      rw [hGn]
      exact qy_Lmk hk (qy_rm g) (qy_rm G1) hr1 hr2
    have hec : qy_ec G1 = qy_ec g := by unfold qy_ec; rw [hGlo 4 (by decide) (by decide)]
    have hW2 : qy_Wf G1 B := by
      refine ⟨?_, ?_, ?_, ?_, ?_, ?_, ?_, ?_, ?_, ?_, hW.2.2.2.2.2.2.2.2.2.2⟩
      · rw [hec, hGlo 4 (by decide) (by decide)]; exact hW.1
      · rw [hec]; exact hW.2.1
      · rw [hGn]; exact hG6
      · rw [hGn]; omega
      · rw [hGlo 5 (by decide) (by decide)]; exact hW.2.2.2.2.1
      · rw [hGlo 1 (by decide) (by decide)]; exact hW.2.2.2.2.2.1
      · intro j hj
        rw [hGlo _ (by omega) (by omega)]; exact hW.2.2.2.2.2.2.1 j hj
      · intro l e hl' he
        rw [hec, hGlo _ (by omega) (by omega)]
        rcases hW.2.2.2.2.2.2.2.1 l e hl' he with h | ⟨o, b1, b2, b3, b4, b5⟩
        · exact Or.inl h
        · have h10 := hW.2.1
          exact Or.inr ⟨o, b1, b2, b3, b4, by rw [hGlo _ (by omega) (by omega)]; exact b5⟩
      · intro j hj
        rw [hGn] at hj
        by_cases e : j < k
        · rw [hr1 j e]
          exact qy_WrD hec (hGlo 5 (by decide) (by decide)) (hW.2.2.2.2.2.2.2.2.1 j (by omega))
        · rw [hr2 j (by omega) hj]
          exact qy_WrD hec (hGlo 5 (by decide) (by decide)) (hW.2.2.2.2.2.2.2.2.1 (j + 1) (by omega))
      · intro j j' hjj hj'
        rw [hGn] at hj'
        have hs := hW.2.2.2.2.2.2.2.2.2.1
        by_cases e : j < k
        · rw [hr1 j e]
          by_cases e' : j' < k
          · rw [hr1 j' e']
            exact hs j j' hjj (by omega)
          · rw [hr2 j' (by omega) hj']
            exact hs j (j' + 1) (by omega) (by omega)
        · rw [hr2 j (by omega) (by omega), hr2 j' (by omega) hj']
          exact hs (j + 1) (j' + 1) (by omega) (by omega)
    have hS2 : qv_Ws G1 := fun j hj => by rw [hGlo j (by omega) (by omega)]; exact hWv.2 j hj
    obtain ⟨G2, hW3, _, l0⟩ := qv_look (F := F) (show qv_Wf G1 B from ⟨hW2, hS2⟩) hF
    have hc30 : (qy_Lm G2).countP qy_wt ≤ 30 := by
      have h1 : (qy_Lm G2).countP qy_wt ≤ (qy_Lm G2).length := List.countP_le_length
      have h2 : (qy_Lm G2).length = qy_n G2 := by simp [qy_Lm]
      have h3 := hW3.1.2.2.2.1
      omega
    refine ⟨nI ((qy_Lm G2).countP qy_wt), G2, hW3, Or.inr ⟨qy_ge0 (by omega), fun S hR hJ => ?_⟩⟩
    obtain ⟨i, hi, x, hl, h0, hrr⟩ := x S.1 hR
    refine ⟨fun R4 => Option.bind (gB_clear F R4 i) fun R6 => Option.bind (gW_lookAtWaiting F R6) fun R8 => Option.bind (gW_waitingCount F R8.1) fun x10 => some (x10, R8), ?_, fun S1 k1 k2 => ?_⟩
    · show gX_takeBack F S a = _
      unfold gX_takeBack
      rw [x]
      rfl
    · have hrc1 : qy_rc S1.1 0 i = qy_rc S.1 0 i := by
        funext c
        unfold qy_rc
        rw [k2 _ _ (fun q => absurd q.1 (show ¬ 1 ≤ 0 by decide)) (qy_kn (by decide))]
      obtain ⟨S2a, s0⟩ : ∃ S2a, gB_clear F S1 i = some S2a ∧ S2a.2 = S1.2 ∧ (∀ n j, n ≠ (0, 0, i) → S2a.1 n j = S1.1 n j) ∧ S2a.1 (0, 0, i) 0 = -1 ∧ ∀ c, 1 ≤ c → c < 8 → S2a.1 (0, 0, i) c = 0 := by
        unfold gB_clear
        simp only [qz_let]
        refine ⟨_, rfl, rfl, ?_, ?_, ?_⟩
        · intro n j hn
          rw [wr_ne (fun q => hn q.1), wr_ne (fun q => hn q.1), wr_ne (fun q => hn q.1), wr_ne (fun q => hn q.1), wr_ne (fun q => hn q.1), wr_ne (fun q => hn q.1), wr_ne (fun q => hn q.1), wr_ne (fun q => hn q.1)]
        · simp [qz_wr]
        · intro c h1 h8
          have hc : c = 1 ∨ c = 2 ∨ c = 3 ∨ c = 4 ∨ c = 5 ∨ c = 6 ∨ c = 7 := by omega
          rcases hc with rfl | rfl | rfl | rfl | rfl | rfl | rfl <;> simp [qz_wr]
      obtain ⟨s1, s2, s3, s4, s5⟩ := s0
      have hLc : (qy_Lc S1.1 0).Perm (qy_rc S1.1 0 i :: qy_Lc S2a.1 0) := by
        refine qy_flt (qy_rc S1.1 0) (qy_rc S2a.1 0) i (by rw [hrc1]; exact hl) ?_ (List.range 30) List.nodup_range (List.mem_range.mpr hi) (fun j _ hj => ?_)
        · unfold qy_lv
          have : qy_rc S2a.1 0 i 0 = -1 := s4
          rw [this]
          decide
        · funext c
          unfold qy_rc
          rw [s3 _ _ (fun q => hj (congrArg (fun n : qz_N => n.2.2) q))]
      obtain ⟨h1, h2, h3, h4, h5, h6, h7, h8, h9⟩ := k1
      have hR2 : qy_Rel S2a.1 0 G1 := by
        refine ⟨?_, ?_, ?_, ?_, ?_, ?_, ?_, ?_, ?_⟩
        · rw [s3 _ _ (qy_kn (by decide)), hGlo 4 (by decide) (by decide)]; exact h1
        · rw [s3 _ _ (qy_kn (by decide)), hGlo 5 (by decide) (by decide)]; exact h2
        · intro c hc
          rw [s3 _ _ (qy_kn (by decide)), hGlo _ (by omega) (by omega)]; exact h3 c hc
        · intro j hj
          rw [s3 _ _ (qy_kn (by decide)), hGlo _ (by omega) (by omega)]; exact h4 j hj
        · intro j hj
          rw [s3 _ _ (qy_kn (by decide)), hGlo _ (by omega) (by omega)]; exact h5 j hj
        · intro j hj
          rw [s3 _ _ (qy_kn (by decide)), hGlo _ (by omega) (by omega)]; exact h6 j hj
        · have hc := hLc.symm.trans (h7.trans hLm)
          rw [hrc1, hrr] at hc
          exact List.Perm.cons_inv hc
        · intro j hj
          by_cases e : j = i
          · subst e
            exact Or.inl (s5 4 (by decide) (by decide))
          · rw [s3 _ _ (fun q => e (congrArg (fun n : qz_N => n.2.2) q))]
            exact h8 j hj
        · intro j hj hj0 c hc
          by_cases e : j = i
          · subst e
            exact s5 _ (by omega) (by omega)
          · rw [s3 _ _ (fun q => e (congrArg (fun n : qz_N => n.2.2) q))] at hj0 ⊢
            exact h9 j hj hj0 c hc
      obtain ⟨S2, l1, l2, l3, l4⟩ := l0 _ hR2
      refine ⟨S2, ?_, l2.trans s2, ?_, l4⟩
      · show (Option.bind (gB_clear F S1 i) fun R6 => _) = _
        rw [s1]
        simp only [Option.bind_some]
        rw [l1]
        simp only [Option.bind_some]
        rw [qy_wait hF, l4.2.2.2.2.2.2.1.countP_eq]
        rfl
      · refine qy_fwT ?_ (qy_fwl l3)
        intro n j hn
        exact s3 n j (fun q => hn (by rw [q]; exact ⟨rfl, Or.inl rfl⟩))
theorem qv_stay (hWv : qv_Wf g B) (hF : 30 < F) (a a1 : Int32) : ∃ v g', qv_Act F f0 B B kk g (fun S => gX_stay F S a a1) v g' := by
  have hW := hWv.1
  have h30 := hW.2.2.2.1
  have h10 := hW.2.1
  rcases qv_find (F := F) hW hF a with x | ⟨k, hk, hk0, x⟩
  · refine qv_no (v := -1) hWv (by decide) (fun S hR _ => ?_)
    show gX_stay F S a a1 = _
    unfold gX_stay
    rw [x _ hR]
    rfl
  · have hk30 : k < 30 := by omega
    by_cases h1 : 0 ≤ a1 ∧ a1 < g 4
    · have x2 : ∀ f : qz_F, qy_Rel f 0 g → ¬ gW_hasEnd f a1 = 0 := fun f hR => by rw [qy_hasEnd hR]; exact fun q => q h1
      have hend : ∀ (f : qz_F) (i : Nat), qy_rc f 0 i = qy_rm g k → f (0, 0, i) 1 = qy_rm g k 1 := fun f i e => by
        rw [← e]
        rfl
      by_cases hs : qy_rm g k 1 = a1
      · refine qv_no (v := -5) hWv (by decide) (fun S hR _ => ?_)
        obtain ⟨i, hi, x, hl, h0, hrr⟩ := x S.1 hR
        show gX_stay F S a a1 = _
        unfold gX_stay
        rw [x]
        simp only [Option.bind_some, Option.elim_some]
        rw [if_neg (x2 _ hR), hend _ i hrr, if_pos hs]
      · obtain ⟨e, he, rfl⟩ := qy_isE hW h1
        obtain ⟨G1, hG1⟩ : ∃ G1 : Nat → Int32, G1 = (fun c => if c = 43 + 8 * k + 4 then 0 else if c = 43 + 8 * k + 1 then nI e else g c) := ⟨_, rfl⟩
        have hGlo : ∀ c, c < 43 → G1 c = g c := fun c h1 => by
          rw [hG1]
          show (if _ then _ else _) = _
          rw [if_neg (by omega), if_neg (by omega)]
        have hGn : qy_n G1 = qy_n g := by unfold qy_n; rw [hGlo 6 (by decide)]
        have hec : qy_ec G1 = qy_ec g := by unfold qy_ec; rw [hGlo 4 (by decide)]
        have hr0 : ∀ j, j ≠ k → qy_rm G1 j = qy_rm g j := by
          intro j hj
          funext c
          unfold qy_rm
          by_cases hc : c < 8
          · rw [if_pos hc, if_pos hc, hG1]
            show (if _ then _ else _) = _
            rw [if_neg (by omega), if_neg (by omega)]
          · rw [if_neg hc, if_neg hc]
        have hrk : ∀ c, qy_rm G1 k c = if c = 1 then nI e else if c = 4 then 0 else qy_rm g k c := by
          intro c
          unfold qy_rm
          by_cases hc : c < 8
          · rw [if_pos hc, if_pos hc, hG1]
            show (if _ then _ else _) = _
            by_cases c1 : c = 1
            · rw [if_neg (by omega), if_pos (by omega), if_pos c1]
            · rw [if_neg c1]
              by_cases c4 : c = 4
              · rw [if_pos (by omega), if_pos c4]
              · rw [if_neg (by omega), if_neg (by omega), if_neg c4]
          · rw [if_neg hc, if_neg hc, if_neg (by omega), if_neg (by omega)]
        have hnum : ∀ j, j < qy_n g → (qy_rm g j 0 = a ↔ j = k) := by
          intro j hj
          have ek : qy_rm g k 0 = a := hk0
          refine ⟨fun q => ?_, fun q => by rw [q]; exact ek⟩
          have a1 := qm_sorted hW hj hk
          have a2 := qm_sorted hW hk hj
          rw [q, ek] at a1 a2
          have n1 : ¬ j < k := fun q => Int32.lt_irrefl (by rw [a1]; exact q)
          have n2 : ¬ k < j := fun q => Int32.lt_irrefl (by rw [a2]; exact q)
          omega
        have hLm : qy_Lm G1 = (qy_Lm g).map (qy_us a (nI e)) := by
          unfold qy_Lm
          rw [hGn, List.map_map]
          refine List.map_congr_left (fun j hj => ?_)
          have hj := List.mem_range.mp hj
          show qy_rm G1 j = qy_us a (nI e) (qy_rm g j)
          unfold qy_us
          by_cases ej : j = k
          · rw [if_pos ((hnum j hj).mpr ej), ej]
            exact funext hrk
          · rw [if_neg (fun q => ej ((hnum j hj).mp q)), hr0 j ej]
        have hW2 : qy_Wf G1 B := by
          refine ⟨?_, ?_, ?_, ?_, ?_, ?_, ?_, ?_, ?_, ?_, hW.2.2.2.2.2.2.2.2.2.2⟩
          · rw [hec, hGlo 4 (by decide)]; exact hW.1
          · rw [hec]; exact hW.2.1
          · rw [hGn, hGlo 6 (by decide)]; exact hW.2.2.1
          · rw [hGn]; exact h30
          · rw [hGlo 5 (by decide)]; exact hW.2.2.2.2.1
          · rw [hGlo 1 (by decide)]; exact hW.2.2.2.2.2.1
          · intro j hj
            rw [hGlo _ (by omega)]; exact hW.2.2.2.2.2.2.1 j hj
          · intro l e' hl' he'
            rw [hec, hGlo _ (by omega)]
            rcases hW.2.2.2.2.2.2.2.1 l e' hl' he' with h | ⟨o, b1, b2, b3, b4, b5⟩
            · exact Or.inl h
            · exact Or.inr ⟨o, b1, b2, b3, b4, by rw [hGlo _ (by omega)]; exact b5⟩
          · intro j hj
            rw [hGn] at hj
            have hw := hW.2.2.2.2.2.2.2.2.1 j hj
            by_cases ej : j = k
            · subst ej
              obtain ⟨⟨N, hN, w1, w2⟩, _, w4, w5, _⟩ := hw
              refine ⟨⟨N, hN, ?_, ?_⟩, ⟨e, by rw [hec]; exact he, ?_⟩, ?_, ?_, ?_⟩
              · rw [hrk]; exact w1
              · rw [hrk, hGlo 5 (by decide)]; exact w2
              · rw [hrk]; rfl
              · rw [hrk]; exact w4
              · rw [hrk]; exact w5
              · rw [hrk]; exact Or.inl rfl
            · rw [hr0 j ej]
              exact qy_WrD hec (hGlo 5 (by decide)) hw
          · intro j j' hjj hj'
            rw [hGn] at hj'
            have hz : ∀ t, qy_rm G1 t 0 = qy_rm g t 0 := by
              intro t
              by_cases et : t = k
              · rw [et, hrk, if_neg (by decide), if_neg (by decide)]
              · rw [hr0 t et]
            rw [hz, hz]
            exact hW.2.2.2.2.2.2.2.2.2.1 j j' hjj hj'
        have hS2 : qv_Ws G1 := fun j hj => by rw [hGlo j (by omega)]; exact hWv.2 j hj
        obtain ⟨G2, hW3, ⟨Q, eQ⟩, l0⟩ := qv_look (F := F) (show qv_Wf G1 B from ⟨hW2, hS2⟩) hF
        have hkn : k < qy_n G2 := by rw [eQ, qy_pgn, hGn]; exact hk
        have hv0 : 0 ≤ qy_rm G2 k 4 := by
          rcases (hW3.1.2.2.2.2.2.2.2.2.1 k hkn).2.2.2.2 with q | q <;> rw [q] <;> decide
        refine ⟨qy_rm G2 k 4, G2, hW3, Or.inr ⟨hv0, fun S hR hJ => ?_⟩⟩
        obtain ⟨i, hi, x, hl, h0, hrr⟩ := x S.1 hR
        refine ⟨fun R6 => qz_let (qz_wr R6 ((0, 0, i) : qz_N) 1 (nI e)) fun S8 => qz_let (qz_wr S8 ((0, 0, i) : qz_N) 4 (0 : Int32)) fun S9 => Option.bind (gW_lookAtWaiting F S9) fun R10 => if (R10.1 ((0, 0, i) : qz_N) 4) = 0 then (some ((0 : Int32), R10)) else (some ((1 : Int32), R10)), ?_, fun S1 k1 k2 => ?_⟩
        · show gX_stay F S a (nI e) = _
          unfold gX_stay
          rw [x]
          simp only [Option.bind_some, Option.elim_some]
          rw [if_neg (x2 _ hR), hend _ i hrr, if_neg hs]
        · have hrc1 : ∀ j, qy_rc S1.1 0 j = qy_rc S.1 0 j := by
            intro j
            funext c
            unfold qy_rc
            rw [k2 _ _ (fun q => absurd q.1 (show ¬ 1 ≤ 0 by decide)) (qy_kn (by decide))]
          obtain ⟨S2a, s1⟩ : ∃ S2a, S2a = qz_wr (qz_wr S1 (0, 0, i) 1 (nI e)) (0, 0, i) 4 0 := ⟨_, rfl⟩
          have s3 : ∀ n j, n ≠ (0, 0, i) → S2a.1 n j = S1.1 n j := fun n j hn => by
            rw [s1, wr_ne (fun q => hn q.1), wr_ne (fun q => hn q.1)]
          have s4 : ∀ c, S2a.1 (0, 0, i) c = if c = 1 then nI e else if c = 4 then 0 else S1.1 (0, 0, i) c := by
            intro c
            rw [s1]
            by_cases c1 : c = 1
            · rw [if_pos c1, c1, wr_ne (fun q => absurd q.2 (by decide)), wr_eq]
            · rw [if_neg c1]
              by_cases c4 : c = 4
              · rw [if_pos c4, c4, wr_eq]
              · rw [if_neg c4, wr_ne (fun q => c4 q.2), wr_ne (fun q => c1 q.2)]
          have hslot : ∀ j, j < 30 → qy_lv (qy_rc S1.1 0 j) = true → (qy_rc S1.1 0 j 0 = a ↔ j = i) := by
            intro j hj hlj
            refine ⟨fun q => ?_, fun q => by rw [q, hrc1]; exact h0⟩
            exact qy_slot k1 hW hj hi hlj (by rw [hrc1]; exact hl) (q.trans (by rw [hrc1]; exact h0.symm))
          have hLc : qy_Lc S2a.1 0 = (qy_Lc S1.1 0).map (qy_us a (nI e)) := by
            refine qy_fmL (qy_us a (nI e)) (qy_rc S1.1 0) (qy_rc S2a.1 0) (List.range 30) (fun j hj => ?_) (fun j hj hlj => ?_)
            · have hj := List.mem_range.mp hj
              have : qy_rc S2a.1 0 j 0 = qy_rc S1.1 0 j 0 := by
                show S2a.1 (0, 0, j) 0 = S1.1 (0, 0, j) 0
                by_cases ej : j = i
                · rw [ej, s4, if_neg (by decide), if_neg (by decide)]
                · exact s3 _ _ (fun q => ej (congrArg (fun n : qz_N => n.2.2) q))
              unfold qy_lv
              rw [this]
            · have hj := List.mem_range.mp hj
              unfold qy_us
              by_cases ej : j = i
              · rw [if_pos ((hslot j hj hlj).mpr ej), ej]
                funext c
                unfold qy_rc
                by_cases hc : c < 8
                · rw [if_pos hc, if_pos hc, s4]
                · rw [if_neg hc, if_neg hc, if_neg (by omega), if_neg (by omega)]
              · rw [if_neg (fun q => ej ((hslot j hj hlj).mp q))]
                funext c
                unfold qy_rc
                rw [s3 _ _ (fun q => ej (congrArg (fun n : qz_N => n.2.2) q))]
          have k1' := k1
          obtain ⟨h1, h2, h3, h4, h5, h6, h7, h8, h9⟩ := k1
          have hR2 : qy_Rel S2a.1 0 G1 := by
            refine ⟨?_, ?_, ?_, ?_, ?_, ?_, ?_, ?_, ?_⟩
            · rw [s3 _ _ (qy_kn (by decide)), hGlo 4 (by decide)]; exact h1
            · rw [s3 _ _ (qy_kn (by decide)), hGlo 5 (by decide)]; exact h2
            · intro c hc
              rw [s3 _ _ (qy_kn (by decide)), hGlo _ (by omega)]; exact h3 c hc
            · intro j hj
              rw [s3 _ _ (qy_kn (by decide)), hGlo _ (by omega)]; exact h4 j hj
            · intro j hj
              rw [s3 _ _ (qy_kn (by decide)), hGlo _ (by omega)]; exact h5 j hj
            · intro j hj
              rw [s3 _ _ (qy_kn (by decide)), hGlo _ (by omega)]; exact h6 j hj
            · rw [hLc, hLm]
              exact h7.map _
            · intro j hj
              by_cases ej : j = i
              · rw [ej, s4]
                exact Or.inl rfl
              · rw [s3 _ _ (fun q => ej (congrArg (fun n : qz_N => n.2.2) q))]
                exact h8 j hj
            · intro j hj hj0 c hc
              by_cases ej : j = i
              · rw [ej, s4, if_neg (by decide), if_neg (by decide)] at hj0
                rw [ej, s4, if_neg (by omega), if_neg (by omega)]
                exact h9 i hi hj0 c hc
              · rw [s3 _ _ (fun q => ej (congrArg (fun n : qz_N => n.2.2) q))] at hj0 ⊢
                exact h9 j hj hj0 c hc
          obtain ⟨S2, l1, l2, l3, l4⟩ := l0 _ hR2
          have hn2 : qy_rc S2.1 0 i 0 = a := by
            show S2.1 (0, 0, i) 0 = a
            rw [l3 _ _ (fun q => absurd q.2.2 (by decide)), s4, if_neg (by decide), if_neg (by decide)]
            have : qy_rc S1.1 0 i 0 = a := by rw [hrc1]; exact h0
            exact this
          have hl2 : qy_lv (qy_rc S2.1 0 i) = true := by
            have := hl
            unfold qy_lv at this ⊢
            rw [hn2]
            rw [h0] at this
            exact this
          have hnk : qy_rm G2 k 0 = a := by
            rw [eQ, qy_pgr (by rw [hGn]; exact hk), qy_prc (by decide), hrk, if_neg (by decide), if_neg (by decide)]
            exact hk0
          have hsame : qy_rc S2.1 0 i = qy_rm G2 k := by
            have m1 : qy_rc S2.1 0 i ∈ qy_Lm G2 := l4.2.2.2.2.2.2.1.mem_iff.mp (qy_mLc.mpr ⟨i, hi, rfl, hl2⟩)
            exact qy_U hW3.1 _ _ m1 (qy_mLm.mpr ⟨k, hkn, rfl⟩) (by rw [hn2, hnk])
          have h4s : S2.1 (0, 0, i) 4 = qy_rm G2 k 4 := congrFun hsame 4
          refine ⟨S2, ?_, ?_, ?_, l4⟩
          · show Option.bind (gW_lookAtWaiting F (qz_wr (qz_wr S1 (0, 0, i) 1 (nI e)) (0, 0, i) 4 0)) _ = _
            rw [← s1, l1]
            simp only [Option.bind_some]
            rw [h4s]
            rcases (hW3.1.2.2.2.2.2.2.2.2.1 k hkn).2.2.2.2 with q | q
            · rw [if_pos q, q]
            · rw [if_neg (by rw [q]; decide), q]
          · rw [l2, s1]
            rfl
          · refine qy_fwT ?_ (qy_fwl l3)
            intro n j hn
            exact s3 n j (fun q => hn (by rw [q]; exact ⟨rfl, Or.inl rfl⟩))
    · refine qv_no (v := -1) hWv (by decide) (fun S hR _ => ?_)
      obtain ⟨i, hi, x, hl, h0, hrr⟩ := x S.1 hR
      have x2 : gW_hasEnd S.1 a1 = 0 := by rw [qy_hasEnd hR]; exact h1
      show gX_stay F S a a1 = _
      unfold gX_stay
      rw [x]
      simp only [Option.bind_some, Option.elim_some]
      rw [if_pos x2]
end QVD
