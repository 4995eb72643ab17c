/-! p24: the acts addEnd, passDay, set -/
section QVB
variable {F B B' m : Nat} {f0 f f' : qz_F} {g g' : Nat → Int32} {S S' : qz_S} {k : Option (Nat → Int32)}
theorem qv_addEnd (hWv : qv_Wf g B) (a : Int32) : ∃ v g', qv_Act F f0 B B k g (fun S => gX_addEnd F S a) v g' := by
  have hW := hWv.1
  have h10 := hW.2.1
  have h4 : ∀ S : qz_S, qy_Rel S.1 0 g → S.1 (4, 0, 0) 0 = nI (qy_ec g) := fun S hR => by rw [hR.1]; exact hW.1
  by_cases ha : (0 : Int32) ≤ a ∧ a ≤ 1439
  · obtain ⟨n, hk, rfl⟩ := qy_of ha.1
    have hk2 : n ≤ 1439 := (qz_le_nI (a := n) (b := 1439) (by omega) (by decide)).mp ha.2
    have c1 : nI n < (1440 : Int32) := by rw [show (1440 : Int32) = nI 1440 from rfl, qy_lt (by omega) (by omega)]; omega
    by_cases he : qy_ec g < 10
    · have d1 : nI (qy_ec g) < (10 : Int32) := by rw [show (10 : Int32) = nI 10 from rfl, qy_lt (by omega) (by omega)]; exact he
      obtain ⟨G1, hG⟩ : ∃ G1 : Nat → Int32, ∀ c, G1 c = if c = 4 then nI (qy_ec g + 1) else if c = 13 + qy_ec g then nI n else g c := ⟨_, fun _ => rfl⟩
      have hec : qy_ec G1 = qy_ec g + 1 := by
        have := hG 4
        rw [if_pos rfl] at this
        unfold qy_ec at this ⊢
        rw [this]
        exact qz_cl_nI (by unfold qy_ec at he; omega)
      refine ⟨nI (qy_ec g), G1, ?_, Or.inr ⟨qy_ge0 (by omega), fun S hR hJ => ⟨fun R4 => Option.bind (gW_openEnd F R4 (nI n)) fun R6 => some (R6.1, R6.2), ?_, fun S1 k1 k2 => ?_⟩⟩⟩
      · refine ⟨?_, fun j hj => by rw [hG, if_neg (by omega), if_neg (by omega)]; exact hWv.2 j hj⟩
        refine qy_WfL hW (fun c h1 _ => ?_) ?_ ?_ ?_ ?_ ?_ ?_ ?_ ?_
        · rw [hG, if_neg (by omega), if_neg (by omega)]
        · rw [hG, if_neg (by omega), if_neg (by omega)]
        · rw [hG, if_neg (by omega), if_neg (by omega)]
        · rw [hec, hG, if_pos rfl]
        · rw [hec]; omega
        · rw [hec]; omega
        · rw [hG, if_neg (by omega), if_neg (by omega)]; exact hW.2.2.2.2.2.1
        · intro i hi
          rw [hG, if_neg (by omega)]
          by_cases e : i = qy_ec g
          · rw [if_pos (by omega)]; exact ⟨n, by omega, rfl⟩
          · rw [if_neg (by omega)]; exact hW.2.2.2.2.2.2.1 i hi
        · intro l e hl he'
          rw [hec, hG, if_neg (by omega), if_neg (by omega)]
          rcases hW.2.2.2.2.2.2.2.1 l e hl he' with h | ⟨o, b1, b2, b3, b4, b5⟩
          · exact Or.inl h
          · exact Or.inr ⟨o, by omega, by omega, b3, b4, by rw [hG, if_neg (by omega), if_neg (by omega)]; exact b5⟩
      · show gX_addEnd F S (nI n) = _
        unfold gX_addEnd
        rw [if_neg (qy_nn hk), if_pos c1, h4 S hR, if_pos d1]
      · have h41 : S1.1 (4, 0, 0) 0 = nI (qy_ec g) := h4 S1 k1
        refine ⟨qz_wr (qz_wr S1 (10, 0, 0) (qy_ec g) (nI n)) (4, 0, 0) 0 (nI (qy_ec g) + 1), ?_, rfl, ?_, ?_⟩
        · show (Option.bind (gW_openEnd F S1 (nI n)) fun R6 => some (R6.1, R6.2)) = _
          unfold gW_openEnd
          rw [h41, if_neg (qy_nn (by omega)), if_pos d1, if_pos (qz_xi_nI he (by decide)), qz_cl_nI (by omega)]
          rfl
        · exact qy_fwT (qy_fwW (Or.inr (Or.inr (Or.inl rfl)))) (qy_fwW (Or.inr (Or.inl rfl)))
        · have hec : ∀ i, i ≠ 0 → (qz_wr (qz_wr S1 (10, 0, 0) (qy_ec g) (nI n)) (4, 0, 0) 0 (nI (qy_ec g) + 1)).1 (4, 0, 0) i = S1.1 (4, 0, 0) i := fun i hi => by
            rw [wr_ne (fun q => hi q.2), wr_ne (fun q => qy_kn (by decide) q.1)]
          refine qy_RelL k1 (fun i j => ?_) (fun c h1 _ => ?_) ?_ hW.2.2.2.1 ?_ ?_ ?_ ?_ ?_ ?_
          · rw [wr_ne (fun q => qy_kn (by decide) q.1), wr_ne (fun q => qy_kn (by decide) q.1)]
          · rw [hG, if_neg (by omega), if_neg (by omega)]
          · rw [hG, if_neg (by omega), if_neg (by omega)]
          · rw [hG, if_pos rfl, wr_eq, qz_nI1]
          · rw [hG, if_neg (by omega), if_neg (by omega), hec 5 (by omega)]; exact k1.2.1
          · intro c hc
            rw [hG, if_neg (by omega), if_neg (by omega), hec _ (by omega)]; exact k1.2.2.1 c hc
          · intro i hi
            rw [hG, if_neg (by omega), wr_ne (fun q => qy_kn (by decide) q.1)]
            by_cases e : i = qy_ec g
            · rw [if_pos (by omega), e, wr_eq]
            · rw [if_neg (by omega), wr_ne (fun q => e q.2)]; exact k1.2.2.2.1 i hi
          · intro i hi
            rw [hG, if_neg (by omega), if_neg (by omega), wr_ne (fun q => qy_kn (by decide) q.1), wr_ne (fun q => qy_kn (by decide) q.1)]; exact k1.2.2.2.2.1 i hi
          · intro i hi
            rw [hG, if_neg (by omega), if_neg (by omega), wr_ne (fun q => qy_kn (by decide) q.1), wr_ne (fun q => qy_kn (by decide) q.1)]; exact k1.2.2.2.2.2.1 i hi
    · refine qv_no (v := -3) hWv (by decide) (fun S hR _ => ?_)
      have e10 : qy_ec g = 10 := by omega
      have h4' := h4 S hR
      rw [e10] at h4'
      show gX_addEnd F S (nI n) = _
      unfold gX_addEnd
      rw [if_neg (qy_nn hk), if_pos c1, h4', if_neg (by decide)]
  · refine qv_no (v := -2) hWv (by decide) (fun S hR _ => ?_)
    show gX_addEnd F S a = _
    unfold gX_addEnd
    by_cases h0 : a < 0
    · rw [if_pos h0]
    · rw [if_neg h0, if_neg]
      intro q
      apply ha
      obtain ⟨n, hk, rfl⟩ := qy_of (Int32.not_lt.mp h0)
      rw [show (1440 : Int32) = nI 1440 from rfl, qy_lt (by omega) (by omega)] at q
      exact ⟨qy_ge0 hk, (qz_le_nI (a := n) (b := 1439) (by omega) (by decide)).mpr (by omega)⟩
/-! a day -/
theorem qv_srp (t : Nat → Int32) (p : Nat → Bool) (h : ∀ j, t j = if p j = true then 1 else 0) : ∀ n, qy_sr n t = nI ((List.range n).countP p) := by
  intro n
  induction n with
  | zero => rfl
  | succ n ih =>
    rw [qy_srS, ih, h n, List.range_succ, List.countP_append, List.countP_singleton]
    by_cases hp : p n = true
    · rw [if_pos hp, if_pos hp, qz_nI1]
    · rw [if_neg hp, if_neg hp, Nat.add_zero, Int32.add_zero]
theorem qv_sr3 (a b c : Nat → Int32) (h : ∀ j, a j + b j + c j = 1) : ∀ n, qy_sr n a + qy_sr n b + qy_sr n c = nI n := by
  intro n
  induction n with
  | zero => rfl
  | succ n ih =>
    have e := h n
    rw [qy_srS, qy_srS, qy_srS]
    rw [← qz_nI1, ← ih, ← e]
    grind
/-- the state behind a day, but for the day itself -/
def qv_dT (g : Nat → Int32) : Nat → Int32 := fun j =>
  if j = 8 then g 8 + qy_sr (qy_n g) (fun k => qy_w7 g (qy_Lm g) (qy_rm g k))
  else if j = 9 then g 9 + qy_sr (qy_n g) (fun k => qy_w8 g (qy_Lm g) (qy_rm g k))
  else if j = 10 then g 10 + qy_sr (qy_n g) (fun k => qy_w9 (qy_rm g k))
  else if j = 11 then g 11 + qy_sr (2 * qy_ec g) (fun k => qy_tb g (qy_Lm g) (k % 2) (k / 2))
  else if j = 12 then g 12 + qy_sr (qy_n g) (fun k => qy_w11 g (qy_Lm g) (qy_rm g k))
  else if 43 ≤ j ∧ j < 43 + 8 * qy_n g ∧ (j - 43) % 8 = 5 then g j + qy_w7 g (qy_Lm g) (qy_rm g ((j - 43) / 8))
  else if 43 ≤ j ∧ j < 43 + 8 * qy_n g ∧ (j - 43) % 8 = 6 then g j + qy_w8 g (qy_Lm g) (qy_rm g ((j - 43) / 8))
  else if 43 ≤ j ∧ j < 43 + 8 * qy_n g ∧ (j - 43) % 8 = 7 then g j + qy_w9 (qy_rm g ((j - 43) / 8))
  else g j
theorem qv_dPD : qm_PD g (qv_dT g) (fun _ => true) (fun j => decide (j < qy_n g)) (qy_sr (2 * qy_ec g) (fun k => qy_tb g (qy_Lm g) (k % 2) (k / 2))) := by
  refine ⟨?_, ?_, ?_, ?_, ?_, ?_, ?_, ?_⟩
  · intro j h1 h2
    unfold qv_dT
    rw [if_neg (by omega), if_neg (by omega), if_neg (by omega), if_neg (by omega), if_neg (by omega), if_neg (by omega), if_neg (by omega), if_neg (by omega)]
  · intro i hi
    refine ⟨?_, ?_, ?_⟩
    · unfold qv_dT
      rw [if_neg (by omega), if_neg (by omega), if_neg (by omega), if_neg (by omega), if_neg (by omega), if_pos (by omega), if_pos rfl]
      rw [show (43 + 8 * i + 5 - 43) / 8 = i by omega]
    · unfold qv_dT
      rw [if_neg (by omega), if_neg (by omega), if_neg (by omega), if_neg (by omega), if_neg (by omega), if_neg (by omega), if_pos (by omega), if_pos rfl]
      rw [show (43 + 8 * i + 6 - 43) / 8 = i by omega]
    · unfold qv_dT
      rw [if_neg (by omega), if_neg (by omega), if_neg (by omega), if_neg (by omega), if_neg (by omega), if_neg (by omega), if_neg (by omega), if_pos (by omega), if_pos (decide_eq_true hi)]
      rw [show (43 + 8 * i + 7 - 43) / 8 = i by omega]
  · unfold qv_dT
    rw [if_neg (by omega), if_neg (by omega), if_neg (by omega), if_neg (by omega), if_neg (by omega), if_neg (by omega), if_neg (by omega), if_neg (by omega)]
  · rw [qy_srT]; rfl
  · rw [qy_srT]; rfl
  · rw [qy_srN]; rfl
  · rfl
  · rw [qy_srT]; rfl
theorem qv_passDay (hWv : qv_Wf g B) (hF : 30 < F) : ∃ v g', qv_Act F f0 B B k g (gX_passDay F) v g' ∧ 0 ≤ v ∧ g' 8 + g' 9 + g' 10 = g 8 + g 9 + g 10 + g 6 := by
  have hW := hWv.1
  have h30 := hW.2.2.2.1
  obtain ⟨G1, hG⟩ : ∃ G1 : Nat → Int32, ∀ c, G1 c = if c = 7 then qv_dT g 7 + 1 else qv_dT g c := ⟨_, fun _ => rfl⟩
  have hPD := qv_dPD (g := g)
  have hv : (0 : Int32) ≤ qy_sr (qy_n g) (fun k => qy_w8 g (qy_Lm g) (qy_rm g k)) := by
    rw [qv_srp (fun k => qy_w8 g (qy_Lm g) (qy_rm g k)) (fun k => !qy_wt (qy_rm g k) && !qy_dr g (qy_Lm g) (qy_rm g k)) (fun j => rfl)]
    have : (List.range (qy_n g)).countP (fun k => !qy_wt (qy_rm g k) && !qy_dr g (qy_Lm g) (qy_rm g k)) ≤ (List.range (qy_n g)).length := List.countP_le_length
    rw [List.length_range] at this
    exact qy_ge0 (by omega)
  refine ⟨_, G1, ⟨?_, Or.inr ⟨hv, fun S hR hJ => ⟨_, rfl, fun S1 k1 k2 => ?_⟩⟩⟩, hv, ?_⟩
  · refine ⟨qy_WfC (fun c _ h7 => ?_) (qm_PDW hPD hW), fun j hj => ?_⟩
    · rw [hG, if_neg (by omega)]
    · rw [hG, if_neg (by omega), qm_PDlo hPD (by omega) (by omega)]
      exact hWv.2 j hj
  · obtain ⟨S2, b1, b2, b3, b4⟩ := qy_dayC (F := F) k1 hW hF
    refine ⟨S2, b1, b2, ?_, b4 _ G1 hPD (by rw [hG, if_pos rfl]) (fun j hj => by rw [hG, if_neg hj])⟩
    intro n j hn
    exact b3 n j (fun q => hn ⟨q.2, Or.inl q.1⟩) (fun q => hn (by rw [q]; exact ⟨rfl, Or.inr (Or.inl rfl)⟩))
  · rw [hG, hG, hG, if_neg (by decide), if_neg (by decide), if_neg (by decide)]
    have e := qv_sr3 (fun k => qy_w7 g (qy_Lm g) (qy_rm g k)) (fun k => qy_w8 g (qy_Lm g) (qy_rm g k)) (fun k => qy_w9 (qy_rm g k)) (fun j => by
      simp only [qy_w7, qy_w8, qy_w9]
      cases qy_wt (qy_rm g j) <;> cases qy_dr g (qy_Lm g) (qy_rm g j) <;> simp) (qy_n g)
    rw [hW.2.2.1, ← e]
    show (g 8 + _) + (g 9 + _) + (g 10 + _) = _
    grind
/-! a setting -/
theorem qv_isSet (hK : qy_K f0) (hO : qy_Co f0 f) {n : Nat} (hk : n < 4) (v : Int32) : ∃ w, gX_isSettingValue F f (nI n) v = some w ∧ (w = 0) = ¬ qy_vs n v := by
  have h31 : f (31, 0, 0) n = qz_g31 n := (hO _ _ (by decide)).trans (congrFun hK.1 n)
  have h32 : f (32, 0, 0) n = qz_g32 n := (hO _ _ (by decide)).trans (congrFun hK.2 n)
  have c1 : ¬ (4 : Int32) ≤ nI n := fun q => by have := (qz_le_nI (a := 4) (b := n) (by decide) (by omega)).mp q; omega
  unfold gX_isSettingValue qy_vs
  rw [if_neg (qy_nn (by omega)), if_neg c1, if_pos (Int32.not_le.mp c1), if_pos (qz_xi_nI hk (by decide)), qz_cl_nI (by omega), h31, h32]
  by_cases a : v < qz_g31 n
  · rw [if_pos a]
    exact ⟨0, rfl, by simp [Int32.not_le.mpr a]⟩
  · rw [if_neg a]
    by_cases b : qz_g32 n < v
    · rw [if_pos b]
      exact ⟨0, rfl, by simp [Int32.not_le.mpr b]⟩
    · rw [if_neg b]
      exact ⟨1, rfl, by simp [Int32.not_lt.mp a, Int32.not_lt.mp b]⟩
theorem qv_vs0 {n : Nat} (hn : n < 4) {v : Int32} (h : qy_vs n v) : 0 ≤ v := by
  have : (0 : Int32) ≤ qz_g31 n := by
    have hc : n = 0 ∨ n = 1 ∨ n = 2 ∨ n = 3 := by omega
    rcases hc with rfl | rfl | rfl | rfl <;> decide
  exact Int32.le_trans this h.1
theorem qv_set (hWv : qv_Wf g B) (hK : qy_K f0) (hF : 30 < F) (a0 a1 : Int32) : ∃ v g', qv_Act F f0 B B k g (fun S => gX_set F S a0 a1) v g' := by
  obtain ⟨hW, hS⟩ := id hWv
  by_cases h : ∃ n, n < 4 ∧ a0 = nI n
  · obtain ⟨n, hn, rfl⟩ := h
    have hcl : (nI n).toNatClampNeg = n := qz_cl_nI (by omega)
    by_cases hv : qy_vs n a1
    · have hx : ∀ f : qz_F, qy_Co f0 f → ∃ w, gX_isSettingValue F f (nI n) a1 = some w ∧ ¬ w = 0 := fun f hO => by
        obtain ⟨w, w1, w2⟩ := qv_isSet (F := F) hK hO hn a1
        exact ⟨w, w1, by rw [w2]; exact fun q => q hv⟩
      by_cases hs : g n = a1
      · refine ⟨-5, g, hWv, Or.inl ⟨by decide, rfl, fun S hR hJ => ?_⟩⟩
        obtain ⟨w, w1, wn⟩ := hx S.1 hJ.2
        show gX_set F S (nI n) a1 = _
        unfold gX_set
        rw [w1]
        simp only [Option.bind_some]
        rw [if_neg wn, qy_set4 hR hn]
        simp only [Option.bind_some]
        rw [if_pos hs]
      · obtain ⟨G1, hG1⟩ : ∃ G1 : Nat → Int32, G1 = (fun c => if c = n then a1 else g c) := ⟨_, rfl⟩
        have hGo : ∀ c, c ≠ n → G1 c = g c := fun c hc => by rw [hG1]; exact if_neg hc
        have hGk : G1 n = a1 := by rw [hG1]; exact if_pos rfl
        have hec : qy_ec G1 = qy_ec g := by unfold qy_ec; rw [hGo 4 (by omega)]
        have hW2 : qy_Wf G1 B := by
          refine qy_WfL hW (fun c h1 _ => hGo c (by omega)) (hGo 5 (by omega)) (hGo 6 (by omega)) ?_ ?_ ?_ ?_ ?_ ?_
          · rw [hec, hGo 4 (by omega)]; exact hW.1
          · rw [hec]; exact hW.2.1
          · rw [hec]; exact Nat.le_refl _
          · by_cases e : n = 1
            · subst e
              rw [hGk]
              obtain ⟨v1, v2⟩ := hv
              have v1 : (1 : Int32) ≤ a1 := v1
              have v2 : a1 ≤ (30 : Int32) := v2
              obtain ⟨s, hs, rfl⟩ := qy_of (Int32.le_trans (show (0 : Int32) ≤ 1 by decide) v1)
              exact ⟨s, (qz_le_nI (a := 1) (b := s) (by decide) (by omega)).mp v1, (qz_le_nI (a := s) (b := 30) (by omega) (by decide)).mp v2, rfl⟩
            · rw [hGo 1 (by omega)]; exact hW.2.2.2.2.2.1
          · intro i hi
            rw [hGo _ (by omega)]; exact hW.2.2.2.2.2.2.1 i hi
          · intro l e hl he
            rw [hec, hGo _ (by omega)]
            rcases hW.2.2.2.2.2.2.2.1 l e hl he with h | ⟨o, b1, b2, b3, b4, b5⟩
            · exact Or.inl h
            · exact Or.inr ⟨o, b1, b2, b3, b4, by rw [hGo _ (by omega)]; exact b5⟩
        have hS2 : qv_Ws G1 := by
          intro j hj
          by_cases e : j = n
          · rw [e, hGk]; exact hv
          · rw [hGo j e]; exact hS j hj
        have hv0 : 0 ≤ g n := qv_vs0 hn (hS n hn)
        have hR2 : ∀ S1 : qz_S, qy_Rel S1.1 0 g → qy_Rel (qz_wr S1 (12, 0, 0) n a1).1 0 G1 := by
          intro S1 k1
          have e0 : ∀ k' i j, k' ≠ 12 → (qz_wr S1 (12, 0, 0) n a1).1 (k', 0, i) j = S1.1 (k', 0, i) j := fun k' i j hk' => wr_ne (fun q => qy_kn hk' q.1)
          refine qy_RelL k1 (fun i j => e0 _ _ _ (by decide)) (fun c h1 _ => hGo c (by omega)) (hGo 6 (by omega)) hW.2.2.2.1 ?_ ?_ ?_ ?_ ?_ ?_
          · rw [e0 _ _ _ (by decide), hGo 4 (by omega)]; exact k1.1
          · rw [e0 _ _ _ (by decide), hGo 5 (by omega)]; exact k1.2.1
          · intro c hc
            rw [e0 _ _ _ (by decide), hGo _ (by omega)]; exact k1.2.2.1 c hc
          · intro i hi
            rw [e0 _ _ _ (by decide), hGo _ (by omega)]; exact k1.2.2.2.1 i hi
          · intro i hi
            rw [e0 _ _ _ (by decide), hGo _ (by omega)]; exact k1.2.2.2.2.1 i hi
          · intro i hi
            by_cases e : i = n
            · subst e
              rw [wr_eq, hGk]
            · rw [wr_ne (fun q => e q.2), hGo i e]; exact k1.2.2.2.2.2.1 i hi
        have hch : ∀ S1 : qz_S, gW_changeSetting F S1 (nI n) a1 = some (qz_wr S1 (12, 0, 0) n a1) := by
          intro S1
          have c1 : ¬ (4 : Int32) ≤ nI n := fun q => by have := (qz_le_nI (a := 4) (b := n) (by decide) (by omega)).mp q; omega
          unfold gW_changeSetting
          rw [if_neg (qy_nn (by omega)), if_neg c1, if_pos (qz_xi_nI hn (by decide)), hcl]
          rfl
        have hx2 : ∀ S : qz_S, qy_Rel S.1 0 g → qv_J f0 B k S.1 → gX_set F S (nI n) a1 = Option.bind (gH_remember F S) fun R7 => Option.bind (gW_changeSetting F R7 (nI n) a1) fun R9 => if nI n = (2 : Int32) then (some (g n, R9)) else (Option.bind (gW_lookAtWaiting F R9) fun R12 => some (g n, R12)) := by
          intro S hR hJ
          obtain ⟨w, w1, wn⟩ := hx S.1 hJ.2
          unfold gX_set
          rw [w1]
          simp only [Option.bind_some]
          rw [if_neg wn, qy_set4 hR hn]
          simp only [Option.bind_some]
          rw [if_neg hs]
        by_cases h2 : nI n = (2 : Int32)
        · refine ⟨g n, G1, ⟨hW2, hS2⟩, Or.inr ⟨hv0, fun S hR hJ => ⟨_, hx2 S hR hJ, fun S1 k1 k2 => ⟨qz_wr S1 (12, 0, 0) n a1, ?_, rfl, qy_fwW (by decide), hR2 S1 k1⟩⟩⟩⟩
          show (Option.bind (gW_changeSetting F S1 (nI n) a1) fun R9 => _) = _
          rw [hch]
          simp only [Option.bind_some]
          rw [if_pos h2]
        · obtain ⟨G2, hW3, ⟨Q, eQ⟩, l0⟩ := qv_look (F := F) (show qv_Wf G1 B from ⟨hW2, hS2⟩) hF
          refine ⟨g n, G2, hW3, Or.inr ⟨hv0, fun S hR hJ => ⟨_, hx2 S hR hJ, fun S1 k1 k2 => ?_⟩⟩⟩
          obtain ⟨S2, l1, l2, l3, l4⟩ := l0 _ (hR2 S1 k1)
          refine ⟨S2, ?_, l2, qy_fwT (qy_fwW (by decide)) (qy_fwl l3), l4⟩
          show (Option.bind (gW_changeSetting F S1 (nI n) a1) fun R9 => _) = _
          rw [hch]
          simp only [Option.bind_some]
          rw [if_neg h2, l1]
          rfl
    · refine ⟨-2, g, hWv, Or.inl ⟨by decide, rfl, fun S hR hJ => ?_⟩⟩
      obtain ⟨w, w1, w2⟩ := qv_isSet (F := F) hK hJ.2 hn a1
      have wn : w = 0 := by rw [w2]; exact hv
      show gX_set F S (nI n) a1 = _
      unfold gX_set
      rw [w1]
      simp only [Option.bind_some]
      rw [if_pos wn]
  · refine ⟨-2, g, hWv, Or.inl ⟨by decide, rfl, fun S hR hJ => ?_⟩⟩
    have hx : gX_isSettingValue F S.1 a0 a1 = some 0 := by
      unfold gX_isSettingValue
      by_cases h0 : a0 < 0
      · rw [if_pos h0]
      · rw [if_neg h0]
        obtain ⟨n, hk, rfl⟩ := qy_of (Int32.not_lt.mp h0)
        have : (4 : Int32) ≤ nI n := (qz_le_nI (a := 4) (b := n) (by decide) (by omega)).mpr (by
          by_cases q : 4 ≤ n
          · exact q
          · exact absurd ⟨n, by omega, rfl⟩ h)
        rw [if_pos this]
    show gX_set F S a0 a1 = _
    unfold gX_set
    rw [hx]
    rfl
end QVB
