/-! acts: book -/
def qy_nr (N e l s p : Int32) : Nat → Int32 := fun c => if c = 0 then N else if c = 1 then e else if c = 2 then l else if c = 3 then s else if c = 4 then p else 0
section QYa
variable {F B B' m : Nat} {f0 f f' : qz_F} {g g' : Nat → Int32} {S S' : qz_S}
theorem qy_ent0 (T : qz_S) (i : Nat) (a0 a1 a2 p : Int32) : ∃ S2, S2 = qz_wr (qz_wr (qz_wr (qz_wr (qz_wr (qz_wr T (0, 0, i) 0 (T.1 (4, 0, 0) 5)) (0, 0, i) 1 a0) (0, 0, i) 2 a1) (0, 0, i) 3 a2) (0, 0, i) 4 p) (4, 0, 0) 5
    ((qz_wr (qz_wr (qz_wr (qz_wr (qz_wr T (0, 0, i) 0 (T.1 (4, 0, 0) 5)) (0, 0, i) 1 a0) (0, 0, i) 2 a1) (0, 0, i) 3 a2) (0, 0, i) 4 p).1 (4, 0, 0) 5 + 1) ∧ S2.2 = T.2 ∧ S2.1 (4, 0, 0) 5 = T.1 (4, 0, 0) 5 + 1 ∧ (∀ n j, n ≠ (0, 0, i) → ¬ (n = (4, 0, 0) ∧ j = 5) → S2.1 n j = T.1 n j) ∧
      ∀ c, S2.1 (0, 0, i) c = if c = 0 then T.1 (4, 0, 0) 5 else if c = 1 then a0 else if c = 2 then a1 else if c = 3 then a2 else if c = 4 then p else T.1 (0, 0, i) c := by
  have k4 : ∀ (U : qz_S) (j : Nat) (x : Int32) (j' : Nat), (qz_wr U (0, 0, i) j x).1 (4, 0, 0) j' = U.1 (4, 0, 0) j' := fun U j x j' => wr_ne (fun q => qy_kn (by decide) q.1)
  refine ⟨_, rfl, rfl, ?_, ?_, ?_⟩
  · rw [wr_eq, k4, k4, k4, k4, k4]
  · intro n j h1 h2
    rw [wr_ne h2, wr_ne (fun q => h1 q.1), wr_ne (fun q => h1 q.1), wr_ne (fun q => h1 q.1), wr_ne (fun q => h1 q.1), wr_ne (fun q => h1 q.1)]
  · intro c
    rw [wr_ne (fun q => qy_kn (by decide) q.1)]
    by_cases c0 : c = 0
    · rw [if_pos c0, c0]; simp [qz_wr]
    · rw [if_neg c0]
      by_cases c1 : c = 1
      · rw [if_pos c1, c1]; simp [qz_wr]
      · rw [if_neg c1]
        by_cases c2 : c = 2
        · rw [if_pos c2, c2]; simp [qz_wr]
        · rw [if_neg c2]
          by_cases c3 : c = 3
          · rw [if_pos c3, c3]; simp [qz_wr]
          · rw [if_neg c3]
            by_cases c4 : c = 4
            · rw [if_pos c4, c4, wr_eq]
            · rw [if_neg c4, wr_ne (fun q => c4 q.2), wr_ne (fun q => c3 q.2), wr_ne (fun q => c2 q.2), wr_ne (fun q => c1 q.2), wr_ne (fun q => c0 q.2)]
theorem qy_ent1 (lp : Nat → qz_S → Int32 → Option (Int32 × qz_S)) (K : Int32 → qz_S → Option (Int32 × qz_S)) (a0 a1 a2 p : Int32) (hF : 30 < F) (hn : (qy_Lc S.1 0).length < 30)
    (hl : ∀ n T y, lp (n + 1) T y = if (30 : Int32) ≤ y then (K y T) else (if qz_xi y 30 = true then (if (gB_isLive T.1 ((y).toNatClampNeg)) = 0 then (qz_let (qz_wr T ((0, 0, (y).toNatClampNeg) : qz_N) 0 (T.1 ((4, 0, 0) : qz_N) 5)) fun S19 => qz_let (qz_wr S19 ((0, 0, (y).toNatClampNeg) : qz_N) 1 a0) fun S20 => qz_let (qz_wr S20 ((0, 0, (y).toNatClampNeg) : qz_N) 2 a1) fun S21 => qz_let (qz_wr S21 ((0, 0, (y).toNatClampNeg) : qz_N) 3 a2) fun S22 => qz_let (qz_wr S22 ((0, 0, (y).toNatClampNeg) : qz_N) 4 p) fun S23 => qz_let (qz_wr S23 ((4, 0, 0) : qz_N) 5 ((S23.1 ((4, 0, 0) : qz_N) 5) + (1 : Int32))) fun S24 => some ((S24.1 ((0, 0, (y).toNatClampNeg) : qz_N) 0), S24)) else (lp n T (y + 1))) else none)) :
    ∃ i S2, i < 30 ∧ qy_lv (qy_rc S.1 0 i) = false ∧ lp F S 0 = some (S.1 (4, 0, 0) 5, S2) ∧ S2.2 = S.2 ∧ S2.1 (4, 0, 0) 5 = S.1 (4, 0, 0) 5 + 1 ∧ (∀ n j, n ≠ (0, 0, i) → ¬ (n = (4, 0, 0) ∧ j = 5) → S2.1 n j = S.1 n j) ∧
      ∀ c, S2.1 (0, 0, i) c = if c = 0 then S.1 (4, 0, 0) 5 else if c = 1 then a0 else if c = 2 then a1 else if c = 3 then a2 else if c = 4 then p else S.1 (0, 0, i) c := by
  refine qy_lpE lp 30 (fun i T => T = S ∧ ∀ j, j < i → qy_lv (qy_rc S.1 0 j) = true) (fun r => ∃ i S2, i < 30 ∧ qy_lv (qy_rc S.1 0 i) = false ∧ r = some (S.1 (4, 0, 0) 5, S2) ∧ S2.2 = S.2 ∧ S2.1 (4, 0, 0) 5 = S.1 (4, 0, 0) 5 + 1 ∧ (∀ n j, n ≠ (0, 0, i) → ¬ (n = (4, 0, 0) ∧ j = 5) → S2.1 n j = S.1 n j) ∧
      ∀ c, S2.1 (0, 0, i) c = if c = 0 then S.1 (4, 0, 0) 5 else if c = 1 then a0 else if c = 2 then a1 else if c = 3 then a2 else if c = 4 then p else S.1 (0, 0, i) c) ?_ ?_ F 0 S (by omega) (by omega) ⟨rfl, fun j h => absurd h (by omega)⟩
  · rintro n i T hi ⟨rfl, q2⟩
    obtain ⟨c1, c2, c3, c4⟩ := qy_c30 hi
    rw [hl, if_neg c1, if_pos c2, c3, c4]
    cases hv : qy_lv (qy_rc T.1 0 i)
    · right
      rw [if_pos (by rw [qy_lv0]; exact hv)]
      simp only [qz_let]
      obtain ⟨S2, e, e1, e2, e3, e4⟩ := qy_ent0 T i a0 a1 a2 p
      rw [← e]
      refine ⟨i, S2, hi, hv, ?_, e1, e2, e3, e4⟩
      rw [e4 0, if_pos rfl]
    · left
      rw [if_neg (by rw [qy_lv0, hv]; decide)]
      refine ⟨T, rfl, rfl, fun j hj => ?_⟩
      by_cases e : j = i
      · rw [e]; exact hv
      · exact q2 j (by omega)
  · rintro n T ⟨rfl, q2⟩
    exfalso
    have : (qy_Lc T.1 0).length = 30 := by
      unfold qy_Lc
      rw [List.filter_eq_self.mpr]
      · simp
      · intro r hr
        obtain ⟨j, hj, rfl⟩ := List.mem_map.mp hr
        exact q2 j (List.mem_range.mp hj)
    omega
theorem qy_enter (hR : qy_Rel S.1 0 g) (hW : qy_Wf g B) (hF : 1132 < F) (hB6 : B + 1 ≤ 60000) {l e s : Nat} (hl : l < 2) (he : e < qy_ec g) (hs1 : 1 ≤ s) (hs9 : s ≤ 9) (hn : qy_n g < 30) :
    ∃ N S2 G1, gW_enter F S (nI e) (nI l) (nI s) = some (N, S2) ∧ S2.2 = S.2 ∧ qy_fw 0 S.1 S2.1 ∧ qy_Rel S2.1 0 G1 ∧ qy_Wf G1 (B + 1) ∧ qy_n G1 = qy_n g + 1 ∧ qy_ec G1 = qy_ec g ∧
      ∀ S3 : qz_S, S3.1 (17, 0, 0) = g → ∃ S4, gM_books F S3 (nI e) (nI l) (nI s) = some (N, S4) ∧ S4.2 = S3.2 ∧ (∀ n j, n ≠ (17, 0, 0) → S4.1 n j = S3.1 n j) ∧ S4.1 (17, 0, 0) = G1 := by
  have h10 := hW.2.1
  have h30 := hW.2.2.2.1
  obtain ⟨x, hx, h5⟩ := hW.2.2.2.2.1
  have hp := hR.2.2.2.2.2.2.1
  obtain ⟨p, hpv⟩ : ∃ p : Int32, p = if qy_rs g (qy_Lm g) l e (nI s) (-1) = 0 then 1 else 0 := ⟨_, rfl⟩
  have hrs : gW_reason F S.1 (nI l) (nI e) (nI s) none = some (qy_rs g (qy_Lm g) l e (nI s) (-1)) := by
    rw [qy_reason hR hW (by omega) hl he (nI s) (-1) none (qy_none S.1)]
    unfold qy_rs
    rw [hp.countP_eq]
  have hlen : (qy_Lc S.1 0).length < 30 := by rw [qy_lenR hR]; exact hn
  have hcls : ∃ i S2, i < 30 ∧ qy_lv (qy_rc S.1 0 i) = false ∧ gW_enter F S (nI e) (nI l) (nI s) = some (S.1 (4, 0, 0) 5, S2) ∧ S2.2 = S.2 ∧ S2.1 (4, 0, 0) 5 = S.1 (4, 0, 0) 5 + 1 ∧ (∀ n j, n ≠ (0, 0, i) → ¬ (n = (4, 0, 0) ∧ j = 5) → S2.1 n j = S.1 n j) ∧
      ∀ c, S2.1 (0, 0, i) c = if c = 0 then S.1 (4, 0, 0) 5 else if c = 1 then nI e else if c = 2 then nI l else if c = 3 then nI s else if c = 4 then p else S.1 (0, 0, i) c := by
    unfold gW_enter
    rw [hrs]
    simp only [Option.bind_some]
    by_cases hq : qy_rs g (qy_Lm g) l e (nI s) (-1) = 0
    · rw [if_pos hq] at hpv ⊢
      exact qy_ent1 (fun n T y => gW_enter_L32 F (nI e) (nI l) (nI s) (fun y713 T14 => some ((-3 : Int32), T14)) n y T) _ (nI e) (nI l) (nI s) p (by omega) hlen (fun n T y => by rw [gW_enter_L32, hpv])
    · rw [if_neg hq] at hpv ⊢
      exact qy_ent1 (fun n T y => gW_enter_L32b F (nI e) (nI l) (nI s) (fun y725 T26 => some ((-3 : Int32), T26)) n y T) _ (nI e) (nI l) (nI s) p (by omega) hlen (fun n T y => by rw [gW_enter_L32b, hpv])
  obtain ⟨i, S2, hi, hdead, a1, a2, a3, a4, a5⟩ := hcls
  have e5 : S.1 (4, 0, 0) 5 = nI x := hR.2.1.trans h5
  rw [e5] at a1 a3 a5
  obtain ⟨G1, hG1⟩ : ∃ G1 : Nat → Int32, G1 = (fun c => if c = 5 then nI (x + 1) else if c = 6 then nI (qy_n g + 1) else if 43 + 8 * qy_n g ≤ c ∧ c < 43 + 8 * qy_n g + 8 then qy_nr (nI x) (nI e) (nI l) (nI s) p (c - (43 + 8 * qy_n g)) else g c) := ⟨_, rfl⟩
  have hG5 : G1 5 = nI (x + 1) := by rw [hG1]; rfl
  have hG6 : G1 6 = nI (qy_n g + 1) := by rw [hG1]; rfl
  have hGlo : ∀ c, c < 43 → c ≠ 5 → c ≠ 6 → G1 c = g c := fun c h1 h2 h3 => by
    rw [hG1]
    show (if _ then _ else _) = _
    rw [if_neg h2, if_neg h3, if_neg (by omega)]
  have hGn : qy_n G1 = qy_n g + 1 := by
    unfold qy_n at hG6 ⊢
    rw [hG6]
    exact qz_cl_nI (by unfold qy_n at h30; omega)
  have hec : qy_ec G1 = qy_ec g := by unfold qy_ec; rw [hGlo 4 (by decide) (by decide) (by decide)]
  have hr0 : ∀ j, j < qy_n g → qy_rm G1 j = qy_rm g j := by
    intro j hj
    funext c
    unfold qy_rm
    by_cases hc : c < 8
    · rw [if_pos hc, if_pos hc, hG1]
      show (if _ then _ else _) = _
      rw [if_neg (by omega), if_neg (by omega), if_neg (by omega)]
    · rw [if_neg hc, if_neg hc]
  have hrn : qy_rm G1 (qy_n g) = qy_nr (nI x) (nI e) (nI l) (nI s) p := by
    funext c
    unfold qy_rm
    by_cases hc : c < 8
    · rw [if_pos hc, hG1]
      show (if _ then _ else _) = _
      rw [if_neg (by omega), if_neg (by omega), if_pos (by omega)]
      congr 1
      omega
    · rw [if_neg hc]
      unfold qy_nr
      rw [if_neg (by omega), if_neg (by omega), if_neg (by omega), if_neg (by omega), if_neg (by omega)]
  have hLm : qy_Lm G1 = qy_Lm g ++ [qy_nr (nI x) (nI e) (nI l) (nI s) p] := by
    unfold qy_Lm
    rw [hGn, List.range_succ, List.map_append, List.map_singleton, hrn]
    congr 1
    exact List.map_congr_left (fun j hj => hr0 j (List.mem_range.mp hj))
  have hd0 : S.1 (0, 0, i) 0 = -1 := by
    unfold qy_lv at hdead
    have : qy_rc S.1 0 i 0 = S.1 (0, 0, i) 0 := rfl
    rw [this] at hdead
    simpa using hdead
  have hrci : qy_rc S2.1 0 i = qy_nr (nI x) (nI e) (nI l) (nI s) p := by
    funext c
    unfold qy_rc
    by_cases hc : c < 8
    · rw [if_pos hc, a5]
      unfold qy_nr
      by_cases c5 : c < 5
      · have hcc : c = 0 ∨ c = 1 ∨ c = 2 ∨ c = 3 ∨ c = 4 := by omega
        rcases hcc with rfl | rfl | rfl | rfl | rfl <;> rfl
      · rw [if_neg (by omega), if_neg (by omega), if_neg (by omega), if_neg (by omega), if_neg (by omega), if_neg (by omega), if_neg (by omega), if_neg (by omega), if_neg (by omega), if_neg (by omega)]
        have := hR.2.2.2.2.2.2.2.2 i hi hd0 (c - 5) (by omega)
        rw [show 5 + (c - 5) = c by omega] at this
        exact this
    · rw [if_neg hc]
      unfold qy_nr
      rw [if_neg (by omega), if_neg (by omega), if_neg (by omega), if_neg (by omega), if_neg (by omega)]
  have hx6 : x < 2147483648 := by omega
  have hlive : qy_lv (qy_rc S2.1 0 i) = true := by
    rw [hrci]
    unfold qy_lv qy_nr
    have := qy_n1 (a := x) hx6
    simp [this]
  have hLc : (qy_Lc S2.1 0).Perm (qy_nr (nI x) (nI e) (nI l) (nI s) p :: qy_Lc S.1 0) := by
    rw [← hrci]
    refine qy_flt (qy_rc S2.1 0) (qy_rc S.1 0) i hlive hdead (List.range 30) List.nodup_range (List.mem_range.mpr hi) (fun j _ hj => ?_)
    funext c
    unfold qy_rc
    rw [a4 _ _ (fun q => hj (congrArg (fun n : qz_N => n.2.2) q)) (fun q => qy_kn (by decide) q.1)]
  obtain ⟨h1, h2, h3, h4, h5', h6, h7, h8, h9⟩ := hR
  have k1 : ∀ k j, k ≠ 0 → k ≠ 4 → S2.1 (k, 0, 0) j = S.1 (k, 0, 0) j := fun k j hk hk4 => a4 _ _ (qy_kn hk) (fun q => qy_kn hk4 q.1)
  have k4 : ∀ j, j ≠ 5 → S2.1 (4, 0, 0) j = S.1 (4, 0, 0) j := fun j hj => a4 _ _ (qy_kn (by decide)) (fun q => hj q.2)
  have hR2 : qy_Rel S2.1 0 G1 := by
    refine ⟨?_, ?_, ?_, ?_, ?_, ?_, ?_, ?_, ?_⟩
    · rw [k4 0 (by decide), hGlo 4 (by decide) (by decide) (by decide)]; exact h1
    · rw [a3, hG5, qz_nI1]
    · intro c hc
      rw [k4 _ (by omega), hGlo _ (by omega) (by omega) (by omega)]; exact h3 c hc
    · intro j hj
      rw [k1 10 j (by decide) (by decide), hGlo _ (by omega) (by omega) (by omega)]; exact h4 j hj
    · intro j hj
      rw [k1 11 j (by decide) (by decide), hGlo _ (by omega) (by omega) (by omega)]; exact h5' j hj
    · intro j hj
      rw [k1 12 j (by decide) (by decide), hGlo _ (by omega) (by omega) (by omega)]; exact h6 j hj
    · rw [hLm]
      exact hLc.trans ((h7.cons _).trans (List.perm_append_singleton _ _).symm)
    · intro j hj
      by_cases ej : j = i
      · rw [ej, a5, if_neg (by decide), if_neg (by decide), if_neg (by decide), if_neg (by decide), if_pos rfl, hpv]
        split
        · exact Or.inr rfl
        · exact Or.inl rfl
      · rw [a4 _ _ (fun q => ej (congrArg (fun n : qz_N => n.2.2) q)) (fun q => qy_kn (by decide) q.1)]
        exact h8 j hj
    · intro j hj hj0 c hc
      by_cases ej : j = i
      · rw [ej, a5, if_pos rfl] at hj0
        exact absurd hj0 (qy_n1 hx6)
      · rw [a4 _ _ (fun q => ej (congrArg (fun n : qz_N => n.2.2) q)) (fun q => qy_kn (by decide) q.1)] at hj0 ⊢
        exact h9 j hj hj0 c hc
  have hlt : nI x < nI (x + 1) := by
    rw [qy_lt (by omega) (by omega)]
    omega
  have hW2 : qy_Wf G1 (B + 1) := by
    refine ⟨?_, ?_, ?_, ?_, ?_, ?_, ?_, ?_, ?_, ?_, hB6⟩
    · rw [hec, hGlo 4 (by decide) (by decide) (by decide)]; exact hW.1
    · rw [hec]; exact hW.2.1
    · rw [hGn]; exact hG6
    · rw [hGn]; omega
    · exact ⟨x + 1, by omega, hG5⟩
    · rw [hGlo 1 (by decide) (by decide) (by decide)]; exact hW.2.2.2.2.2.1
    · intro j hj
      rw [hGlo _ (by omega) (by omega) (by omega)]; exact hW.2.2.2.2.2.2.1 j hj
    · intro l' e' hl' he'
      rw [hec, hGlo _ (by omega) (by omega) (by omega)]
      rcases hW.2.2.2.2.2.2.2.1 l' e' hl' he' with h | ⟨o, b1, b2, b3, b4, b5⟩
      · exact Or.inl h
      · exact Or.inr ⟨o, b1, b2, b3, b4, by rw [hGlo _ (by omega) (by omega) (by omega)]; exact b5⟩
    · intro j hj
      rw [hGn] at hj
      by_cases ej : j = qy_n g
      · rw [ej, hrn]
        refine ⟨⟨x, by omega, rfl, by rw [hG5]; exact hlt⟩, ⟨e, by rw [hec]; exact he, rfl⟩, ⟨l, hl, rfl⟩, ⟨s, hs1, hs9, rfl⟩, ?_⟩
        show p = 0 ∨ p = 1
        rw [hpv]
        split
        · exact Or.inr rfl
        · exact Or.inl rfl
      · rw [hr0 j (by omega)]
        obtain ⟨⟨N, hN, w1, w2⟩, ⟨e', w3, w4⟩, w5⟩ := hW.2.2.2.2.2.2.2.2.1 j (by omega)
        refine ⟨⟨N, by omega, w1, ?_⟩, ⟨e', by rw [hec]; exact w3, w4⟩, w5⟩
        rw [hG5]
        rw [h5] at w2
        exact Int32.lt_trans w2 hlt
    · intro j j' hjj hj'
      rw [hGn] at hj'
      rw [hr0 j (by omega)]
      by_cases ej : j' = qy_n g
      · rw [ej, hrn]
        obtain ⟨⟨N, hN, w1, w2⟩, _⟩ := hW.2.2.2.2.2.2.2.2.1 j (by omega)
        rw [h5] at w2
        exact w2
      · rw [hr0 j' (by omega)]
        exact hW.2.2.2.2.2.2.2.2.2.1 j j' hjj (by omega)
  refine ⟨nI x, S2, G1, a1, a2, ?_, hR2, hW2, hGn, hec, ?_⟩
  · intro n j hnj
    exact a4 n j (fun q => hnj (by rw [q]; exact ⟨rfl, Or.inl rfl⟩)) (fun q => hnj (by rw [q.1]; exact ⟨rfl, Or.inr (Or.inl rfl)⟩))
  · intro S3 c1
    have hrm : gM_reasonBut F S3.1 (nI l) (nI e) (nI s) (-5) = some (qy_rs g (qy_Lm g) l e (nI s) (-1)) := by
      have := qm_reasonBut (F := F) (f := S3.1) (B := B) (by rw [c1]; exact hW) (by omega) hl (by rw [c1]; exact he) hs1 hs9 (-1) (-5) (qm_none (B := B) (by rw [c1]; exact hW))
      rw [c1] at this
      exact this
    have h6g : S3.1 (17, 0, 0) 6 = nI (qy_n g) := by rw [c1]; exact hW.2.2.1
    unfold gM_books
    rw [hrm]
    simp only [Option.bind_some]
    refine qy_lpE (fun n (T : qz_S) y => gM_books_L23 F (nI e) (nI l) (nI s) S3 (qy_rs g (qy_Lm g) l e (nI s) (-1)) _ n y T) 8 (fun i T => T.2 = S3.2 ∧ (∀ n j, n ≠ (17, 0, 0) → T.1 n j = S3.1 n j) ∧ ∀ c, T.1 (17, 0, 0) c = if 43 + 8 * qy_n g ≤ c ∧ c < 43 + 8 * qy_n g + i then 0 else g c)
      (fun r => ∃ S4, r = some (nI x, S4) ∧ S4.2 = S3.2 ∧ (∀ n j, n ≠ (17, 0, 0) → S4.1 n j = S3.1 n j) ∧ S4.1 (17, 0, 0) = G1) ?_ ?_ F 0 S3 (by omega) (by omega) ⟨rfl, fun _ _ _ => rfl, fun c => by rw [if_neg (by omega), c1]⟩
    · rintro n i T hi ⟨q1, q2, q3⟩
      left
      have w1 : ¬ (8 : Int32) ≤ nI i := fun q => by have := (qz_le_nI (a := 8) (b := i) (by decide) (by omega)).mp q; omega
      refine ⟨qz_wr T (17, 0, 0) (43 + 8 * qy_n g + i) 0, ?_, q1, ?_, ?_⟩
      · simp only [gM_books_L23, w1, if_false, h6g, qm_lay hn hi, Option.bind_some, qz_nI1]
      · intro n j hnj
        rw [wr_ne (fun q => hnj q.1)]
        exact q2 n j hnj
      · intro c
        by_cases ec : c = 43 + 8 * qy_n g + i
        · rw [ec, wr_eq, if_pos (by omega)]
        · rw [qm_wr17 ec, q3]
          by_cases hc : 43 + 8 * qy_n g ≤ c ∧ c < 43 + 8 * qy_n g + i
          · rw [if_pos hc, if_pos (by omega)]
          · rw [if_neg hc, if_neg (by omega)]
    · rintro n T ⟨q1, q2, q3⟩
      have w1 : (8 : Int32) ≤ nI 8 := by decide
      have y0 : ∀ (U : qz_S) v, gM_lay F U (nI (qy_n g)) 0 v = some (qz_wr U (17, 0, 0) (43 + 8 * qy_n g + 0) v) := fun U v => qm_lay (c := 0) hn (by decide) v
      have y1 : ∀ (U : qz_S) v, gM_lay F U (nI (qy_n g)) 1 v = some (qz_wr U (17, 0, 0) (43 + 8 * qy_n g + 1) v) := fun U v => qm_lay (c := 1) hn (by decide) v
      have y2 : ∀ (U : qz_S) v, gM_lay F U (nI (qy_n g)) 2 v = some (qz_wr U (17, 0, 0) (43 + 8 * qy_n g + 2) v) := fun U v => qm_lay (c := 2) hn (by decide) v
      have y3 : ∀ (U : qz_S) v, gM_lay F U (nI (qy_n g)) 3 v = some (qz_wr U (17, 0, 0) (43 + 8 * qy_n g + 3) v) := fun U v => qm_lay (c := 3) hn (by decide) v
      have y4 : ∀ (U : qz_S) v, gM_lay F U (nI (qy_n g)) 4 v = some (qz_wr U (17, 0, 0) (43 + 8 * qy_n g + 4) v) := fun U v => qm_lay (c := 4) hn (by decide) v
      have t5 : T.1 (17, 0, 0) 5 = nI x := by rw [q3, if_neg (by omega)]; exact h5
      obtain ⟨U, hU⟩ : ∃ U, U = qz_wr (qz_wr (qz_wr (qz_wr (qz_wr T (17, 0, 0) (43 + 8 * qy_n g + 0) (nI x)) (17, 0, 0) (43 + 8 * qy_n g + 1) (nI e)) (17, 0, 0) (43 + 8 * qy_n g + 2) (nI l)) (17, 0, 0) (43 + 8 * qy_n g + 3) (nI s)) (17, 0, 0) (43 + 8 * qy_n g + 4) p := ⟨_, rfl⟩
      have u6 : U.1 (17, 0, 0) 6 = nI (qy_n g) := by
        rw [hU, qm_wr17 (by omega), qm_wr17 (by omega), qm_wr17 (by omega), qm_wr17 (by omega), qm_wr17 (by omega), q3, if_neg (by omega)]
        exact hW.2.2.1
      have u5 : ∀ v, (qz_wr U (17, 0, 0) 6 v).1 (17, 0, 0) 5 = nI x := by
        intro v
        rw [qm_wr17 (by omega), hU, qm_wr17 (by omega), qm_wr17 (by omega), qm_wr17 (by omega), qm_wr17 (by omega), qm_wr17 (by omega), t5]
      have w2 : nI x + 1 - 1 = nI x := by grind
      have hK : gM_books_L23 F (nI e) (nI l) (nI s) S3 (qy_rs g (qy_Lm g) l e (nI s) (-1)) (fun y66 T7 => Option.bind (gM_lay F T7 (S3.1 ((17, 0, 0) : qz_N) 6) (0 : Int32) (T7.1 ((17, 0, 0) : qz_N) 5)) fun R8 => Option.bind (gM_lay F R8 (S3.1 ((17, 0, 0) : qz_N) 6) (1 : Int32) (nI e)) fun R10 => Option.bind (gM_lay F R10 (S3.1 ((17, 0, 0) : qz_N) 6) (2 : Int32) (nI l)) fun R12 => Option.bind (gM_lay F R12 (S3.1 ((17, 0, 0) : qz_N) 6) (3 : Int32) (nI s)) fun R14 => if (qy_rs g (qy_Lm g) l e (nI s) (-1)) = 0 then (Option.bind (gM_lay F R14 (S3.1 ((17, 0, 0) : qz_N) 6) (4 : Int32) (1 : Int32)) fun R17 => qz_let (qz_wr R17 ((17, 0, 0) : qz_N) 6 ((R17.1 ((17, 0, 0) : qz_N) 6) + (1 : Int32))) fun S19 => qz_let (qz_wr S19 ((17, 0, 0) : qz_N) 5 ((S19.1 ((17, 0, 0) : qz_N) 5) + (1 : Int32))) fun S20 => some (((S20.1 ((17, 0, 0) : qz_N) 5) - (1 : Int32)), S20)) else (Option.bind (gM_lay F R14 (S3.1 ((17, 0, 0) : qz_N) 6) (4 : Int32) (0 : Int32)) fun R21 => qz_let (qz_wr R21 ((17, 0, 0) : qz_N) 6 ((R21.1 ((17, 0, 0) : qz_N) 6) + (1 : Int32))) fun S23 => qz_let (qz_wr S23 ((17, 0, 0) : qz_N) 5 ((S23.1 ((17, 0, 0) : qz_N) 5) + (1 : Int32))) fun S24 => some (((S24.1 ((17, 0, 0) : qz_N) 5) - (1 : Int32)), S24))) (n + 1) (nI 8) T =
          some (nI x, qz_wr (qz_wr U (17, 0, 0) 6 (nI (qy_n g) + 1)) (17, 0, 0) 5 (nI x + 1)) := by
        rw [gM_books_L23, if_pos w1, h6g, t5, y0]
        simp only [Option.bind_some]
        rw [y1]
        simp only [Option.bind_some]
        rw [y2]
        simp only [Option.bind_some]
        rw [y3]
        simp only [Option.bind_some]
        by_cases hq : qy_rs g (qy_Lm g) l e (nI s) (-1) = 0
        · rw [if_pos hq] at hpv ⊢
          rw [y4]
          simp only [Option.bind_some, qz_let]
          rw [hpv] at hU
          rw [← hU, u6, u5, wr_eq, w2]
        · rw [if_neg hq] at hpv ⊢
          rw [y4]
          simp only [Option.bind_some, qz_let]
          rw [hpv] at hU
          rw [← hU, u6, u5, wr_eq, w2]
      refine ⟨_, hK, ?_, ?_, ?_⟩
      · show U.2 = S3.2
        rw [hU]
        exact q1
      · intro n' j hnj
        rw [wr_ne (fun q => hnj q.1), wr_ne (fun q => hnj q.1), hU, wr_ne (fun q => hnj q.1), wr_ne (fun q => hnj q.1), wr_ne (fun q => hnj q.1), wr_ne (fun q => hnj q.1), wr_ne (fun q => hnj q.1)]
        exact q2 n' j hnj
      · funext c
        rw [hG1]
        show _ = (if _ then _ else _)
        by_cases c5 : c = 5
        · rw [if_pos c5, c5, wr_eq, qz_nI1]
        · rw [if_neg c5, qm_wr17 c5]
          by_cases c6 : c = 6
          · rw [if_pos c6, c6, wr_eq, qz_nI1]
          · rw [if_neg c6, qm_wr17 c6, hU]
            by_cases hc : 43 + 8 * qy_n g ≤ c ∧ c < 43 + 8 * qy_n g + 8
            · rw [if_pos hc]
              obtain ⟨d, hd⟩ : ∃ d, c = 43 + 8 * qy_n g + d := ⟨c - (43 + 8 * qy_n g), by omega⟩
              have hdc : c - (43 + 8 * qy_n g) = d := by omega
              rw [hdc, hd]
              have hd8 : d = 0 ∨ d = 1 ∨ d = 2 ∨ d = 3 ∨ d = 4 ∨ d = 5 ∨ d = 6 ∨ d = 7 := by omega
              unfold qy_nr
              rcases hd8 with rfl | rfl | rfl | rfl | rfl | rfl | rfl | rfl
              · rw [qm_wr17 (by omega), qm_wr17 (by omega), qm_wr17 (by omega), qm_wr17 (by omega), wr_eq]; rfl
              · rw [qm_wr17 (by omega), qm_wr17 (by omega), qm_wr17 (by omega), wr_eq]; rfl
              · rw [qm_wr17 (by omega), qm_wr17 (by omega), wr_eq]; rfl
              · rw [qm_wr17 (by omega), wr_eq]; rfl
              · rw [wr_eq]; rfl
              · rw [qm_wr17 (by omega), qm_wr17 (by omega), qm_wr17 (by omega), qm_wr17 (by omega), qm_wr17 (by omega), q3, if_pos (by omega)]; rfl
              · rw [qm_wr17 (by omega), qm_wr17 (by omega), qm_wr17 (by omega), qm_wr17 (by omega), qm_wr17 (by omega), q3, if_pos (by omega)]; rfl
              · rw [qm_wr17 (by omega), qm_wr17 (by omega), qm_wr17 (by omega), qm_wr17 (by omega), qm_wr17 (by omega), q3, if_pos (by omega)]; rfl
            · rw [if_neg hc, qm_wr17 (by omega), qm_wr17 (by omega), qm_wr17 (by omega), qm_wr17 (by omega), qm_wr17 (by omega), q3, if_neg hc]
end QYa
