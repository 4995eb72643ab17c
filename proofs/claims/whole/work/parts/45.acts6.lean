/-! acts: a booking is found; takeBack -/
section QYY
variable {F B B' m : Nat} {f0 f f' : qz_F} {g g' : Nat → Int32} {S S' : qz_S}
theorem qy_find (hR : qy_Rel f 0 g) (hW : qy_Wf g B) (hF : 30 < F) (x : Int32) :
    (gW_bookingOf F f x = some none ∧ ∀ T : qz_S, T.1 (17, 0, 0) = g → gM_placeOf F T.1 x = some (-5)) ∨
    ∃ i k, i < 30 ∧ k < qy_n g ∧ gW_bookingOf F f x = some (some i) ∧ qy_lv (qy_rc f 0 i) = true ∧ qy_rc f 0 i 0 = x ∧ qy_rc f 0 i = qy_rm g k ∧ ∀ T : qz_S, T.1 (17, 0, 0) = g → gM_placeOf F T.1 x = some (nI k) := by
  have hp := hR.2.2.2.2.2.2.1
  have h30 := hW.2.2.2.1
  obtain ⟨o, a1, a2⟩ := qy_bookingOf (F := F) (f := f) hF x
  rcases a2 with ⟨rfl, a2⟩ | ⟨i, hi, rfl, hl, h0⟩
  · refine Or.inl ⟨a1, fun T hT => ?_⟩
    obtain ⟨v, b1, b2⟩ := qm_placeOf (F := F) (f := T.1) (B := B) (by rw [hT]; exact hW) hF x
    rw [hT] at b2
    rcases b2 with ⟨rfl, _⟩ | ⟨k, hk, rfl, h0⟩
    · exact b1
    · exact absurd h0 (a2 _ (hp.mem_iff.mpr (qy_mLm.mpr ⟨k, hk, rfl⟩)))
  · right
    have hm : qy_rc f 0 i ∈ qy_Lm g := hp.mem_iff.mp (qy_mLc.mpr ⟨i, hi, rfl, hl⟩)
    obtain ⟨k, hk, e⟩ := qy_mLm.mp hm
    refine ⟨i, k, hi, hk, a1, hl, h0, e.symm, fun T hT => ?_⟩
    obtain ⟨v, b1, b2⟩ := qm_placeOf (F := F) (f := T.1) (B := B) (by rw [hT]; exact hW) hF x
    rw [hT] at b2
    rcases b2 with ⟨rfl, b2⟩ | ⟨k', hk', rfl, h0'⟩
    · exact absurd h0 (b2 _ hm)
    · rw [b1]
      have s1 := qm_sorted hW hk hk'
      have s2 := qm_sorted hW hk' hk
      have e0 : qy_rm g k 0 = qy_rm g k' 0 := by rw [e, h0, h0']
      rw [e0] at s1 s2
      have n1 : ¬ k < k' := fun q => Int32.lt_irrefl (by rw [s1]; exact q)
      have n2 : ¬ k' < k := fun q => Int32.lt_irrefl (by rw [s2]; exact q)
      rw [show k' = k by omega]
theorem qy_flt {α : Type} (a b : α → (Nat → Int32)) (i : α) (hl : qy_lv (a i) = true) (hd : qy_lv (b i) = false) : ∀ L : List α, L.Nodup → i ∈ L → (∀ j, j ∈ L → j ≠ i → b j = a j) → ((L.map a).filter qy_lv).Perm (a i :: (L.map b).filter qy_lv) := by
  intro L
  induction L with
  | nil => intro _ h; cases h
  | cons x L ih =>
    intro hn hm hj
    obtain ⟨hx, hn⟩ := List.nodup_cons.mp hn
    by_cases e : x = i
    · subst e
      have : L.map b = L.map a := List.map_congr_left (fun j hjL => hj j (List.mem_cons_of_mem _ hjL) (fun q => hx (by rw [← q]; exact hjL)))
      simp only [List.map_cons, List.filter_cons, hl, hd, if_true, Bool.false_eq_true, if_false, this]
      exact List.Perm.refl _
    · have hiL : i ∈ L := by
        rcases List.mem_cons.mp hm with h | h
        · exact absurd h.symm e
        · exact h
      have ih' := ih hn hiL (fun j hjL => hj j (List.mem_cons_of_mem _ hjL))
      have ex := hj x List.mem_cons_self e
      simp only [List.map_cons, List.filter_cons, ex]
      cases hlx : qy_lv (a x)
      · simp only [Bool.false_eq_true, if_false]
        exact ih'
      · simp only [if_true]
        exact (ih'.cons _).trans (List.Perm.swap _ _ _)
theorem qy_Lmk {n k : Nat} (hk : k < n) (r r' : Nat → (Nat → Int32)) (h1 : ∀ j, j < k → r' j = r j) (h2 : ∀ j, k ≤ j → j < n - 1 → r' j = r (j + 1)) : ((List.range n).map r).Perm (r k :: (List.range (n - 1)).map r') := by
  obtain ⟨d, hd⟩ : ∃ d, n = k + (d + 1) := ⟨n - 1 - k, by omega⟩
  have e0 : n - 1 = k + d := by omega
  rw [e0] at h2 ⊢
  subst hd
  have e1 : (List.range (k + (d + 1))).map r = (List.range k).map r ++ (r k :: (List.range d).map (fun i => r (k + (i + 1)))) := by
    rw [List.range_add, List.map_append, List.map_map, List.range_succ_eq_map, List.map_cons, List.map_map]
    rfl
  have e2 : (List.range (k + d)).map r' = (List.range k).map r ++ (List.range d).map (fun i => r (k + (i + 1))) := by
    rw [List.range_add, List.map_append, List.map_map]
    congr 1
    · exact List.map_congr_left (fun j hj => h1 j (List.mem_range.mp hj))
    · refine List.map_congr_left (fun j hj => ?_)
      have := List.mem_range.mp hj
      exact h2 (k + j) (by omega) (by omega)
  rw [e1, e2]
  exact List.perm_middle
theorem qy_takeBack (hI : qy_Inv f0 B S) (hF : 1132 < F) (hB6 : B ≤ 60000) (a : Int32) : qy_Call f0 B (gX_takeBack F S a) (fun T => gM_takeBack F T a) := by
  have hW := hI.1.2
  have hR := hI.1.1
  have h30 := hW.2.2.2.1
  have e17 : ∀ T : qz_S, (qz_wr T (6, 0, 0) 0 0).1 (17, 0, 0) = T.1 (17, 0, 0) := fun T => funext fun j => wr_ne (fun q => qy_kn (by decide) q.1)
  generalize hg : S.1 (17, 0, 0) = g at *
  rcases qy_find (F := F) hR hW (by omega) a with ⟨x, mm⟩ | ⟨i, k, hi, hk, x, hl, h0, hrr, mm⟩
  · refine qy_no (v := -1) hI ?_ ?_
    · unfold gX_takeBack
      rw [x]
      rfl
    · unfold gM_takeBack
      simp only [qz_let]
      rw [mm _ ((e17 S).trans hg)]
      rfl
  · have n5 : ¬ nI k = -5 := qy_n5 (by omega)
    refine qy_act0 (F := F) (g := g) hI (Nat.le_refl B) hB6 hF hg
      (XC := fun R4 => Option.bind (gB_clear F R4 i) fun R6 => Option.bind (gW_lookAtWaiting F R6) fun R8 => Option.bind (gW_waitingCount F R8.1) fun x10 => some (x10, R8))
      (MC := fun R5 => qz_let (qz_wr R5 ((17, 0, 0) : qz_N) 6 ((R5.1 ((17, 0, 0) : qz_N) 6) - (1 : Int32))) fun S7 => gM_takeBack_L39 F (fun y312 T13 => Option.bind (gM_looksAtAll F T13) fun R16 => Option.bind (gM_waiting F R16.1) fun x18 => some (x18, R16)) F ((8 : Int32) * nI k) S7) ?_ ?_ ?_
    · unfold gX_takeBack
      rw [x]
      rfl
    · intro S' hS'
      unfold gM_takeBack
      simp only [qz_let]
      rw [mm _ ((e17 S').trans hS')]
      simp only [Option.bind_some]
      rw [if_neg n5]
    · intro S1 k1 k2
      have hrc1 : qy_rc S1.1 0 i = qy_rc S.1 0 i := by
        funext c
        unfold qy_rc
        rw [k2 _ _ (fun q => absurd q.1 (show ¬ 1 ≤ 0 by decide)) (qy_kn (by decide))]
      obtain ⟨S2a, s0⟩ : ∃ S2a, gB_clear F S1 i = some S2a ∧ S2a.2 = S1.2 ∧ (∀ n j, n ≠ (0, 0, i) → S2a.1 n j = S1.1 n j) ∧ S2a.1 (0, 0, i) 0 = -1 ∧ ∀ c, 1 ≤ c → c < 8 → S2a.1 (0, 0, i) c = 0 := by
        unfold gB_clear
        simp only [qz_let]
        refine ⟨_, rfl, rfl, ?_, ?_, ?_⟩
        · intro n j hn
          rw [wr_ne (fun q => hn q.1), wr_ne (fun q => hn q.1), wr_ne (fun q => hn q.1), wr_ne (fun q => hn q.1), wr_ne (fun q => hn q.1), wr_ne (fun q => hn q.1), wr_ne (fun q => hn q.1), wr_ne (fun q => hn q.1)]
        · simp [qz_wr]
        · intro c h1 h8
          have hc : c = 1 ∨ c = 2 ∨ c = 3 ∨ c = 4 ∨ c = 5 ∨ c = 6 ∨ c = 7 := by omega
          rcases hc with rfl | rfl | rfl | rfl | rfl | rfl | rfl <;> simp [qz_wr]
      obtain ⟨s1, s2, s3, s4, s5⟩ := s0
      obtain ⟨G1, hG1⟩ : ∃ G1 : Nat → Int32, G1 = (fun c => if c = 6 then nI (qy_n g - 1) else if 43 + 8 * k ≤ c ∧ c < 43 + 8 * (qy_n g - 1) then g (c + 8) else g c) := ⟨_, rfl⟩
      have hG6 : G1 6 = nI (qy_n g - 1) := by rw [hG1]; exact if_pos rfl
      have hGlo : ∀ c, c < 43 → c ≠ 6 → G1 c = g c := fun c h1 h2 => by
        rw [hG1]
        show (if _ then _ else _) = _
        rw [if_neg h2, if_neg (by omega)]
      have hGn : qy_n G1 = qy_n g - 1 := by
        unfold qy_n at hG6 ⊢
        rw [hG6]
        exact qz_cl_nI (by unfold qy_n at h30; omega)
      have hr1 : ∀ j, j < k → qy_rm G1 j = qy_rm g j := by
        intro j hj
        funext c
        unfold qy_rm
        by_cases hc : c < 8
        · rw [if_pos hc, if_pos hc, hG1]
          show (if _ then _ else _) = _
          rw [if_neg (by omega), if_neg (by omega)]
        · rw [if_neg hc, if_neg hc]
      have hr2 : ∀ j, k ≤ j → j < qy_n g - 1 → qy_rm G1 j = qy_rm g (j + 1) := by
        intro j hj hj2
        funext c
        unfold qy_rm
        by_cases hc : c < 8
        · rw [if_pos hc, if_pos hc, hG1]
          show (if _ then _ else _) = _
          rw [if_neg (by omega), if_pos (by omega)]
          congr 1
          omega
        · rw [if_neg hc, if_neg hc]
      have hLm : (qy_Lm g).Perm (qy_rm g k :: qy_Lm G1) := by
        unfold qy_Lm
        rw [hGn]
        exact qy_Lmk hk (qy_rm g) (qy_rm G1) hr1 hr2
      have hLc : (qy_Lc S1.1 0).Perm (qy_rc S1.1 0 i :: qy_Lc S2a.1 0) := by
        refine qy_flt (qy_rc S1.1 0) (qy_rc S2a.1 0) i (by rw [hrc1]; exact hl) ?_ (List.range 30) List.nodup_range (List.mem_range.mpr hi) (fun j _ hj => ?_)
        · unfold qy_lv
          have : qy_rc S2a.1 0 i 0 = -1 := s4
          rw [this]
          decide
        · funext c
          unfold qy_rc
          rw [s3 _ _ (fun q => hj (congrArg (fun n : qz_N => n.2.2) q))]
      obtain ⟨h1, h2, h3, h4, h5, h6, h7, h8, h9⟩ := k1
      have hR2 : qy_Rel S2a.1 0 G1 := by
        refine ⟨?_, ?_, ?_, ?_, ?_, ?_, ?_, ?_, ?_⟩
        · rw [s3 _ _ (qy_kn (by decide)), hGlo 4 (by decide) (by decide)]; exact h1
        · rw [s3 _ _ (qy_kn (by decide)), hGlo 5 (by decide) (by decide)]; exact h2
        · intro c hc
          rw [s3 _ _ (qy_kn (by decide)), hGlo _ (by omega) (by omega)]; exact h3 c hc
        · intro j hj
          rw [s3 _ _ (qy_kn (by decide)), hGlo _ (by omega) (by omega)]; exact h4 j hj
        · intro j hj
          rw [s3 _ _ (qy_kn (by decide)), hGlo _ (by omega) (by omega)]; exact h5 j hj
        · intro j hj
          rw [s3 _ _ (qy_kn (by decide)), hGlo _ (by omega) (by omega)]; exact h6 j hj
        · have hc := hLc.symm.trans (h7.trans hLm)
          rw [hrc1, hrr] at hc
          exact List.Perm.cons_inv hc
        · intro j hj
          by_cases e : j = i
          · subst e
            exact Or.inl (s5 4 (by decide) (by decide))
          · rw [s3 _ _ (fun q => e (congrArg (fun n : qz_N => n.2.2) q))]
            exact h8 j hj
        · intro j hj hj0 c hc
          by_cases e : j = i
          · subst e
            exact s5 _ (by omega) (by omega)
          · rw [s3 _ _ (fun q => e (congrArg (fun n : qz_N => n.2.2) q))] at hj0 ⊢
            exact h9 j hj hj0 c hc
      have hec : qy_ec G1 = qy_ec g := by unfold qy_ec; rw [hGlo 4 (by decide) (by decide)]
      have hW2 : qy_Wf G1 B := by
        refine ⟨?_, ?_, ?_, ?_, ?_, ?_, ?_, ?_, ?_, ?_, hW.2.2.2.2.2.2.2.2.2.2⟩
        · rw [hec, hGlo 4 (by decide) (by decide)]; exact hW.1
        · rw [hec]; exact hW.2.1
        · rw [hGn]; exact hG6
        · rw [hGn]; omega
        · rw [hGlo 5 (by decide) (by decide)]; exact hW.2.2.2.2.1
        · rw [hGlo 1 (by decide) (by decide)]; exact hW.2.2.2.2.2.1
        · intro j hj
          rw [hGlo _ (by omega) (by omega)]; exact hW.2.2.2.2.2.2.1 j hj
        · intro l e hl' he
          rw [hec, hGlo _ (by omega) (by omega)]
          rcases hW.2.2.2.2.2.2.2.1 l e hl' he with h | ⟨o, b1, b2, b3, b4, b5⟩
          · exact Or.inl h
          · have h10 := hW.2.1
            exact Or.inr ⟨o, b1, b2, b3, b4, by rw [hGlo _ (by omega) (by omega)]; exact b5⟩
        · intro j hj
          rw [hGn] at hj
          by_cases e : j < k
          · rw [hr1 j e]
            exact qy_WrD hec (hGlo 5 (by decide) (by decide)) (hW.2.2.2.2.2.2.2.2.1 j (by omega))
          · rw [hr2 j (by omega) hj]
            exact qy_WrD hec (hGlo 5 (by decide) (by decide)) (hW.2.2.2.2.2.2.2.2.1 (j + 1) (by omega))
        · intro j j' hjj hj'
          rw [hGn] at hj'
          have hs := hW.2.2.2.2.2.2.2.2.2.1
          by_cases e : j < k
          · rw [hr1 j e]
            by_cases e' : j' < k
            · rw [hr1 j' e']
              exact hs j j' hjj (by omega)
            · rw [hr2 j' (by omega) hj']
              exact hs j (j' + 1) (by omega) (by omega)
          · rw [hr2 j (by omega) (by omega), hr2 j' (by omega) hj']
            exact hs (j + 1) (j' + 1) (by omega) (by omega)
      obtain ⟨S2, Q, l1, l2, l3, l4, l5, l6⟩ := qy_look (F := F) hR2 hW2 (by omega)
      refine ⟨nI ((qy_Lm (qy_pg Q G1)).countP qy_wt), S2, ?_, l2.trans s2, ?_, ?_⟩
      · show (Option.bind (gB_clear F S1 i) fun R6 => _) = _
        rw [s1]
        simp only [Option.bind_some]
        rw [l1]
        simp only [Option.bind_some]
        rw [qy_wait (by omega), l4.2.2.2.2.2.2.1.countP_eq]
        rfl
      · refine qy_fwT ?_ (qy_fwl l3)
        intro n j hn
        exact s3 n j (fun q => hn (by rw [q]; exact ⟨rfl, Or.inl rfl⟩))
      · intro S3 c1 _
        obtain ⟨T, t0⟩ : ∃ T, T = qz_wr S3 (17, 0, 0) 6 (S3.1 (17, 0, 0) 6 - 1) := ⟨_, rfl⟩
        have t6 : T.1 (17, 0, 0) 6 = nI (qy_n g - 1) := by
          rw [t0, wr_eq, c1, hW.2.2.1]
          exact qy_sub (a := qy_n g) (b := 1) (by omega)
        have tg : ∀ c, c ≠ 6 → T.1 (17, 0, 0) c = g c := fun c hc => by rw [t0, qm_wr17 hc, c1]
        obtain ⟨S4, u1, u2, u3, u4, u5⟩ := qy_cp (fun n T y => gM_takeBack_L39 F (fun y312 T13 => Option.bind (gM_looksAtAll F T13) fun R16 => Option.bind (gM_waiting F R16.1) fun x18 => some (x18, R16)) n y T) (fun T13 => Option.bind (gM_looksAtAll F T13) fun R16 => Option.bind (gM_waiting F R16.1) fun x18 => some (x18, R16)) (8 * (qy_n g - 1)) (8 * k) ((17, 0, 0) : qz_N) ((17, 0, 0) : qz_N) 43 51 T (Or.inr (by omega)) (by omega)
          (fun n j T' _ hj _ _ hf => by
            have w1 : T'.1 (17, 0, 0) 6 = nI (qy_n g - 1) := (hf 6 (by omega)).trans t6
            have w2 : ¬ (8 : Int32) * T'.1 (17, 0, 0) 6 ≤ nI j := by
              rw [w1, show (8 : Int32) = nI 8 from rfl, qy_mul, qy_le (by omega) (by omega)]
              omega
            have w3 : (43 : Int32) + nI j = nI (43 + j) := by rw [show (43 : Int32) = nI 43 from rfl, qy_add]
            have w4 : nI (43 + j) + (8 : Int32) = nI (51 + j) := by
              rw [show (8 : Int32) = nI 8 from rfl, qy_add]
              congr 1
              omega
            simp only [gM_takeBack_L39, w2, if_false, w3, w4, qz_xi_nI (show 51 + j < 283 by omega) (show 283 < 2 ^ 31 by decide), qz_xi_nI (show 43 + j < 283 by omega) (show 283 < 2 ^ 31 by decide), if_true, qz_cl_nI (show 43 + j < 2 ^ 31 by omega), qz_cl_nI (show 51 + j < 2 ^ 31 by omega), qz_let, qz_nI1])
          (fun n T' _ _ hf => by
            have w1 : T'.1 (17, 0, 0) 6 = nI (qy_n g - 1) := (hf 6 (by omega)).trans t6
            have w2 : (8 : Int32) * T'.1 (17, 0, 0) 6 ≤ nI (8 * (qy_n g - 1)) := by
              rw [w1, show (8 : Int32) = nI 8 from rfl, qy_mul]
              exact Int32.le_refl _
            simp only [gM_takeBack_L39, w2, if_true]) F (by omega)
        have hG4 : S4.1 (17, 0, 0) = G1 := by
          funext c
          rw [hG1]
          show _ = (if _ then _ else _)
          by_cases c6 : c = 6
          · rw [if_pos c6, c6, u5 6 (by omega)]
            exact t6
          · rw [if_neg c6]
            by_cases cr : 43 + 8 * k ≤ c ∧ c < 43 + 8 * (qy_n g - 1)
            · rw [if_pos cr]
              have := u4 (c - 43) (by omega) (by omega)
              rw [show 43 + (c - 43) = c by omega, show 51 + (c - 43) = c + 8 by omega, tg _ (by omega)] at this
              exact this
            · rw [if_neg cr, u5 c (by omega), tg c c6]
        obtain ⟨S5, m1, m2, m3, m4⟩ := l6 S4 hG4
        refine ⟨S5, ?_, m2.trans (u2.trans (by rw [t0]; rfl)), ?_, by rw [m4]; exact l4, by rw [m4]; exact l5⟩
        · show gM_takeBack_L39 F _ F ((8 : Int32) * nI k) (qz_wr S3 (17, 0, 0) 6 (S3.1 (17, 0, 0) 6 - 1)) = _
          rw [← t0, show (8 : Int32) * nI k = nI (8 * k) by rw [show (8 : Int32) = nI 8 from rfl, qy_mul]]
          refine u1.trans ?_
          simp only [m1, Option.bind_some]
          rw [qm_waiting (B := B) (by rw [m4]; exact l5) (by omega), m4]
          rfl
        · refine qm_fs_trans ?_ m3
          intro n j n17 _ _ _
          rw [u3 n j n17, t0, wr_ne (fun q => n17 q.1)]
end QYY
