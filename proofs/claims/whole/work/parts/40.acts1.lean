/-! acts: undo, keep, restore, a day, a shift end -/
section QYT
variable {F B B' m : Nat} {f0 f f' : qz_F} {g : Nat → Int32} {G : Nat → Nat → Int32} {S S' : qz_S}
theorem qy_lenR {w : Nat} (hR : qy_Rel f w g) : (qy_Lc f w).length = qy_n g := by
  rw [hR.2.2.2.2.2.2.1.length_eq]
  simp [qy_Lm]
theorem qy_take {k : Nat} (hF : 30 < F) (h : qy_HC S.1 S.2 (k + 1) G) : ∃ S', gH_takeLatestInto F S = some S' ∧ S'.2 = S.2 ∧ S'.1 (2, 0, 0) 1 = nI k ∧ (∀ n j, ¬ (n.2.1 = 0 ∧ qy_kd n) → n ≠ (2, 0, 0) → S'.1 n j = S.1 n j) ∧ qy_Rel S'.1 0 (G k) := by
  obtain ⟨h1, h2, h3, h4⟩ := h
  have hb := h3.1 k (by omega)
  obtain ⟨S1, a1, a2, a3, a4⟩ := qy_copy (F := F) (S := S) (w := 0) (w2 := S.2 k) hF (by omega) (by omega) (by omega) (qy_fl (h4 k (by omega)))
  have e1 : nI (k + 1) - (1 : Int32) = nI k := qy_sub (a := k + 1) (b := 1) (by omega)
  have e2 : ¬ (4 : Int32) ≤ nI k := fun q => by have := (qz_le_nI (a := 4) (b := k) (by decide) (by omega)).mp q; omega
  unfold gH_takeLatestInto
  rw [h1, e1, if_neg (qy_nn (by omega)), if_neg e2, if_pos (qz_xi_nI (by omega) (by decide)), qz_cl_nI (by omega), a1]
  refine ⟨_, rfl, a2, wr_eq, ?_, ?_⟩
  · intro n j n1 n2
    rw [wr_ne (fun q => n2 q.1)]
    exact a4 n j n1
  · exact qy_RelF qy_cwW (qy_RelF a3 (h4 k (by omega)))
theorem qy_undo (hI : qy_Inv f0 B S) (hF : 1132 < F) : qy_Call f0 B (gX_undo F S) (gM_undo F) := by
  have hI0 := hI
  obtain ⟨⟨hR, hW⟩, ⟨m, G, hC, hM, hGW⟩, hS, hT, hO⟩ := hI
  by_cases hm : m = 0
  · subst hm
    refine qy_no (v := -5) hI0 ?_ ?_
    · unfold gX_undo
      rw [hC.1]
      rfl
    · unfold gM_undo
      have e : (qz_wr S (6, 0, 0) 0 0).1 (6, 0, 0) 3 = 0 := (wr_ne (fun q => absurd q.2 (by decide))).trans hM.1
      simp only [qz_let, e, if_true]
  · obtain ⟨k, rfl⟩ : ∃ k, m = k + 1 := ⟨m - 1, by omega⟩
    have hk := hC.2.1
    obtain ⟨S1, a1, a2, a3, a4, a5⟩ := qy_take (F := F) (by omega) hC
    have e0 : ¬ nI (k + 1) = 0 := by
      rw [show (0 : Int32) = nI 0 from rfl, qy_eq (by omega) (by omega)]
      omega
    have e1 : nI (k + 1) - (1 : Int32) = nI k := qy_sub (a := k + 1) (b := 1) (by omega)
    have s6 : S1.1 (6, 0, 0) 3 = nI (k + 1) := (a4 _ _ (by unfold qy_kd; decide) (by decide)).trans hM.1
    have s18 : ∀ j, S1.1 (18, 0, 0) j = S.1 (18, 0, 0) j := fun j => a4 _ _ (by unfold qy_kd; decide) (by decide)
    obtain ⟨T, t0⟩ : ∃ T, T = qz_wr (qz_wr S1 (6, 0, 0) 0 0) (6, 0, 0) 3 (nI k) := ⟨_, rfl⟩
    have tn : ∀ n j, ¬ (n = (6, 0, 0) ∧ (j = 0 ∨ j = 3)) → T.1 n j = S1.1 n j := by
      intro n j hn
      rw [t0, wr_ne (fun q => hn ⟨q.1, Or.inr q.2⟩), wr_ne (fun q => hn ⟨q.1, Or.inl q.2⟩)]
    have t3 : T.1 (6, 0, 0) 3 = nI k := by rw [t0, wr_eq]
    obtain ⟨S2, b1, b2, b3, b4, _⟩ := qy_cp (fun n T y => gM_undo_L27 F (fun y18 T9 => some ((T9.1 ((6, 0, 0) : qz_N) 3), T9)) n y T) (fun T9 => some ((T9.1 ((6, 0, 0) : qz_N) 3), T9)) 283 0 ((17, 0, 0) : qz_N) ((18, 0, 0) : qz_N) 0 (283 * k) T (Or.inl (by decide)) (by omega)
      (fun n i T' _ hi _ hf _ => by
        have c1 : ¬ (283 : Int32) ≤ nI i := fun q => by have := (qz_le_nI (a := 283) (b := i) (by decide) (by omega)).mp q; omega
        have c2 : T'.1 (6, 0, 0) 3 = nI k := by rw [hf _ _ (by decide)]; exact t3
        have c3 : (283 : Int32) * nI k + nI i = nI (283 * k + i) := by rw [show (283 : Int32) = nI 283 from rfl, qy_mul, qy_add]
        simp only [gM_undo_L27, c1, if_false, c2, c3, qz_xi_nI hi (show 283 < 2 ^ 31 by decide), qz_xi_nI (show 283 * k + i < 1132 by omega) (show 1132 < 2 ^ 31 by decide), if_true, qz_cl_nI (show i < 2 ^ 31 by omega), qz_cl_nI (show 283 * k + i < 2 ^ 31 by omega), qz_let, qz_nI1, Nat.zero_add])
      (fun n T' _ _ _ => by
        have c1 : (283 : Int32) ≤ nI 283 := by decide
        simp only [gM_undo_L27, c1, if_true]) F (by omega)
    have hx : gX_undo F S = some (nI k, S1) := by
      unfold gX_undo
      rw [hC.1, if_neg e0, a1]
      simp only [Option.bind_some, a3]
    have hm' : gM_undo F S1 = some (nI k, S2) := by
      unfold gM_undo
      have c1 : (qz_wr S1 (6, 0, 0) 0 0).1 (6, 0, 0) 3 = nI (k + 1) := (wr_ne (fun q => absurd q.2 (by decide))).trans s6
      simp only [qz_let, c1, e0, if_false, e1]
      rw [← t0]
      refine b1.trans ?_
      rw [b3 _ _ (by decide), t3]
    have e4 : ∀ n j, n ≠ (17, 0, 0) → n ≠ (2, 0, 0) → ¬ (n.2.1 = 0 ∧ qy_kd n) → ¬ (n = (6, 0, 0) ∧ (j = 0 ∨ j = 3)) → S2.1 n j = S.1 n j := by
      intro n j n17 n2 nk n6
      rw [b3 n j n17, tn n j n6]
      exact a4 n j nk n2
    have e4k : ∀ n j, qy_kd n → S2.1 n j = S1.1 n j := by
      intro n j hn
      rw [b3 n j (qy_kd_n hn (by decide))]
      exact tn n j (fun q => qy_kd_n hn (by decide) q.1)
    have eG : ∀ c, c < 283 → S2.1 (17, 0, 0) c = G k c := by
      intro c hc
      have := b4 c (by omega) hc
      rw [Nat.zero_add] at this
      rw [this, tn _ _ (fun q => qy_kn (by decide) q.1), s18]
      exact hM.2 k (by omega) c hc
    have hWk := hGW k (by omega)
    refine ⟨nI k, S1, S2, hx, ?_, hm', ?_, ?_, ?_, ?_, ?_⟩
    · intro n j hn
      rw [a4 n j (fun q => by have := q.2; unfold qy_kd at this; omega) (fun q => by rw [q] at hn; exact absurd hn (by decide))]
      exact hO n j hn
    · refine ⟨qy_RelG eG hWk.2.2.2.1 (qy_RelF (qy_cwK (fun n j hn _ => e4k n j hn)) a5), qy_WfC (fun c hc _ => eG c hc) hWk⟩
    · refine ⟨k, G, ⟨?_, by omega, ?_, ?_⟩, ⟨?_, ?_⟩, fun j hj => hGW j (by omega)⟩
      · rw [b3 _ _ (by decide), tn _ _ (fun q => qy_kn (by decide) q.1)]
        exact a3
      · rw [b2, t0]
        show qy_pm S1.2
        rw [a2]
        exact hC.2.2.1
      · intro j hj
        rw [b2, t0]
        show qy_Rel S2.1 (S1.2 j) (G j)
        rw [a2]
        have hb := hC.2.2.1.1 j (by omega)
        refine qy_RelF (qy_cwK (fun n i hn hw => ?_)) (hC.2.2.2 j (by omega))
        rw [e4k n i hn]
        exact a4 n i (fun q => by omega) (qy_kd_n hn (by decide))
      · rw [b3 _ _ (by decide)]
        exact t3
      · intro j hj c hc
        rw [e4 _ _ (by decide) (by decide) (by unfold qy_kd; decide) (fun q => qy_kn (by decide) q.1)]
        exact hM.2 j (by omega) c hc
    · refine qy_SnC (fun n j hn => ?_) (e4 _ _ (by decide) (by decide) (by unfold qy_kd; decide) (fun q => qy_kn (by decide) q.1)) (e4 _ _ (by decide) (by decide) (by unfold qy_kd; decide) (fun q => absurd q.2 (by decide))) (fun j => e4 _ _ (by decide) (by decide) (by unfold qy_kd; decide) (fun q => qy_kn (by decide) q.1)) hS
      rw [e4k n j hn.2]
      exact a4 n j (fun q => by omega) (qy_kd_n hn.2 (by decide))
    · exact qy_TxC (e4 _ _ (by decide) (by decide) (by unfold qy_kd; decide) (fun q => qy_kn (by decide) q.1)) (e4 _ _ (by decide) (by decide) (by unfold qy_kd; decide) (fun q => absurd q.2 (by decide))) (fun j => e4 _ _ (by decide) (by decide) (by unfold qy_kd; decide) (fun q => qy_kn (by decide) q.1)) (fun j => e4 _ _ (by decide) (by decide) (by unfold qy_kd; decide) (fun q => qy_kn (by decide) q.1)) hT
    · intro n j hn
      have z : ∀ k : Nat, k < 30 → n ≠ (k, 0, 0) := fun k hk q => by rw [q] at hn; exact absurd hn (by simp; omega)
      rw [e4 n j (z 17 (by decide)) (z 2 (by decide)) (fun q => by have := q.2; unfold qy_kd at this; omega) (fun q => z 6 (by decide) q.1)]
      exact hO n j hn
theorem qy_keep (hI : qy_Inv f0 B S) (hF : 1132 < F) : qy_Call f0 B (gX_keep F S) (gM_keep F) := by
  obtain ⟨⟨hR, hW⟩, hH, hS, hT, hO⟩ := hI
  obtain ⟨S1, a1, a2, a3, a4⟩ := qy_copy (F := F) (S := S) (w := 5) (w2 := 0) (by omega) (by omega) (by omega) (by omega) (qy_fl hR)
  obtain ⟨S2, s0⟩ : ∃ S2, S2 = qz_wr S1 (5, 0, 0) 4 1 := ⟨_, rfl⟩
  have s2 : ∀ n j, ¬ (n.2.1 = 5 ∧ qy_kd n) → ¬ (n = (5, 0, 0) ∧ j = 4) → S2.1 n j = S.1 n j := by
    intro n j h1 h2
    rw [s0, wr_ne h2]
    exact a4 n j h1
  have hR2 : qy_Rel S2.1 0 (S.1 (17, 0, 0)) := qy_RelF (qy_cwK (fun n j hn hw => s2 n j (fun q => by omega) (fun q => qy_kd_n hn (by decide) q.1))) hR
  have hR5 : qy_Rel S2.1 5 (S.1 (17, 0, 0)) := by
    rw [s0]
    exact qy_RelF (qy_cwK (fun n j hn hw => wr_ne (fun q => qy_kd_n hn (by decide) q.1))) (qy_RelF a3 hR)
  have hx : gX_keep F S = some (nI (qy_n (S.1 (17, 0, 0))), S2) := by
    unfold gX_keep
    rw [a1]
    simp only [Option.bind_some, qz_let]
    rw [← s0, qy_wcnt (by omega), qy_lenR hR2]
    rfl
  obtain ⟨T, t0⟩ : ∃ T, T = qz_wr S2 (6, 0, 0) 0 0 := ⟨_, rfl⟩
  obtain ⟨S3, b1, b2, b3, b4, _⟩ := qy_cp (fun n T y => gM_keep_L7 F (fun y15 T6 => qz_let (qz_wr T6 ((6, 0, 0) : qz_N) 5 (1 : Int32)) fun S7 => some ((S7.1 ((17, 0, 0) : qz_N) 6), S7)) n y T) (fun T6 => qz_let (qz_wr T6 ((6, 0, 0) : qz_N) 5 (1 : Int32)) fun S7 => some ((S7.1 ((17, 0, 0) : qz_N) 6), S7)) 283 0 ((19, 0, 0) : qz_N) ((17, 0, 0) : qz_N) 0 0 T (Or.inl (by decide)) (by omega)
    (fun n i T' _ hi _ _ _ => by
      have c1 : ¬ (283 : Int32) ≤ nI i := fun q => by have := (qz_le_nI (a := 283) (b := i) (by decide) (by omega)).mp q; omega
      simp only [gM_keep_L7, c1, if_false, qz_xi_nI hi (show 283 < 2 ^ 31 by decide), if_true, qz_cl_nI (show i < 2 ^ 31 by omega), qz_let, qz_nI1, Nat.zero_add])
    (fun n T' _ _ _ => by
      have c1 : (283 : Int32) ≤ nI 283 := by decide
      simp only [gM_keep_L7, c1, if_true]) F (by omega)
  obtain ⟨S4, u0⟩ : ∃ S4, S4 = qz_wr S3 (6, 0, 0) 5 1 := ⟨_, rfl⟩
  have e4 : ∀ n j, n ≠ (19, 0, 0) → ¬ (n = (6, 0, 0) ∧ (j = 0 ∨ j = 5)) → S4.1 n j = S2.1 n j := by
    intro n j n19 n6
    rw [u0, wr_ne (fun q => n6 ⟨q.1, Or.inr q.2⟩), b3 n j n19, t0, wr_ne (fun q => n6 ⟨q.1, Or.inl q.2⟩)]
  have e17 : S4.1 (17, 0, 0) = S.1 (17, 0, 0) := funext fun j => (e4 _ _ (by decide) (fun q => qy_kn (by decide) q.1)).trans (s2 _ _ (by unfold qy_kd; decide) (fun q => qy_kn (by decide) q.1))
  have hm' : gM_keep F S2 = some (nI (qy_n (S.1 (17, 0, 0))), S4) := by
    unfold gM_keep
    simp only [qz_let]
    rw [← t0]
    refine b1.trans ?_
    simp only [qz_let]
    rw [← u0, e17, hW.2.2.1]
  have e4k : ∀ n j, qy_kd n → S4.1 n j = S2.1 n j := fun n j hn => e4 n j (qy_kd_n hn (by decide)) (fun q => qy_kd_n hn (by decide) q.1)
  have e4s : ∀ n j, ¬ (n.2.1 = 5 ∧ qy_kd n) → ¬ (n = (5, 0, 0) ∧ j = 4) → n ≠ (19, 0, 0) → ¬ (n = (6, 0, 0) ∧ (j = 0 ∨ j = 5)) → S4.1 n j = S.1 n j := fun n j h1 h2 h3 h4 => (e4 n j h3 h4).trans (s2 n j h1 h2)
  refine ⟨_, S2, S4, hx, ?_, hm', ?_, ?_, ?_, ?_, ?_⟩
  · intro n j hn
    rw [s2 n j (fun q => by have := q.2; unfold qy_kd at this; omega) (fun q => by rw [q.1] at hn; exact absurd hn (by decide))]
    exact hO n j hn
  · unfold qy_Cu
    rw [e17]
    exact ⟨qy_RelF (qy_cwK (fun n j hn _ => e4k n j hn)) hR2, hW⟩
  · refine qy_HsC ?_ (fun n j hn => ?_) (fun j => e4s _ _ (by unfold qy_kd; decide) (fun q => qy_kn (by decide) q.1) (by decide) (fun q => qy_kn (by decide) q.1)) (e4s _ _ (by unfold qy_kd; decide) (fun q => qy_kn (by decide) q.1) (by decide) (fun q => absurd q.2 (by decide))) hH
    · rw [u0]
      show S3.2 = S.2
      rw [b2, t0]
      show S2.2 = S.2
      rw [s0]
      exact a2
    · rcases hn with hn | hn
      · exact e4s n j (fun q => by omega) (fun q => qy_kd_n hn.2.2 (by decide) q.1) (qy_kd_n hn.2.2 (by decide)) (fun q => qy_kd_n hn.2.2 (by decide) q.1)
      · subst hn
        exact e4s _ _ (by unfold qy_kd; decide) (fun q => qy_kn (by decide) q.1) (by decide) (fun q => qy_kn (by decide) q.1)
  · have e19 : ∀ c, c < 283 → S4.1 (19, 0, 0) c = S.1 (17, 0, 0) c := by
      intro c hc
      have := b4 c (by omega) hc
      rw [Nat.zero_add] at this
      rw [u0, wr_ne (fun q => qy_kn (by decide) q.1), this, t0, wr_ne (fun q => qy_kn (by decide) q.1)]
      exact s2 _ _ (by unfold qy_kd; decide) (fun q => qy_kn (by decide) q.1)
    right
    refine ⟨?_, ?_, ?_, ?_⟩
    · rw [e4 _ _ (by decide) (fun q => qy_kn (by decide) q.1), s0, wr_eq]
    · rw [u0, wr_eq]
    · exact qy_RelG e19 hW.2.2.2.1 (qy_RelF (qy_cwK (fun n j hn _ => e4k n j hn)) hR5)
    · exact qy_WfC (fun c hc _ => e19 c hc) hW
  · exact qy_TxC (e4s _ _ (by unfold qy_kd; decide) (fun q => qy_kn (by decide) q.1) (by decide) (fun q => qy_kn (by decide) q.1)) (e4s _ _ (by unfold qy_kd; decide) (fun q => qy_kn (by decide) q.1) (by decide) (fun q => absurd q.2 (by decide))) (fun j => e4s _ _ (by unfold qy_kd; decide) (fun q => qy_kn (by decide) q.1) (by decide) (fun q => qy_kn (by decide) q.1)) (fun j => e4s _ _ (by unfold qy_kd; decide) (fun q => qy_kn (by decide) q.1) (by decide) (fun q => qy_kn (by decide) q.1)) hT
  · intro n j hn
    have z : ∀ k : Nat, k < 30 → n ≠ (k, 0, 0) := fun k hk q => by rw [q] at hn; exact absurd hn (by simp; omega)
    rw [e4s n j (fun q => by have := q.2; unfold qy_kd at this; omega) (fun q => z 5 (by decide) q.1) (z 19 (by decide)) (fun q => z 6 (by decide) q.1)]
    exact hO n j hn
theorem qy_restore (hI : qy_Inv f0 B S) (hF : 1132 < F) (hB6 : B ≤ 60000) : qy_Call f0 B (gX_restore F S) (gM_restore F) := by
  rcases hI.2.2.1 with ⟨h5, h6⟩ | ⟨h5, h6, h7, h8⟩
  · refine qy_no (v := -5) hI ?_ ?_
    · unfold gX_restore
      rw [h5]
      rfl
    · unfold gM_restore
      have e : (qz_wr S (6, 0, 0) 0 0).1 (6, 0, 0) 5 = 0 := (wr_ne (fun q => absurd q.2 (by decide))).trans h6
      simp only [qz_let, e, if_true]
  · have hx : gX_restore F S = Option.bind (gH_remember F S) fun R2 => Option.bind (gW_copyFrom F R2 0 5) fun R4 => Option.bind (gW_workerCount F R4.1) fun x6 => some (x6, R4) := by
      unfold gX_restore
      rw [h5, if_neg (by decide)]
    obtain ⟨v, S', a1, a2, a3, a4, a5⟩ := qy_act (F := F) (MH := fun _ => True) (MC := fun _ R3 => gM_restore_L21 F (fun y18 T9 => some ((T9.1 ((17, 0, 0) : qz_N) 6), T9)) F (0 : Int32) R3) hI (Nat.le_refl B) hB6 hF rfl (fun S1 k1 k2 => by
      have r5 : qy_Rel S1.1 5 (S.1 (19, 0, 0)) := qy_RelF (qy_cwK (fun n j hn hw => k2 n j (fun q => by omega) (qy_kd_n hn (by decide)))) h7
      obtain ⟨S2, b1, b2, b3, b4⟩ := qy_copy (F := F) (S := S1) (w := 0) (w2 := 5) (by omega) (by omega) (by omega) (by omega) (qy_fl r5)
      have r0 : qy_Rel S2.1 0 (S.1 (19, 0, 0)) := qy_RelF b3 r5
      refine ⟨nI (qy_n (S.1 (19, 0, 0))), S2, ?_, b2, b4, ?_⟩
      · show (Option.bind (gW_copyFrom F S1 0 5) fun R4 => Option.bind (gW_workerCount F R4.1) fun x6 => some (x6, R4)) = _
        rw [b1]
        simp only [Option.bind_some]
        rw [qy_wcnt (by omega), qy_lenR r0]
        rfl
      · intro S2' S3 _ c1 c2 c3 c4
        have c19 : ∀ j, S3.1 (19, 0, 0) j = S.1 (19, 0, 0) j := fun j => by
          rw [c2 _ _ (by decide) (fun q => qy_kn (by decide) q.1), qy_fzN c4 (by decide) (by decide) (by decide) (by decide) (by decide) (by decide), c3 19 (by decide) (by decide)]
        obtain ⟨S4, d1, d2, d3, d4, _⟩ := qy_cp (fun n T y => gM_restore_L21 F (fun y18 T9 => some ((T9.1 ((17, 0, 0) : qz_N) 6), T9)) n y T) (fun T9 => some ((T9.1 ((17, 0, 0) : qz_N) 6), T9)) 283 0 ((17, 0, 0) : qz_N) ((19, 0, 0) : qz_N) 0 0 S3 (Or.inl (by decide)) (by omega)
          (fun n i T' _ hi _ _ _ => by
            have c1 : ¬ (283 : Int32) ≤ nI i := fun q => by have := (qz_le_nI (a := 283) (b := i) (by decide) (by omega)).mp q; omega
            simp only [gM_restore_L21, c1, if_false, qz_xi_nI hi (show 283 < 2 ^ 31 by decide), if_true, qz_cl_nI (show i < 2 ^ 31 by omega), qz_let, qz_nI1, Nat.zero_add])
          (fun n T' _ _ _ => by
            have c1 : (283 : Int32) ≤ nI 283 := by decide
            simp only [gM_restore_L21, c1, if_true]) F (by omega)
        have eG : ∀ c, c < 283 → S4.1 (17, 0, 0) c = S.1 (19, 0, 0) c := by
          intro c hc
          have := d4 c (by omega) hc
          rw [Nat.zero_add] at this
          rw [this, c19]
        refine ⟨S4, ?_, d2, ?_, qy_RelG eG h8.2.2.2.1 r0, qy_WfC (fun c hc _ => eG c hc) h8⟩
        · refine d1.trans ?_
          rw [eG 6 (by decide), h8.2.2.1]
        · intro n j n17 _ _ _
          exact d3 n j n17)
    obtain ⟨S'', d1, d2⟩ := a5 (qz_wr S' (6, 0, 0) 0 0) rfl qy_fz0 trivial
    refine ⟨v, S', S'', hx.trans a1, a2, ?_, d2⟩
    unfold gM_restore
    have e : (qz_wr S' (6, 0, 0) 0 0).1 (6, 0, 0) 5 = 1 := (wr_ne (fun q => absurd q.2 (by decide))).trans ((congrFun (a4 6 (by decide) (by decide)) 5).trans h6)
    simp only [qz_let, e]
    rw [if_neg (by decide)]
    exact d1
theorem qy_passDay (hI : qy_Inv f0 B S) (hF : 1132 < F) (hB6 : B ≤ 60000) : qy_Call f0 B (gX_passDay F S) (gM_passDay F) := by
  have hW := hI.1.2
  refine qy_act0 (F := F) (g := S.1 (17, 0, 0)) hI (Nat.le_refl B) hB6 hF rfl (XC := _) (MC := _) rfl (fun S' _ => rfl) ?_
  intro S1 k1 k2
  obtain ⟨S2, b1, b2, b3, b4⟩ := qy_dayC (F := F) k1 hW (by omega)
  refine ⟨_, S2, b1, b2, ?_, ?_⟩
  · intro n j hn
    exact b3 n j (fun q => hn ⟨q.2, Or.inl q.1⟩) (fun q => hn (by rw [q]; exact ⟨rfl, Or.inr (Or.inl rfl)⟩))
  · intro S3 c1 _
    obtain ⟨S4, d1, d2, d3, T, d4, d5, d6⟩ := qm_dayR (F := F) (S := S3) (B := B) (by rw [c1]; exact hW) (by omega)
    rw [c1] at d1 d4
    refine ⟨S4, d1, d2, d3, b4 T _ d4 d5 d6, ?_⟩
    exact qy_WfC (fun c _ h7 => d6 c (fun q => h7 (by omega))) (qm_PDW d4 hW)
end QYT
