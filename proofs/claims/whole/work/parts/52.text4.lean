/-! texts: typed, emptied, booked -/
section QT4
variable {F B B' len k : Nat} {f0 f : qz_F} {g : Nat → Int32} {S S' : qz_S} {W : Nat → Nat × Nat × Nat}
theorem qt_inv (h2 : S'.2 = S.2) (hf : ∀ n j, n ≠ (14, 0, 0) → n ≠ (20, 0, 0) → n ≠ (1, 0, 0) → ¬ (n = (6, 0, 0) ∧ (j = 0 ∨ j = 7)) → S'.1 n j = S.1 n j) (hT : qy_Tx S'.1) (hI : qy_Inv f0 B S) : qy_Inv f0 B S' := by
  obtain ⟨a, b, c, d, e⟩ := hI
  have hk : ∀ n j, qy_kd n → S'.1 n j = S.1 n j := fun n j hn => hf n j (qy_kd_n hn (by decide)) (qy_kd_n hn (by decide)) (qy_kd_n hn (by decide)) (fun q => qy_kd_n hn (by decide) q.1)
  have hs : ∀ k j, k ≠ 14 → k ≠ 20 → k ≠ 1 → k ≠ 6 → S'.1 (k, 0, 0) j = S.1 (k, 0, 0) j := fun k j h1 h2 h3 h4 => hf _ _ (qy_kn h1) (qy_kn h2) (qy_kn h3) (fun q => qy_kn h4 q.1)
  have h6 : ∀ j, ¬ (j = 0 ∨ j = 7) → S'.1 (6, 0, 0) j = S.1 (6, 0, 0) j := fun j hj => hf _ _ (by decide) (by decide) (by decide) (fun q => hj q.2)
  refine ⟨?_, ?_, ?_, hT, ?_⟩
  · exact qy_CuC (fun n j hn => hk n j hn.2) (fun j => hs 17 j (by decide) (by decide) (by decide) (by decide)) a
  · refine qy_HsC h2 (fun n j hn => ?_) (fun j => hs 18 j (by decide) (by decide) (by decide) (by decide)) (h6 3 (by decide)) b
    rcases hn with hn | hn
    · exact hk n j hn.2.2
    · rw [hn]; exact hs 2 j (by decide) (by decide) (by decide) (by decide)
  · exact qy_SnC (fun n j hn => hk n j hn.2) (hs 5 4 (by decide) (by decide) (by decide) (by decide)) (h6 5 (by decide)) (fun j => hs 19 j (by decide) (by decide) (by decide) (by decide)) c
  · intro n j hn
    have z : ∀ k : Nat, k < 30 → n ≠ (k, 0, 0) := fun k hk q => by rw [q] at hn; exact absurd hn (by simp; omega)
    rw [hf n j (z 14 (by decide)) (z 20 (by decide)) (z 1 (by decide)) (fun q => z 6 (by decide) q.1)]
    exact e n j hn
theorem qt_char (v : Int32) : vp_nar .char ((v.toUInt32 % 65536).toInt32) = (v.toUInt32 % 65536).toInt32 := by
  rw [vp_nar_char]
  congr 1
  show (v.toUInt32 % 65536).toUInt16.toUInt32 = v.toUInt32 % 65536
  apply UInt32.toNat_inj.mp
  simp
theorem qy_type (hI : qy_Inv f0 B S) (a : Int32) (ha : vp_nar .char a = a) : qy_Call f0 B (gX_type F S a) (fun T => gM_type F T a) := by
  obtain ⟨n, h60, h1, h6, htx⟩ := hI.2.2.2.1
  have e6 : ∀ T : qz_S, T.1 (6, 0, 0) 7 = nI n → (qz_wr T (6, 0, 0) 0 0).1 (6, 0, 0) 7 = nI n := fun T hT => (wr_ne (fun q => absurd q.2 (by decide))).trans hT
  by_cases hn : n < 60
  · have c1 : nI n < (60 : Int32) := by rw [show (60 : Int32) = nI 60 from rfl, qy_lt (by omega) (by omega)]; exact hn
    have c2 : ¬ nI n = (60 : Int32) := by rw [show (60 : Int32) = nI 60 from rfl, qy_eq (by omega) (by omega)]; omega
    obtain ⟨S1, s1⟩ : ∃ S1, S1 = qz_wr (qz_wr S (14, 0, 0) n a) (1, 0, 0) 1 (nI (n + 1)) := ⟨_, rfl⟩
    obtain ⟨S2, s2⟩ : ∃ S2, S2 = qz_wr (qz_wr (qz_wr S1 (6, 0, 0) 0 0) (20, 0, 0) n a) (6, 0, 0) 7 (nI (n + 1)) := ⟨_, rfl⟩
    have u1 : ∀ m j, m ≠ (14, 0, 0) → m ≠ (1, 0, 0) → S1.1 m j = S.1 m j := fun m j q1 q2 => by
      rw [s1, wr_ne (fun q => q2 q.1), wr_ne (fun q => q1 q.1)]
    have u2 : ∀ m j, m ≠ (20, 0, 0) → ¬ (m = (6, 0, 0) ∧ (j = 0 ∨ j = 7)) → S2.1 m j = S1.1 m j := fun m j q1 q2 => by
      rw [s2, wr_ne (fun q => q2 ⟨q.1, Or.inr q.2⟩), wr_ne (fun q => q1 q.1), wr_ne (fun q => q2 ⟨q.1, Or.inl q.2⟩)]
    refine ⟨nI (n + 1), S1, S2, ?_, ?_, ?_, ?_⟩
    · unfold gX_type gT_append
      rw [h1, if_pos c1, if_neg (qy_nn (by omega)), if_neg (Int32.not_le.mpr c1), if_pos (qz_xi_nI hn (by decide)), qz_cl_nI (by omega), ha]
      simp only [qz_let, Option.bind_some]
      have q1 : (qz_wr S (14, 0, 0) n a).1 (1, 0, 0) 1 = nI n := (wr_ne (fun q => qy_kn (by decide) q.1)).trans h1
      rw [q1, qz_nI1, ← s1, show S1.1 (1, 0, 0) 1 = nI (n + 1) by rw [s1, wr_eq]]
    · intro m j hm
      rw [u1 m j (fun q => by rw [q] at hm; exact absurd hm (by decide)) (fun q => by rw [q] at hm; exact absurd hm (by decide))]
      exact hI.2.2.2.2 m j hm
    · have e7 : (qz_wr S1 (6, 0, 0) 0 0).1 (6, 0, 0) 7 = nI n := e6 S1 ((u1 _ _ (by decide) (by decide)).trans h6)
      unfold gM_type
      simp only [qz_let]
      have q1 : (qz_wr (qz_wr S1 (6, 0, 0) 0 0) (20, 0, 0) n a).1 (6, 0, 0) 7 = nI n := (wr_ne (fun q => qy_kn (by decide) q.1)).trans e7
      rw [e7, if_neg c2, if_pos (qz_xi_nI hn (by decide)), qz_cl_nI (by omega), q1, qz_nI1, ← s2, show S2.1 (6, 0, 0) 7 = nI (n + 1) by rw [s2, wr_eq]]
    · refine qt_inv (S := S) (by rw [s2, s1]; rfl) (fun m j q1 q2 q3 q4 => (u2 m j q2 q4).trans (u1 m j q1 q3)) ?_ hI
      refine ⟨n + 1, by omega, ?_, ?_, ?_⟩
      · rw [u2 _ _ (by decide) (fun q => qy_kn (by decide) q.1), s1, wr_eq]
      · rw [s2, wr_eq]
      · intro i hi
        have e14 : S2.1 (14, 0, 0) i = S1.1 (14, 0, 0) i := u2 _ _ (by decide) (fun q => qy_kn (by decide) q.1)
        rw [e14, s2, wr_ne (fun q => qy_kn (by decide) q.1)]
        by_cases e : i = n
        · rw [e, wr_eq, s1, wr_ne (fun q => qy_kn (by decide) q.1), wr_eq]
        · rw [wr_ne (fun q => e q.2), wr_ne (fun q => qy_kn (by decide) q.1), u1 (20, 0, 0) i (by decide) (by decide), s1, wr_ne (fun q => qy_kn (by decide) q.1), wr_ne (fun q => e q.2)]
          exact htx i (by omega)
  · have en : n = 60 := by omega
    subst en
    refine qy_no (v := -3) hI ?_ ?_
    · unfold gX_type
      rw [h1]
      rfl
    · unfold gM_type
      simp only [qz_let]
      rw [e6 S h6]
      rfl
theorem qy_clearText (hI : qy_Inv f0 B S) : qy_Call f0 B (gX_clearText F S) (gM_clearText F) := by
  obtain ⟨n, h60, h1, h6, htx⟩ := hI.2.2.2.1
  refine ⟨nI n, qz_wr S (1, 0, 0) 1 0, qz_wr (qz_wr (qz_wr S (1, 0, 0) 1 0) (6, 0, 0) 0 0) (6, 0, 0) 7 0, ?_, ?_, ?_, ?_⟩
  · unfold gX_clearText
    simp only [qz_let]
    rw [h1]
  · intro m j hm
    rw [wr_ne (fun q => by rw [q.1] at hm; exact absurd hm (by decide))]
    exact hI.2.2.2.2 m j hm
  · unfold gM_clearText
    simp only [qz_let]
    rw [wr_ne (fun q => absurd q.2 (by decide)), wr_ne (fun q => qy_kn (by decide) q.1), h6]
  · refine qt_inv (S := S) rfl (fun m j q1 q2 q3 q4 => ?_) ?_ hI
    · rw [wr_ne (fun q => q4 ⟨q.1, Or.inr q.2⟩), wr_ne (fun q => q4 ⟨q.1, Or.inl q.2⟩), wr_ne (fun q => q3 q.1)]
    · refine ⟨0, by omega, ?_, wr_eq, fun i h => absurd h (by omega)⟩
      rw [wr_ne (fun q => qy_kn (by decide) q.1), wr_ne (fun q => qy_kn (by decide) q.1), wr_eq]
      rfl
theorem qt_ends (hR : qy_Rel f 0 g) (hW : qy_Wf g B) (hF : 100 < F) (hk : k ≤ 60) (h3 : f (1, 0, 0) 3 = nI k) (hw : ∀ j, j < k → f (3, 0, j) 0 = nI (W j).1) (ho : qt_ok W k) :
    ((∀ j, j < k → (W j).1 < qy_ec g) → gX_hasAllEnds F f = some 1) ∧ (¬ (∀ j, j < k → (W j).1 < qy_ec g) → gX_hasAllEnds F f = some 0) := by
  have h10 := hW.2.1
  unfold gX_hasAllEnds
  refine qy_lpE (fun n (_ : Unit) y => gX_hasAllEnds_L2 F f (fun y15 => some (1 : Int32)) n y) k (fun i _ => ∀ j, j < i → (W j).1 < qy_ec g)
    (fun r => ((∀ j, j < k → (W j).1 < qy_ec g) → r = some 1) ∧ (¬ (∀ j, j < k → (W j).1 < qy_ec g) → r = some 0)) ?_ ?_ F 0 () (by omega) (by omega) (fun j h => absurd h (by omega))
  · intro n i _ hi hP
    have c1 : ¬ nI k ≤ nI i := by rw [qy_le (by omega) (by omega)]; omega
    have c2 : ¬ (60 : Int32) ≤ nI i := fun q => by have := (qz_le_nI (a := 60) (b := i) (by decide) (by omega)).mp q; omega
    have h9 := (ho i hi).1
    simp only [gX_hasAllEnds_L2, h3, c1, if_false, c2, qz_xi_nI (show i < 60 by omega) (show 60 < 2 ^ 31 by decide), if_true, qz_cl_nI (show i < 2 ^ 31 by omega), hw i hi, qz_nI1]
    by_cases he : (W i).1 < qy_ec g
    · left
      refine ⟨(), ?_, fun j hj => ?_⟩
      · rw [if_neg (qy_hasEnd1 hR hW he)]
      · by_cases q : j = i
        · rw [q]; exact he
        · exact hP j (by omega)
    · right
      have hx : gW_hasEnd f (nI (W i).1) = 0 := by
        rw [qy_hasEnd hR]
        intro q
        have := q.2
        rw [hW.1, qy_lt (by omega) (by omega)] at this
        exact he this
      rw [if_pos hx]
      exact ⟨fun q => absurd (q i hi) he, fun _ => rfl⟩
  · intro n _ hP
    simp only [gX_hasAllEnds_L2, h3, Int32.le_refl, if_true]
    exact ⟨fun _ => trivial, fun q => absurd hP q⟩
theorem qt_endsM {R2 : Int32 × qz_S} (hW : qy_Wf (R2.2.1 (17, 0, 0)) B) (hF : 100 < F) (hk : k ≤ 60) (h3 : R2.2.1 (6, 0, 0) 14 = nI k) (hw : ∀ j, j < k → R2.2.1 (23, 0, 0) (3 * j) = nI (W j).1) (ho : qt_ok W k) (K : Int32 → Option (Int32 × qz_S)) :
    ((∀ j, j < k → (W j).1 < qy_ec (R2.2.1 (17, 0, 0))) → gM_bookAll_L23 F R2 K F 0 = K (nI k)) ∧ (¬ (∀ j, j < k → (W j).1 < qy_ec (R2.2.1 (17, 0, 0))) → gM_bookAll_L23 F R2 K F 0 = some (-1, R2.2)) := by
  have h10 := hW.2.1
  refine qy_lpE (fun n (_ : Unit) y => gM_bookAll_L23 F R2 K n y) k (fun i _ => ∀ j, j < i → (W j).1 < qy_ec (R2.2.1 (17, 0, 0)))
    (fun r => ((∀ j, j < k → (W j).1 < qy_ec (R2.2.1 (17, 0, 0))) → r = K (nI k)) ∧ (¬ (∀ j, j < k → (W j).1 < qy_ec (R2.2.1 (17, 0, 0))) → r = some (-1, R2.2))) ?_ ?_ F 0 () (by omega) (by omega) (fun j h => absurd h (by omega))
  · intro n i _ hi hP
    have c1 : ¬ nI k ≤ nI i := by rw [qy_le (by omega) (by omega)]; omega
    have c3 : (3 : Int32) * nI i = nI (3 * i) := by rw [show (3 : Int32) = nI 3 from rfl, qy_mul]
    have h9 := (ho i hi).1
    obtain ⟨v, v1, v2⟩ := qm_isEnd (F := F) (f := R2.2.1) hW (nI (W i).1)
    simp only [gM_bookAll_L23, h3, c1, if_false, c3, qz_xi_nI (show 3 * i < 180 by omega) (show 180 < 2 ^ 31 by decide), if_true, qz_cl_nI (show 3 * i < 2 ^ 31 by omega), hw i hi, v1, Option.bind_some, qz_nI1]
    by_cases he : (W i).1 < qy_ec (R2.2.1 (17, 0, 0))
    · left
      refine ⟨(), ?_, fun j hj => ?_⟩
      · rw [if_neg (by rw [v2]; exact fun q => q (qy_isE' hW he))]
      · by_cases q : j = i
        · rw [q]; exact he
        · exact hP j (by omega)
    · right
      have hx : v = 0 := by
        rw [v2]
        intro q
        have := q.2
        rw [hW.1, qy_lt (by omega) (by omega)] at this
        exact he this
      rw [if_pos hx]
      exact ⟨fun q => absurd (q i hi) he, fun _ => rfl⟩
  · intro n _ hP
    simp only [gM_bookAll_L23, h3, Int32.le_refl, if_true]
    exact ⟨fun _ => trivial, fun q => absurd hP q⟩
end QT4
