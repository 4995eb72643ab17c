/-! a day: the reference, the whole of it -/
section QYO
variable {F B : Nat} {g T : Nat → Int32} {D : Nat → Bool} {c11 : Int32}
theorem qm_bilt (hW : qy_Wf g B) {r : Nat → Int32} (hr : qy_Wr g B r) : qm_bi g r < 2 * qy_ec g := by
  obtain ⟨_, ⟨e, he, e1⟩, ⟨l, hl, e2⟩, _, _⟩ := hr
  have h10 := hW.2.1
  unfold qm_bi
  rw [e1, e2, qz_cl_nI (show e < 2 ^ 31 by omega), qz_cl_nI (show l < 2 ^ 31 by omega)]
  by_cases ha : qy_aw g l e = true
  · rw [if_pos ha]
    rcases qy_pac hW hl (show e < 10 by omega) with ⟨h5, _⟩ | ⟨o, ho, _, _, b1, _, _, _⟩
    · unfold qy_aw at ha
      rw [h5] at ha
      simp at ha
    · rw [b1, qz_cl_nI (show o < 2 ^ 31 by omega)]
      omega
  · rw [if_neg ha]
    omega
theorem qm_PDw {i : Nat} (h : qm_PD g T D (fun j => decide (j < i)) c11) (hi : i < qy_n g) {T' : Nat → Int32} (h1 : ∀ j, j ≠ 43 + 8 * i + 7 → j ≠ 10 → T' j = T j)
    (h7 : T' (43 + 8 * i + 7) = T (43 + 8 * i + 7) + qy_w9 (qy_rm g i)) (h10 : T' 10 = T 10 + qy_w9 (qy_rm g i)) : qm_PD g T' D (fun j => decide (j < i + 1)) c11 := by
  obtain ⟨p1, p2, p7, p8, p9, p10, p11, p12⟩ := h
  refine ⟨?_, ?_, (h1 _ (by omega) (by omega)).trans p7, (h1 _ (by omega) (by omega)).trans p8, (h1 _ (by omega) (by omega)).trans p9, ?_, (h1 _ (by omega) (by omega)).trans p11, (h1 _ (by omega) (by omega)).trans p12⟩
  · intro j b1 b2
    rw [h1 j (fun q => b2 (by omega)) (fun q => b1 (by omega))]
    exact p1 j b1 b2
  · intro k hk
    obtain ⟨q5, q6, q7⟩ := p2 k hk
    refine ⟨(h1 _ (by omega) (by omega)).trans q5, (h1 _ (by omega) (by omega)).trans q6, ?_⟩
    by_cases e : k = i
    · subst e
      rw [h7, q7, if_neg (by simp), if_pos (by simp), Int32.add_zero]
    · rw [h1 _ (by omega) (by omega), q7]
      have : (decide (k < i) = true) = (decide (k < i + 1) = true) := by
        simp only [decide_eq_true_eq]
        exact propext ⟨fun h => by omega, fun h => by omega⟩
      simp only [this]
  · rw [h10, p10]
    have := qy_srs (t := fun k => if decide (k < i) = true then qy_w9 (qy_rm g k) else 0) (t' := fun k => if decide (k < i + 1) = true then qy_w9 (qy_rm g k) else 0) (k := i) (fun j hj => by
      have : (decide (j < i + 1) = true) = (decide (j < i) = true) := by
        simp only [decide_eq_true_eq]
        exact propext ⟨fun h => by omega, fun h => by omega⟩
      simp only [this]) (by simp) (qy_n g) hi
    rw [this]
    simp only [Int32.add_assoc, decide_eq_true_eq, Nat.lt_succ_self, if_true]
theorem qm_day1 {S : qz_S} (hW : qy_Wf (S.1 (17, 0, 0)) B) (hF : 300 < F) (K : Int32 → Int32 → qz_S → Option (Int32 × qz_S)) (Q : Option (Int32 × qz_S) → Prop)
    (hK : ∀ y1 y2 T, T.2 = S.2 → qm_fs S.1 T.1 → qm_PD (S.1 (17, 0, 0)) (T.1 (17, 0, 0)) (fun _ => true) (fun _ => false) (qy_sr (2 * qy_ec (S.1 (17, 0, 0))) (fun k => qy_tb (S.1 (17, 0, 0)) (qy_Lm (S.1 (17, 0, 0))) (k % 2) (k / 2))) →
      y1 = qy_sr (qy_n (S.1 (17, 0, 0))) (fun k => qy_w8 (S.1 (17, 0, 0)) (qy_Lm (S.1 (17, 0, 0))) (qy_rm (S.1 (17, 0, 0)) k)) → Q (K y1 y2 T)) : Q (gM_passDay_L13 F K F 0 0 S) := by
  generalize hg : S.1 (17, 0, 0) = g at *
  have h10 := hW.2.1
  have hec := hW.1
  refine qy_lpE (fun n (a : Int32 × qz_S) y => gM_passDay_L13 F K n a.1 y a.2) (2 * qy_ec g)
    (fun k a => a.2.2 = S.2 ∧ qm_fs S.1 a.2.1 ∧ qm_PD g (a.2.1 (17, 0, 0)) (fun j => decide (qm_bi g (qy_rm g j) < k)) (fun _ => false) (qy_sr k (fun k => qy_tb g (qy_Lm g) (k % 2) (k / 2))) ∧
      a.1 = qy_sr (qy_n g) (fun j => if decide (qm_bi g (qy_rm g j) < k) = true then qy_w8 g (qy_Lm g) (qy_rm g j) else 0)) Q ?_ ?_ F 0 (0, S) (by omega) (by omega) ?_
  · rintro n k ⟨y, T⟩ hk ⟨q1, q2, q3, q4⟩
    left
    simp only at q1 q2 q3 q4 ⊢
    have hWT := qm_PDW q3 hW
    have hT4 : T.1 (17, 0, 0) 4 = nI (qy_ec g) := by rw [qm_PDlo q3 (by decide) (by decide), hec]
    have c1 : ¬ (2 : Int32) * T.1 (17, 0, 0) 4 ≤ nI k := by
      rw [hT4, show (2 : Int32) = nI 2 from rfl, qy_mul, qy_le (by omega) (by omega)]
      omega
    have d1 : nI k / (2 : Int32) = nI (k / 2) := by rw [show (2 : Int32) = nI 2 from rfl, qy_div (by omega) (by omega)]
    have d2 : nI k - nI (k / 2) * (2 : Int32) = nI (k % 2) := by
      rw [show (2 : Int32) = nI 2 from rfl, qy_mul, qy_sub (by omega)]
      congr 1
      omega
    have hl : k % 2 < 2 := Nat.mod_lt _ (by decide)
    have he : k / 2 < qy_ec g := by omega
    have hke : 2 * (k / 2) + k % 2 = k := by omega
    simp only [gM_passDay_L13, c1, if_false, d1, d2, qm_isAway hWT hl (show k / 2 < 10 by omega), Option.bind_some, qz_nI1]
    have haw : qy_aw (T.1 (17, 0, 0)) (k % 2) (k / 2) = qy_aw g (k % 2) (k / 2) := by
      unfold qy_aw qy_er
      rw [qm_PDpa q3 hl (by omega)]
      rcases qy_pac hW hl (show k / 2 < 10 by omega) with ⟨h5, _⟩ | ⟨o, ho, _, _, b1, _, _, _⟩
      · rw [h5]
        simp
      · rw [b1, qz_cl_nI (show o < 2 ^ 31 by omega), qm_PDlo q3 (show 13 + k / 2 < 43 by omega) (by omega), qm_PDlo q3 (show 13 + o < 43 by omega) (by omega)]
    rw [haw]
    by_cases ha : qy_aw g (k % 2) (k / 2) = true
    · rw [if_pos ha, if_neg (by decide)]
      have hno : ∀ j, j < qy_n g → ¬ qm_bi g (qy_rm g j) = k := by
        intro j hj
        have := (qm_bion hW (hW.2.2.2.2.2.2.2.2.1 j hj) hl (show k / 2 < 10 by omega)).2 ha
        rw [hke] at this
        exact this
      have hD : ∀ j, j < qy_n g → decide (qm_bi g (qy_rm g j) < k) = decide (qm_bi g (qy_rm g j) < k + 1) := by
        intro j hj
        have := hno j hj
        congr 1
        exact propext ⟨fun h => by omega, fun h => by omega⟩
      refine ⟨(y + 0, T), rfl, q1, q2, ?_, ?_⟩
      · have h0 : qy_tb g (qy_Lm g) (k % 2) (k / 2) = 0 := by
          unfold qy_tb
          rw [if_pos ha]
        show qm_PD g (T.1 (17, 0, 0)) _ _ _
        rw [qy_srS, h0, Int32.add_zero]
        exact qm_PDc q3 (fun j hj _ => hD j hj)
      · show y + 0 = _
        rw [Int32.add_zero, q4]
        exact qy_src (fun j hj => by rw [hD j hj])
    · have ha' : qy_aw g (k % 2) (k / 2) = false := Bool.eq_false_iff.mpr ha
      rw [if_neg ha, if_pos rfl]
      have q3' : qm_PD g (T.1 (17, 0, 0)) (fun j => decide (qm_bi g (qy_rm g j) < 2 * (k / 2) + k % 2)) (fun _ => false) (qy_sr k (fun k => qy_tb g (qy_Lm g) (k % 2) (k / 2))) := by
        rw [hke]; exact q3
      obtain ⟨S', tx, e1, e2, e3, e4, e5⟩ := qm_brings (F := F) hW hF hl he ha' q3'
      rw [hke] at e4 e5
      refine ⟨(y + tx, S'), by rw [e1]; rfl, e2.trans q1, qm_fs_trans q2 e3, ?_, ?_⟩
      · have h0 : qy_tb g (qy_Lm g) (k % 2) (k / 2) = qy_cv g (qy_Lm g) (k % 2) (k / 2) (qy_pa g (k % 2) (k / 2)) := by
          unfold qy_tb
          rw [if_neg ha]
        rw [qy_srS, h0]
        exact e4
      · show y + tx = _
        rw [e5, q4]
  · rintro n ⟨y, T⟩ ⟨q1, q2, q3, q4⟩
    simp only at q1 q2 q3 q4 ⊢
    have hT4 : T.1 (17, 0, 0) 4 = nI (qy_ec g) := by rw [qm_PDlo q3 (by decide) (by decide), hec]
    have c1 : (2 : Int32) * T.1 (17, 0, 0) 4 ≤ nI (2 * qy_ec g) := by
      rw [hT4, show (2 : Int32) = nI 2 from rfl, qy_mul]
      exact Int32.le_refl _
    simp only [gM_passDay_L13, c1, if_true]
    have hD : ∀ j, j < qy_n g → decide (qm_bi g (qy_rm g j) < 2 * qy_ec g) = true := fun j hj => decide_eq_true (qm_bilt hW (hW.2.2.2.2.2.2.2.2.1 j hj))
    refine hK _ _ _ q1 q2 (qm_PDc q3 (fun j hj _ => hD j hj)) ?_
    rw [q4]
    exact qy_src (fun j hj => by rw [hD j hj, if_pos rfl])
  · refine ⟨rfl, qm_fs_refl _, ?_, ?_⟩
    · rw [hg]
      refine ⟨fun _ _ _ => rfl, fun k hk => ?_, rfl, ?_, ?_, ?_, ?_, ?_⟩
      · simp
      · simp [qy_sr0]
      · simp [qy_sr0]
      · simp [qy_sr0]
      · show g 11 = g 11 + 0
        rw [Int32.add_zero]
      · simp [qy_sr0]
    · simp [qy_sr0]
theorem qm_day2 {S : qz_S} (hW : qy_Wf g B) (hF : 300 < F) (h : qm_PD g (S.1 (17, 0, 0)) (fun _ => true) (fun _ => false) c11) (y1 : Int32) (K : Int32 → qz_S → Option (Int32 × qz_S)) (Q : Option (Int32 × qz_S) → Prop)
    (hK : ∀ y2 T, T.2 = S.2 → qm_fs S.1 T.1 → qm_PD g (T.1 (17, 0, 0)) (fun _ => true) (fun j => decide (j < qy_n g)) c11 → Q (K y2 T)) : Q (gM_passDay_L63 F y1 K F 0 S) := by
  have h30 := hW.2.2.2.1
  refine qy_lpE (fun n (a : qz_S) y => gM_passDay_L63 F y1 K n y a) (qy_n g)
    (fun i a => a.2 = S.2 ∧ qm_fs S.1 a.1 ∧ qm_PD g (a.1 (17, 0, 0)) (fun _ => true) (fun j => decide (j < i)) c11) Q ?_ ?_ F 0 S (by omega) (by omega) ?_
  · rintro n i T hi ⟨q1, q2, q3⟩
    left
    have hWT := qm_PDW q3 hW
    have hi' : i < qy_n (T.1 (17, 0, 0)) := by rw [qm_PDn q3]; exact hi
    obtain ⟨c1, c2, c3⟩ := qm_c hWT hi'
    have h4 : qy_rm (T.1 (17, 0, 0)) i 4 = qy_rm g i 4 := qm_PDr q3 (by decide)
    simp only [gM_passDay_L63, c1, if_false, c2, qm_o4 c3, Option.bind_some, h4]
    by_cases hw : qy_rm g i 4 = 0
    · rw [if_pos hw]
      have h7o : gM_of F T.1 (nI i) 7 = some (T.1 (17, 0, 0) (43 + 8 * i + 7)) := qm_of (c := 7) c3 (by decide)
      have h7l : ∀ v, gM_lay F T (nI i) 7 v = some (qz_wr T (17, 0, 0) (43 + 8 * i + 7) v) := fun v => qm_lay (c := 7) c3 (by decide) v
      have w9 : qy_w9 (qy_rm g i) = 1 := by
        unfold qy_w9 qy_wt
        rw [hw]
        rfl
      rw [h7o]
      simp only [Option.bind_some, h7l, qz_let]
      refine ⟨_, rfl, q1, ?_, ?_⟩
      · intro n j a b c d
        rw [wr_ne (fun q => a q.1), wr_ne (fun q => a q.1)]
        exact q2 n j a b c d
      · refine qm_PDw q3 hi ?_ ?_ ?_
        · intro j b1 b2
          rw [qm_wr17 b2, qm_wr17 b1]
        · rw [qm_wr17 (by omega), wr_eq, w9]
        · rw [wr_eq, qm_wr17 (by omega), w9]
    · rw [if_neg hw]
      have w9 : qy_w9 (qy_rm g i) = 0 := by
        unfold qy_w9 qy_wt
        rw [if_neg (by simp [hw])]
      exact ⟨T, rfl, q1, q2, qm_PDw q3 hi (fun _ _ _ => rfl) (by rw [w9, Int32.add_zero]) (by rw [w9, Int32.add_zero])⟩
  · rintro n T ⟨q1, q2, q3⟩
    have hWT := qm_PDW q3 hW
    have c := qm_c' hWT
    rw [qm_PDn q3] at c
    simp only [gM_passDay_L63, c, if_true]
    exact hK _ _ q1 q2 q3
  · refine ⟨rfl, qm_fs_refl _, ?_⟩
    have : (fun j => decide (j < 0)) = (fun _ : Nat => false) := by
      funext j
      exact decide_eq_false (by omega)
    rw [this]
    exact h
/-- a day of the reference, behind its record -/
theorem qm_dayR {S : qz_S} (hW : qy_Wf (S.1 (17, 0, 0)) B) (hF : 300 < F) : ∃ S', gM_passDay_L13 F (fun y110 y211 T12 => gM_passDay_L63 F y110 (fun y222 T23 => qz_let (qz_wr T23 ((17, 0, 0) : qz_N) 7 ((T23.1 ((17, 0, 0) : qz_N) 7) + (1 : Int32))) fun S24 => some (y110, S24)) F (0 : Int32) T12) F (0 : Int32) (0 : Int32) S =
      some (qy_sr (qy_n (S.1 (17, 0, 0))) (fun k => qy_w8 (S.1 (17, 0, 0)) (qy_Lm (S.1 (17, 0, 0))) (qy_rm (S.1 (17, 0, 0)) k)), S') ∧ S'.2 = S.2 ∧ qm_fs S.1 S'.1 ∧
      ∃ T, qm_PD (S.1 (17, 0, 0)) T (fun _ => true) (fun j => decide (j < qy_n (S.1 (17, 0, 0)))) (qy_sr (2 * qy_ec (S.1 (17, 0, 0))) (fun k => qy_tb (S.1 (17, 0, 0)) (qy_Lm (S.1 (17, 0, 0))) (k % 2) (k / 2))) ∧ S'.1 (17, 0, 0) 7 = T 7 + 1 ∧ ∀ j, j ≠ 7 → S'.1 (17, 0, 0) j = T j := by
  refine qm_day1 hW hF _ (fun r => ∃ S', r = some (_, S') ∧ S'.2 = S.2 ∧ qm_fs S.1 S'.1 ∧ ∃ T, qm_PD (S.1 (17, 0, 0)) T (fun _ => true) (fun j => decide (j < qy_n (S.1 (17, 0, 0)))) _ ∧ S'.1 (17, 0, 0) 7 = T 7 + 1 ∧ ∀ j, j ≠ 7 → S'.1 (17, 0, 0) j = T j) ?_
  intro y1 y2 T t1 t2 t3 t4
  refine qm_day2 hW hF t3 y1 _ (fun r => ∃ S', r = some (_, S') ∧ S'.2 = S.2 ∧ qm_fs S.1 S'.1 ∧ ∃ T, qm_PD (S.1 (17, 0, 0)) T (fun _ => true) (fun j => decide (j < qy_n (S.1 (17, 0, 0)))) _ ∧ S'.1 (17, 0, 0) 7 = T 7 + 1 ∧ ∀ j, j ≠ 7 → S'.1 (17, 0, 0) j = T j) ?_
  intro y3 T2 u1 u2 u3
  rw [t4]
  refine ⟨_, rfl, u1.trans t1, ?_, T2.1 (17, 0, 0), u3, wr_eq, fun j hj => qm_wr17 hj⟩
  intro n j a b c d
  rw [wr_ne (fun q => a q.1)]
  exact (qm_fs_trans t2 u2) n j a b c d
end QYO
