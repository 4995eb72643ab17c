/-! texts: booked -/
section QT5
variable {F B B' len k : Nat} {f0 f : qz_F} {g : Nat → Int32} {S S' : qz_S} {W : Nat → Nat × Nat × Nat}
theorem qt_books (hF : 1132 < F) (hk : k ≤ 60) (ho : qt_ok W k) : ∀ (d i B : Nat) (S1 : qz_S) (g : Nat → Int32) (n : Nat), d = k - i → i ≤ k → d < n → qy_Rel S1.1 0 g → qy_Wf g B → B + d ≤ 60000 → qy_n g + d ≤ 30 → (∀ j, j < k → (W j).1 < qy_ec g) → S1.1 (1, 0, 0) 3 = nI k →
    (∀ j, j < k → S1.1 (3, 0, j) 0 = nI (W j).1 ∧ S1.1 (3, 0, j) 1 = nI (W j).2.1 ∧ S1.1 (3, 0, j) 2 = nI (W j).2.2) →
    ∃ S2 G, gX_enterAll_L2 F (fun y16 T7 => some T7) n (nI i) S1 = some S2 ∧ S2.2 = S1.2 ∧ qy_fw 0 S1.1 S2.1 ∧ qy_Rel S2.1 0 G ∧ qy_Wf G (B + d) ∧
      ∀ (S3 : qz_S) (m : Nat), S3.1 (17, 0, 0) = g → d < m → S3.1 (6, 0, 0) 14 = nI k → (∀ j, j < k → S3.1 (23, 0, 0) (3 * j) = nI (W j).1 ∧ S3.1 (23, 0, 0) (3 * j + 1) = nI (W j).2.1 ∧ S3.1 (23, 0, 0) (3 * j + 2) = nI (W j).2.2) →
        ∃ S4, gM_bookAll_L80 F (fun y221 T22 => some ((T22.1 ((6, 0, 0) : qz_N) 14), T22)) m (nI i) S3 = some (nI k, S4) ∧ S4.2 = S3.2 ∧ (∀ n j, n ≠ (17, 0, 0) → S4.1 n j = S3.1 n j) ∧ S4.1 (17, 0, 0) = G := by
  intro d
  induction d with
  | zero =>
    intro i B S1 g n hd hi hn hR hW hB hc he h3 hw
    have ei : i = k := by omega
    subst ei
    obtain ⟨n, rfl⟩ : ∃ n', n = n' + 1 := ⟨n - 1, by omega⟩
    refine ⟨S1, g, ?_, rfl, fun _ _ _ => rfl, hR, hW, ?_⟩
    · rw [gX_enterAll_L2, h3, if_pos (Int32.le_refl _)]
    · intro S3 m h17 hm h14 hw3
      obtain ⟨m, rfl⟩ : ∃ n', m = n' + 1 := ⟨m - 1, by omega⟩
      refine ⟨S3, ?_, rfl, fun _ _ _ => rfl, h17⟩
      rw [gM_bookAll_L80, h14, if_pos (Int32.le_refl _)]
  | succ d ih =>
    intro i B S1 g n hd hi hn hR hW hB hc he h3 hw
    obtain ⟨n, rfl⟩ : ∃ n', n = n' + 1 := ⟨n - 1, by omega⟩
    have hik : i < k := by omega
    obtain ⟨w0, w1, w2⟩ := hw i hik
    obtain ⟨o0, o1, o2, o3⟩ := ho i hik
    obtain ⟨N, S2, G1, a1, a2, a3, a4, a5, a6, a7, a8⟩ := qy_enter (F := F) hR hW hF (by omega) o1 (he i hik) o2 o3 (by omega)
    have k1 : ∀ c j i', ¬ (c = 0 ∨ c = 4 ∨ c = 10 ∨ c = 11 ∨ c = 12) → S2.1 (c, 0, i') j = S1.1 (c, 0, i') j := fun c j i' hcc => a3 _ _ (fun q => hcc q.2)
    obtain ⟨S5, G, b1, b2, b3, b4, b5, b6⟩ := ih (i + 1) (B + 1) S2 G1 n (by omega) (by omega) (by omega) a4 a5 (by omega) (by omega) (fun j hj => by rw [a7]; exact he j hj) ((k1 _ _ _ (by decide)).trans h3) (fun j hj => by
      rw [k1 _ _ _ (by decide), k1 _ _ _ (by decide), k1 _ _ _ (by decide)]
      exact hw j hj)
    have c1 : ¬ nI k ≤ nI i := by rw [qy_le (by omega) (by omega)]; omega
    have c2 : ¬ (60 : Int32) ≤ nI i := fun q => by have := (qz_le_nI (a := 60) (b := i) (by decide) (by omega)).mp q; omega
    refine ⟨S5, G, ?_, b2.trans a2, qy_fwT a3 b3, b4, by rw [show B + (d + 1) = B + 1 + d by omega]; exact b5, ?_⟩
    · rw [gX_enterAll_L2, h3, if_neg c1, if_neg c2, if_pos (qz_xi_nI (by omega) (by decide)), qz_cl_nI (by omega), w0, w1, w2, a1]
      simp only [Option.bind_some]
      rw [qz_nI1]
      exact b1
    · intro S3 m h17 hm h14 hw3
      obtain ⟨m, rfl⟩ : ∃ n', m = n' + 1 := ⟨m - 1, by omega⟩
      obtain ⟨S4, d1, d2, d3, d4⟩ := a8 S3 h17
      obtain ⟨x0, x1, x2⟩ := hw3 i hik
      obtain ⟨S6, e1, e2, e3, e4⟩ := b6 S4 m d4 (by omega) ((d3 _ _ (by decide)).trans h14) (fun j hj => by
        rw [d3 _ _ (by decide), d3 _ _ (by decide), d3 _ _ (by decide)]
        exact hw3 j hj)
      have m0 : (3 : Int32) * nI i = nI (3 * i) := by rw [show (3 : Int32) = nI 3 from rfl, qy_mul]
      have m1 : nI (3 * i) + (1 : Int32) = nI (3 * i + 1) := qz_nI1 _
      have m2 : nI (3 * i) + (2 : Int32) = nI (3 * i + 2) := by rw [show (2 : Int32) = nI 2 from rfl, qy_add]
      refine ⟨S6, ?_, e2.trans d2, fun n j hn => (e3 n j hn).trans (d3 n j hn), e4⟩
      rw [gM_bookAll_L80, h14, if_neg c1, m0, m1, m2, if_pos (qz_xi_nI (by omega) (by decide)), if_pos (qz_xi_nI (by omega) (by decide)), if_pos (qz_xi_nI (by omega) (by decide)), qz_cl_nI (by omega), qz_cl_nI (by omega), qz_cl_nI (by omega), x0, x1, x2, d1]
      simp only [Option.bind_some]
      rw [qz_nI1]
      exact e1
theorem qt_fzR {S0 T : qz_S} {a : Nat} {w : Int32} (h : qt_RD S0 T a w W k) : qy_fz S0.1 T.1 := fun n j h6 _ _ h23 _ _ => h.2.1 n j h23 (fun q => h6 ⟨q.1, by omega⟩)
theorem qy_bookAll (hI : qy_Inv f0 B S) (hF : 1132 < F) (hB6 : B + 30 ≤ 60000) : qy_Call f0 (B + 30) (gX_bookAll F S) (gM_bookAll F) := by
  obtain ⟨len, h60, h1, h6, htx⟩ := hI.2.2.2.1
  obtain ⟨v, R1, W, k, r1, r2, r3, r4, r5, r6⟩ := qt_read (F := F) (C0 := S) h1 h60 (by omega)
  have hfz1 : qy_fz S.1 R1.1 := fun n j _ _ _ _ h1 h3 => r2.2.1 n j h3 h1
  have hI1 : qy_Inv f0 B R1 := qy_fzI r2.1 hfz1 hI
  have hI1' := qy_InvB (B' := B + 30) (by omega) hB6 hI1
  have hR := hI1.1.1
  have hW := hI1.1.2
  have h30 := hW.2.2.2.1
  have hmod : ∀ S' : qz_S, S'.1 (6, 0, 0) 7 = R1.1 (6, 0, 0) 7 → (∀ j, S'.1 (20, 0, 0) j = R1.1 (20, 0, 0) j) → ∃ T2 b w W2, gM_reads F (qz_wr S' (6, 0, 0) 0 0) = some (if v = -1 then -5 else v, T2) ∧ qt_RD (qz_wr S' (6, 0, 0) 0 0) T2 b w W2 k ∧ ∀ j, j < k → W2 j = W j := by
    intro S' e7 e20
    refine r6 _ ?_ ?_
    · rw [wr_ne (fun q => absurd q.2 (by decide)), e7, qy_fz6 hfz1 (by decide)]
      exact h6
    · intro i hi
      rw [wr_ne (fun q => qy_kn (by decide) q.1), e20, qy_fzN hfz1 (by decide) (by decide) (by decide) (by decide) (by decide) (by decide)]
      exact htx i hi
  obtain ⟨T2, b, w, W2, t1, t2, t3⟩ := hmod R1 rfl (fun _ => rfl)
  have hfz2 : qy_fz R1.1 T2.1 := qy_fzT qy_fz0 (qt_fzR t2)
  have hI2 : qy_Inv f0 (B + 30) T2 := qy_fzI (S := R1) t2.1 hfz2 hI1'
  have hCo1 := hI1.2.2.2.2
  by_cases hv : v = -1
  · subst hv
    rw [if_pos rfl] at t1
    generalize hg : R1.1 (17, 0, 0) = g at *
    have e17 : T2.1 (17, 0, 0) = g := (qy_fzG hfz2).trans hg
    have hx1 := qt_ends (F := F) hR hW (by omega) r4 r2.2.2.1 (fun j hj => (r2.2.2.2 j hj).1) r3
    have hm14 : ∀ (T : qz_S) (b : Nat) (w : Int32) (W2 : Nat → Nat × Nat × Nat), qt_RD S T b w W2 k → True := fun _ _ _ _ _ => trivial
    have hwm : ∀ j, j < k → T2.1 (23, 0, 0) (3 * j) = nI (W j).1 := fun j hj => by
      rw [(t2.2.2.2.2.2 j hj).1, t3 j hj]
    by_cases hP : ∀ j, j < k → (W j).1 < qy_ec g
    · have hwc : gW_workerCount F R1.1 = some (nI (qy_n g)) := by rw [qy_wcnt (by omega), qy_lenR hR]
      have hsum : nI (qy_n g) + nI k ≤ 30 ↔ qy_n g + k ≤ 30 := by
        rw [qy_add]
        exact qz_le_nI (a := qy_n g + k) (b := 30) (by omega) (by decide)
      by_cases hc : qy_n g + k ≤ 30
      · obtain ⟨v', S', x1, x2, x3, x4, x5⟩ := qy_act (F := F) (B' := B + 30) (S := R1) (g := g) (XC := fun R10 => Option.bind (gX_enterAll F R10) fun R12 => some ((R12.1 ((1, 0, 0) : qz_N) 3), R12)) (MC := fun _ R13 => gM_bookAll_L80 F (fun y221 T22 => some ((T22.1 ((6, 0, 0) : qz_N) 14), T22)) F (0 : Int32) R13)
          (MH := fun S2' => S2'.1 (6, 0, 0) 14 = nI k ∧ ∀ j, j < k → S2'.1 (23, 0, 0) (3 * j) = nI (W j).1 ∧ S2'.1 (23, 0, 0) (3 * j + 1) = nI (W j).2.1 ∧ S2'.1 (23, 0, 0) (3 * j + 2) = nI (W j).2.2) hI1 (by omega) hB6 hF hg (fun S1 k1 k2 => by
            have q1 : ∀ c i j, c ≠ 2 → S1.1 (c, 0, i) j = R1.1 (c, 0, i) j := fun c i j hc2 => k2 _ _ (fun q => absurd q.1 (show ¬ 1 ≤ 0 by decide)) (qy_kn hc2)
            obtain ⟨S2, G, y1, y2, y3, y4, y5, y6⟩ := qt_books (F := F) hF r4 r3 k 0 B S1 g F (by omega) (by omega) (by omega) k1 hW (by omega) hc hP ((q1 _ _ _ (by decide)).trans r2.2.2.1) (fun j hj => by
              rw [q1 _ _ _ (by decide), q1 _ _ _ (by decide), q1 _ _ _ (by decide)]
              exact r2.2.2.2 j hj)
            refine ⟨nI k, S2, ?_, y2, y3, ?_⟩
            · show (Option.bind (gX_enterAll F S1) fun R12 => some ((R12.1 ((1, 0, 0) : qz_N) 3), R12)) = _
              have : gX_enterAll F S1 = some S2 := y1
              rw [this]
              simp only [Option.bind_some]
              rw [y3 _ _ (fun q => absurd q.2 (by decide)), q1 _ _ _ (by decide), r2.2.2.1]
            · intro S2' S3 hMH c1 c2 _ _
              obtain ⟨S4, z1, z2, z3, z4⟩ := y6 S3 F c1 (by omega) ((c2 _ _ (by decide) (fun q => absurd q.2 (by decide))).trans hMH.1) (fun j hj => by
                rw [c2 _ _ (by decide) (fun q => qy_kn (by decide) q.1), c2 _ _ (by decide) (fun q => qy_kn (by decide) q.1), c2 _ _ (by decide) (fun q => qy_kn (by decide) q.1)]
                exact hMH.2 j hj)
              exact ⟨S4, z1, z2, fun n j n17 _ _ _ => z3 n j n17, by rw [z4]; exact y4, by rw [z4]; exact qy_WfB (by omega) hB6 y5⟩)
        obtain ⟨U2, b', w', W', u1, u2, u3⟩ := hmod S' (by rw [x4 6 (by decide) (by decide)]) (fun j => by rw [x4 20 (by decide) (by decide)])
        rw [if_pos rfl] at u1
        have ufz : qy_fz S'.1 U2.1 := qy_fzT qy_fz0 (qt_fzR u2)
        have u17 : U2.1 (17, 0, 0) = g := (qy_fzG ufz).trans x3
        obtain ⟨S'', s1, s2⟩ := x5 U2 u2.1 ufz ⟨u2.2.2.2.2.1, fun j hj => by
          have := u2.2.2.2.2.2 j hj
          rw [u3 j hj] at this
          exact this⟩
        refine ⟨v', S', S'', ?_, x2, ?_, s2⟩
        · unfold gX_bookAll
          rw [r1]
          simp only [Option.bind_some]
          rw [if_pos trivial, hx1.1 hP]
          simp only [Option.bind_some]
          rw [if_neg (by decide), hwc]
          simp only [Option.bind_some]
          rw [r2.2.2.1, if_pos (hsum.mpr hc)]
          exact x1
        · unfold gM_bookAll
          simp only [qz_let]
          rw [u1]
          simp only [Option.bind_some]
          rw [if_pos trivial]
          have hx2 := qt_endsM (F := F) (R2 := ((-5 : Int32), U2)) (W := W) (k := k) (B := B) (by show qy_Wf (U2.1 (17, 0, 0)) B; rw [u17]; exact hW) (by omega) r4 u2.2.2.2.2.1 (fun j hj => by
            show U2.1 (23, 0, 0) (3 * j) = _
            rw [(u2.2.2.2.2.2 j hj).1, u3 j hj]) r3
          refine ((hx2 _).1 (fun j hj => by show _ < qy_ec (U2.1 (17, 0, 0)); rw [u17]; exact hP j hj)).trans ?_
          show (if U2.1 (17, 0, 0) 6 + U2.1 (6, 0, 0) 14 ≤ 30 then _ else _) = _
          rw [u17, hW.2.2.1, u2.2.2.2.2.1, if_pos (hsum.mpr hc)]
          exact s1
      · refine ⟨-3, R1, T2, ?_, hCo1, ?_, hI2⟩
        · unfold gX_bookAll
          rw [r1]
          simp only [Option.bind_some]
          rw [if_pos trivial, hx1.1 hP]
          simp only [Option.bind_some]
          rw [if_neg (by decide), hwc]
          simp only [Option.bind_some]
          rw [r2.2.2.1, if_neg (fun q => hc (hsum.mp q))]
        · unfold gM_bookAll
          simp only [qz_let]
          rw [t1]
          simp only [Option.bind_some]
          rw [if_pos trivial]
          have hx2 := qt_endsM (F := F) (R2 := ((-5 : Int32), T2)) (W := W) (k := k) (B := B) (by show qy_Wf (T2.1 (17, 0, 0)) B; rw [e17]; exact hW) (by omega) r4 t2.2.2.2.2.1 hwm r3
          refine ((hx2 _).1 (fun j hj => by show _ < qy_ec (T2.1 (17, 0, 0)); rw [e17]; exact hP j hj)).trans ?_
          show (if T2.1 (17, 0, 0) 6 + T2.1 (6, 0, 0) 14 ≤ 30 then _ else _) = _
          rw [e17, hW.2.2.1, t2.2.2.2.2.1, if_neg (fun q => hc (hsum.mp q))]
    · refine ⟨-1, R1, T2, ?_, hCo1, ?_, hI2⟩
      · unfold gX_bookAll
        rw [r1]
        simp only [Option.bind_some]
        rw [if_pos trivial, hx1.2 hP]
        simp only [Option.bind_some]
        rw [if_pos trivial]
      · unfold gM_bookAll
        simp only [qz_let]
        rw [t1]
        simp only [Option.bind_some]
        rw [if_pos trivial]
        have hx2 := qt_endsM (F := F) (R2 := ((-5 : Int32), T2)) (W := W) (k := k) (B := B) (by show qy_Wf (T2.1 (17, 0, 0)) B; rw [e17]; exact hW) (by omega) r4 t2.2.2.2.2.1 hwm r3
        exact (hx2 _).2 (fun q => hP (fun j hj => by have := q j hj; rw [show ((-5 : Int32), T2).2.1 (17, 0, 0) = g from e17] at this; exact this))
  · rw [if_neg hv] at t1
    have hv5 : ¬ v = -5 := by
      rcases r5 with q | ⟨c, c1, c2⟩
      · exact absurd q hv
      · rw [c2]; exact qy_n5 (by omega)
    refine ⟨-100 - v, R1, T2, ?_, hCo1, ?_, hI2⟩
    · unfold gX_bookAll
      rw [r1]
      simp only [Option.bind_some]
      rw [if_neg hv]
    · unfold gM_bookAll
      simp only [qz_let]
      rw [t1]
      simp only [Option.bind_some]
      rw [if_neg hv5]
end QT5
