/-! texts: both read, to the end -/
def qt_KC : Int32 → Int32 → Int32 → Int32 → qz_S → Option (Int32 × qz_S) := fun y111 y212 y313 y414 T15 => if y111 = (3 : Int32) then (some ((-1 : Int32), T15)) else (some ((T15.1 ((1, 0, 0) : qz_N) 1), T15))
def qt_KM : qz_S → Option (Int32 × qz_S) := fun T30 => if (T30.1 ((6, 0, 0) : qz_N) 12) = 0 then (some ((T30.1 ((6, 0, 0) : qz_N) 11), T30)) else (some ((-5 : Int32), T30))
section QT3
variable {F len : Nat} {C0 S0 : qz_S}
theorem qt_fin {T : qz_S} {W : Nat → Nat × Nat × Nat} {k : Nat} (h : qt_CD C0 T W k) (hC : C0.1 (1, 0, 0) 1 = nI len) (n : Nat) (hn : 0 < n) (y1 y2 y3 : Int32) (h3 : ¬ y1 = 3) : gT_read_L14 F qt_KC n y1 y2 y3 (nI len) T = some (nI len, T) := by
  obtain ⟨n, rfl⟩ : ∃ n', n = n' + 1 := ⟨n - 1, by omega⟩
  rw [qt_end h hC]
  unfold qt_KC
  rw [if_neg h3, qt_c1 h hC]
theorem qt_ch0 : qt_ch S0 len len = 0 := by
  unfold qt_ch
  rw [if_neg (by omega)]
theorem qt_bookA (hC : C0.1 (1, 0, 0) 1 = nI len) (hM : S0.1 (6, 0, 0) 7 = nI len) (h60 : len ≤ 60) (htx : ∀ i, i < len → C0.1 (14, 0, 0) i = S0.1 (20, 0, 0) i) (hF : 100 < F)
    {T1 T2 : qz_S} {a n : Nat} {w y2 y3 : Int32} {W : Nat → Nat × Nat × Nat} {k : Nat} (ha : a ≤ len) (hk : k ≤ a) (hn : len - a < n) (hR : qt_RD S0 T2 a w W k) (hD : qt_CD C0 T1 W k) (hok : qt_ok W k) :
    (∃ a' T2', a' ≤ len ∧ gM_readsBooking F T2 = some T2' ∧ qt_RD S0 T2' a' 0 W k ∧ gT_read_L14 F qt_KC n 0 y2 y3 (nI a) T1 = some (nI a', T1)) ∨
    (∃ a' T1' T2' W' k' n' e' l', a < a' ∧ a' ≤ len ∧ k' ≤ a' ∧ len - a' < n' ∧ gM_readsBooking F T2 = some T2' ∧ qt_RD S0 T2' a' 1 W' k' ∧ gT_read_L14 F qt_KC n 0 y2 y3 (nI a) T1 = gT_read_L14 F qt_KC n' 3 e' l' (nI a') T1' ∧ qt_CD C0 T1' W' k' ∧ qt_ok W' k' ∧ (a' < len → ¬ ((49 : Int32) ≤ qt_ch S0 len a' ∧ qt_ch S0 len a' ≤ 57))) := by
  have hch : ∀ i, i < len → C0.1 (14, 0, 0) i = qt_ch S0 len i := fun i hi => by
    unfold qt_ch
    rw [if_pos hi]
    exact htx i hi
  by_cases e0 : a = len
  · subst e0
    left
    obtain ⟨T2', r1, r2⟩ := qt_bk0 (F := F) hM h60 (by omega) (Nat.le_refl _) hR (by rw [qt_ch0]; decide)
    exact ⟨a, T2', Nat.le_refl _, r1, r2, qt_fin hD hC n (by omega) 0 y2 y3 (by decide)⟩
  · obtain ⟨n, rfl⟩ : ∃ n', n = n' + 1 := ⟨n - 1, by omega⟩
    have hal : a < len := by omega
    have hst := qt_step (F := F) (K := qt_KC) hD hC h60 hal n 0 y2 y3
    rw [hch a hal] at hst
    by_cases hg : (48 : Int32) ≤ qt_ch S0 len a ∧ qt_ch S0 len a ≤ 57
    · rw [if_neg (by rw [qt_a0]; exact fun q => q hg), if_pos rfl] at hst
      by_cases e1 : a + 1 = len
      · left
        obtain ⟨T2', r1, r2⟩ := qt_bk1 (F := F) hM h60 (by omega) hal hR hg (by rw [e1, qt_ch0]; decide)
        refine ⟨a + 1, T2', by omega, r1, r2, ?_⟩
        rw [hst, e1]
        exact qt_fin hD hC n (by omega) 1 _ y3 (by decide)
      · have ha1 : a + 1 < len := by omega
        obtain ⟨n, rfl⟩ : ∃ n', n = n' + 1 := ⟨n - 1, by omega⟩
        have hst1 := qt_step (F := F) (K := qt_KC) hD hC h60 ha1 n 1 (qt_ch S0 len a - 48) y3
        rw [hch _ ha1] at hst1
        by_cases hb : qt_ch S0 len (a + 1) = 97 ∨ qt_ch S0 len (a + 1) = 98
        · rw [if_neg (by rw [qt_a1]; exact fun q => q hb), if_neg (by decide), if_pos rfl] at hst1
          obtain ⟨bk1, bk2⟩ := qt_bk2 (F := F) hM h60 (by omega) ha1 hR hg hb
          by_cases e2 : a + 2 = len
          · left
            obtain ⟨T2', r1, r2⟩ := bk1 (by rw [e2, qt_ch0]; decide)
            refine ⟨a + 2, T2', by omega, r1, r2, ?_⟩
            rw [hst, hst1, show a + 1 + 1 = len by omega]
            exact qt_fin hD hC n (by omega) 2 _ _ (by decide)
          · have ha2 : a + 2 < len := by omega
            by_cases hs : (49 : Int32) ≤ qt_ch S0 len (a + 2) ∧ qt_ch S0 len (a + 2) ≤ 57
            · right
              obtain ⟨lp, T2', r1, r2, r3⟩ := bk2 hs
              obtain ⟨c, c1, c2, c3, c4⟩ := qt_dig (a := 48) (b := 57) hg (by decide) (by decide) (by decide)
              obtain ⟨l, hl2, hl⟩ : ∃ l, l < 2 ∧ qt_ch S0 len (a + 1) - 97 = nI l := by
                rcases hb with q | q
                · exact ⟨0, by decide, by rw [q]; decide⟩
                · exact ⟨1, by decide, by rw [q]; decide⟩
              obtain ⟨a', U1, U2, W', k', z1, z2, z3, z4, z5, z6, z7, z8, z9⟩ := qt_stops (F := F) (K := qt_KC) (e := c - 48) (l := l) hC hM h60 htx (by omega) hl2 lp _ _ c4 hl r3 (len - (a + 2)) (a + 2) F n 2 T1 T2' W k rfl (by omega) (by omega) (by omega) (by omega) r2 hD hok (Or.inr ⟨rfl, ha2, hs⟩)
              refine ⟨a', U1, U2, W', k', n - (a' - (a + 2)), nI (c - 48), nI l, by omega, z2, z3, by omega, r1.trans z4, z5, ?_, z7, z8, z9⟩
              rw [hst, hst1, c4, hl]
              exact z6
            · left
              obtain ⟨T2', r1, r2⟩ := bk1 hs
              refine ⟨a + 2, T2', by omega, r1, r2, ?_⟩
              obtain ⟨n, rfl⟩ : ∃ n', n = n' + 1 := ⟨n - 1, by omega⟩
              rw [hst, hst1, qt_step (F := F) (K := qt_KC) hD hC h60 ha2 n 2, hch _ ha2, if_pos (by rw [qt_a2]; exact hs)]
        · left
          obtain ⟨T2', r1, r2⟩ := qt_bk1 (F := F) hM h60 (by omega) hal hR hg hb
          refine ⟨a + 1, T2', by omega, r1, r2, ?_⟩
          rw [hst, hst1, if_pos (by rw [qt_a1]; exact hb)]
    · left
      obtain ⟨T2', r1, r2⟩ := qt_bk0 (F := F) hM h60 (by omega) ha hR hg
      refine ⟨a, T2', ha, r1, r2, ?_⟩
      rw [hst, if_pos (by rw [qt_a0]; exact hg)]
theorem qt_readB (hC : C0.1 (1, 0, 0) 1 = nI len) (hM : S0.1 (6, 0, 0) 7 = nI len) (h60 : len ≤ 60) (htx : ∀ i, i < len → C0.1 (14, 0, 0) i = S0.1 (20, 0, 0) i) (hF : 100 < F) :
    ∀ (d a n m : Nat) (y2 y3 : Int32) (T1 T2 : qz_S) (W : Nat → Nat × Nat × Nat) (k : Nat), len - a ≤ d → a ≤ len → k ≤ a → len - a < n → len - a < m → qt_RD S0 T2 a 1 W k → qt_CD C0 T1 W k → qt_ok W k → (a < len → ¬ ((49 : Int32) ≤ qt_ch S0 len a ∧ qt_ch S0 len a ≤ 57)) →
      ∃ v T1' T2' W' k' b w, gT_read_L14 F qt_KC n 3 y2 y3 (nI a) T1 = some (v, T1') ∧ gM_reads_L14 F qt_KM m T2 = some (if v = -1 then -5 else v, T2') ∧ qt_CD C0 T1' W' k' ∧ qt_ok W' k' ∧ k' ≤ 60 ∧ (v = -1 ∨ ∃ b, b ≤ 60 ∧ v = nI b) ∧ qt_RD S0 T2' b w W' k' := by
  intro d
  induction d with
  | zero =>
    intro a n m y2 y3 T1 T2 W k hd ha hk hn hm hR hD hok hs
    have e0 : a = len := by omega
    subst e0
    obtain ⟨n, rfl⟩ : ∃ n', n = n' + 1 := ⟨n - 1, by omega⟩
    obtain ⟨m, rfl⟩ : ∃ n', m = n' + 1 := ⟨m - 1, by omega⟩
    refine ⟨-1, T1, T2, W, k, a, 1, ?_, ?_, hD, hok, by omega, Or.inl rfl, hR⟩
    · rw [qt_end hD hC]
      unfold qt_KC
      rw [if_pos rfl]
    · have e7 : T2.1 (6, 0, 0) 7 = nI a := (hR.2.1 _ _ (by decide) (fun q => absurd q.2 (by decide))).trans hM
      rw [gM_reads_L14, hR.2.2.2.1, if_neg (by decide), e7, hR.2.2.1, if_pos (Int32.le_refl _)]
      unfold qt_KM
      rw [hR.2.2.2.1, if_neg (by decide), if_pos rfl]
  | succ d ih =>
    intro a n m y2 y3 T1 T2 W k hd ha hk hn hm hR hD hok hs
    by_cases e0 : a = len
    · exact ih a n m y2 y3 T1 T2 W k (by omega) ha hk hn hm hR hD hok hs
    · have hal : a < len := by omega
      obtain ⟨n, rfl⟩ : ∃ n', n = n' + 1 := ⟨n - 1, by omega⟩
      obtain ⟨m, rfl⟩ : ∃ n', m = n' + 1 := ⟨m - 1, by omega⟩
      have hch : C0.1 (14, 0, 0) a = qt_ch S0 len a := by
        unfold qt_ch
        rw [if_pos hal]
        exact htx a hal
      have hst := qt_step (F := F) (K := qt_KC) hD hC h60 hal n 3 y2 y3
      rw [hch] at hst
      have e7 : T2.1 (6, 0, 0) 7 = nI len := (hR.2.1 _ _ (by decide) (fun q => absurd q.2 (by decide))).trans hM
      have c7 : ¬ nI len ≤ nI a := by rw [qy_le (by omega) (by omega)]; omega
      have hmd : gM_reads_L14 F qt_KM (m + 1) T2 = gM_reads_L14 F qt_KM (m + 1) T2 := rfl
      conv at hmd =>
        rhs
        rw [gM_reads_L14, hR.2.2.2.1, if_neg (show ¬ (1 : Int32) = 0 by decide), e7, hR.2.2.1, if_neg c7, qt_sign hR hM h60 (show a ≤ 60 by omega), Option.bind_some]
      by_cases h44 : qt_ch S0 len a = 44
      · rw [if_neg (by rw [qt_a3]; exact fun q => q (Or.inr h44)), if_neg (by decide), if_neg (by decide), if_pos h44] at hst
        rw [if_pos h44, qt_letE] at hmd
        have h10 := qt_w12 (v := 1) hR
        generalize qz_wr T2 (6, 0, 0) 12 1 = S10 at h10 hmd
        rw [if_neg (by rw [h10.2.2.2.1]; decide), qt_letE] at hmd
        have h16 : qt_RD S0 (qz_wr S10 (6, 0, 0) 11 (S10.1 (6, 0, 0) 11 + 1)) (a + 1) 1 W k := qt_w11 (b := 1) h10
        generalize qz_wr S10 (6, 0, 0) 11 (S10.1 (6, 0, 0) 11 + 1) = S16 at h16 hmd
        rw [if_neg (by rw [h16.2.2.2.1]; decide)] at hmd
        rcases qt_bookA (F := F) (y2 := y2) (y3 := y3) (n := n) hC hM h60 htx hF (show a + 1 ≤ len by omega) (by omega) (by omega) h16 hD hok with ⟨a', T2', r1, r2, r3, r4⟩ | ⟨a', U1, U2, W', k', n', e', l', r1, r2, r3, r4, r5, r6, r7, r8, r9, r10⟩
        · rw [r2] at hmd
          simp only [Option.bind_some] at hmd
          obtain ⟨m, rfl⟩ : ∃ n', m = n' + 1 := ⟨m - 1, by omega⟩
          refine ⟨nI a', T1, T2', W, k, a', 0, hst.trans r4, ?_, hD, hok, by omega, Or.inr ⟨a', by omega, rfl⟩, r3⟩
          rw [hmd, gM_reads_L14, if_pos r3.2.2.2.1]
          unfold qt_KM
          rw [if_pos r3.2.2.2.1, if_neg (qy_n1 (by omega)), r3.2.2.1]
        · rw [r5] at hmd
          simp only [Option.bind_some] at hmd
          obtain ⟨v, V1, V2, W2, k2, b, w, s1, s2, s3⟩ := ih a' n' m e' l' U1 U2 W' k' (by omega) r2 r3 r4 (by omega) r6 r8 r9 r10
          exact ⟨v, V1, V2, W2, k2, b, w, (hst.trans r7).trans s1, hmd.trans s2, s3⟩
      · rw [if_pos (by rw [qt_a3]; exact fun q => q.elim (hs hal) h44)] at hst
        rw [if_neg h44, qt_letE] at hmd
        have h20 := qt_w12 (v := 0) hR
        generalize qz_wr T2 (6, 0, 0) 12 0 = S20 at h20 hmd
        rw [if_pos h20.2.2.2.1, qt_letE] at hmd
        have h22 : qt_RD S0 (qz_wr S20 (6, 0, 0) 11 (S20.1 (6, 0, 0) 11 + 0)) a 0 W k := qt_w11 (b := 0) h20
        generalize qz_wr S20 (6, 0, 0) 11 (S20.1 (6, 0, 0) 11 + 0) = S22 at h22 hmd
        rw [if_pos h22.2.2.2.1] at hmd
        obtain ⟨m, rfl⟩ : ∃ n', m = n' + 1 := ⟨m - 1, by omega⟩
        refine ⟨nI a, T1, S22, W, k, a, 0, hst, ?_, hD, hok, by omega, Or.inr ⟨a, by omega, rfl⟩, h22⟩
        rw [hmd, gM_reads_L14, if_pos h22.2.2.2.1]
        unfold qt_KM
        rw [if_pos h22.2.2.2.1, if_neg (qy_n1 (by omega)), h22.2.2.1]
/-- both read -/
theorem qt_both (hC : C0.1 (1, 0, 0) 1 = nI len) (hM : S0.1 (6, 0, 0) 7 = nI len) (h60 : len ≤ 60) (htx : ∀ i, i < len → C0.1 (14, 0, 0) i = S0.1 (20, 0, 0) i) (hF : 100 < F) :
    ∃ v T1 T2 W k b w, gT_read F C0 = some (v, T1) ∧ gM_reads F S0 = some (if v = -1 then -5 else v, T2) ∧ qt_CD C0 T1 W k ∧ qt_ok W k ∧ k ≤ 60 ∧ (v = -1 ∨ ∃ b, b ≤ 60 ∧ v = nI b) ∧ qt_RD S0 T2 b w W k := by
  obtain ⟨T1, t1⟩ : ∃ T1, T1 = qz_wr C0 (1, 0, 0) 3 0 := ⟨_, rfl⟩
  obtain ⟨T2, t2⟩ : ∃ T2, T2 = qz_wr (qz_wr S0 (6, 0, 0) 11 0) (6, 0, 0) 14 0 := ⟨_, rfl⟩
  have hD : qt_CD C0 T1 (fun _ => (0, 0, 0)) 0 := by
    rw [t1]
    refine ⟨rfl, fun n j _ h => wr_ne h, wr_eq, fun j h => absurd h (by omega)⟩
  have hR : qt_RD S0 T2 0 (S0.1 (6, 0, 0) 12) (fun _ => (0, 0, 0)) 0 := by
    rw [t2]
    refine ⟨rfl, fun n j _ h => ?_, ?_, ?_, wr_eq, fun j h => absurd h (by omega)⟩
    · rw [wr_ne (fun q => h ⟨q.1, by omega⟩), wr_ne (fun q => h ⟨q.1, by omega⟩)]
    · rw [wr_ne (fun q => absurd q.2 (by decide)), wr_eq]; rfl
    · rw [wr_ne (fun q => absurd q.2 (by decide)), wr_ne (fun q => absurd q.2 (by decide))]
  have hok : qt_ok (fun _ => (0, 0, 0)) 0 := fun j h => absurd h (by omega)
  have hx : gT_read F C0 = gT_read_L14 F qt_KC F 0 0 0 (nI 0) T1 := by
    rw [t1]
    rfl
  have hm : gM_reads F S0 = Option.bind (gM_readsBooking F T2) fun R3 => gM_reads_L14 F qt_KM F R3 := by
    rw [t2]
    rfl
  rw [hx, hm]
  rcases qt_bookA (F := F) (y2 := 0) (y3 := 0) (n := F) hC hM h60 htx hF (Nat.zero_le len) (Nat.le_refl 0) (by omega) hR hD hok with ⟨a', T2', r1, r2, r3, r4⟩ | ⟨a', U1, U2, W', k', n', e', l', r1, r2, r3, r4, r5, r6, r7, r8, r9, r10⟩
  · refine ⟨nI a', T1, T2', _, 0, a', 0, r4, ?_, hD, hok, by omega, Or.inr ⟨a', by omega, rfl⟩, r3⟩
    obtain ⟨m, hm⟩ : ∃ n', F = n' + 1 := ⟨F - 1, by omega⟩
    have hgo : ∀ G, gM_reads_L14 G qt_KM (m + 1) T2' = some (nI a', T2') := by
      intro G
      rw [gM_reads_L14, if_pos r3.2.2.2.1]
      unfold qt_KM
      rw [if_pos r3.2.2.2.1, r3.2.2.1]
    rw [r2]
    simp only [Option.bind_some]
    rw [if_neg (qy_n1 (by omega))]
    have := hgo F
    rw [← hm] at this
    exact this
  · obtain ⟨v, V1, V2, W2, k2, b, w, s1, s2, s3⟩ := qt_readB (F := F) hC hM h60 htx hF (len - a') a' n' F e' l' U1 U2 W' k' (Nat.le_refl _) r2 r3 r4 (by omega) r6 r8 r9 r10
    refine ⟨v, V1, V2, W2, k2, b, w, r7.trans s1, ?_, s3⟩
    rw [r5]
    exact s2
/-- the class reads; whoever reads the same text reads the same -/
theorem qt_read (hC : C0.1 (1, 0, 0) 1 = nI len) (h60 : len ≤ 60) (hF : 100 < F) :
    ∃ v T1 W k, gT_read F C0 = some (v, T1) ∧ qt_CD C0 T1 W k ∧ qt_ok W k ∧ k ≤ 60 ∧ (v = -1 ∨ ∃ b, b ≤ 60 ∧ v = nI b) ∧
      ∀ S0 : qz_S, S0.1 (6, 0, 0) 7 = nI len → (∀ i, i < len → C0.1 (14, 0, 0) i = S0.1 (20, 0, 0) i) → ∃ T2 b w W2, gM_reads F S0 = some (if v = -1 then -5 else v, T2) ∧ qt_RD S0 T2 b w W2 k ∧ ∀ j, j < k → W2 j = W j := by
  obtain ⟨v, T1, T2, W, k, b, w, a1, a2, a3, a4, a5, a6, a7⟩ := qt_both (F := F) (len := len) (C0 := C0) (S0 := (fun n j => if n = (20, 0, 0) then C0.1 (14, 0, 0) j else nI len, fun _ => 0)) hC rfl h60 (fun i _ => rfl) hF
  refine ⟨v, T1, W, k, a1, a3, a4, a5, a6, ?_⟩
  intro S0 hM htx
  obtain ⟨v', T1', T2', W', k', b', w', c1, c2, c3, c4, c5, c6, c7⟩ := qt_both (F := F) hC hM h60 htx hF
  rw [a1] at c1
  cases c1
  have ek : k' = k := by
    have := c3.2.2.1
    rw [a3.2.2.1, qy_eq (by omega) (by omega)] at this
    exact this.symm
  subst ek
  refine ⟨T2', b', w', W', c2, c7, fun j hj => ?_⟩
  have p := a3.2.2.2 j hj
  have q := c3.2.2.2 j hj
  have o1 := a4 j hj
  have o2 := c4 j hj
  have q1 := q.1
  have q2 := q.2.1
  have q3 := q.2.2
  rw [p.1, qy_eq (by omega) (by omega)] at q1
  rw [p.2.1, qy_eq (by omega) (by omega)] at q2
  rw [p.2.2, qy_eq (by omega) (by omega)] at q3
  exact Prod.ext q1.symm (Prod.ext q2.symm q3.symm)
end QT3
