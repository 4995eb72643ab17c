/-! texts: both read, step by step -/
/-- the class while it reads: k wishes are laid -/
def qt_CD (C0 T : qz_S) (W : Nat → Nat × Nat × Nat) (k : Nat) : Prop :=
  T.2 = C0.2 ∧ (∀ n j, n.1 ≠ 3 → ¬ (n = (1, 0, 0) ∧ j = 3) → T.1 n j = C0.1 n j) ∧ T.1 (1, 0, 0) 3 = nI k ∧ ∀ j, j < k → T.1 (3, 0, j) 0 = nI (W j).1 ∧ T.1 (3, 0, j) 1 = nI (W j).2.1 ∧ T.1 (3, 0, j) 2 = nI (W j).2.2
/-- the reference while it reads -/
def qt_RD (S0 T : qz_S) (a : Nat) (w : Int32) (W : Nat → Nat × Nat × Nat) (k : Nat) : Prop :=
  T.2 = S0.2 ∧ (∀ n j, n ≠ (23, 0, 0) → ¬ (n = (6, 0, 0) ∧ (j = 11 ∨ j = 12 ∨ j = 14)) → T.1 n j = S0.1 n j) ∧ T.1 (6, 0, 0) 11 = nI a ∧ T.1 (6, 0, 0) 12 = w ∧ T.1 (6, 0, 0) 14 = nI k ∧
  ∀ j, j < k → T.1 (23, 0, 0) (3 * j) = nI (W j).1 ∧ T.1 (23, 0, 0) (3 * j + 1) = nI (W j).2.1 ∧ T.1 (23, 0, 0) (3 * j + 2) = nI (W j).2.2
def qt_ok (W : Nat → Nat × Nat × Nat) (k : Nat) : Prop := ∀ j, j < k → (W j).1 ≤ 9 ∧ (W j).2.1 < 2 ∧ 1 ≤ (W j).2.2 ∧ (W j).2.2 ≤ 9
def qt_pu (W : Nat → Nat × Nat × Nat) (k : Nat) (x : Nat × Nat × Nat) : Nat → Nat × Nat × Nat := fun j => if j = k then x else W j
theorem qt_pu1 {W : Nat → Nat × Nat × Nat} {k : Nat} {x : Nat × Nat × Nat} : qt_pu W k x k = x := if_pos rfl
theorem qt_pu0 {W : Nat → Nat × Nat × Nat} {k j : Nat} {x : Nat × Nat × Nat} (h : j < k) : qt_pu W k x j = W j := if_neg (by omega)
theorem qt_okP {W : Nat → Nat × Nat × Nat} {k e l s : Nat} (h : qt_ok W k) (he : e ≤ 9) (hl : l < 2) (h1 : 1 ≤ s) (h9 : s ≤ 9) : qt_ok (qt_pu W k (e, l, s)) (k + 1) := by
  intro j hj
  by_cases q : j = k
  · rw [q, qt_pu1]; exact ⟨he, hl, h1, h9⟩
  · rw [qt_pu0 (by omega)]; exact h j (by omega)
section QT1
variable {F len : Nat} {f : qz_F} {c : Int32}
theorem qt_rng {a b : Nat} (hb : b < 2147483648) (h : nI a ≤ c ∧ c ≤ nI b) (ha : a < 2147483648) : ∃ d, a ≤ d ∧ d ≤ b ∧ c = nI d := by
  obtain ⟨d, hd, rfl⟩ := qy_of (Int32.le_trans (qy_ge0 ha) h.1)
  exact ⟨d, (qz_le_nI (by omega) (by omega)).mp h.1, (qz_le_nI (by omega) (by omega)).mp h.2, rfl⟩
theorem qt_a0 : (gT_isAllowed f c 0 = 0) = ¬ ((48 : Int32) ≤ c ∧ c ≤ 57) := by
  unfold gT_isAllowed
  by_cases h1 : c < 49
  · rw [if_pos h1, if_pos rfl]
    by_cases h2 : c = 48
    · rw [if_pos h2, h2]
      decide
    · rw [if_neg h2]
      simp only [true_iff, eq_iff_iff]
      intro q
      apply h2
      apply Int32.toInt_inj.mp
      have a := Int32.le_iff_toInt_le.mp q.1
      have b := Int32.lt_iff_toInt_lt.mp h1
      have e1 : (48 : Int32).toInt = 48 := by decide
      have e2 : (49 : Int32).toInt = 49 := by decide
      rw [e1] at a ⊢
      rw [e2] at b
      omega
  · rw [if_neg h1]
    have h1' := Int32.not_lt.mp h1
    by_cases h3 : (57 : Int32) < c
    · rw [if_pos h3, if_pos rfl]
      have n48 : ¬ c = 48 := fun q => by rw [q] at h3; exact absurd h3 (by decide)
      rw [if_neg n48]
      simp only [true_iff, eq_iff_iff]
      exact fun q => absurd q.2 (Int32.not_le.mpr h3)
    · rw [if_neg h3, if_pos rfl]
      simp only [eq_iff_iff]
      exact ⟨fun q => absurd q (by decide), fun q => absurd ⟨Int32.le_trans (show (48 : Int32) ≤ 49 by decide) h1', Int32.not_lt.mp h3⟩ q⟩
theorem qt_a1 : (gT_isAllowed f c 1 = 0) = ¬ (c = 97 ∨ c = 98) := by
  unfold gT_isAllowed
  have n0 : ¬ (1 : Int32) = 0 := by decide
  by_cases h1 : c < 49
  · have n97 : ¬ c = 97 := fun q => by rw [q] at h1; exact absurd h1 (by decide)
    have n98 : ¬ c = 98 := fun q => by rw [q] at h1; exact absurd h1 (by decide)
    rw [if_pos h1, if_neg n0, if_pos rfl, if_neg n97, if_neg n98]
    simp [n97, n98]
  · rw [if_neg h1]
    by_cases h2 : c = 97
    · subst h2; decide
    · by_cases h3 : c = 98
      · subst h3; decide
      · by_cases h4 : (57 : Int32) < c
        · rw [if_pos h4, if_neg n0, if_pos rfl, if_neg h2, if_neg h3]
          simp [h2, h3]
        · rw [if_neg h4, if_neg n0, if_pos rfl, if_neg h2, if_neg h3]
          simp [h2, h3]
theorem qt_a2 : (gT_isAllowed f c 2 = 0) = ¬ ((49 : Int32) ≤ c ∧ c ≤ 57) := by
  unfold gT_isAllowed
  have n0 : ¬ (2 : Int32) = 0 := by decide
  have n1 : ¬ (2 : Int32) = 1 := by decide
  by_cases h1 : c < 49
  · rw [if_pos h1, if_neg n0, if_neg n1, if_pos rfl]
    simp [Int32.not_le.mpr h1]
  · rw [if_neg h1]
    by_cases h4 : (57 : Int32) < c
    · rw [if_pos h4, if_neg n0, if_neg n1, if_pos rfl]
      simp [Int32.not_le.mpr h4]
    · rw [if_neg h4, if_neg n0, if_neg n1, if_pos rfl]
      simp [Int32.not_lt.mp h1, Int32.not_lt.mp h4]
theorem qt_a3 : (gT_isAllowed f c 3 = 0) = ¬ (((49 : Int32) ≤ c ∧ c ≤ 57) ∨ c = 44) := by
  unfold gT_isAllowed
  have n0 : ¬ (3 : Int32) = 0 := by decide
  have n1 : ¬ (3 : Int32) = 1 := by decide
  have n2 : ¬ (3 : Int32) = 2 := by decide
  by_cases h1 : c < 49
  · rw [if_pos h1, if_neg n0, if_neg n1, if_neg n2]
    by_cases h2 : c = 44
    · rw [if_pos h2]; simp [h2]
    · rw [if_neg h2]; simp [h2, Int32.not_le.mpr h1]
  · rw [if_neg h1]
    by_cases h4 : (57 : Int32) < c
    · have n44 : ¬ c = 44 := fun q => h1 (by rw [q]; decide)
      rw [if_pos h4, if_neg n0, if_neg n1, if_neg n2, if_neg n44]
      simp [Int32.not_le.mpr h4, n44]
    · rw [if_neg h4, if_neg n0, if_neg n1, if_neg n2]
      simp [Int32.not_lt.mp h1, Int32.not_lt.mp h4]
variable {C0 T : qz_S} {W : Nat → Nat × Nat × Nat} {k a : Nat} {K : Int32 → Int32 → Int32 → Int32 → qz_S → Option (Int32 × qz_S)}
theorem qt_c1 (h : qt_CD C0 T W k) (hl : C0.1 (1, 0, 0) 1 = nI len) : T.1 (1, 0, 0) 1 = nI len := (h.2.1 _ _ (show (1 : Nat) ≠ 3 by decide) (fun q => absurd q.2 (by decide))).trans hl
theorem qt_c14 (h : qt_CD C0 T W k) : T.1 (14, 0, 0) a = C0.1 (14, 0, 0) a := h.2.1 _ _ (show (14 : Nat) ≠ 3 by decide) (fun q => qy_kn (by decide) q.1)
/-- one step of the class -/
theorem qt_step (h : qt_CD C0 T W k) (hl : C0.1 (1, 0, 0) 1 = nI len) (h60 : len ≤ 60) (ha : a < len) (n : Nat) (y1 y2 y3 : Int32) :
    gT_read_L14 F K (n + 1) y1 y2 y3 (nI a) T = if (gT_isAllowed T.1 (C0.1 (14, 0, 0) a) y1) = 0 then (some (nI a, T)) else (if y1 = 0 then ((gT_read_L14 F K) n (1 : Int32) (C0.1 (14, 0, 0) a - (48 : Int32)) y3 (nI (a + 1)) T) else (if y1 = (1 : Int32) then ((gT_read_L14 F K) n (2 : Int32) y2 (C0.1 (14, 0, 0) a - (97 : Int32)) (nI (a + 1)) T) else (if C0.1 (14, 0, 0) a = (44 : Int32) then ((gT_read_L14 F K) n (0 : Int32) y2 y3 (nI (a + 1)) T) else (Option.bind (gT_wish F T y2 y3 (C0.1 (14, 0, 0) a - (48 : Int32))) fun R9 => (gT_read_L14 F K) n (3 : Int32) y2 y3 (nI (a + 1)) R9)))) := by
  have c1 : ¬ nI len ≤ nI a := by rw [qy_le (by omega) (by omega)]; omega
  have c2 : ¬ (60 : Int32) ≤ nI a := fun q => by have := (qz_le_nI (a := 60) (b := a) (by decide) (by omega)).mp q; omega
  rw [gT_read_L14, qt_c1 h hl, if_neg c1, if_neg c2, if_pos (qz_xi_nI (by omega) (by decide)), qz_cl_nI (by omega), qt_c14 h, qz_nI1]
theorem qt_end (h : qt_CD C0 T W k) (hl : C0.1 (1, 0, 0) 1 = nI len) (n : Nat) (y1 y2 y3 : Int32) : gT_read_L14 F K (n + 1) y1 y2 y3 (nI len) T = K y1 y2 y3 (nI len) T := by
  rw [gT_read_L14, qt_c1 h hl, if_pos (Int32.le_refl _)]
theorem qt_wish {e l s : Nat} (h : qt_CD C0 T W k) (hk : k < 60) : ∃ T', gT_wish F T (nI e) (nI l) (nI s) = some T' ∧ qt_CD C0 T' (qt_pu W k (e, l, s)) (k + 1) := by
  obtain ⟨h1, h2, h3, h4⟩ := h
  have k1 : ∀ (U : qz_S) (i j : Nat) (x : Int32) (j' : Nat), (qz_wr U (3, 0, i) j x).1 (1, 0, 0) j' = U.1 (1, 0, 0) j' := fun U i j x j' => wr_ne (fun q => qy_kn (by decide) q.1)
  have c2 : ¬ (60 : Int32) ≤ nI k := fun q => by have := (qz_le_nI (a := 60) (b := k) (by decide) (by omega)).mp q; omega
  have hxi := qz_xi_nI (i := k) (n := 60) hk (by decide)
  have hcl : (nI k).toNatClampNeg = k := qz_cl_nI (by omega)
  unfold gT_wish
  rw [h3, if_neg (qy_nn (by omega)), if_neg c2, if_pos hxi, hcl]
  simp only [qz_let, k1, h3, hxi, if_true, hcl, qz_nI1]
  refine ⟨_, rfl, h1, ?_, wr_eq, ?_⟩
  · intro n j n3 n1
    have z : ∀ i, n ≠ (3, 0, i) := fun i q => n3 (by rw [q])
    rw [wr_ne n1, wr_ne (fun q => z k q.1), wr_ne (fun q => z k q.1), wr_ne (fun q => z k q.1)]
    exact h2 n j n3 n1
  · intro j hj
    by_cases q : j = k
    · subst q
      rw [qt_pu1]
      refine ⟨?_, ?_, ?_⟩ <;> simp [qz_wr]
    · have z : ∀ (U : qz_S) (c : Nat) (x : Int32) (c' : Nat), (qz_wr U (3, 0, k) c x).1 (3, 0, j) c' = U.1 (3, 0, j) c' := fun U c x c' => wr_ne (fun y => q (congrArg (fun n : qz_N => n.2.2) y.1))
      have z1 : ∀ (U : qz_S) (c : Nat) (x : Int32) (c' : Nat), (qz_wr U (1, 0, 0) c x).1 (3, 0, j) c' = U.1 (3, 0, j) c' := fun U c x c' => wr_ne (fun y => qy_kn (by decide) y.1)
      rw [qt_pu0 (by omega)]
      simp only [z1, z]
      exact h4 j (by omega)
variable {S0 : qz_S} {w : Int32}
def qt_ch (S0 : qz_S) (len a : Nat) : Int32 := if a < len then S0.1 (20, 0, 0) a else 0
theorem qt_sign (h : qt_RD S0 T a w W k) (hl : S0.1 (6, 0, 0) 7 = nI len) (h60 : len ≤ 60) (ha : a ≤ 60) : gM_sign F T.1 = some (qt_ch S0 len a) := by
  obtain ⟨_, h2, h3, _⟩ := h
  have e7 : T.1 (6, 0, 0) 7 = nI len := (h2 _ _ (by decide) (fun q => absurd q.2 (by decide))).trans hl
  unfold gM_sign qt_ch
  rw [e7, h3]
  by_cases q : a < len
  · have c1 : ¬ nI len ≤ nI a := by rw [qy_le (by omega) (by omega)]; omega
    rw [if_neg c1, if_pos (qz_xi_nI (by omega) (by decide)), qz_cl_nI (by omega), if_pos q, h2 _ _ (by decide) (fun q => qy_kn (by decide) q.1)]
  · have c1 : nI len ≤ nI a := by rw [qy_le (by omega) (by omega)]; omega
    rw [if_pos c1, if_neg q]
theorem qt_w12 {v : Int32} (h : qt_RD S0 T a w W k) : qt_RD S0 (qz_wr T (6, 0, 0) 12 v) a v W k := by
  obtain ⟨h1, h2, h3, h4, h5, h6⟩ := h
  refine ⟨h1, ?_, ?_, wr_eq, ?_, ?_⟩
  · intro n j n23 n6
    rw [wr_ne (fun q => n6 ⟨q.1, by omega⟩)]
    exact h2 n j n23 n6
  · rw [wr_ne (fun q => absurd q.2 (by decide))]; exact h3
  · rw [wr_ne (fun q => absurd q.2 (by decide))]; exact h5
  · intro j hj
    rw [wr_ne (fun q => qy_kn (by decide) q.1), wr_ne (fun q => qy_kn (by decide) q.1), wr_ne (fun q => qy_kn (by decide) q.1)]
    exact h6 j hj
theorem qt_w11 {b : Nat} (h : qt_RD S0 T a w W k) : qt_RD S0 (qz_wr T (6, 0, 0) 11 (T.1 (6, 0, 0) 11 + nI b)) (a + b) w W k := by
  obtain ⟨h1, h2, h3, h4, h5, h6⟩ := h
  refine ⟨h1, ?_, ?_, ?_, ?_, ?_⟩
  · intro n j n23 n6
    rw [wr_ne (fun q => n6 ⟨q.1, by omega⟩)]
    exact h2 n j n23 n6
  · rw [wr_eq, h3, qy_add]
  · rw [wr_ne (fun q => absurd q.2 (by decide))]; exact h4
  · rw [wr_ne (fun q => absurd q.2 (by decide))]; exact h5
  · intro j hj
    rw [wr_ne (fun q => qy_kn (by decide) q.1), wr_ne (fun q => qy_kn (by decide) q.1), wr_ne (fun q => qy_kn (by decide) q.1)]
    exact h6 j hj
theorem qt_rStop {e l s : Nat} (h : qt_RD S0 T a w W k) (hl : S0.1 (6, 0, 0) 7 = nI len) (h60 : len ≤ 60) (ha : a < len) (hk : k ≤ a) (hs : qt_ch S0 len a - 48 = nI s) :
    ∃ T', gM_readsStop F T (nI e) (nI l) = some T' ∧ qt_RD S0 T' (a + 1) w (qt_pu W k (e, l, s)) (k + 1) := by
  obtain ⟨T2, t2⟩ : ∃ T2, T2 = qz_wr T (23, 0, 0) (3 * k) (nI e) := ⟨_, rfl⟩
  obtain ⟨T4, t4⟩ : ∃ T4, T4 = qz_wr T2 (23, 0, 0) (3 * k + 1) (nI l) := ⟨_, rfl⟩
  have e14 : T.1 (6, 0, 0) 14 = nI k := h.2.2.2.2.1
  have u2 : ∀ n j, n ≠ (23, 0, 0) → T2.1 n j = T.1 n j := fun n j hn => by rw [t2, wr_ne (fun q => hn q.1)]
  have u4 : ∀ n j, n ≠ (23, 0, 0) → T4.1 n j = T.1 n j := fun n j hn => by rw [t4, wr_ne (fun q => hn q.1)]; exact u2 n j hn
  have m0 : (3 : Int32) * nI k = nI (3 * k) := by rw [show (3 : Int32) = nI 3 from rfl, qy_mul]
  have m1 : nI (3 * k) + (1 : Int32) = nI (3 * k + 1) := qz_nI1 _
  have m2 : nI (3 * k) + (2 : Int32) = nI (3 * k + 2) := by rw [show (2 : Int32) = nI 2 from rfl, qy_add]
  obtain ⟨h1, h2, h3, h4, h5, h6⟩ := h
  have hsig : gM_sign F T4.1 = some (qt_ch S0 len a) := by
    have e7 : T4.1 (6, 0, 0) 7 = nI len := (u4 _ _ (by decide)).trans ((h2 _ _ (by decide) (fun q => absurd q.2 (by decide))).trans hl)
    have e11 : T4.1 (6, 0, 0) 11 = nI a := (u4 _ _ (by decide)).trans h3
    have c1 : ¬ nI len ≤ nI a := by rw [qy_le (by omega) (by omega)]; omega
    unfold gM_sign qt_ch
    rw [e7, e11, if_neg c1, if_pos (qz_xi_nI (by omega) (by decide)), qz_cl_nI (by omega), if_pos ha, u4 _ _ (by decide), h2 _ _ (by decide) (fun q => qy_kn (by decide) q.1)]
  have z14 : T2.1 (6, 0, 0) 14 = nI k := (u2 _ _ (by decide)).trans e14
  have z14' : T4.1 (6, 0, 0) 14 = nI k := (u4 _ _ (by decide)).trans e14
  unfold gM_readsStop
  rw [e14, m0, if_pos (qz_xi_nI (by omega) (by decide)), qz_cl_nI (by omega), ← t2]
  simp only [qz_let, z14, m0, m1, qz_xi_nI (show 3 * k + 1 < 180 by omega) (show 180 < 2 ^ 31 by decide), if_true, qz_cl_nI (show 3 * k + 1 < 2 ^ 31 by omega), ← t4]
  rw [hsig]
  simp only [Option.bind_some, z14', m0, m2, qz_xi_nI (show 3 * k + 2 < 180 by omega) (show 180 < 2 ^ 31 by decide), if_true, qz_cl_nI (show 3 * k + 2 < 2 ^ 31 by omega), hs]
  refine ⟨_, rfl, ?_, ?_, ?_, ?_, ?_, ?_⟩
  · show T4.2 = _
    rw [t4]
    show T2.2 = _
    rw [t2]
    exact h1
  · intro n j n23 n6
    rw [wr_ne (fun q => n6 ⟨q.1, by omega⟩), wr_ne (fun q => n6 ⟨q.1, by omega⟩), wr_ne (fun q => n23 q.1), u4 n j n23]
    exact h2 n j n23 n6
  · rw [wr_eq, wr_ne (fun q => absurd q.2 (by decide)), wr_ne (fun q => qy_kn (by decide) q.1), u4 _ _ (by decide), h3, qz_nI1]
  · rw [wr_ne (fun q => absurd q.2 (by decide)), wr_ne (fun q => absurd q.2 (by decide)), wr_ne (fun q => qy_kn (by decide) q.1), u4 _ _ (by decide)]
    exact h4
  · rw [wr_ne (fun q => absurd q.2 (by decide)), wr_eq, wr_ne (fun q => qy_kn (by decide) q.1), u4 _ _ (by decide), e14, qz_nI1]
  · intro j hj
    have z : ∀ (U : qz_S) (c : Nat) (x : Int32) (c' : Nat), (qz_wr U (6, 0, 0) c x).1 (23, 0, 0) c' = U.1 (23, 0, 0) c' := fun U c x c' => wr_ne (fun y => qy_kn (by decide) y.1)
    simp only [z]
    by_cases q : j = k
    · subst q
      rw [qt_pu1, t4, t2]
      refine ⟨?_, ?_, ?_⟩
      · rw [wr_ne (fun q => by omega), wr_ne (fun q => by omega), wr_eq]
      · rw [wr_ne (fun q => by omega), wr_eq]
      · rw [wr_eq]
    · rw [qt_pu0 (by omega), t4, t2]
      have := h6 j (by omega)
      rw [wr_ne (fun q => by omega), wr_ne (fun q => by omega), wr_ne (fun q => by omega), wr_ne (fun q => by omega), wr_ne (fun q => by omega), wr_ne (fun q => by omega), wr_ne (fun q => by omega), wr_ne (fun q => by omega), wr_ne (fun q => by omega)]
      exact this
end QT1
