/-! texts: both read -/
section QT2
variable {F len : Nat} {C0 S0 : qz_S} {K : Int32 → Int32 → Int32 → Int32 → qz_S → Option (Int32 × qz_S)}
theorem qt_dig {c : Int32} {a b : Nat} (h : nI a ≤ c ∧ c ≤ nI b) (ha : 48 ≤ a) (ha2 : a < 100) (hb : b < 100) : ∃ d, a ≤ d ∧ d ≤ b ∧ c = nI d ∧ c - 48 = nI (d - 48) := by
  obtain ⟨d, d1, d2, rfl⟩ := qt_rng (by omega) h (by omega)
  exact ⟨d, d1, d2, rfl, qy_sub (a := d) (b := 48) (by omega)⟩
/-- the stops of a booking -/
theorem qt_stops (hC : C0.1 (1, 0, 0) 1 = nI len) (hM : S0.1 (6, 0, 0) 7 = nI len) (h60 : len ≤ 60) (htx : ∀ i, i < len → C0.1 (14, 0, 0) i = S0.1 (20, 0, 0) i) {e l : Nat} (he : e ≤ 9) (hl2 : l < 2)
    (lp : Nat → qz_S → Option qz_S) (a0 a1 : Int32) (ha0 : a0 = nI e) (ha1 : a1 = nI l) (hl : ∀ n T, lp (n + 1) T = if T.1 (6, 0, 0) 12 = 0 then some T else Option.bind (gM_sign F T.1) fun x => if gM_in T.1 x 49 57 = 0 then some T else Option.bind (gM_readsStop F T a0 a1) fun R => lp n R) :
    ∀ (d a m n : Nat) (due : Int32) (T1 T2 : qz_S) (W : Nat → Nat × Nat × Nat) (k : Nat), d = len - a → a ≤ len → k ≤ a → d < m → d < n → qt_RD S0 T2 a 1 W k → qt_CD C0 T1 W k → qt_ok W k → (due = 3 ∨ (due = 2 ∧ a < len ∧ (49 : Int32) ≤ qt_ch S0 len a ∧ qt_ch S0 len a ≤ 57)) →
      ∃ a' T1' T2' W' k', a ≤ a' ∧ a' ≤ len ∧ k' ≤ a' ∧ lp m T2 = some T2' ∧ qt_RD S0 T2' a' 1 W' k' ∧ gT_read_L14 F K n due (nI e) (nI l) (nI a) T1 = gT_read_L14 F K (n - (a' - a)) 3 (nI e) (nI l) (nI a') T1' ∧ qt_CD C0 T1' W' k' ∧ qt_ok W' k' ∧ (a' < len → ¬ ((49 : Int32) ≤ qt_ch S0 len a' ∧ qt_ch S0 len a' ≤ 57)) := by
  intro d
  induction d with
  | zero =>
    intro a m n due T1 T2 W k hd ha hk hm hn hR hD hok hdue
    obtain ⟨m, rfl⟩ : ∃ m', m = m' + 1 := ⟨m - 1, by omega⟩
    have hd3 : due = 3 := by
      rcases hdue with h | ⟨_, h, _⟩
      · exact h
      · omega
    subst hd3
    refine ⟨a, T1, T2, W, k, Nat.le_refl _, ha, hk, ?_, hR, by rw [Nat.sub_self, Nat.sub_zero], hD, hok, fun q => by omega⟩
    rw [hl, hR.2.2.2.1, if_neg (by decide), qt_sign hR hM h60 (by omega)]
    simp only [Option.bind_some]
    rw [if_pos]
    rw [qm_in]
    unfold qt_ch
    rw [if_neg (by omega)]
    decide
  | succ d ih =>
    intro a m n due T1 T2 W k hd ha hk hm hn hR hD hok hdue
    obtain ⟨m, rfl⟩ : ∃ m', m = m' + 1 := ⟨m - 1, by omega⟩
    obtain ⟨n, rfl⟩ : ∃ n', n = n' + 1 := ⟨n - 1, by omega⟩
    by_cases hdig : (49 : Int32) ≤ qt_ch S0 len a ∧ qt_ch S0 len a ≤ 57
    · obtain ⟨c, c1, c2, c3, c4⟩ := qt_dig (a := 49) (b := 57) hdig (by decide) (by decide) (by decide)
      obtain ⟨T2', r1, r2⟩ := qt_rStop (F := F) (e := e) (l := l) hR hM h60 (by omega) hk c4
      have hch : C0.1 (14, 0, 0) a = qt_ch S0 len a := by
        unfold qt_ch
        rw [if_pos (by omega)]
        exact htx a (by omega)
      obtain ⟨T1', w1, w2⟩ := qt_wish (F := F) (e := e) (l := l) (s := c - 48) hD (show k < 60 by omega)
      obtain ⟨a', U1, U2, W', k', z1, z2, z3, z4, z5, z6, z7, z8, z9⟩ := ih (a + 1) m n 3 T1' T2' _ (k + 1) (by omega) (by omega) (by omega) (by omega) (by omega) r2 w2 (qt_okP hok he hl2 (by omega) (by omega)) (Or.inl rfl)
      refine ⟨a', U1, U2, W', k', by omega, z2, z3, ?_, z5, ?_, z7, z8, z9⟩
      · rw [hl, hR.2.2.2.1, if_neg (by decide), qt_sign hR hM h60 (by omega)]
        simp only [Option.bind_some]
        have nin : ¬ gM_in T2.1 (qt_ch S0 len a) 49 57 = 0 := by rw [qm_in]; exact fun q => q hdig
        rw [if_neg nin, ha0, ha1, r1]
        exact z4
      · rw [qt_step hD hC h60 (by omega), hch]
        have n44 : ¬ qt_ch S0 len a = 44 := fun q => by rw [q] at hdig; exact absurd hdig.1 (by decide)
        have hallow : ¬ gT_isAllowed T1.1 (qt_ch S0 len a) due = 0 := by
          rcases hdue with h | ⟨h, _⟩
          · rw [h, qt_a3]; exact fun q => q (Or.inl hdig)
          · rw [h, qt_a2]; exact fun q => q hdig
        have nd0 : ¬ due = 0 := by
          rcases hdue with h | ⟨h, _⟩ <;> rw [h] <;> decide
        have nd1 : ¬ due = 1 := by
          rcases hdue with h | ⟨h, _⟩ <;> rw [h] <;> decide
        rw [if_neg hallow, if_neg nd0, if_neg nd1, if_neg n44, c4, w1]
        simp only [Option.bind_some]
        rw [z6]
        congr 1
        omega
    · have hd3 : due = 3 := by
        rcases hdue with h | ⟨_, _, h⟩
        · exact h
        · exact absurd h hdig
      subst hd3
      refine ⟨a, T1, T2, W, k, Nat.le_refl _, ha, hk, ?_, hR, by rw [Nat.sub_self, Nat.sub_zero], hD, hok, fun _ => hdig⟩
      rw [hl, hR.2.2.2.1, if_neg (by decide), qt_sign hR hM h60 (by omega)]
      simp only [Option.bind_some]
      have nin : gM_in T2.1 (qt_ch S0 len a) 49 57 = 0 := by rw [qm_in]; exact hdig
      rw [if_pos nin]
theorem qt_letE {α β : Type} (x : α) (k : α → β) : qz_let x k = k x := rfl
theorem qt_bool {f : qz_F} {x a b : Int32} : gM_in f x a b = 0 ∨ gM_in f x a b = 1 := qm_in1 x a b
/-- a booking, by the reference: a bad one -/
theorem qt_bk0 (hM : S0.1 (6, 0, 0) 7 = nI len) (h60 : len ≤ 60) (hF : 0 < F) {T2 : qz_S} {a : Nat} {w : Int32} {W : Nat → Nat × Nat × Nat} {k : Nat} (ha : a ≤ len) (hR : qt_RD S0 T2 a w W k) (hb : ¬ ((48 : Int32) ≤ qt_ch S0 len a ∧ qt_ch S0 len a ≤ 57)) : ∃ T2', gM_readsBooking F T2 = some T2' ∧ qt_RD S0 T2' a 0 W k := by
  obtain ⟨n, rfl⟩ : ∃ n, F = n + 1 := ⟨F - 1, by omega⟩
  have z0 : ∀ {U : qz_S} {b : Nat} {v : Int32}, qt_RD S0 U b v W k → qt_RD S0 (qz_wr U (6, 0, 0) 11 (U.1 (6, 0, 0) 11 + 0)) b v W k := fun h => qt_w11 (b := 0) h
  unfold gM_readsBooking
  rw [qt_sign hR hM h60 (by omega)]
  simp only [Option.bind_some]
  have i0 : gM_in T2.1 (qt_ch S0 len a) 48 57 = 0 := by rw [qm_in]; exact hb
  rw [if_pos (Or.inl i0), i0, qt_letE]
  have h3 := qt_w12 (v := 0) hR
  generalize qz_wr T2 (6, 0, 0) 12 0 = S3 at h3 ⊢
  rw [qt_sign h3 hM h60 (by omega)]
  simp only [Option.bind_some]
  rw [if_pos h3.2.2.2.1, qt_letE]
  have h8 := z0 h3
  generalize qz_wr S3 (6, 0, 0) 11 (S3.1 (6, 0, 0) 11 + 0) = S8 at h8 ⊢
  rw [qt_sign h8 hM h60 (by omega)]
  simp only [Option.bind_some]
  rw [if_pos h8.2.2.2.1, qt_letE]
  have h12 := qt_w12 (v := 0) h8
  generalize qz_wr S8 (6, 0, 0) 12 0 = S12 at h12 ⊢
  rw [if_pos h12.2.2.2.1, qt_letE]
  have h14 := z0 h12
  generalize qz_wr S12 (6, 0, 0) 11 (S12.1 (6, 0, 0) 11 + 0) = S14 at h14 ⊢
  rw [if_pos h14.2.2.2.1, qt_letE]
  have h16 := qt_w12 (v := 0) h14
  generalize qz_wr S14 (6, 0, 0) 12 0 = S16 at h16 ⊢
  rw [gM_readsBooking_L128, if_pos h16.2.2.2.1]
  exact ⟨S16, rfl, h16⟩
/-- a booking, by the reference: a good digit, a bad letter -/
theorem qt_bk1 (hM : S0.1 (6, 0, 0) 7 = nI len) (h60 : len ≤ 60) (hF : 0 < F) {T2 : qz_S} {a : Nat} {w : Int32} {W : Nat → Nat × Nat × Nat} {k : Nat} (ha : a < len) (hR : qt_RD S0 T2 a w W k) (hg : (48 : Int32) ≤ qt_ch S0 len a ∧ qt_ch S0 len a ≤ 57) (hb : ¬ (qt_ch S0 len (a + 1) = 97 ∨ qt_ch S0 len (a + 1) = 98)) : ∃ T2', gM_readsBooking F T2 = some T2' ∧ qt_RD S0 T2' (a + 1) 0 W k := by
  obtain ⟨n, rfl⟩ : ∃ n, F = n + 1 := ⟨F - 1, by omega⟩
  have z0 : ∀ {U : qz_S} {b : Nat} {v : Int32}, qt_RD S0 U b v W k → qt_RD S0 (qz_wr U (6, 0, 0) 11 (U.1 (6, 0, 0) 11 + 0)) b v W k := fun h => qt_w11 (b := 0) h
  have z1 : ∀ {U : qz_S} {b : Nat} {v : Int32}, qt_RD S0 U b v W k → qt_RD S0 (qz_wr U (6, 0, 0) 11 (U.1 (6, 0, 0) 11 + 1)) (b + 1) v W k := fun h => qt_w11 (b := 1) h
  unfold gM_readsBooking
  rw [qt_sign hR hM h60 (by omega)]
  simp only [Option.bind_some]
  have i1 : gM_in T2.1 (qt_ch S0 len a) 48 57 = 1 := by
    rcases qt_bool (f := T2.1) (x := qt_ch S0 len a) (a := 48) (b := 57) with q | q
    · rw [qm_in] at q; exact absurd hg q
    · exact q
  rw [if_pos (Or.inr i1), i1, qt_letE]
  have h3 := qt_w12 (v := 1) hR
  generalize qz_wr T2 (6, 0, 0) 12 1 = S3 at h3 ⊢
  rw [qt_sign h3 hM h60 (by omega)]
  simp only [Option.bind_some]
  rw [if_neg (by rw [h3.2.2.2.1]; decide), qt_letE]
  have h254 := z1 h3
  generalize qz_wr S3 (6, 0, 0) 11 (S3.1 (6, 0, 0) 11 + 1) = S254 at h254 ⊢
  rw [qt_sign h254 hM h60 (by omega)]
  simp only [Option.bind_some]
  rw [if_neg (by rw [h254.2.2.2.1]; decide), if_neg (fun q => hb (Or.inl q)), if_neg (fun q => hb (Or.inr q)), qt_letE]
  have h440 := qt_w12 (v := 0) h254
  generalize qz_wr S254 (6, 0, 0) 12 0 = S440 at h440 ⊢
  rw [if_pos h440.2.2.2.1, qt_letE]
  have h442 := z0 h440
  generalize qz_wr S440 (6, 0, 0) 11 (S440.1 (6, 0, 0) 11 + 0) = S442 at h442 ⊢
  rw [if_pos h442.2.2.2.1, qt_letE]
  have h444 := qt_w12 (v := 0) h442
  generalize qz_wr S442 (6, 0, 0) 12 0 = S444 at h444 ⊢
  rw [gM_readsBooking_L128bbbbbbbbbbbbbbbbbbbbbbbbbbbbbbbbbbbbbbbbbb, if_pos h444.2.2.2.1]
  exact ⟨S444, rfl, h444⟩
/-- a booking, by the reference: a good digit and letter -/
theorem qt_bk2 (hM : S0.1 (6, 0, 0) 7 = nI len) (h60 : len ≤ 60) (hF : 0 < F) {T2 : qz_S} {a : Nat} {w : Int32} {W : Nat → Nat × Nat × Nat} {k : Nat} (ha : a + 1 < len) (hR : qt_RD S0 T2 a w W k) (hg : (48 : Int32) ≤ qt_ch S0 len a ∧ qt_ch S0 len a ≤ 57) (hb : qt_ch S0 len (a + 1) = 97 ∨ qt_ch S0 len (a + 1) = 98) :
    (¬ ((49 : Int32) ≤ qt_ch S0 len (a + 2) ∧ qt_ch S0 len (a + 2) ≤ 57) → ∃ T2', gM_readsBooking F T2 = some T2' ∧ qt_RD S0 T2' (a + 2) 0 W k) ∧
    ((49 : Int32) ≤ qt_ch S0 len (a + 2) ∧ qt_ch S0 len (a + 2) ≤ 57 → ∃ (lp : Nat → qz_S → Option qz_S) (T2' : qz_S), gM_readsBooking F T2 = lp F T2' ∧ qt_RD S0 T2' (a + 2) 1 W k ∧ ∀ n T, lp (n + 1) T = if T.1 (6, 0, 0) 12 = 0 then some T else Option.bind (gM_sign F T.1) fun x => if gM_in T.1 x 49 57 = 0 then some T else Option.bind (gM_readsStop F T (qt_ch S0 len a - 48) (qt_ch S0 len (a + 1) - 97)) fun R => lp n R) := by
  obtain ⟨n, rfl⟩ : ∃ n, F = n + 1 := ⟨F - 1, by omega⟩
  have z1 : ∀ {U : qz_S} {b : Nat} {v : Int32}, qt_RD S0 U b v W k → qt_RD S0 (qz_wr U (6, 0, 0) 11 (U.1 (6, 0, 0) 11 + 1)) (b + 1) v W k := fun h => qt_w11 (b := 1) h
  unfold gM_readsBooking
  rw [qt_sign hR hM h60 (by omega)]
  simp only [Option.bind_some]
  have i1 : gM_in T2.1 (qt_ch S0 len a) 48 57 = 1 := by
    rcases qt_bool (f := T2.1) (x := qt_ch S0 len a) (a := 48) (b := 57) with q | q
    · rw [qm_in] at q; exact absurd hg q
    · exact q
  rw [if_pos (Or.inr i1), i1, qt_letE]
  have h3 := qt_w12 (v := 1) hR
  generalize qz_wr T2 (6, 0, 0) 12 1 = S3 at h3 ⊢
  rw [qt_sign h3 hM h60 (by omega)]
  simp only [Option.bind_some]
  rw [if_neg (by rw [h3.2.2.2.1]; decide), qt_letE]
  have h254 := z1 h3
  generalize qz_wr S3 (6, 0, 0) 11 (S3.1 (6, 0, 0) 11 + 1) = S254 at h254 ⊢
  rw [qt_sign h254 hM h60 (by omega)]
  simp only [Option.bind_some]
  rw [if_neg (by rw [h254.2.2.2.1]; decide)]
  by_cases h97 : qt_ch S0 len (a + 1) = 97
  · rw [if_pos h97, qt_letE]
    have h319 := qt_w12 (v := 1) h254
    generalize qz_wr S254 (6, 0, 0) 12 1 = S319 at h319 ⊢
    rw [if_neg (by rw [h319.2.2.2.1]; decide), qt_letE]
    have h350 := z1 h319
    generalize qz_wr S319 (6, 0, 0) 11 (S319.1 (6, 0, 0) 11 + 1) = S350 at h350 ⊢
    rw [if_neg (by rw [h350.2.2.2.1]; decide), qt_sign h350 hM h60 (by omega)]
    simp only [Option.bind_some]
    constructor
    · intro hs
      have i0 : gM_in S350.1 (qt_ch S0 len (a + 1 + 1)) 49 57 = 0 := by rw [qm_in]; exact hs
      rw [if_pos i0, qt_letE]
      have h363 := qt_w12 (v := 0) h350
      generalize qz_wr S350 (6, 0, 0) 12 0 = S363 at h363 ⊢
      rw [gM_readsBooking_L128bbbbbbbbbbbbbbbbbbbbbbbbbbbbbbbbbb, if_pos h363.2.2.2.1]
      exact ⟨S363, rfl, h363⟩
    · intro hs
      have i0 : ¬ gM_in S350.1 (qt_ch S0 len (a + 1 + 1)) 49 57 = 0 := by rw [qm_in]; exact fun q => q hs
      rw [if_neg i0, qt_letE]
      have h371 := qt_w12 (v := 1) h350
      exact ⟨gM_readsBooking_L128bbbbbbbbbbbbbbbbbbbbbbbbbbbbbbbbbbb (n + 1) (qt_ch S0 len a) (qt_ch S0 len (a + 1)) (fun T378 => some T378), _, rfl, h371, fun n' T => by rw [gM_readsBooking_L128bbbbbbbbbbbbbbbbbbbbbbbbbbbbbbbbbbb]⟩
  · have h98 := hb.resolve_left h97
    rw [if_neg h97, if_pos h98, qt_letE]
    have h380 := qt_w12 (v := 1) h254
    generalize qz_wr S254 (6, 0, 0) 12 1 = S380 at h380 ⊢
    rw [if_neg (by rw [h380.2.2.2.1]; decide), qt_letE]
    have h411 := z1 h380
    generalize qz_wr S380 (6, 0, 0) 11 (S380.1 (6, 0, 0) 11 + 1) = S411 at h411 ⊢
    rw [if_neg (by rw [h411.2.2.2.1]; decide), qt_sign h411 hM h60 (by omega)]
    simp only [Option.bind_some]
    constructor
    · intro hs
      have i0 : gM_in S411.1 (qt_ch S0 len (a + 1 + 1)) 49 57 = 0 := by rw [qm_in]; exact hs
      rw [if_pos i0, qt_letE]
      have h424 := qt_w12 (v := 0) h411
      generalize qz_wr S411 (6, 0, 0) 12 0 = S424 at h424 ⊢
      rw [gM_readsBooking_L128bbbbbbbbbbbbbbbbbbbbbbbbbbbbbbbbbbbbbbbb, if_pos h424.2.2.2.1]
      exact ⟨S424, rfl, h424⟩
    · intro hs
      have i0 : ¬ gM_in S411.1 (qt_ch S0 len (a + 1 + 1)) 49 57 = 0 := by rw [qm_in]; exact fun q => q hs
      rw [if_neg i0, qt_letE]
      have h432 := qt_w12 (v := 1) h411
      exact ⟨gM_readsBooking_L128bbbbbbbbbbbbbbbbbbbbbbbbbbbbbbbbbbbbbbbbb (n + 1) (qt_ch S0 len a) (qt_ch S0 len (a + 1)) (fun T439 => some T439), _, rfl, h432, fun n' T => by rw [gM_readsBooking_L128bbbbbbbbbbbbbbbbbbbbbbbbbbbbbbbbbbbbbbbbb]⟩
end QT2
