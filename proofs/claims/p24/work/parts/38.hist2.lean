/-! history: what is recorded and taken back, on both sides -/
def qy_pm (p : Nat → Nat) : Prop := (∀ j, j < 4 → 1 ≤ p j ∧ p j ≤ 4) ∧ (∀ i j, i < 4 → j < 4 → p i = p j → i = j)
def qy_HC (f : qz_F) (p : Nat → Nat) (m : Nat) (G : Nat → Nat → Int32) : Prop := f (2, 0, 0) 1 = nI m ∧ m ≤ 4 ∧ qy_pm p ∧ ∀ j, j < m → qy_Rel f (p j) (G j)
def qy_m1 (m : Nat) : Nat := if m < 4 then m + 1 else 4
def qy_G1 (m : Nat) (G : Nat → Nat → Int32) (g : Nat → Int32) : Nat → Nat → Int32 := fun j => if m < 4 then (if j = m then g else G j) else (if j = 3 then g else G (j + 1))
/-- what a record of the class leaves -/
def qy_fH (f f' : qz_F) : Prop := ∀ n j, ¬ (1 ≤ n.2.1 ∧ n.2.1 ≤ 4 ∧ n.1 < 13) → ¬ n = (2, 0, 0) → f' n j = f n j
section QYR
variable {F m : Nat} {g : Nat → Int32} {G : Nat → Nat → Int32}
theorem qy_cwK {f f' : qz_F} {w : Nat} (h : ∀ n j, n.1 = 0 ∨ n.1 = 4 ∨ n.1 = 10 ∨ n.1 = 11 ∨ n.1 = 12 → n.2.1 = w → f' n j = f n j) : qy_cw f w f' w :=
  ⟨fun _ _ _ _ => h _ _ (Or.inl rfl) rfl, fun _ _ _ => h _ _ (Or.inr (Or.inl rfl)) rfl, fun _ _ => h _ _ (Or.inr (Or.inr (Or.inl rfl))) rfl, fun _ _ => h _ _ (Or.inr (Or.inr (Or.inr (Or.inl rfl)))) rfl, fun _ _ => h _ _ (Or.inr (Or.inr (Or.inr (Or.inr rfl)))) rfl⟩
theorem qy_nk {n : qz_N} (h : n.1 = 0 ∨ n.1 = 4 ∨ n.1 = 10 ∨ n.1 = 11 ∨ n.1 = 12) {k w i : Nat} (hk : k ≠ 0 ∧ k ≠ 4 ∧ k ≠ 10 ∧ k ≠ 11 ∧ k ≠ 12) : ¬ n = (k, w, i) := by
  intro q
  rw [q] at h
  have h : k = 0 ∨ k = 4 ∨ k = 10 ∨ k = 11 ∨ k = 12 := h
  omega
theorem qy_cwW {S : qz_S} {w k : Nat} {x : Int32} : qy_cw S.1 w (qz_wr S (2, 0, 0) k x).1 w :=
  qy_cwK (fun n j h _ => wr_ne (fun q => qy_nk h (by decide) q.1))
theorem qy_fl {f : qz_F} {w : Nat} (h : qy_Rel f w g) : ∀ i, i < 30 → f (0, w, i) 4 = 0 ∨ f (0, w, i) 4 = 1 := h.2.2.2.2.2.2.2.1
/-- a copy into a place of the history -/
theorem qy_rem1 {S : qz_S} {G' : Nat → Nat → Int32} (hF : 30 < F) (hm : m < 4) (hp : qy_pm S.2) (h0 : S.1 (2, 0, 0) 1 = nI m) (hG : ∀ j, j < m → qy_Rel S.1 (S.2 j) (G' j)) (hR : qy_Rel S.1 0 g) (hm' : G' m = g) :
    ∃ S1 S', gW_copyFrom F S (S.2 m) 0 = some S1 ∧ S' = qz_wr S1 (2, 0, 0) 1 (S1.1 (2, 0, 0) 1 + 1) ∧ qy_fH S.1 S'.1 ∧ qy_HC S'.1 S'.2 (m + 1) G' := by
  have hb := hp.1 m hm
  obtain ⟨S1, a1, a2, a3, a4⟩ := qy_copy (F := F) (S := S) (w := S.2 m) (w2 := 0) hF (by omega) (by omega) (by omega) (qy_fl hR)
  refine ⟨S1, _, a1, rfl, ?_, ?_, by omega, ?_, ?_⟩
  · intro n j h1 h2
    rw [wr_ne (fun q => h2 q.1)]
    refine a4 n j (fun q => h1 ⟨by omega, by omega, ?_⟩)
    rcases q.2 with e | e | e | e | e <;> omega
  · rw [wr_eq, a4 _ _ (fun q => absurd q.1 (show ¬ 0 = S.2 m by omega)), h0, qz_nI1]
  · show qy_pm S1.2
    rw [a2]
    exact hp
  · intro j hj
    show qy_Rel _ (S1.2 j) _
    rw [a2]
    refine qy_RelF qy_cwW ?_
    by_cases e : j = m
    · subst e
      rw [hm']
      exact qy_RelF a3 hR
    · exact qy_RelF (qy_cwfw a4 (fun q => e (hp.2 j m (by omega) hm q))) (hG j (by omega))
theorem qy_drop {S : qz_S} (hF : 30 < F) : ∃ S', gH_dropOldest F S = some S' ∧ S'.1 (2, 0, 0) 1 = nI 3 ∧ (∀ n j, n ≠ (2, 0, 0) → S'.1 n j = S.1 n j) ∧ S'.2 0 = S.2 1 ∧ S'.2 1 = S.2 2 ∧ S'.2 2 = S.2 3 ∧ S'.2 3 = S.2 0 := by
  have st : ∀ (K : Int32 → qz_S → Option qz_S) (n i : Nat) (T : qz_S), 1 ≤ i → i < 4 → gH_dropOldest_L2 F K (n + 1) (nI i) T = gH_dropOldest_L2 F K n (nI (i + 1)) (qz_wp (qz_wp T (i - 1) (T.2 i)) i (T.2 (i - 1))) := by
    intro K n i T h1 h4
    have e1 : ¬ (4 : Int32) ≤ nI i := fun q => by have := (qz_le_nI (a := 4) (b := i) (by decide) (by omega)).mp q; omega
    have e2 : nI i - (1 : Int32) = nI (i - 1) := qy_sub (b := 1) h1
    simp only [gH_dropOldest_L2, e1, if_false, e2, qz_xi_nI (show i - 1 < 4 by omega) (show 4 < 2 ^ 31 by decide), qz_xi_nI h4 (show 4 < 2 ^ 31 by decide), if_true, qz_cl_nI (show i < 2 ^ 31 by omega), qz_cl_nI (show i - 1 < 2 ^ 31 by omega), qz_let, qz_nI1]
  have en : ∀ (K : Int32 → qz_S → Option qz_S) (n : Nat) (T : qz_S), gH_dropOldest_L2 F K (n + 1) (nI 4) T = K (nI 4) T := by
    intro K n T
    have e1 : (4 : Int32) ≤ nI 4 := by decide
    simp only [gH_dropOldest_L2, e1, if_true]
  obtain ⟨n, hn⟩ : ∃ n, F = n + 4 := ⟨F - 4, by omega⟩
  have go : ∀ (K : Int32 → qz_S → Option qz_S), ∃ T, gH_dropOldest_L2 F K F (nI 1) S = K (nI 4) T ∧ T.1 = S.1 ∧ T.2 0 = S.2 1 ∧ T.2 1 = S.2 2 ∧ T.2 2 = S.2 3 ∧ T.2 3 = S.2 0 := fun K => by
    have := ((st K (n + 3) 1 S (by decide) (by decide)).trans (st K (n + 2) 2 _ (by decide) (by decide))).trans ((st K (n + 1) 3 _ (by decide) (by decide)).trans (en K n _))
    rw [show n + 3 + 1 = F by omega] at this
    exact ⟨_, this, rfl, by simp [qz_wp], by simp [qz_wp], by simp [qz_wp], by simp [qz_wp]⟩
  unfold gH_dropOldest
  obtain ⟨T, t0, t1, t2, t3, t4, t5⟩ := go (fun y16 T7 => qz_let (qz_wr T7 ((2, 0, 0) : qz_N) 1 ((4 : Int32) - (1 : Int32))) fun S9 => some S9)
  refine ⟨_, t0, ?_, ?_, t2, t3, t4, t5⟩
  · rw [wr_eq]
    decide
  · intro k j hk
    rw [wr_ne (fun q => hk q.1), t1]
theorem qy_remember {S : qz_S} (hF : 30 < F) (h : qy_HC S.1 S.2 m G) (hR : qy_Rel S.1 0 g) : ∃ S', gH_remember F S = some S' ∧ qy_fH S.1 S'.1 ∧ qy_HC S'.1 S'.2 (qy_m1 m) (qy_G1 m G g) := by
  obtain ⟨h1, h2, hp, h4⟩ := h
  unfold gH_remember
  by_cases hm : m < 4
  · have c1 : nI m < (4 : Int32) := by rw [show (4 : Int32) = nI 4 from rfl, qy_lt (by omega) (by omega)]; exact hm
    have c2 : ¬ (4 : Int32) ≤ nI m := Int32.not_le.mpr c1
    have em : qy_m1 m = m + 1 := if_pos hm
    have eG : ∀ j, qy_G1 m G g j = if j = m then g else G j := fun j => if_pos hm
    rw [h1, if_pos c1, if_neg (qy_nn (by omega)), if_neg c2, if_pos (qz_xi_nI hm (by decide)), qz_cl_nI (by omega)]
    obtain ⟨S1, S', a1, a2, a3, a4⟩ := qy_rem1 (F := F) (G' := qy_G1 m G g) hF hm hp h1 (fun j hj => by rw [eG, if_neg (by omega)]; exact h4 j hj) hR (by rw [eG, if_pos rfl])
    refine ⟨S', ?_, a3, by rw [em]; exact a4⟩
    rw [a1]
    simp only [Option.bind_some, qz_let, a2]
  · have e4 : m = 4 := by omega
    subst e4
    have c1 : ¬ nI 4 < (4 : Int32) := by decide
    obtain ⟨S0, b1, b2, b3, b4, b5, b6, b7⟩ := qy_drop (F := F) (S := S) hF
    rw [h1, if_neg c1, b1]
    simp only [Option.bind_some]
    have c2 : ¬ (4 : Int32) ≤ nI 3 := by decide
    rw [b2, if_neg (qy_nn (by omega)), if_neg c2, if_pos (qz_xi_nI (by decide) (by decide)), qz_cl_nI (by omega)]
    have eG : ∀ j, qy_G1 4 G g j = if j = 3 then g else G (j + 1) := fun j => if_neg (by omega)
    have hp0 : qy_pm S0.2 := by
      constructor
      · intro j hj
        have hc : j = 0 ∨ j = 1 ∨ j = 2 ∨ j = 3 := by omega
        rcases hc with rfl | rfl | rfl | rfl
        · rw [b4]; exact hp.1 1 (by decide)
        · rw [b5]; exact hp.1 2 (by decide)
        · rw [b6]; exact hp.1 3 (by decide)
        · rw [b7]; exact hp.1 0 (by decide)
      · have hq : ∀ j, j < 4 → S0.2 j = S.2 ((j + 1) % 4) := by
          intro j hj
          have hc : j = 0 ∨ j = 1 ∨ j = 2 ∨ j = 3 := by omega
          rcases hc with rfl | rfl | rfl | rfl
          · exact b4
          · exact b5
          · exact b6
          · exact b7
        intro i j hi hj e
        rw [hq i hi, hq j hj] at e
        have := hp.2 _ _ (Nat.mod_lt _ (by decide)) (Nat.mod_lt _ (by decide)) e
        omega
    have hcw : ∀ w, qy_cw S.1 w S0.1 w := fun w => qy_cwK (fun n j hn _ => b3 n j (fun q => qy_nk hn (by decide) q))
    obtain ⟨S1, S', a1, a2, a3, a4⟩ := qy_rem1 (F := F) (m := 3) (G' := qy_G1 4 G g) hF (by decide) hp0 b2 (fun j hj => by
      rw [eG, if_neg (by omega)]
      have hc : j = 0 ∨ j = 1 ∨ j = 2 := by omega
      rcases hc with rfl | rfl | rfl
      · rw [b4]; exact qy_RelF (hcw _) (h4 1 (by decide))
      · rw [b5]; exact qy_RelF (hcw _) (h4 2 (by decide))
      · rw [b6]; exact qy_RelF (hcw _) (h4 3 (by decide))) (qy_RelF (hcw 0) hR) (by rw [eG, if_pos rfl])
    refine ⟨S', ?_, ?_, a4⟩
    · rw [a1]
      simp only [Option.bind_some, qz_let, a2]
    · intro n j k1 k2
      rw [a3 n j k1 k2]
      exact b3 n j k2
end QYR
