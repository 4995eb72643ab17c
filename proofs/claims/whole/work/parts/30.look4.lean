/-! who waits is looked at, by the reference -/
def qm_pf (Q : Int32 → Bool) (f : qz_F) : qz_F := fun n j => if n = (17, 0, 0) then qy_pg Q (f (17, 0, 0)) j else f n j
section QYJ
theorem qy_ar1 {c N K : Nat} (h : (c + 1) * 65536 ≤ K) (hN : N < 60000) : c * 65536 + N ≤ K := by omega
theorem qy_ar2 {X l s N : Nat} (hl : l < 2) (hs : s ≤ 9) (hN : N < 60000) : ¬ (X * 32 + 32) * 65536 ≤ ((X * 2 + l) * 16 + s) * 65536 + N := by omega
theorem qy_ar3 {X X' k l s N : Nat} (hl : l < 2) (hs1 : 1 ≤ s) (hs : s ≤ 9) (hN : N < 60000) (h : ((X * 2 + k / 9) * 16 + (1 + (k - k / 9 * 9)) + 1) * 65536 ≤ ((X' * 2 + l) * 16 + s) * 65536 + N) : ((X * 2 + (k + 1) / 9) * 16 + (1 + (k + 1 - (k + 1) / 9 * 9))) * 65536 ≤ ((X' * 2 + l) * 16 + s) * 65536 + N := by
  have h1 : (X * 2 + k / 9) * 16 + (1 + (k - k / 9 * 9)) + 1 ≤ (X' * 2 + l) * 16 + s := by
    generalize (X * 2 + k / 9) * 16 + (1 + (k - k / 9 * 9)) + 1 = P at h
    generalize (X' * 2 + l) * 16 + s = P' at h
    omega
  refine Nat.le_trans (Nat.mul_le_mul_right 65536 ?_) (Nat.le_add_right _ _)
  generalize hc : k - k / 9 * 9 = c at *
  generalize hc' : k + 1 - (k + 1) / 9 * 9 = c' at *
  have hk : k = k / 9 * 9 + c := by omega
  have hk' : k + 1 = (k + 1) / 9 * 9 + c' := by omega
  have hc9 : c < 9 := by omega
  have hc9' : c' < 9 := by omega
  generalize k / 9 = a at *
  generalize (k + 1) / 9 = a' at *
  by_cases hcc : c < 8
  · have : a' = a ∧ c' = c + 1 := by omega
    rw [this.1, this.2]
    omega
  · have h3 : a' = a + 1 := by omega
    have h4 : c' = 0 := by omega
    have h5 : c = 8 := by omega
    have h7 : X * 2 + (a + 1) = X * 2 + a + 1 := rfl
    rw [h3, h4, h7]
    rw [h5] at h1
    clear hk hk' hc hc' h h7 h3 h4 h5 hcc hc9 hc9'
    generalize X * 2 + a = Y at h1 ⊢
    generalize X' * 2 + l = Y' at h1 ⊢
    have h6 : Y + 1 ≤ Y' := by omega
    omega
variable {F B : Nat} {f : qz_F}
theorem qm_pfg {Q : Int32 → Bool} : qm_pf Q f (17, 0, 0) = qy_pg Q (f (17, 0, 0)) := by
  funext j
  unfold qm_pf
  rw [if_pos rfl]
theorem qm_pfn {Q : Int32 → Bool} {n : qz_N} {j : Nat} (h : ¬ n = (17, 0, 0)) : qm_pf Q f n j = f n j := by
  unfold qm_pf
  rw [if_neg h]
theorem qm_pf0 : qm_pf (fun _ => false) f = f := by
  funext n j
  unfold qm_pf
  by_cases h : n = (17, 0, 0)
  · subst h
    rw [if_pos rfl]
    unfold qy_pg
    rw [if_neg (fun q => Bool.false_ne_true q.2)]
  · rw [if_neg h]
theorem qm_lay {T : qz_S} {k c : Nat} (hk : k < 30) (hc : c < 8) (v : Int32) : gM_lay F T (nI k) (nI c) v = some (qz_wr T (17, 0, 0) (43 + 8 * k + c) v) := by
  unfold gM_lay qz_let
  rw [show (8 : Int32) = nI 8 from rfl, show (43 : Int32) = nI 43 from rfl, qy_mul, qy_add, qy_add, if_pos (qz_xi_nI (by omega) (by decide)), qz_cl_nI (by omega)]
theorem qm_pfw (hW : qy_Wf (f (17, 0, 0)) B) {Q : Int32 → Bool} {k : Nat} (hk : k < qy_n (f (17, 0, 0))) (p : Nat → Nat) : qz_wr (qm_pf Q f, p) (17, 0, 0) (43 + 8 * k + 4) 1 = (qm_pf (fun N => Q N || decide (N = (qy_rm (f (17, 0, 0)) k) 0)) f, p) := by
  unfold qz_wr
  refine Prod.ext ?_ rfl
  funext n j
  simp only
  unfold qm_pf
  by_cases hn : n = (17, 0, 0)
  · subst hn
    simp only [if_true, true_and]
    unfold qy_pg
    have e0 : ∀ i, (qy_rm (f (17, 0, 0)) i) 0 = f (17, 0, 0) (43 + 8 * i) := fun i => rfl
    by_cases hj : j = 43 + 8 * k + 4
    · subst hj
      rw [if_pos rfl, if_pos]
      refine ⟨by omega, ?_⟩
      have : 43 + 8 * k + 4 - 4 = 43 + 8 * k := by omega
      rw [this, e0]
      simp
    · rw [if_neg hj]
      by_cases hc : (43 ≤ j ∧ j < 43 + 8 * qy_n (f (17, 0, 0)) ∧ (j - 43) % 8 = 4)
      · have hi : (j - 43) / 8 < qy_n (f (17, 0, 0)) := by omega
        have hne : ¬ f (17, 0, 0) (j - 4) = (qy_rm (f (17, 0, 0)) k) 0 := by
          have e1 : j - 4 = 43 + 8 * ((j - 43) / 8) := by omega
          rw [e1, ← e0]
          intro q
          have := qy_U hW _ _ (qy_mLm.mpr ⟨_, hi, rfl⟩) (qy_mLm.mpr ⟨k, hk, rfl⟩) q
          rcases Nat.lt_trichotomy ((j - 43) / 8) k with h | h | h
          · have h2 := hW.2.2.2.2.2.2.2.2.2.1 _ _ h hk
            rw [q] at h2
            exact absurd h2 Int32.lt_irrefl
          · omega
          · have h2 := hW.2.2.2.2.2.2.2.2.2.1 _ _ h hi
            rw [q] at h2
            exact absurd h2 Int32.lt_irrefl
        simp [hne]
      · rw [if_neg (fun q => hc q.1), if_neg (fun q => hc q.1)]
  · rw [if_neg (fun q => hn q.1), if_neg hn, if_neg hn]
def qy_cb (g : Nat → Int32) (e l s : Nat) : Nat := ((qy_mm g e * 16 + e) * 2 + l) * 16 + s
theorem qy_kyE {g r : Nat → Int32} {N e l s : Nat} (hN : N < 60000) (he : e < 10) (hl : l < 2) (hs : s ≤ 9) (e0 : r 0 = nI N) (e1 : r 1 = nI e) (e2 : r 2 = nI l) (e3 : r 3 = nI s) : qy_ky g r = qy_cb g e l s * 65536 + N := by
  unfold qy_ky qy_cb
  rw [e0, e1, e2, e3, qz_cl_nI (by omega), qz_cl_nI (by omega), qz_cl_nI (by omega), qz_cl_nI (by omega)]
theorem qm_waitsAt {k : Nat} (hk : k < 30) (l e s : Int32) : gM_waitsAt F f (nI k) l e s = some (if (qy_rm (f (17, 0, 0)) k) 4 = 0 ∧ (qy_rm (f (17, 0, 0)) k) 2 = l ∧ (qy_rm (f (17, 0, 0)) k) 1 = e ∧ (qy_rm (f (17, 0, 0)) k) 3 = s then 1 else 0) := by
  unfold gM_waitsAt
  refine qy_bs (qm_o4 hk) ?_
  by_cases h1 : (qy_rm (f (17, 0, 0)) k) 4 = 0
  · rw [if_pos h1]
    refine qy_bs (qm_o2 hk) ?_
    by_cases h2 : (qy_rm (f (17, 0, 0)) k) 2 = l
    · rw [if_pos h2]
      refine qy_bs (qm_o1 hk) ?_
      by_cases h3 : (qy_rm (f (17, 0, 0)) k) 1 = e
      · rw [if_pos h3]
        refine qy_bs (qm_o3 hk) ?_
        by_cases h4 : (qy_rm (f (17, 0, 0)) k) 3 = s
        · rw [if_pos h4, if_pos ⟨h1, h2, h3, h4⟩]
        · rw [if_neg h4, if_neg (fun q => h4 q.2.2.2)]
      · rw [if_neg h3, if_neg (fun q => h3 q.2.2.1)]
    · rw [if_neg h2, if_neg (fun q => h2 q.2.1)]
  · rw [if_neg h1, if_neg (fun q => h1 q.1)]
set_option maxRecDepth 20000 in
theorem qm_looksAt (hW : qy_Wf (f (17, 0, 0)) B) (hF : 30 < F) (p : Nat → Nat) {e l s : Nat} (he : e < qy_ec (f (17, 0, 0))) (hl : l < 2) (hs1 : 1 ≤ s) (hs9 : s ≤ 9) {Q : Int32 → Bool} (hQ : qy_Fx (f (17, 0, 0)) (qy_Lm (f (17, 0, 0))) Q (qy_cb (f (17, 0, 0)) e l s * 65536)) :
    ∃ Q', gM_looksAt F (qm_pf Q f, p) (nI l) (nI e) (nI s) = some (qm_pf Q' f, p) ∧ qy_Fx (f (17, 0, 0)) (qy_Lm (f (17, 0, 0))) Q' ((qy_cb (f (17, 0, 0)) e l s + 1) * 65536) := by
  have h10 := hW.2.1
  have h30 := hW.2.2.2.1
  have hB := hW.2.2.2.2.2.2.2.2.2.2
  have hL : ∀ r, r ∈ qy_Lm (f (17, 0, 0)) → qy_Wr (f (17, 0, 0)) B r := by
    intro r hr
    obtain ⟨k, hk, rfl⟩ := qy_mLm.mp hr
    exact qm_Wr hW hk
  have hD : ∀ k, k < qy_n (f (17, 0, 0)) → ∃ N e' l' s', N < 60000 ∧ e' < 10 ∧ l' < 2 ∧ 1 ≤ s' ∧ s' ≤ 9 ∧ (qy_rm (f (17, 0, 0)) k) 0 = nI N ∧ (qy_rm (f (17, 0, 0)) k) 1 = nI e' ∧ (qy_rm (f (17, 0, 0)) k) 2 = nI l' ∧ (qy_rm (f (17, 0, 0)) k) 3 = nI s' ∧ qy_ky (f (17, 0, 0)) (qy_rm (f (17, 0, 0)) k) = qy_cb (f (17, 0, 0)) e' l' s' * 65536 + N := by
    intro k hk
    obtain ⟨⟨N, hN, e0, _⟩, ⟨e', he', e1⟩, ⟨l', hl', e2⟩, ⟨s', hs', hs'', e3⟩, _⟩ := qm_Wr hW hk
    exact ⟨N, e', l', s', by omega, by omega, hl', hs', hs'', e0, e1, e2, e3, qy_kyE (by omega) (by omega) hl' hs'' e0 e1 e2 e3⟩
  have hord : ∀ i k, i < k → k < qy_n (f (17, 0, 0)) → qy_cb (f (17, 0, 0)) e l s * 65536 ≤ qy_ky (f (17, 0, 0)) (qy_rm (f (17, 0, 0)) i) → qy_ky (f (17, 0, 0)) (qy_rm (f (17, 0, 0)) i) < (qy_cb (f (17, 0, 0)) e l s + 1) * 65536 → qy_cb (f (17, 0, 0)) e l s * 65536 ≤ qy_ky (f (17, 0, 0)) (qy_rm (f (17, 0, 0)) k) → qy_ky (f (17, 0, 0)) (qy_rm (f (17, 0, 0)) i) < qy_ky (f (17, 0, 0)) (qy_rm (f (17, 0, 0)) k) := by
    intro i k hik hk a1 a2 a3
    obtain ⟨N, e1', l1, s1, b1, b2, b3, b4, b5, c0, c1, c2, c3, c4⟩ := hD i (by omega)
    obtain ⟨N', e2', l2, s2, d1, d2, d3, d4, d5, g0, g1, g2, g3, g4⟩ := hD k hk
    have hlt := hW.2.2.2.2.2.2.2.2.2.1 i k hik hk
    rw [c0, g0, qy_lt (by omega) (by omega)] at hlt
    rw [c4] at a1 a2 ⊢
    rw [g4] at a3 ⊢
    omega
  unfold gM_looksAt
  refine qy_lpE (fun n (T : qz_S) y => gM_looksAt_L3 F (nI l) (nI e) (nI s) (fun y410 T11 => some T11) n y T) (qy_n (f (17, 0, 0)))
    (fun i T => ∃ Q b, T = (qm_pf Q f, p) ∧ qy_Fx (f (17, 0, 0)) (qy_Lm (f (17, 0, 0))) Q b ∧ b ≤ (qy_cb (f (17, 0, 0)) e l s + 1) * 65536 ∧
      (∀ k, k < qy_n (f (17, 0, 0)) → (qy_rm (f (17, 0, 0)) k) 4 = 0 → b ≤ qy_ky (f (17, 0, 0)) (qy_rm (f (17, 0, 0)) k) → qy_cb (f (17, 0, 0)) e l s * 65536 ≤ qy_ky (f (17, 0, 0)) (qy_rm (f (17, 0, 0)) k) ∧ (k < i → (qy_cb (f (17, 0, 0)) e l s + 1) * 65536 ≤ qy_ky (f (17, 0, 0)) (qy_rm (f (17, 0, 0)) k))) ∧
      (∀ k, i ≤ k → k < qy_n (f (17, 0, 0)) → qy_cb (f (17, 0, 0)) e l s * 65536 ≤ qy_ky (f (17, 0, 0)) (qy_rm (f (17, 0, 0)) k) → b ≤ qy_ky (f (17, 0, 0)) (qy_rm (f (17, 0, 0)) k)))
    (fun r => ∃ Q', r = some (qm_pf Q' f, p) ∧ qy_Fx (f (17, 0, 0)) (qy_Lm (f (17, 0, 0))) Q' ((qy_cb (f (17, 0, 0)) e l s + 1) * 65536)) ?_ ?_ F 0 _ (by omega) (by omega) ?_
  · rintro n i T hi ⟨Q, b, rfl, hFx, hb, hA, hBB⟩
    left
    have hW' : qy_Wf ((qm_pf Q f) (17, 0, 0)) B := by rw [qm_pfg]; exact qy_pgW hW
    have hi' : i < qy_n ((qm_pf Q f) (17, 0, 0)) := by rw [qm_pfg, qy_pgn]; exact hi
    obtain ⟨c1, c2, c3⟩ := qm_c hW' hi'
    obtain ⟨N, e', l', s', hN, he', hl', hs1', hs9', a0, a1, a2, a3, aK⟩ := hD i hi
    have hm : qy_rm (f (17, 0, 0)) i ∈ qy_Lm (f (17, 0, 0)) := qy_mLm.mpr ⟨i, hi, rfl⟩
    simp only [gM_looksAt_L3, c1, c2, if_false, qm_waitsAt c3, Option.bind_some]
    rw [qm_pfg, qy_pgr hi, qy_prc (show (2 : Nat) ≠ 4 by decide), qy_prc (show (1 : Nat) ≠ 4 by decide), qy_prc (show (3 : Nat) ≠ 4 by decide), a1, a2, a3]
    simp only [qy_eq (show l' < 2147483648 by omega) (show l < 2147483648 by omega), qy_eq (show e' < 2147483648 by omega) (show e < 2147483648 by omega), qy_eq (show s' < 2147483648 by omega) (show s < 2147483648 by omega)]
    have hincell : (qy_cb (f (17, 0, 0)) e l s * 65536 ≤ qy_ky (f (17, 0, 0)) (qy_rm (f (17, 0, 0)) i) ∧ qy_ky (f (17, 0, 0)) (qy_rm (f (17, 0, 0)) i) < (qy_cb (f (17, 0, 0)) e l s + 1) * 65536) → (l' = l ∧ e' = e ∧ s' = s) := by
      rintro ⟨x1, x2⟩
      rw [aK] at x1 x2
      have : qy_cb (f (17, 0, 0)) e' l' s' = qy_cb (f (17, 0, 0)) e l s := by omega
      unfold qy_cb at this
      have he10 : e < 10 := by omega
      generalize qy_mm (f (17, 0, 0)) e' = m1 at this
      generalize qy_mm (f (17, 0, 0)) e = m2 at this
      have q1 : s' = s := by omega
      have q2 : (m1 * 16 + e') * 2 + l' = (m2 * 16 + e) * 2 + l := by omega
      have q3 : l' = l := by omega
      have q4 : m1 * 16 + e' = m2 * 16 + e := by omega
      have q5 : e' = e := by omega
      exact ⟨q3, q5, q1⟩
    by_cases hw : (qy_rm (f (17, 0, 0)) i) 4 = 0 ∧ (l' = l ∧ e' = e ∧ s' = s)
    · obtain ⟨h4, rfl, rfl, rfl⟩ := hw
      have hbk := hBB i (Nat.le_refl i) hi (by rw [aK]; omega)
      have hQi : Q ((qy_rm (f (17, 0, 0)) i) 0) = false := by
        cases hx : Q ((qy_rm (f (17, 0, 0)) i) 0)
        · rfl
        · have := (hFx.1 _ hm hx).2
          omega
      have hp4 : qy_pr Q (qy_rm (f (17, 0, 0)) i) 4 = 0 := by
        unfold qy_pr
        rw [hQi]
        simpa using h4
      have hno : ∀ r, r ∈ qy_Lm (f (17, 0, 0)) → r 4 = 0 → b ≤ qy_ky (f (17, 0, 0)) r → qy_ky (f (17, 0, 0)) (qy_rm (f (17, 0, 0)) i) ≤ qy_ky (f (17, 0, 0)) r := by
        intro r hr h4' hbr
        obtain ⟨k, hk, rfl⟩ := qy_mLm.mp hr
        obtain ⟨x1, x2⟩ := hA k hk h4' hbr
        rcases Nat.lt_trichotomy k i with hki | hki | hki
        · have := x2 hki
          rw [aK]
          exact qy_ar1 this hN
        · subst hki
          exact Nat.le_refl _
        · have := hord i k hki hk (by rw [aK]; omega) (by rw [aK]; omega) x1
          omega
      have hst := qy_step hL hB (qy_U hW) hFx hm h4 hbk hno
      have hrs : ∃ v, gM_reasonBut F (qm_pf Q f) (nI l') (nI e') (nI s') (-5) = some v ∧ (v = 0) = qy_ok (f (17, 0, 0)) (qy_Lm (f (17, 0, 0))) Q (qy_rm (f (17, 0, 0)) i) := by
        rw [← qy_rsok hL hB h10 hFx (M := qy_Lm ((qm_pf Q f) (17, 0, 0))) (by rw [qm_pfg, qy_pgL]) hm hbk]
        have := qm_reasonBut hW' hF hl' (e := e') (by rw [qm_pfg, qy_pgec]; exact he) hs1' hs9' (-1) (-5) (qm_none hW')
        rw [a1, a2, a3, qz_cl_nI (show e' < 2 ^ 31 by omega), qz_cl_nI (show l' < 2 ^ 31 by omega)]
        rw [show qy_rs ((qm_pf Q f) (17, 0, 0)) (qy_Lm ((qm_pf Q f) (17, 0, 0))) l' e' (nI s') (-1) = qy_rs (f (17, 0, 0)) (qy_Lm ((qm_pf Q f) (17, 0, 0))) l' e' (nI s') (-1) by rw [qm_pfg]; exact qy_pgrs hW hl' (by omega) _ _ _] at this
        exact ⟨_, this, rfl⟩
      obtain ⟨v, hv, hv'⟩ := hrs
      have e5 : (if (qy_pr Q (qy_rm (f (17, 0, 0)) i) 4 = 0 ∧ l' = l' ∧ e' = e' ∧ s' = s') then (1 : Int32) else 0) = 1 := if_pos ⟨hp4, rfl, rfl, rfl⟩
      rw [e5, if_neg (by decide), hv]
      simp only [Option.bind_some]
      have hA' : ∀ k, k < qy_n (f (17, 0, 0)) → (qy_rm (f (17, 0, 0)) k) 4 = 0 → qy_ky (f (17, 0, 0)) (qy_rm (f (17, 0, 0)) i) + 1 ≤ qy_ky (f (17, 0, 0)) (qy_rm (f (17, 0, 0)) k) → qy_cb (f (17, 0, 0)) e' l' s' * 65536 ≤ qy_ky (f (17, 0, 0)) (qy_rm (f (17, 0, 0)) k) ∧ (k < i + 1 → (qy_cb (f (17, 0, 0)) e' l' s' + 1) * 65536 ≤ qy_ky (f (17, 0, 0)) (qy_rm (f (17, 0, 0)) k)) := by
        intro k hk h4' hbr
        obtain ⟨x1, x2⟩ := hA k hk h4' (by omega)
        refine ⟨x1, fun hki => ?_⟩
        by_cases e : k = i
        · subst e
          exact absurd hbr (Nat.not_succ_le_self _)
        · exact x2 (by omega)
      have hB' : ∀ k, i + 1 ≤ k → k < qy_n (f (17, 0, 0)) → qy_cb (f (17, 0, 0)) e' l' s' * 65536 ≤ qy_ky (f (17, 0, 0)) (qy_rm (f (17, 0, 0)) k) → qy_ky (f (17, 0, 0)) (qy_rm (f (17, 0, 0)) i) + 1 ≤ qy_ky (f (17, 0, 0)) (qy_rm (f (17, 0, 0)) k) := by
        intro k hki hk hc
        have := hord i k (by omega) hk (by rw [aK]; omega) (by rw [aK]; omega) hc
        omega
      by_cases hok : qy_ok (f (17, 0, 0)) (qy_Lm (f (17, 0, 0))) Q (qy_rm (f (17, 0, 0)) i)
      · have hv0 : v = 0 := by rw [hv']; exact hok
        have hlay : gM_lay F (qm_pf Q f, p) (nI i) 4 1 = some (qz_wr (qm_pf Q f, p) (17, 0, 0) (43 + 8 * i + 4) 1) := qm_lay (c := 4) c3 (by decide) 1
        rw [if_pos hv0, hlay, qm_pfw hW hi]
        exact ⟨_, rfl, _, _, rfl, hst.1 hok, by rw [aK]; omega, hA', hB'⟩
      · have hv0 : ¬ v = 0 := by rw [hv']; exact hok
        rw [if_neg hv0]
        exact ⟨_, rfl, _, _, rfl, hst.2 hok, by rw [aK]; omega, hA', hB'⟩
    · have hnw : ¬ (qy_pr Q (qy_rm (f (17, 0, 0)) i) 4 = 0 ∧ l' = l ∧ e' = e ∧ s' = s) := by
        rintro ⟨x1, x2⟩
        refine hw ⟨?_, x2⟩
        unfold qy_pr at x1
        by_cases hx : Q ((qy_rm (f (17, 0, 0)) i) 0) = true
        · rw [if_pos ⟨rfl, hx⟩] at x1
          exact absurd x1 (by decide)
        · rw [if_neg (fun q => hx q.2)] at x1
          exact x1
      rw [if_neg hnw, if_pos rfl]
      refine ⟨_, rfl, Q, b, rfl, hFx, hb, ?_, fun k hk => hBB k (by omega)⟩
      intro k hk h4' hbr
      obtain ⟨x1, x2⟩ := hA k hk h4' hbr
      refine ⟨x1, fun hki => ?_⟩
      by_cases e1 : k = i
      · subst e1
        by_cases hlt : (qy_cb (f (17, 0, 0)) e l s + 1) * 65536 ≤ qy_ky (f (17, 0, 0)) (qy_rm (f (17, 0, 0)) k)
        · exact hlt
        · exact absurd ⟨h4', hincell ⟨x1, by omega⟩⟩ hw
      · exact x2 (by omega)
  · rintro n T ⟨Q, b, rfl, hFx, hb, hA, hBB⟩
    have hW' : qy_Wf ((qm_pf Q f) (17, 0, 0)) B := by rw [qm_pfg]; exact qy_pgW hW
    have c := qm_c' hW'
    rw [show qy_n ((qm_pf Q f) (17, 0, 0)) = qy_n (f (17, 0, 0)) by rw [qm_pfg, qy_pgn]] at c
    simp only [gM_looksAt_L3, c, if_true]
    refine ⟨Q, rfl, qy_skip hFx hb (fun r hr h4 hbr => ?_)⟩
    obtain ⟨k, hk, rfl⟩ := qy_mLm.mp hr
    exact (hA k hk h4 hbr).2 hk
  · exact ⟨Q, _, rfl, hQ, by omega, fun k hk _ h => ⟨h, fun q => absurd q (by omega)⟩, fun k _ hk h => h⟩
set_option maxRecDepth 20000 in
theorem qm_looksAll {S : qz_S} (hW : qy_Wf (S.1 (17, 0, 0)) B) (hF : 30 < F) : ∃ Q f', gM_looksAtAll F S = some (f', S.2) ∧ (∀ n j, ¬ n = (17, 0, 0) → ¬ n = (21, 0, 0) → f' n j = S.1 n j) ∧ f' (17, 0, 0) = qy_pg Q (S.1 (17, 0, 0)) ∧ qy_Fn (S.1 (17, 0, 0)) (qy_Lm (S.1 (17, 0, 0))) Q := by
  have h10 := hW.2.1
  have h30 := hW.2.2.2.1
  have hB := hW.2.2.2.2.2.2.2.2.2.2
  unfold gM_looksAtAll
  obtain ⟨⟨f1, p⟩, hS1, hp, hfr, hso⟩ := qm_ranks hW hF
  simp only at hp hfr hso
  subst hp
  rw [hS1]
  simp only [Option.bind_some]
  have hg : f1 (17, 0, 0) = S.1 (17, 0, 0) := by
    funext j
    exact hfr _ _ (by decide)
  have hW1 : qy_Wf (f1 (17, 0, 0)) B := by rw [hg]; exact hW
  obtain ⟨so1, so2, so3⟩ := hso
  have hR := qm_soR ⟨so1, so2, so3⟩
  rw [← hg] at so1 so2 hR
  have hX : ∀ i, i < qy_ec (f1 (17, 0, 0)) → ∃ v, v < qy_ec (f1 (17, 0, 0)) ∧ f1 (21, 0, 0) i = nI v ∧ (f1 (21, 0, 0) i).toNatClampNeg = v := by
    intro i hi
    obtain ⟨v, hv, ev⟩ := so1 i hi
    exact ⟨v, hv, ev, by rw [ev, qz_cl_nI (by rw [hg] at hv; omega)]⟩
  have h10' : qy_ec (f1 (17, 0, 0)) ≤ 10 := by rw [hg]; exact h10
  have hXm : ∀ i j, i < j → j < qy_ec (f1 (17, 0, 0)) → qy_mm (f1 (17, 0, 0)) (f1 (21, 0, 0) i).toNatClampNeg * 16 + (f1 (21, 0, 0) i).toNatClampNeg < qy_mm (f1 (17, 0, 0)) (f1 (21, 0, 0) j).toNatClampNeg * 16 + (f1 (21, 0, 0) j).toNatClampNeg := by
    intro i j hij hj
    have := so2 i j hij hj
    rw [qy_erE, decide_eq_true_eq] at this
    obtain ⟨v, hv, _, e1⟩ := hX i (by omega)
    obtain ⟨v', hv', _, e2⟩ := hX j hj
    rw [e1, e2] at this ⊢
    omega
  have hky : ∀ r, r ∈ qy_Lm (f1 (17, 0, 0)) → ∃ i, i < qy_ec (f1 (17, 0, 0)) ∧ ∃ l s N, N < 60000 ∧ l < 2 ∧ 1 ≤ s ∧ s ≤ 9 ∧ qy_ky (f1 (17, 0, 0)) r = (((qy_mm (f1 (17, 0, 0)) (f1 (21, 0, 0) i).toNatClampNeg * 16 + (f1 (21, 0, 0) i).toNatClampNeg) * 2 + l) * 16 + s) * 65536 + N := by
    intro r hr
    obtain ⟨k, hk, rfl⟩ := qy_mLm.mp hr
    obtain ⟨⟨N, hN, e0, _⟩, ⟨e', he', e1⟩, ⟨l', hl', e2⟩, ⟨s', hs', hs'', e3⟩, _⟩ := qm_Wr hW1 hk
    obtain ⟨i, hi, ei⟩ := hR.2 e' he'
    refine ⟨i, hi, l', s', N, by omega, hl', hs', hs'', ?_⟩
    rw [ei]
    exact qy_kyE (by omega) (by omega) hl' hs'' e0 e1 e2 e3
  refine qy_lpE (fun n (T : qz_S) y => gM_looksAtAll_L6 F (fun y110 T11 => some T11) n y T) (qy_ec (f1 (17, 0, 0)))
    (fun i T => ∃ Q b, T = (qm_pf Q f1, S.2) ∧ qy_Fx (f1 (17, 0, 0)) (qy_Lm (f1 (17, 0, 0))) Q b ∧
      (∀ k, i ≤ k → k < qy_ec (f1 (17, 0, 0)) → b ≤ ((qy_mm (f1 (17, 0, 0)) (f1 (21, 0, 0) k).toNatClampNeg * 16 + (f1 (21, 0, 0) k).toNatClampNeg) * 32 + 1) * 65536) ∧
      (∀ k, k < i → k < qy_ec (f1 (17, 0, 0)) → ((qy_mm (f1 (17, 0, 0)) (f1 (21, 0, 0) k).toNatClampNeg * 16 + (f1 (21, 0, 0) k).toNatClampNeg) * 32 + 32) * 65536 ≤ b))
    (fun r => ∃ Q f', r = some (f', S.2) ∧ (∀ n j, ¬ n = (17, 0, 0) → ¬ n = (21, 0, 0) → f' n j = S.1 n j) ∧ f' (17, 0, 0) = qy_pg Q (S.1 (17, 0, 0)) ∧ qy_Fn (S.1 (17, 0, 0)) (qy_Lm (S.1 (17, 0, 0))) Q) ?_ ?_ F 0 _ (by omega) (by omega) ?_
  · rintro n i T hi ⟨Q, b, rfl, hFx, hA, hBB⟩
    left
    obtain ⟨v, hv, ev, ev'⟩ := hX i hi
    have hc : ¬ (qm_pf Q f1) (17, 0, 0) 4 ≤ nI i := by
      rw [qm_pfg, qy_pglo (by decide), hW1.1, qy_le (by omega) (by omega)]
      omega
    simp only [gM_looksAtAll_L6, hc, if_false]
    have hb1 := hA i (Nat.le_refl i) hi
    rw [ev'] at hb1
    have hstart : qy_Fx (f1 (17, 0, 0)) (qy_Lm (f1 (17, 0, 0))) Q (((qy_mm (f1 (17, 0, 0)) v * 16 + v) * 32 + 1) * 65536) := by
      refine qy_skip hFx hb1 (fun r hr _ hbr => ?_)
      obtain ⟨k, hk, l, s, N, hN, hl, hs1, hs9, eK⟩ := hky r hr
      by_cases hki : k < i
      · have := hBB k hki hk
        rw [eK] at hbr
        exact absurd (Nat.le_trans this hbr) (qy_ar2 hl hs9 hN)
      · rw [eK]
        by_cases hke : k = i
        · subst hke
          rw [ev']
          omega
        · have := hXm i k (by omega) hk
          rw [ev'] at this
          omega
    refine qy_lpE (fun n' (T : qz_S) y => gM_looksAtAll_L18 F (nI i) (fun y28 T9 => gM_looksAtAll_L6 F (fun y110 T11 => some T11) n (nI i + 1) T9) n' y T) 18
      (fun k T => ∃ Q, T = (qm_pf Q f1, S.2) ∧ qy_Fx (f1 (17, 0, 0)) (qy_Lm (f1 (17, 0, 0))) Q (qy_cb (f1 (17, 0, 0)) v (k / 9) (1 + (k - k / 9 * 9)) * 65536))
      (fun r => ∃ a', r = gM_looksAtAll_L6 F (fun y110 T11 => some T11) n (nI (i + 1)) a' ∧ ∃ Q b, a' = (qm_pf Q f1, S.2) ∧ qy_Fx (f1 (17, 0, 0)) (qy_Lm (f1 (17, 0, 0))) Q b ∧
      (∀ k, i + 1 ≤ k → k < qy_ec (f1 (17, 0, 0)) → b ≤ ((qy_mm (f1 (17, 0, 0)) (f1 (21, 0, 0) k).toNatClampNeg * 16 + (f1 (21, 0, 0) k).toNatClampNeg) * 32 + 1) * 65536) ∧
      (∀ k, k < i + 1 → k < qy_ec (f1 (17, 0, 0)) → ((qy_mm (f1 (17, 0, 0)) (f1 (21, 0, 0) k).toNatClampNeg * 16 + (f1 (21, 0, 0) k).toNatClampNeg) * 32 + 32) * 65536 ≤ b)) ?_ ?_ F 0 _ (by omega) (by omega) ?_
    · rintro n' k T hk ⟨Q, rfl, hQ⟩
      left
      have c1 : ¬ (18 : Int32) ≤ nI k := fun q => by have := (qz_le_nI (a := 18) (b := k) (by decide) (by omega)).mp q; omega
      have c2 : nI k / (9 : Int32) = nI (k / 9) := qy_div (b := 9) (by omega) (by decide)
      have c3 : (1 : Int32) + (nI k - nI (k / 9) * (9 : Int32)) = nI (1 + (k - k / 9 * 9)) := by
        have : nI k - nI (k / 9) * nI 9 = nI (k - k / 9 * 9) := by rw [qy_mul, qy_sub (by omega)]
        rw [show (9 : Int32) = nI 9 from rfl, this, show (1 : Int32) = nI 1 from rfl, qy_add]
      have c4 : (qm_pf Q f1) (21, 0, 0) (nI i).toNatClampNeg = nI v := by rw [qz_cl_nI (by omega), qm_pfn (by decide), ev]
      simp only [gM_looksAtAll_L18, c1, c2, c3, c4, if_false, if_true, qz_xi_nI (show i < 10 by omega) (show 10 < 2 ^ 31 by decide), qz_nI1]
      obtain ⟨Q', hQ', hQF⟩ := qm_looksAt hW1 hF S.2 hv (l := k / 9) (s := 1 + (k - k / 9 * 9)) (by omega) (by omega) (by omega) hQ
      rw [hQ']
      simp only [Option.bind_some]
      refine ⟨_, rfl, Q', rfl, qy_skip hQF ?_ ?_⟩
      · unfold qy_cb
        omega
      · intro r hr _ hbr
        obtain ⟨k', hk', l, s, N, hN, hl, hs1, hs9, eK⟩ := hky r hr
        rw [eK] at hbr ⊢
        unfold qy_cb at hbr ⊢
        exact qy_ar3 hl hs1 hs9 hN hbr
    · rintro n' T ⟨Q, rfl, hQ⟩
      simp only [gM_looksAtAll_L18, show (18 : Int32) ≤ nI 18 by decide, if_true, qz_nI1]
      refine ⟨_, rfl, Q, _, rfl, hQ, ?_, ?_⟩
      · intro k hk hk'
        have := hXm i k (by omega) hk'
        rw [ev'] at this
        unfold qy_cb
        omega
      · intro k hk hk'
        unfold qy_cb
        by_cases hke : k = i
        · subst hke
          rw [ev']
          omega
        · have := hXm k i (by omega) hi
          rw [ev'] at this
          omega
    · refine ⟨Q, rfl, ?_⟩
      have : qy_cb (f1 (17, 0, 0)) v (0 / 9) (1 + (0 - 0 / 9 * 9)) = (qy_mm (f1 (17, 0, 0)) v * 16 + v) * 32 + 1 := by
        unfold qy_cb
        omega
      rw [this]
      exact hstart
  · rintro n T ⟨Q, b, rfl, hFx, hA, hBB⟩
    have hc : (qm_pf Q f1) (17, 0, 0) 4 ≤ nI (qy_ec (f1 (17, 0, 0))) := by
      rw [qm_pfg, qy_pglo (by decide), ← hW1.1]
      exact Int32.le_refl _
    simp only [gM_looksAtAll_L6, hc, if_true]
    refine ⟨Q, _, rfl, ?_, ?_, ?_⟩
    · intro n j h1 h2
      rw [qm_pfn h1, hfr n j h2]
    · rw [qm_pfg, hg]
    · rw [← hg]
      refine qy_fin hFx (fun r hr _ => ?_)
      obtain ⟨k, hk, l, s, N, hN, hl, hs1, hs9, eK⟩ := hky r hr
      have := hBB k hk hk
      rw [eK]
      omega
  · refine ⟨fun _ => false, 0, ?_, ⟨fun r hr h => absurd h Bool.false_ne_true, fun r hr h4 hk => absurd hk (by omega)⟩, fun k _ _ => by omega, fun k h => absurd h (by omega)⟩
    rw [qm_pf0]
end QYJ
