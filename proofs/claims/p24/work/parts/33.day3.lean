/-! a day: the reference -/
def qm_bi (g r : Nat → Int32) : Nat := 2 * (if qy_aw g (r 2).toNatClampNeg (r 1).toNatClampNeg = true then (qy_pa g (r 2).toNatClampNeg (r 1).toNatClampNeg).toNatClampNeg else (r 1).toNatClampNeg) + (r 2).toNatClampNeg
def qm_PD (g T : Nat → Int32) (D W : Nat → Bool) (c11 : Int32) : Prop :=
  (∀ j, ¬ (7 ≤ j ∧ j ≤ 12) → ¬ (43 ≤ j ∧ j < 43 + 8 * qy_n g ∧ 5 ≤ (j - 43) % 8) → T j = g j) ∧
  (∀ k, k < qy_n g → T (43 + 8 * k + 5) = g (43 + 8 * k + 5) + (if D k = true then qy_w7 g (qy_Lm g) (qy_rm g k) else 0) ∧ T (43 + 8 * k + 6) = g (43 + 8 * k + 6) + (if D k = true then qy_w8 g (qy_Lm g) (qy_rm g k) else 0) ∧ T (43 + 8 * k + 7) = g (43 + 8 * k + 7) + (if W k = true then qy_w9 (qy_rm g k) else 0)) ∧
  T 7 = g 7 ∧ T 8 = g 8 + qy_sr (qy_n g) (fun k => if D k = true then qy_w7 g (qy_Lm g) (qy_rm g k) else 0) ∧ T 9 = g 9 + qy_sr (qy_n g) (fun k => if D k = true then qy_w8 g (qy_Lm g) (qy_rm g k) else 0) ∧
  T 10 = g 10 + qy_sr (qy_n g) (fun k => if W k = true then qy_w9 (qy_rm g k) else 0) ∧ T 11 = g 11 + c11 ∧ T 12 = g 12 + qy_sr (qy_n g) (fun k => if D k = true then qy_w11 g (qy_Lm g) (qy_rm g k) else 0)
section QYM
variable {F B : Nat} {g T : Nat → Int32} {D W : Nat → Bool} {c11 : Int32}
theorem qm_PDlo (h : qm_PD g T D W c11) {j : Nat} (hj : j < 43) (hn : ¬ (7 ≤ j ∧ j ≤ 12)) : T j = g j := h.1 j hn (by omega)
theorem qm_PDn (h : qm_PD g T D W c11) : qy_n T = qy_n g := by
  unfold qy_n
  rw [qm_PDlo h (by decide) (by decide)]
theorem qm_PDec (h : qm_PD g T D W c11) : qy_ec T = qy_ec g := by
  unfold qy_ec
  rw [qm_PDlo h (by decide) (by decide)]
theorem qm_PDr (h : qm_PD g T D W c11) {k c : Nat} (hc : c < 5) : (qy_rm T k) c = (qy_rm g k) c := by
  unfold qy_rm
  rw [if_pos (by omega), if_pos (by omega)]
  exact h.1 _ (by omega) (by omega)
theorem qm_PDWr (h : qm_PD g T D W c11) {k : Nat} (hr : qy_Wr g B (qy_rm g k)) : qy_Wr T B (qy_rm T k) := by
  unfold qy_Wr
  rw [qm_PDec h, qm_PDr h (by decide), qm_PDr h (by decide), qm_PDr h (by decide), qm_PDr h (by decide), qm_PDr h (by decide), qm_PDlo h (show 5 < 43 by decide) (by decide)]
  exact hr
theorem qm_PDW (h : qm_PD g T D W c11) (hW : qy_Wf g B) : qy_Wf T B := by
  obtain ⟨h1, h2, h3, h4, h5, h6, h7, h8, h9, h10, h11⟩ := hW
  unfold qy_Wf
  rw [qm_PDn h, qm_PDec h, qm_PDlo h (show 4 < 43 by decide) (by decide), qm_PDlo h (show 6 < 43 by decide) (by decide), qm_PDlo h (show 5 < 43 by decide) (by decide), qm_PDlo h (show 1 < 43 by decide) (by decide)]
  refine ⟨h1, h2, h3, h4, h5, h6, ?_, ?_, ?_, ?_, h11⟩
  · intro i hi
    rw [qm_PDlo h (by omega) (by omega)]
    exact h7 i hi
  · intro l e hl he
    rw [qm_PDlo h (by omega) (by omega)]
    rcases h8 l e hl he with h' | ⟨o, ho, a, b, c, d⟩
    · exact Or.inl h'
    · exact Or.inr ⟨o, ho, a, b, c, by rw [qm_PDlo h (by omega) (by omega)]; exact d⟩
  · intro k hk
    exact qm_PDWr h (h9 k hk)
  · intro i k hik hk
    rw [qm_PDr h (by decide), qm_PDr h (by decide)]
    exact h10 i k hik hk
theorem qm_PDpa (h : qm_PD g T D W c11) {l e : Nat} (hl : l < 2) (he : e < 10) : qy_pa T l e = qy_pa g l e := by
  unfold qy_pa
  rw [qm_PDlo h (by omega) (by omega)]
theorem qm_PDst (h : qm_PD g T D W c11) (hW : qy_Wf g B) {e : Nat} (he : e < 10) (x : Int32) : qy_st T e x = qy_st g e x := by
  have h10 := hW.2.1
  unfold qy_st qy_mi
  rw [qm_PDlo h (show 4 < 43 by decide) (by decide), qm_PDlo h (show 13 + e < 43 by omega) (by omega)]
  by_cases hx : 0 ≤ x ∧ x < g 4
  · rw [if_pos hx, if_pos hx]
    obtain ⟨k, hk, rfl⟩ := qy_isE hW hx
    rw [qz_cl_nI (by omega), qm_PDlo h (show 13 + k < 43 by omega) (by omega)]
  · rw [if_neg hx, if_neg hx]
theorem qm_PDwt (h : qm_PD g T D W c11) (k : Nat) : qy_wt (qy_rm T k) = qy_wt (qy_rm g k) := by
  unfold qy_wt
  rw [qm_PDr h (by decide)]
theorem qm_PDon (h : qm_PD g T D W c11) (k : Nat) (l e x : Int32) : qy_on l e x (qy_rm T k) = qy_on l e x (qy_rm g k) := by
  unfold qy_on
  rw [qm_PDr h (by decide), qm_PDr h (by decide)]
theorem qm_PDca (h : qm_PD g T D W c11) (hW : qy_Wf g B) {k : Nat} (hk : k < qy_n g) (l e x st : Int32) : qy_ca T l e x st (qy_rm T k) = qy_ca g l e x st (qy_rm g k) := by
  have h10 := hW.2.1
  obtain ⟨_, ⟨e1, he1, e2⟩, _⟩ := hW.2.2.2.2.2.2.2.2.1 k hk
  unfold qy_ca qy_it
  rw [qm_PDwt h, qm_PDon h, qm_PDr h (by decide), qm_PDr h (by decide), e2, qz_cl_nI (by omega), qm_PDlo h (show 0 < 43 by decide) (by decide), qm_PDlo h (show 3 < 43 by decide) (by decide), qm_PDlo h (show 13 + e1 < 43 by omega) (by omega)]
theorem qm_PDri (h : qm_PD g T D W c11) (hW : qy_Wf g B) {k : Nat} (hk : k < qy_n g) (l e x st : Int32) : qy_ri T (qy_Lm T) l e x st (qy_rm T k) = qy_ri g (qy_Lm g) l e x st (qy_rm g k) := by
  unfold qy_ri
  rw [qm_PDca h hW hk, ← qy_cLm, ← qy_cLm, qm_PDn h, qm_PDlo h (show 1 < 43 by decide) (by decide)]
  have : (List.range (qy_n g)).countP (fun j => qy_ca T l e x st (qy_rm T j) && qy_gt (qy_rm T j) (qy_rm T k)) = (List.range (qy_n g)).countP (fun j => qy_ca g l e x st (qy_rm g j) && qy_gt (qy_rm g j) (qy_rm g k)) := by
    refine qy_csame (fun j hj => ?_)
    rw [qm_PDca h hW hj]
    unfold qy_gt
    rw [qm_PDr h (by decide), qm_PDr h (by decide), qm_PDr h (by decide), qm_PDr h (by decide)]
  rw [this]
theorem qm_PDmx (h : qm_PD g T D W c11) (hW : qy_Wf g B) {l e x st : Int32} {m : Nat} (hm : qy_mx (qy_Lm T) (qy_ri T (qy_Lm T) l e x st) m) : m = qy_xf (qy_Lm g) (qy_ri g (qy_Lm g) l e x st) := by
  refine qy_mx1 (L := qy_Lm g) (p := qy_ri g (qy_Lm g) l e x st) (fun r => Iff.rfl) (fun r _ => rfl) ?_ (qy_xfx _ _)
  refine ⟨fun r hr hp => ?_, ?_⟩
  · obtain ⟨k, hk, rfl⟩ := qy_mLm.mp hr
    have := hm.1 (qy_rm T k) (qy_mLm.mpr ⟨k, by rw [qm_PDn h]; exact hk, rfl⟩) (by rw [qm_PDri h hW hk]; exact hp)
    rw [qm_PDr h (by decide)] at this
    exact this
  · rcases hm.2 with h0 | ⟨r, hr, hp, e1⟩
    · exact Or.inl h0
    · obtain ⟨k, hk, rfl⟩ := qy_mLm.mp hr
      rw [qm_PDn h] at hk
      rw [qm_PDri h hW hk] at hp
      rw [qm_PDr h (by decide)] at e1
      exact Or.inr ⟨_, qy_mLm.mpr ⟨k, hk, rfl⟩, hp, e1⟩
theorem qy_ert {o e : Nat} (h : o ≠ e) : qy_er g e o = !qy_er g o e := by
  rw [qy_erE, qy_erE]
  by_cases h1 : qy_mm g e < qy_mm g o ∨ (qy_mm g e = qy_mm g o ∧ e < o)
  · rw [decide_eq_true h1, decide_eq_false (by omega)]
    rfl
  · rw [decide_eq_false h1, decide_eq_true (by omega)]
    rfl
theorem qy_awN (hW : qy_Wf g B) {l e o : Nat} (he : e < 10) (ho : o < 10) (hpe : qy_pa g l e = nI o) : qy_aw g l e = qy_er g e o := by
  unfold qy_aw
  have h5 : ¬ nI o = -5 := qy_n5 (by omega)
  rw [hpe, qz_cl_nI (by omega)]
  simp [h5]
theorem qm_bion (hW : qy_Wf g B) {r : Nat → Int32} (hr : qy_Wr g B r) {l e : Nat} (hl : l < 2) (he : e < 10) : (qy_aw g l e = false → qy_on (nI l) (nI e) (qy_pa g l e) r = decide (qm_bi g r = 2 * e + l)) ∧ (qy_aw g l e = true → ¬ qm_bi g r = 2 * e + l) := by
  have h10 := hW.2.1
  obtain ⟨_, ⟨e1, he1, a1⟩, ⟨l1, hl1, a2⟩, _, _⟩ := hr
  have hbi : qm_bi g r = 2 * (if qy_aw g l1 e1 = true then (qy_pa g l1 e1).toNatClampNeg else e1) + l1 := by
    unfold qm_bi
    rw [a1, a2, qz_cl_nI (by omega), qz_cl_nI (by omega)]
  have hon : qy_on (nI l) (nI e) (qy_pa g l e) r = true ↔ l1 = l ∧ (e1 = e ∨ nI e1 = qy_pa g l e) := by
    unfold qy_on
    rw [a1, a2]
    simp only [Bool.and_eq_true, Bool.or_eq_true, decide_eq_true_eq, qy_eq (show l1 < 2147483648 by omega) (show l < 2147483648 by omega), qy_eq (show e1 < 2147483648 by omega) (show e < 2147483648 by omega)]
  have hfac : l1 = l → qy_aw g l1 e1 = true → ∃ o, o < 10 ∧ o ≠ e1 ∧ qy_pa g l e1 = nI o ∧ qy_pa g l o = nI e1 ∧ qy_aw g l o = false := by
    intro hll haw
    subst hll
    rcases qy_pac hW hl1 (show e1 < 10 by omega) with ⟨h5, _⟩ | ⟨o, ho, _, hne, b1, b2, _, _⟩
    · unfold qy_aw at haw
      rw [h5] at haw
      simp at haw
    · refine ⟨o, by omega, hne, b1, b2, ?_⟩
      rw [qy_awN hW (by omega) (by omega) b1] at haw
      rw [qy_awN hW (by omega) (by omega) b2, qy_ert hne.symm, haw]
      rfl
  constructor
  · intro haw
    rw [Bool.eq_iff_iff, hon, decide_eq_true_eq, hbi]
    constructor
    · rintro ⟨rfl, hc⟩
      rcases hc with rfl | hc
      · rw [haw, if_neg Bool.false_ne_true]
      · rcases qy_pac hW hl1 he with ⟨h5, _⟩ | ⟨o, ho, _, hne, b1, b2, _, _⟩
        · rw [h5] at hc
          exact absurd hc (qy_n5 (by omega))
        · rw [b1, qy_eq (by omega) (by omega)] at hc
          subst hc
          rw [qy_awN hW (by omega) (by omega) b1] at haw
          have : qy_aw g l1 e1 = true := by
            rw [qy_awN hW (by omega) (by omega) b2, qy_ert hne.symm, haw]
            rfl
          rw [this, if_pos rfl, b2, qz_cl_nI (by omega)]
    · intro h
      cases haw1 : qy_aw g l1 e1
      · rw [haw1, if_neg Bool.false_ne_true] at h
        exact ⟨by omega, Or.inl (by omega)⟩
      · rw [haw1, if_pos rfl] at h
        have hll : l1 = l := by omega
        obtain ⟨o, ho, hne, b1, b2, _⟩ := hfac hll haw1
        subst hll
        rw [b1, qz_cl_nI (by omega)] at h
        have : o = e := by omega
        subst this
        exact ⟨rfl, Or.inr b2.symm⟩
  · intro haw h
    rw [hbi] at h
    cases haw1 : qy_aw g l1 e1
    · rw [haw1, if_neg Bool.false_ne_true] at h
      have h1 : l1 = l := by omega
      have h2 : e1 = e := by omega
      rw [h1, h2, haw] at haw1
      exact absurd haw1 (by decide)
    · rw [haw1, if_pos rfl] at h
      have hll : l1 = l := by omega
      obtain ⟨o, ho, hne, b1, b2, b3⟩ := hfac hll haw1
      subst hll
      rw [b1, qz_cl_nI (by omega)] at h
      have : o = e := by omega
      subst this
      rw [b3] at haw
      exact absurd haw (by decide)
theorem qy_stsym (hW : qy_Wf g B) {e o : Nat} (he : e < qy_ec g) (ho : o < qy_ec g) : qy_st g e (nI o) = qy_st g o (nI e) := by
  rw [qy_stE hW ho, qy_stE hW he]
  by_cases h : g (13 + e) < g (13 + o)
  · rw [if_pos h, if_neg (fun q => absurd (Int32.lt_trans h q) Int32.lt_irrefl)]
  · rw [if_neg h]
    by_cases h2 : g (13 + o) < g (13 + e)
    · rw [if_pos h2]
    · rw [if_neg h2]
      exact Int32.le_antisymm (Int32.not_lt.mp h2) (Int32.not_lt.mp h)
theorem qy_onsym (l e x : Int32) (r : Nat → Int32) : qy_on l e x r = qy_on l x e r := by
  unfold qy_on
  rw [Bool.or_comm]
theorem qy_risym {L : List (Nat → Int32)} (l e x st : Int32) (r : Nat → Int32) : qy_ri g L l e x st r = qy_ri g L l x e st r := by
  unfold qy_ri qy_ca
  simp only [qy_onsym l e x]
/-- whoever is on a bus rides by it -/
theorem qm_dron (hW : qy_Wf g B) {L : List (Nat → Int32)} {r : Nat → Int32} (hr : qy_Wr g B r) {l e : Nat} (hl : l < 2) (he : e < qy_ec g) (hon : qy_on (nI l) (nI e) (qy_pa g l e) r = true) : qy_ri g L (nI l) (nI e) (qy_pa g l e) (qy_st g e (qy_pa g l e)) r = qy_dr g L r := by
  have h10 := hW.2.1
  obtain ⟨_, ⟨e1, he1, a1⟩, ⟨l1, hl1, a2⟩, _, _⟩ := hr
  unfold qy_dr
  rw [a1, a2, qz_cl_nI (by omega), qz_cl_nI (by omega)]
  unfold qy_on at hon
  rw [a1, a2] at hon
  simp only [Bool.and_eq_true, Bool.or_eq_true, decide_eq_true_eq, qy_eq (show l1 < 2147483648 by omega) (show l < 2147483648 by omega), qy_eq (show e1 < 2147483648 by omega) (show e < 2147483648 by omega)] at hon
  obtain ⟨rfl, hc⟩ := hon
  rcases hc with rfl | hc
  · rfl
  · rcases qy_pac hW hl1 (show e < 10 by omega) with ⟨h5, _⟩ | ⟨o, ho, _, hne, b1, b2, _, _⟩
    · rw [h5] at hc
      exact absurd hc (qy_n5 (by omega))
    · rw [b1, qy_eq (by omega) (by omega)] at hc
      subst hc
      rw [b1, b2, qy_stsym hW he ho, qy_risym]
theorem qm_PDs {S : qz_S} {i : Nat} (h : qm_PD g (S.1 (17, 0, 0)) D W c11) (hi : i < qy_n g) (hD : D i = false) {D' : Nat → Bool} (hD' : ∀ j, j ≠ i → D' j = D j) (hDi : D' i = true) {T' : Nat → Int32}
    (h1 : ∀ j, j ≠ 43 + 8 * i + 5 → j ≠ 43 + 8 * i + 6 → ¬ (7 ≤ j ∧ j ≤ 12) → T' j = S.1 (17, 0, 0) j)
    (h5 : T' (43 + 8 * i + 5) = S.1 (17, 0, 0) (43 + 8 * i + 5) + qy_w7 g (qy_Lm g) (qy_rm g i)) (h6 : T' (43 + 8 * i + 6) = S.1 (17, 0, 0) (43 + 8 * i + 6) + qy_w8 g (qy_Lm g) (qy_rm g i))
    (k7 : T' 7 = S.1 (17, 0, 0) 7) (k8 : T' 8 = S.1 (17, 0, 0) 8 + qy_w7 g (qy_Lm g) (qy_rm g i)) (k9 : T' 9 = S.1 (17, 0, 0) 9 + qy_w8 g (qy_Lm g) (qy_rm g i)) (k10 : T' 10 = S.1 (17, 0, 0) 10) (k11 : T' 11 = S.1 (17, 0, 0) 11) (k12 : T' 12 = S.1 (17, 0, 0) 12 + qy_w11 g (qy_Lm g) (qy_rm g i)) : qm_PD g T' D' W c11 := by
  obtain ⟨p1, p2, p7, p8, p9, p10, p11, p12⟩ := h
  have hs : ∀ w : (Nat → Int32) → Int32, qy_sr (qy_n g) (fun k => if D' k = true then w (qy_rm g k) else 0) = qy_sr (qy_n g) (fun k => if D k = true then w (qy_rm g k) else 0) + w (qy_rm g i) := by
    intro w
    have := qy_srs (t := fun k => if D k = true then w (qy_rm g k) else 0) (t' := fun k => if D' k = true then w (qy_rm g k) else 0) (k := i) (fun j hj => by simp only [hD' j hj]) (by simp only [hD, Bool.false_eq_true, if_false]) (qy_n g) hi
    rw [this]
    simp only [hDi, if_true]
  refine ⟨?_, ?_, k7.trans p7, ?_, ?_, k10.trans p10, k11.trans p11, ?_⟩
  · intro j b1 b2
    rw [h1 j (fun q => b2 (by omega)) (fun q => b2 (by omega)) b1]
    exact p1 j b1 b2
  · intro k hk
    obtain ⟨q5, q6, q7⟩ := p2 k hk
    by_cases e : k = i
    · subst e
      rw [hD, if_neg Bool.false_ne_true, Int32.add_zero] at q5 q6
      refine ⟨?_, ?_, ?_⟩
      · rw [h5, q5, hDi, if_pos rfl]
      · rw [h6, q6, hDi, if_pos rfl]
      · rw [h1 _ (by omega) (by omega) (by omega), q7]
    · rw [hD' k e]
      refine ⟨?_, ?_, ?_⟩
      · rw [h1 _ (by omega) (by omega) (by omega), q5]
      · rw [h1 _ (by omega) (by omega) (by omega), q6]
      · rw [h1 _ (by omega) (by omega) (by omega), q7]
  · rw [k8, p8, hs, Int32.add_assoc]
  · rw [k9, p9, hs, Int32.add_assoc]
  · rw [k12, p12, hs, Int32.add_assoc]
end QYM
