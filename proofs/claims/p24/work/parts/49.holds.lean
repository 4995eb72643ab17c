/-! p24: what holds is held -/
section QVH
variable {F B B' m : Nat} {f0 f f' : qz_F} {g g' : Nat → Int32}
theorem qv_cone (hW : qy_Wf g B) {k0 i : Nat} (hk : k0 < qy_n g) (hi : i < 100000) (h0 : qy_rm g k0 0 = nI i) (q : (Nat → Int32) → Bool) : (qy_Lm g).countP (fun r => decide ((r 0).toNatClampNeg = i) && q r) = if q (qy_rm g k0) = true then 1 else 0 := by
  have hB := hW.2.2.2.2.2.2.2.2.2.2
  rw [← qy_cLm g (fun r => decide ((r 0).toNatClampNeg = i) && q r), qv_smC]
  refine (qv_smc (t' := fun k => if k = k0 then (if q (qy_rm g k0) = true then 1 else 0) else 0) (fun k hk' => ?_)).trans (qv_sm1 _ hk)
  by_cases h : k = k0
  · subst h
    rw [if_pos rfl, h0, qz_cl_nI (by omega), decide_eq_true rfl, Bool.true_and]
  · rw [if_neg h, if_neg]
    intro hq
    simp only [Bool.and_eq_true, decide_eq_true_eq] at hq
    obtain ⟨⟨N, hN, e0, _⟩, _⟩ := hW.2.2.2.2.2.2.2.2.1 k hk'
    rw [e0, qz_cl_nI (by omega)] at hq
    have e1 : qy_rm g k 0 = qy_rm g k0 0 := by rw [e0, h0, hq.1]
    rcases Nat.lt_trichotomy k k0 with c | c | c
    · have := hW.2.2.2.2.2.2.2.2.2.1 k k0 c hk
      rw [e1] at this
      exact Int32.lt_irrefl this
    · exact h c
    · have := hW.2.2.2.2.2.2.2.2.2.1 k0 k c hk'
      rw [e1] at this
      exact Int32.lt_irrefl this
theorem qv_cnone (hW : qy_Wf g B) {i : Nat} (hi : i < 100000) (h : ∀ k, k < qy_n g → ¬ qy_rm g k 0 = nI i) (q : (Nat → Int32) → Bool) : (qy_Lm g).countP (fun r => decide ((r 0).toNatClampNeg = i) && q r) = 0 := by
  have hB := hW.2.2.2.2.2.2.2.2.2.2
  refine List.countP_eq_zero.mpr (fun r hr hq => ?_)
  simp only [Bool.and_eq_true, decide_eq_true_eq] at hq
  obtain ⟨k, hk, rfl⟩ := qy_mLm.mp hr
  obtain ⟨⟨N, hN, e0, _⟩, _⟩ := hW.2.2.2.2.2.2.2.2.1 k hk
  rw [e0, qz_cl_nI (by omega)] at hq
  exact h k hk (by rw [e0, hq.1])
theorem qv_hL6 (hR : qy_Rel f 0 g) (hW : qy_Wf g B) (hF : 30 < F) (hB : B < F) (K : Int32 → Int32 → Int32 → Option Int32) {x : Nat} (hx : x ≤ B) (h5 : g 5 = nI x) :
    gL_holds_L6 F f K F 0 0 0 = K (nI ((qy_Lm g).countP (fun r => !qy_wt r))) (nI (qy_n g)) (nI x) := by
  have hB6 := hW.2.2.2.2.2.2.2.2.2.2
  have hlt : ∀ r, r ∈ qy_Lm g → (r 0).toNatClampNeg < x := by
    intro r hr
    obtain ⟨⟨N, hN, e0, e1⟩, _⟩ := qv_mW hW hr
    rw [e0, h5, qy_lt (by omega) (by omega)] at e1
    rw [e0, qz_cl_nI (by omega)]
    exact e1
  have hc15 : gX_count F f 15 = some (nI x) := by rw [← h5]; exact qv_count hR hW hF (a := 15) (by decide)
  refine qy_lpE (fun n (a : Int32 × Int32) y => gL_holds_L6 F f K n a.1 a.2 y) x
    (fun i a => a.1 = nI (qv_sm (fun k => (qy_Lm g).countP (fun r => decide ((r 0).toNatClampNeg = k) && !qy_wt r)) i) ∧ a.2 = nI (qv_sm (fun k => (qy_Lm g).countP (fun r => decide ((r 0).toNatClampNeg = k) && true)) i))
    (fun b => b = K (nI ((qy_Lm g).countP (fun r => !qy_wt r))) (nI (qy_n g)) (nI x)) ?_ ?_ F 0 (0, 0) (by omega) (by omega) ⟨rfl, rfl⟩
  · intro n i a hi ha
    obtain ⟨p, q⟩ := a
    obtain ⟨h1, h2⟩ := ha
    dsimp only at h1 h2
    have n1 : ¬ nI x ≤ nI i := by rw [qy_le (by omega) (by omega)]; omega
    refine Or.inl ?_
    show ∃ a', gL_holds_L6 F f K (n + 1) p q (nI i) = _ ∧ _
    rw [gL_holds_L6, hc15]
    simp only [Option.bind_some]
    rw [if_neg n1]
    by_cases h : ∃ k, k < qy_n g ∧ qy_rm g k 0 = nI i
    · obtain ⟨k, hk, hk0⟩ := h
      have e4 := (hW.2.2.2.2.2.2.2.2.1 k hk).2.2.2.2
      have hw : gX_worker F f (nI i) 3 = some (qy_rm g k 4) := by rw [← hk0]; exact qv_workerY hR hW hF hk (a1 := 3) (by decide)
      rw [hw]
      simp only [Option.bind_some]
      have c2 := qv_cone hW hk (show i < 100000 by omega) hk0 (fun _ => true)
      have c1 := qv_cone hW hk (show i < 100000 by omega) hk0 (fun r => !qy_wt r)
      rw [if_pos rfl] at c2
      rcases e4 with e4 | e4
      · have w : qy_wt (qy_rm g k) = true := by unfold qy_wt; rw [e4]; rfl
        rw [w, if_neg (by decide)] at c1
        rw [e4, if_pos (by decide), if_pos (by decide)]
        refine ⟨(p + 0, q + 1), by rw [qz_nI1]; rfl, ?_, ?_⟩
        · show p + 0 = nI (qv_sm _ i + _)
          dsimp only
          rw [c1, h1]
          exact qy_add _ 0
        · show q + 1 = nI (qv_sm _ i + _)
          dsimp only
          rw [c2, h2, qz_nI1]
      · have w : qy_wt (qy_rm g k) = false := by unfold qy_wt; rw [e4]; rfl
        rw [w, if_pos (by decide)] at c1
        rw [e4, if_pos (by decide), if_neg (by decide)]
        refine ⟨(p + 1, q + 1), by rw [qz_nI1]; rfl, ?_, ?_⟩
        · show p + 1 = nI (qv_sm _ i + _)
          dsimp only
          rw [c1, h1, qz_nI1]
        · show q + 1 = nI (qv_sm _ i + _)
          dsimp only
          rw [c2, h2, qz_nI1]
    · have hno : ∀ k, k < qy_n g → ¬ qy_rm g k 0 = nI i := fun k hk e => h ⟨k, hk, e⟩
      have c2 := qv_cnone hW (show i < 100000 by omega) hno (fun _ => true)
      have c1 := qv_cnone hW (show i < 100000 by omega) hno (fun r => !qy_wt r)
      rw [qv_workerN hR hW hF hno 3]
      simp only [Option.bind_some]
      rw [if_neg (by decide), if_pos (by decide)]
      refine ⟨(p + 0, q + 0), by rw [qz_nI1]; rfl, ?_, ?_⟩
      · show p + 0 = nI (qv_sm _ i + _)
        dsimp only
        rw [c1, h1]
        exact qy_add _ 0
      · show q + 0 = nI (qv_sm _ i + _)
        dsimp only
        rw [c2, h2]
        exact qy_add _ 0
  · intro n a ha
    obtain ⟨p, q⟩ := a
    obtain ⟨h1, h2⟩ := ha
    dsimp only at h1 h2
    show gL_holds_L6 F f K (n + 1) p q (nI x) = _
    rw [gL_holds_L6, hc15]
    simp only [Option.bind_some]
    rw [if_pos (Int32.le_refl _), h1, h2, qv_smK _ _ _ x hlt, qv_smK (qy_Lm g) (fun r => (r 0).toNatClampNeg) (fun _ => true) x hlt, List.countP_true]
    congr 2
    unfold qy_Lm
    rw [List.length_map, List.length_range]
theorem qv_tnle (l e : Nat) {s : Nat} (h : s < 100000) : qv_tn g l e (s + 1) ≤ qv_tn g l e s := by
  unfold qv_tn
  refine List.countP_mono_left (fun r hr h => ?_)
  unfold qy_tk at h ⊢
  simp only [Bool.and_eq_true, decide_eq_true_eq] at h ⊢
  refine ⟨⟨h.1.1, Int32.le_trans ?_ h.1.2⟩, h.2⟩
  rw [qy_le (by omega) (by omega)]
  omega
theorem qv_tn1 (l e s : Nat) : qv_tn g l e s ≤ (qy_Lm g).countP (fun r => !qy_wt r && qy_on (nI l) (nI e) (qy_pa g l e) r) := by
  unfold qv_tn
  refine List.countP_mono_left (fun r hr h => ?_)
  unfold qy_tk at h
  simp only [Bool.and_eq_true] at h ⊢
  exact h.1.1
theorem qv_cle (hW : qy_Wf g B) (p : (Nat → Int32) → Bool) : (qy_Lm g).countP p ≤ 30 := by
  have h1 := List.countP_le_length (p := p) (l := qy_Lm g)
  have h2 : (qy_Lm g).length = qy_n g := by
    unfold qy_Lm
    rw [List.length_map, List.length_range]
  have := hW.2.2.2.1
  omega
theorem qv_xle (hW : qy_Wf g B) (p : (Nat → Int32) → Bool) : qy_xf (qy_Lm g) p ≤ 9 := by
  rcases (qy_xfx (qy_Lm g) p).2 with h | ⟨r, hr, _, e⟩
  · omega
  · obtain ⟨_, _, _, ⟨s, s1, s9, w3⟩, _⟩ := qv_mW hW hr
    rw [w3, qz_cl_nI (by omega)] at e
    omega
theorem qv_tnfar (hW : qy_Wf g B) (l e : Nat) {s : Nat} (h1 : 1 ≤ s) (h9 : s ≤ 9) : (0 < qv_tn g l e s) ↔ s ≤ qy_xf (qy_Lm g) (fun r => !qy_wt r && qy_on (nI l) (nI e) (qy_pa g l e) r) := by
  have hB6 := hW.2.2.2.2.2.2.2.2.2.2
  have hx := qy_xfx (qy_Lm g) (fun r => !qy_wt r && qy_on (nI l) (nI e) (qy_pa g l e) r)
  unfold qv_tn
  rw [List.countP_pos_iff]
  constructor
  · rintro ⟨r, hr, h⟩
    unfold qy_tk at h
    simp only [Bool.and_eq_true, decide_eq_true_eq] at h
    obtain ⟨_, _, _, ⟨t, t1, t9, w3⟩, _⟩ := qv_mW hW hr
    have a1 := hx.1 r hr (by simp only [Bool.and_eq_true]; exact h.1.1)
    have a2 := h.1.2
    rw [w3, qz_cl_nI (by omega)] at a1
    rw [w3, qy_le (by omega) (by omega)] at a2
    omega
  · intro h
    rcases hx.2 with h0 | ⟨r, hr, hp, e⟩
    · omega
    · refine ⟨r, hr, ?_⟩
      obtain ⟨⟨N, hN, e0, _⟩, _, _, ⟨t, t1, t9, w3⟩, _⟩ := qv_mW hW hr
      rw [w3, qz_cl_nI (by omega)] at e
      unfold qy_tk
      simp only [Bool.and_eq_true, decide_eq_true_eq] at hp ⊢
      refine ⟨⟨hp, ?_⟩, ?_⟩
      · rw [w3, qy_le (by omega) (by omega)]
        omega
      · rw [e0, decide_eq_false (qy_n1 (by omega))]
        rfl
theorem qv_hL278 (hR : qy_Rel f 0 g) (hW : qy_Wf g B) (hF : 30 < F) {l e : Nat} (hl : l < 2) (he : e < qy_ec g) {r : Option Int32} {K : Int32 → Int32 → Option Int32} (hK : ∀ a b, K a b = r) (y112 y213 y3 y4 y5 y6 y10 : Int32) :
    gL_holds_L278 F f y112 y213 y3 y4 y5 y6 (nI l) (nI e) y10 (nI (qy_xf (qy_Lm g) (fun r => !qy_wt r && qy_on (nI l) (nI e) (qy_pa g l e) r))) K F (nI ((qy_Lm g).countP (fun r => !qy_wt r && qy_on (nI l) (nI e) (qy_pa g l e) r))) 1 = r := by
  have hx9 := qv_xle hW (fun r => !qy_wt r && qy_on (nI l) (nI e) (qy_pa g l e) r)
  refine qy_lpE (fun n a y => gL_holds_L278 F f y112 y213 y3 y4 y5 y6 (nI l) (nI e) y10 (nI (qy_xf (qy_Lm g) (fun r => !qy_wt r && qy_on (nI l) (nI e) (qy_pa g l e) r))) K n a y) 10
    (fun i a => 1 ≤ i ∧ ∃ c, c ≤ 30 ∧ a = nI c ∧ qv_tn g l e i ≤ c) (fun b => b = r) ?_ ?_ F 1 _ (by decide) (by omega) ⟨Nat.le_refl 1, _, qv_cle hW _, rfl, qv_tn1 l e 1⟩
  · rintro n i a hi ⟨h1, c, hc, rfl, hle⟩
    have n1 : ¬ (10 : Int32) ≤ nI i := fun q => by have := (qz_le_nI (a := 10) (b := i) (by decide) (by omega)).mp q; omega
    have n2 : ¬ nI c < nI (qv_tn g l e i) := by rw [qy_lt (by omega) (by omega)]; omega
    refine Or.inl ⟨nI (qv_tn g l e i), ?_, by omega, _, by omega, rfl, qv_tnle l e (by omega)⟩
    show gL_holds_L278 F f y112 y213 y3 y4 y5 y6 (nI l) (nI e) y10 _ K (n + 1) (nI c) (nI i) = _
    rw [gL_holds_L278, if_neg n1, qv_taken hR hW hF hl he h1 (by omega)]
    simp only [Option.bind_some]
    rw [if_neg n2]
    have hiff := qv_tnfar hW l e h1 (show i ≤ 9 by omega)
    by_cases h : 0 < qv_tn g l e i
    · have m1 : ¬ nI (qv_tn g l e i) ≤ 0 := by
        rw [show (0 : Int32) = nI 0 from rfl, qy_le (by omega) (by omega)]
        omega
      have m2 : ¬ nI (qy_xf (qy_Lm g) (fun r => !qy_wt r && qy_on (nI l) (nI e) (qy_pa g l e) r)) < nI i := by
        rw [qy_lt (by omega) (by omega)]
        have := hiff.mp h
        omega
      rw [if_neg m1, if_neg m2]
      simp only [Option.bind_some]
      rw [if_pos trivial, qz_nI1]
    · have m1 : nI (qv_tn g l e i) ≤ 0 := by
        rw [show (0 : Int32) = nI 0 from rfl, qy_le (by omega) (by omega)]
        omega
      have m2 : nI (qy_xf (qy_Lm g) (fun r => !qy_wt r && qy_on (nI l) (nI e) (qy_pa g l e) r)) < nI i := by
        rw [qy_lt (by omega) (by omega)]
        have := fun q => h (hiff.mpr q)
        omega
      rw [if_pos m1, if_pos m2]
      simp only [Option.bind_some]
      rw [if_pos trivial, qz_nI1]
  · intro n a _
    have n1 : (10 : Int32) ≤ nI 10 := by decide
    show gL_holds_L278 F f y112 y213 y3 y4 y5 y6 (nI l) (nI e) y10 _ K (n + 1) a (nI 10) = _
    rw [gL_holds_L278, if_pos n1]
    exact hK _ _
theorem qv_hP373 (hR : qy_Rel f 0 g) (hW : qy_Wf g B) (hF : 30 < F) {l e : Nat} (hl : l < 2) (he : e < qy_ec g) (R : Int32 → Int32 → Int32 → Int32 → Option Int32) (y112 y213 y3 y4 y5 y6 : Int32) :
    gL_holds_P373 F f y112 y213 R y3 y4 y5 y6 (nI l) (nI e) = R y3 y4 y5 (y6 + 1) := by
  unfold gL_holds_P373
  refine qy_bs (qv_count hR hW hF (a := 0) (by decide)) ?_
  refine qy_bs (qv_why1 (F := F) hR hl) ?_
  rw [if_pos rfl]
  obtain ⟨v, hv, hn⟩ := qv_why hR hW hF hl he
  refine qy_bs hv ?_
  rw [if_neg hn]
theorem qv_cvle (hW : qy_Wf g B) {l e : Nat} : qy_cv g (qy_Lm g) l e (qy_pa g l e) = 0 ∨ ∃ k, 1 ≤ k ∧ k ≤ qy_xf (qy_Lm g) (fun r => !qy_wt r && qy_on (nI l) (nI e) (qy_pa g l e) r) ∧ qy_cv g (qy_Lm g) l e (qy_pa g l e) = nI (20 + 2 * k) := by
  unfold qy_cv
  by_cases h : qy_xf (qy_Lm g) (qy_ri g (qy_Lm g) (nI l) (nI e) (qy_pa g l e) (qy_st g e (qy_pa g l e))) = 0
  · rw [if_pos h]
    exact Or.inl rfl
  · rw [if_neg h]
    refine Or.inr ⟨_, by omega, ?_, rfl⟩
    rcases (qy_xfx (qy_Lm g) (qy_ri g (qy_Lm g) (nI l) (nI e) (qy_pa g l e) (qy_st g e (qy_pa g l e)))).2 with h0 | ⟨r, hr, hp, e1⟩
    · exact absurd h0 h
    · rw [← e1]
      refine (qy_xfx (qy_Lm g) (fun r => !qy_wt r && qy_on (nI l) (nI e) (qy_pa g l e) r)).1 r hr ?_
      unfold qy_ri qy_ca at hp
      simp only [Bool.and_eq_true] at hp ⊢
      exact hp.1.1
theorem qv_hP264 (hR : qy_Rel f 0 g) (hW : qy_Wf g B) (hF : 30 < F) {l e : Nat} (hl : l < 2) (he : e < qy_ec g) (R : Int32 → Int32 → Int32 → Int32 → Option Int32) (y112 y213 y3 y4 y5 y6 : Int32) :
    gL_holds_P264 F f y112 y213 R y3 y4 y5 y6 (nI l) (nI e) (qv_bs g l e 5) (qv_bs g l e 4) = R y3 y4 y5 (y6 + 1) := by
  have hx9 := qv_xle hW (fun r => !qy_wt r && qy_on (nI l) (nI e) (qy_pa g l e) r)
  unfold gL_holds_P264
  refine qy_bs (qv_bus hR hW hF hl he (w := 2) (by decide)) ?_
  refine qv_hL278 hR hW hF hl he (fun a b => ?_) y112 y213 y3 y4 y5 y6 (qv_bs g l e 5)
  have e5 : qv_bs g l e 5 = qy_cv g (qy_Lm g) l e (qy_pa g l e) := rfl
  rw [e5]
  rcases qv_cvle hW (l := l) (e := e) with h | ⟨k, k1, k2, h⟩
  · rw [if_pos h]
    exact qv_hP373 hR hW hF hl he R y112 y213 y3 y4 y5 y6
  · rw [h]
    have m1 : ¬ nI (20 + 2 * k) = 0 := by
      rw [show (0 : Int32) = nI 0 from rfl, qy_eq (by omega) (by omega)]
      omega
    have m2 : ¬ nI (20 + 2 * k) < (22 : Int32) := by
      rw [show (22 : Int32) = nI 22 from rfl, qy_lt (by omega) (by omega)]
      omega
    have m3 : ¬ ((20 : Int32) + (2 : Int32) * nI (qy_xf (qy_Lm g) (fun r => !qy_wt r && qy_on (nI l) (nI e) (qy_pa g l e) r))) < nI (20 + 2 * k) := by
      rw [show (20 : Int32) = nI 20 from rfl, show (2 : Int32) = nI 2 from rfl, qy_mul, qy_add, qy_lt (by omega) (by omega)]
      omega
    have m4 : ¬ nI (20 + 2 * k) - nI (20 + 2 * k) / (2 : Int32) * (2 : Int32) = 1 := by
      rw [(qv_k2 (i := 20 + 2 * k) (by omega)).2, show (1 : Int32) = nI 1 from rfl, qy_eq (by omega) (by omega)]
      omega
    rw [if_neg m1, if_neg m2]
    rw [if_neg (show ¬ ((20 : Int32) + (2 : Int32) * qv_bs g l e 4) < nI (20 + 2 * k) from m3), if_neg m4]
    exact qv_hP373 hR hW hF hl he R y112 y213 y3 y4 y5 y6
theorem qv_hL67 (hR : qy_Rel f 0 g) (hW : qy_Wf g B) (hF : 30 < F) (y112 y213 : Int32) (K : Int32 → Int32 → Int32 → Int32 → Option Int32) :
    gL_holds_L67 F f y112 y213 K F 0 0 0 0 = K (nI ((qy_Lm g).countP (fun r => !qy_wt r))) (nI ((qy_Lm g).countP qy_wt)) (nI (qv_sm (fun k => if qy_pa g (k % 2) (k / 2) = -5 then 0 else 1) (2 * qy_ec g))) (nI (2 * qy_ec g)) := by
  have h10 := hW.2.1
  have hlt : ∀ r, r ∈ qy_Lm g → qv_bi g r < 2 * qy_ec g := fun r hr => qv_bilt hW (qv_mW hW hr)
  have hc0 : gX_count F f 0 = some (nI (qy_ec g)) := by rw [← hW.1]; exact qv_count hR hW hF (a := 0) (by decide)
  refine qy_lpE (fun n (a : Int32 × Int32 × Int32) y => gL_holds_L67 F f y112 y213 K n a.1 a.2.1 a.2.2 y) (2 * qy_ec g)
    (fun i a => a.1 = nI (qv_sm (fun k => (qy_Lm g).countP (fun r => decide (qv_bi g r = k) && !qy_wt r)) i) ∧ a.2.1 = nI (qv_sm (fun k => (qy_Lm g).countP (fun r => decide (qv_bi g r = k) && qy_wt r)) i) ∧
      a.2.2 = nI (qv_sm (fun k => if qy_pa g (k % 2) (k / 2) = -5 then 0 else 1) i))
    (fun b => b = K (nI ((qy_Lm g).countP (fun r => !qy_wt r))) (nI ((qy_Lm g).countP qy_wt)) (nI (qv_sm (fun k => if qy_pa g (k % 2) (k / 2) = -5 then 0 else 1) (2 * qy_ec g))) (nI (2 * qy_ec g))) ?_ ?_ F 0 (0, 0, 0) (by omega) (by omega) ⟨rfl, rfl, rfl⟩
  · intro n i a hi ha
    obtain ⟨p, q, s⟩ := a
    obtain ⟨h1, h2, h3⟩ := ha
    dsimp only at h1 h2 h3
    have hl : i % 2 < 2 := by omega
    have he : i / 2 < qy_ec g := by omega
    obtain ⟨q1, q2⟩ := qv_k2 (i := i) (by omega)
    have n1 : ¬ (2 : Int32) * nI (qy_ec g) ≤ nI i := by
      rw [show (2 : Int32) = nI 2 from rfl, qy_mul, qy_le (by omega) (by omega)]
      omega
    have b0 : gX_bus F f (nI (i % 2)) (nI (i / 2)) 0 = some (qv_bs g (i % 2) (i / 2) 0) := qv_bus hR hW hF (w := 0) hl he (by decide)
    have b1 : gX_bus F f (nI (i % 2)) (nI (i / 2)) 1 = some (qy_pa g (i % 2) (i / 2)) := qv_bus hR hW hF (w := 1) hl he (by decide)
    have b2 : gX_bus F f (nI (i % 2)) (nI (i / 2)) 2 = some (qv_bs g (i % 2) (i / 2) 2) := qv_bus hR hW hF (w := 2) hl he (by decide)
    have b3 : gX_bus F f (nI (i % 2)) (nI (i / 2)) 3 = some (qv_bs g (i % 2) (i / 2) 3) := qv_bus hR hW hF (w := 3) hl he (by decide)
    have b4 : gX_bus F f (nI (i % 2)) (nI (i / 2)) 4 = some (qv_bs g (i % 2) (i / 2) 4) := qv_bus hR hW hF (w := 4) hl he (by decide)
    have b5 : gX_bus F f (nI (i % 2)) (nI (i / 2)) 5 = some (qv_bs g (i % 2) (i / 2) 5) := qv_bus hR hW hF (w := 5) hl he (by decide)
    have t1 := qv_bisum hW (fun r => !qy_wt r) hl (show i / 2 < 10 by omega)
    have t2 := qv_bisum hW qy_wt hl (show i / 2 < 10 by omega)
    rw [show 2 * (i / 2) + i % 2 = i by omega] at t1 t2
    have j1 : ∀ w : Nat, (2 ≤ w ∧ w ≤ 3) → Option.bind (if qy_pa g (i % 2) (i / 2) = (-5 : Int32) then (some (1 : Int32)) else (if qy_pa g (i % 2) (i / 2) ≤ nI (i / 2) then (some (0 : Int32)) else (some (1 : Int32)))) some = some (if qv_aw g (i % 2) (i / 2) = true then 0 else 1) := by
      intro w _
      unfold qv_aw
      by_cases c : qy_pa g (i % 2) (i / 2) = -5
      · rw [if_pos c, decide_eq_true c]
        rfl
      · rw [if_neg c, decide_eq_false c]
        by_cases d : qy_pa g (i % 2) (i / 2) ≤ nI (i / 2)
        · rw [if_pos d, decide_eq_true d]
          rfl
        · rw [if_neg d, decide_eq_false d]
          rfl
    have j2 := j1 2 (by decide)
    have j3 : (if qy_pa g (i % 2) (i / 2) = (-5 : Int32) then (some (1 : Int32)) else (if qy_pa g (i % 2) (i / 2) ≤ nI (i / 2) then (some (0 : Int32)) else (some (1 : Int32)))) = some (if qv_aw g (i % 2) (i / 2) = true then 0 else 1) := by
      rw [← j2]
      cases (if qy_pa g (i % 2) (i / 2) = (-5 : Int32) then (some (1 : Int32)) else (if qy_pa g (i % 2) (i / 2) ≤ nI (i / 2) then (some (0 : Int32)) else (some (1 : Int32)))) <;> rfl
    have r1 : (if (if qv_aw g (i % 2) (i / 2) = true then (0 : Int32) else 1) = 0 then (some (0 : Int32)) else (Option.bind (gX_bus F f (nI (i % 2)) (nI (i / 2)) 2) fun x89 => some x89)) = some (nI ((qy_Lm g).countP (fun r => decide (qv_bi g r = i) && !qy_wt r))) := by
      rw [b2, ← t1]
      cases qv_aw g (i % 2) (i / 2)
      · rw [if_neg Bool.false_ne_true, if_neg Bool.false_ne_true, if_neg (by decide)]
        rfl
      · rw [if_pos rfl, if_pos rfl, if_pos rfl]
        rfl
    have r2 : (if (if qv_aw g (i % 2) (i / 2) = true then (0 : Int32) else 1) = 0 then (some (0 : Int32)) else (Option.bind (gX_bus F f (nI (i % 2)) (nI (i / 2)) 3) fun x85 => some x85)) = some (nI ((qy_Lm g).countP (fun r => decide (qv_bi g r = i) && qy_wt r))) := by
      rw [b3, ← t2]
      cases qv_aw g (i % 2) (i / 2)
      · rw [if_neg Bool.false_ne_true, if_neg Bool.false_ne_true, if_neg (by decide)]
        rfl
      · rw [if_pos rfl, if_pos rfl, if_pos rfl]
        rfl
    have r3 : (if qy_pa g (i % 2) (i / 2) = (-5 : Int32) then (some (0 : Int32)) else (some (1 : Int32))) = some (nI (if qy_pa g (i % 2) (i / 2) = -5 then 0 else 1)) := by
      by_cases c : qy_pa g (i % 2) (i / 2) = -5
      · rw [if_pos c, if_pos c]
        rfl
      · rw [if_neg c, if_neg c]
        rfl
    refine Or.inl ⟨(p + nI ((qy_Lm g).countP (fun r => decide (qv_bi g r = i) && !qy_wt r)), q + nI ((qy_Lm g).countP (fun r => decide (qv_bi g r = i) && qy_wt r)), s + nI (if qy_pa g (i % 2) (i / 2) = -5 then 0 else 1)), ?_, ?_, ?_, ?_⟩
    · show gL_holds_L67 F f y112 y213 K (n + 1) p q s (nI i) = gL_holds_L67 F f y112 y213 K n _ _ _ (nI (i + 1))
      rw [gL_holds_L67, q2, q1]
      refine qy_bs hc0 ?_
      rw [if_neg n1]
      refine qy_bs b1 ?_
      refine qy_bs b5 ?_
      refine qy_bs b4 ?_
      refine qy_bs j3 ?_
      refine qy_bs r1 ?_
      refine qy_bs r2 ?_
      refine qy_bs r3 ?_
      rcases qy_pac hW hl (show i / 2 < 10 by omega) with ⟨h5, _⟩ | ⟨o, ho, _, hne, o1, o2, _, h5⟩
      · rw [if_pos h5, qv_hP264 hR hW hF hl he, qz_nI1]
      · rw [if_neg h5, o1]
        have d1 : gX_bus F f (nI (i % 2)) (nI o) 1 = some (nI (i / 2)) := by
          rw [← o2]
          exact qv_bus hR hW hF (w := 1) hl ho (by decide)
        have d0 : gX_bus F f (nI (i % 2)) (nI o) 0 = some (qv_bs g (i % 2) (i / 2) 0) := by
          rw [show qv_bs g (i % 2) (i / 2) 0 = qv_bs g (i % 2) o 0 by
            show qy_st g (i / 2) (qy_pa g (i % 2) (i / 2)) = qy_st g o (qy_pa g (i % 2) o)
            rw [o1, o2]
            exact qy_stsym hW he ho]
          exact qv_bus hR hW hF (w := 0) hl ho (by decide)
        have d5 : gX_bus F f (nI (i % 2)) (nI o) 5 = some (qv_bs g (i % 2) (i / 2) 5) := by
          rw [show qv_bs g (i % 2) (i / 2) 5 = qv_bs g (i % 2) o 5 by
            show qy_cv g (qy_Lm g) (i % 2) (i / 2) (qy_pa g (i % 2) (i / 2)) = qy_cv g (qy_Lm g) (i % 2) o (qy_pa g (i % 2) o)
            rw [o1, o2]
            unfold qy_cv
            rw [qy_stsym hW he ho, show qy_ri g (qy_Lm g) (nI (i % 2)) (nI (i / 2)) (nI o) (qy_st g o (nI (i / 2))) = qy_ri g (qy_Lm g) (nI (i % 2)) (nI o) (nI (i / 2)) (qy_st g o (nI (i / 2))) from funext (fun r => qy_risym _ _ _ _ r)]]
          exact qv_bus hR hW hF (w := 5) hl ho (by decide)
        refine qy_bs d1 ?_
        rw [if_pos rfl]
        refine qy_bs d0 ?_
        refine qy_bs b0 ?_
        rw [if_pos rfl]
        refine qy_bs d5 ?_
        rw [if_pos rfl, qv_hP264 hR hW hF hl he, qz_nI1]
    · show p + _ = nI (qv_sm _ i + _)
      rw [h1, qy_add]
    · show q + _ = nI (qv_sm _ i + _)
      rw [h2, qy_add]
    · show s + _ = nI (qv_sm _ i + _)
      rw [h3, qy_add]
  · intro n a ha
    obtain ⟨p, q, s⟩ := a
    obtain ⟨h1, h2, h3⟩ := ha
    dsimp only at h1 h2 h3
    have n1 : (2 : Int32) * nI (qy_ec g) ≤ nI (2 * qy_ec g) := by
      rw [show (2 : Int32) = nI 2 from rfl, qy_mul]
      exact Int32.le_refl _
    show gL_holds_L67 F f y112 y213 K (n + 1) p q s (nI (2 * qy_ec g)) = _
    rw [gL_holds_L67]
    refine qy_bs hc0 ?_
    rw [if_pos n1, h1, h2, h3, qv_smK _ _ _ _ hlt, qv_smK _ _ _ _ hlt]
theorem qv_holds (hR : qy_Rel f 0 g) (hW : qy_Wf g B) (hF : 30 < F) (hB : B < F) : gL_holds F f = some 1 := by
  obtain ⟨x, hx, h5⟩ := hW.2.2.2.2.1
  have h30 := hW.2.2.2.1
  have c1 : gX_count F f 1 = some (nI (qy_n g)) := by rw [← hW.2.2.1]; exact qv_count hR hW hF (a := 1) (by decide)
  have c2 : gX_count F f 2 = some (g 6 - nI ((qy_Lm g).countP qy_wt)) := qv_count hR hW hF (a := 2) (by decide)
  have c3 : gX_count F f 3 = some (nI ((qy_Lm g).countP qy_wt)) := qv_count hR hW hF (a := 3) (by decide)
  have c4 : gX_count F f 4 = some (nI ((List.range 20).countP (fun i => !decide (qy_pc (g (23 + i)) = -5))) / 2) := qv_count hR hW hF (a := 4) (by decide)
  have hlen : (qy_Lm g).length = qy_n g := by
    unfold qy_Lm
    rw [List.length_map, List.length_range]
  have hs := List.length_eq_countP_add_countP qy_wt (l := qy_Lm g)
  rw [hlen] at hs
  have hs' : (qy_Lm g).countP (fun r => !qy_wt r) = qy_n g - (qy_Lm g).countP qy_wt := by
    have : (qy_Lm g).countP (fun r => !qy_wt r) = (qy_Lm g).countP (fun a => decide ¬qy_wt a = true) := by
      refine List.countP_congr (fun r _ => ?_)
      cases qy_wt r <;> simp
    omega
  unfold gL_holds
  rw [qv_hL6 hR hW hF hB _ hx h5, qv_hL67 hR hW hF]
  refine qy_bs c1 ?_
  rw [if_pos rfl]
  refine qy_bs c2 ?_
  rw [if_pos (by rw [hW.2.2.1, qy_sub (by omega), hs'])]
  refine qy_bs c3 ?_
  rw [if_pos (by rw [qy_sub (by omega)]; congr 1; omega), if_pos rfl]
  refine qy_bs c3 ?_
  rw [if_pos rfl]
  refine qy_bs c4 ?_
  rw [if_pos (qv_pairs hW)]
  refine qy_bs c1 ?_
  rw [if_neg]
  rw [show (30 : Int32) = nI 30 from rfl, qy_lt (by omega) (by omega)]
  omega
end QVH
