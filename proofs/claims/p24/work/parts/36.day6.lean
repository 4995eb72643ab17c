/-! what a state's likeness rests on; a day of both -/
theorem qy_fmL {α : Type} (u : (Nat → Int32) → (Nat → Int32)) (a b : α → (Nat → Int32)) : ∀ (L : List α), (∀ i, i ∈ L → qy_lv (b i) = qy_lv (a i)) → (∀ i, i ∈ L → qy_lv (a i) = true → b i = u (a i)) → (L.map b).filter qy_lv = ((L.map a).filter qy_lv).map u := by
  intro L
  induction L with
  | nil => intro _ _; rfl
  | cons x L ih =>
    intro h h2
    have ih' := ih (fun i hi => h i (List.mem_cons_of_mem x hi)) (fun i hi => h2 i (List.mem_cons_of_mem x hi))
    have h0 := h x List.mem_cons_self
    have h1 := h2 x List.mem_cons_self
    simp only [List.map_cons, List.filter_cons, h0]
    cases hl : qy_lv (a x)
    · simp only [Bool.false_eq_true, if_false]
      exact ih'
    · simp only [if_true, List.map_cons, h1 hl, ih']
theorem qy_kn {k k' w w' i i' : Nat} (h : k ≠ k') : ¬ ((k, w, i) : qz_N) = (k', w', i') := fun q => h (congrArg Prod.fst q)
/-- two states of works say the same -/
def qy_cw (f : qz_F) (w : Nat) (f' : qz_F) (w' : Nat) : Prop :=
  (∀ i j, i < 30 → j < 8 → f' (0, w', i) j = f (0, w, i) j) ∧ (∀ j, j < 12 → j = 0 ∨ 5 ≤ j → f' (4, w', 0) j = f (4, w, 0) j) ∧
  (∀ j, j < 10 → f' (10, w', 0) j = f (10, w, 0) j) ∧ (∀ j, j < 20 → f' (11, w', 0) j = f (11, w, 0) j) ∧ (∀ j, j < 4 → f' (12, w', 0) j = f (12, w, 0) j)
section QYP
variable {F B w w' : Nat} {f f' : qz_F} {g g' : Nat → Int32}
theorem qy_nC (h : ∀ c, c < 43 → g' c = g c) : qy_n g' = qy_n g ∧ qy_ec g' = qy_ec g := by
  unfold qy_n qy_ec
  rw [h 6 (by decide), h 4 (by decide)]
  exact ⟨rfl, rfl⟩
theorem qy_rmC (h : ∀ c, c < 283 → g' c = g c) {k : Nat} (hk : k < 30) : qy_rm g' k = qy_rm g k := by
  funext c
  unfold qy_rm
  by_cases hc : c < 8
  · rw [if_pos hc, if_pos hc, h _ (by omega)]
  · rw [if_neg hc, if_neg hc]
theorem qy_LmC (h : ∀ c, c < 283 → g' c = g c) (hn : qy_n g ≤ 30) : qy_Lm g' = qy_Lm g := by
  unfold qy_Lm
  rw [(qy_nC (fun c hc => h c (by omega))).1]
  refine List.map_congr_left (fun k hk => qy_rmC h ?_)
  have := List.mem_range.mp hk
  omega
theorem qy_rcC (h : qy_cw f w f' w') {i : Nat} (hi : i < 30) : qy_rc f' w' i = qy_rc f w i := by
  funext c
  unfold qy_rc
  by_cases hc : c < 8
  · rw [if_pos hc, if_pos hc, h.1 i c hi hc]
  · rw [if_neg hc, if_neg hc]
theorem qy_LcC (h : qy_cw f w f' w') : qy_Lc f' w' = qy_Lc f w := by
  unfold qy_Lc
  congr 1
  exact List.map_congr_left (fun i hi => qy_rcC h (List.mem_range.mp hi))
theorem qy_RelF (hf : qy_cw f w f' w') (h : qy_Rel f w g) : qy_Rel f' w' g := by
  obtain ⟨h1, h2, h3, h4, h5, h6, h7, h8, h9⟩ := h
  unfold qy_Rel
  rw [qy_LcC hf]
  obtain ⟨k0, k4, k10, k11, k12⟩ := hf
  refine ⟨?_, ?_, ?_, ?_, ?_, ?_, h7, ?_, ?_⟩
  · rw [k4 0 (by decide) (Or.inl rfl)]; exact h1
  · rw [k4 5 (by decide) (Or.inr (by decide))]; exact h2
  · intro c hc
    rw [k4 (6 + c) (by omega) (Or.inr (by omega))]; exact h3 c hc
  · intro i hi
    rw [k10 i hi]; exact h4 i hi
  · intro i hi
    rw [k11 i hi]; exact h5 i hi
  · intro i hi
    rw [k12 i hi]; exact h6 i hi
  · intro i hi
    rw [k0 i 4 hi (by decide)]; exact h8 i hi
  · intro i hi h0 c hc
    rw [k0 i 0 hi (by decide)] at h0
    rw [k0 i _ hi (by omega)]
    exact h9 i hi h0 c hc
theorem qy_RelG (hg : ∀ c, c < 283 → g' c = g c) (hn : qy_n g ≤ 30) (h : qy_Rel f w g) : qy_Rel f w g' := by
  obtain ⟨h1, h2, h3, h4, h5, h6, h7, h8, h9⟩ := h
  unfold qy_Rel
  rw [qy_LmC hg hn]
  refine ⟨?_, ?_, ?_, ?_, ?_, ?_, h7, h8, h9⟩
  · rw [hg 4 (by decide)]; exact h1
  · rw [hg 5 (by decide)]; exact h2
  · intro c hc
    rw [hg (7 + c) (by omega)]; exact h3 c hc
  · intro i hi
    rw [hg _ (by omega)]; exact h4 i hi
  · intro i hi
    rw [hg _ (by omega)]; exact h5 i hi
  · intro i hi
    rw [hg _ (by omega)]; exact h6 i hi
theorem qy_WrD (h4 : qy_ec g' = qy_ec g) (h5 : g' 5 = g 5) {r : Nat → Int32} (h : qy_Wr g B r) : qy_Wr g' B r := by
  unfold qy_Wr
  rw [h4, h5]
  exact h
theorem qy_WfC (hg : ∀ c, c < 283 → ¬ (7 ≤ c ∧ c ≤ 12) → g' c = g c) (h : qy_Wf g B) : qy_Wf g' B := by
  obtain ⟨h1, h2, h3, h4, h5, h6, h7, h8, h9, h10, h11⟩ := h
  have hn : qy_n g' = qy_n g := by unfold qy_n; rw [hg 6 (by decide) (by decide)]
  have hec : qy_ec g' = qy_ec g := by unfold qy_ec; rw [hg 4 (by decide) (by decide)]
  have hrm : ∀ k, k < qy_n g → qy_rm g' k = qy_rm g k := by
    intro k hk
    funext c
    unfold qy_rm
    by_cases hc : c < 8
    · rw [if_pos hc, if_pos hc, hg _ (by omega) (by omega)]
    · rw [if_neg hc, if_neg hc]
  unfold qy_Wf
  rw [hn, hec, hg 4 (by decide) (by decide), hg 6 (by decide) (by decide), hg 5 (by decide) (by decide), hg 1 (by decide) (by decide)]
  refine ⟨h1, h2, h3, h4, h5, h6, ?_, ?_, ?_, ?_, h11⟩
  · intro i hi
    rw [hg _ (by omega) (by omega)]; exact h7 i hi
  · intro l e hl he
    rw [hg _ (by omega) (by omega)]
    rcases h8 l e hl he with h' | ⟨o, ho, a, b, c, d⟩
    · exact Or.inl h'
    · exact Or.inr ⟨o, ho, a, b, c, by rw [hg _ (by omega) (by omega)]; exact d⟩
  · intro k hk
    rw [hrm k hk]
    exact qy_WrD hec (hg 5 (by decide) (by decide)) (h9 k hk)
  · intro i k hik hk
    rw [hrm i (by omega), hrm k hk]
    exact h10 i k hik hk
theorem qy_WfB {B' : Nat} (hB : B ≤ B') (h6 : B' ≤ 60000) (h : qy_Wf g B) : qy_Wf g B' := by
  obtain ⟨h1, h2, h3, h4, ⟨x, hx, h5⟩, h6, h7, h8, h9, h10, h11⟩ := h
  refine ⟨h1, h2, h3, h4, ⟨x, by omega, h5⟩, h6, h7, h8, ?_, h10, by omega⟩
  intro k hk
  obtain ⟨⟨N, hN, e1, e2⟩, a⟩ := h9 k hk
  exact ⟨⟨N, by omega, e1, e2⟩, a⟩
theorem qy_daysum (hR : qy_Rel f 0 g) (w : (Nat → Int32) → List (Nat → Int32) → (Nat → Int32) → Int32) (hw : ∀ L L' r, L.Perm L' → w g L r = w g L' r) :
    qy_sr 30 (fun k => if qy_lv (qy_rc f 0 k) = true then w g (qy_Lc f 0) (qy_rc f 0 k) else 0) = qy_sr (qy_n g) (fun k => w g (qy_Lm g) (qy_rm g k)) := by
  have hp := hR.2.2.2.2.2.2.1
  rw [← qy_smLc, ← qy_smLm, qy_smp hp]
  exact qy_smc (fun r _ => hw _ _ r hp)
theorem qy_w7p : ∀ L L' r, L.Perm L' → qy_w7 g L r = qy_w7 g L' r := fun L L' r h => by unfold qy_w7; rw [qy_drp h]
theorem qy_w8p : ∀ L L' r, L.Perm L' → qy_w8 g L r = qy_w8 g L' r := fun L L' r h => by unfold qy_w8; rw [qy_drp h]
theorem qy_w11p : ∀ L L' r, L.Perm L' → qy_w11 g L r = qy_w11 g L' r := fun L L' r h => by unfold qy_w11; rw [qy_drp h]
theorem qy_udp {L L' : List (Nat → Int32)} (h : L.Perm L') (r : Nat → Int32) : qy_ud g L r = qy_ud g L' r := by
  funext c
  unfold qy_ud
  rw [qy_drp h]
theorem qy_ud0 {L : List (Nat → Int32)} {r : Nat → Int32} {c : Nat} (h : c < 5) : qy_ud g L r c = r c := by
  unfold qy_ud
  rw [if_neg (by omega)]
theorem qy_srT (n : Nat) (t : Nat → Int32) : qy_sr n (fun k => if (fun _ : Nat => true) k = true then t k else 0) = qy_sr n t := qy_src (fun _ _ => if_pos rfl)
theorem qy_srN (n : Nat) (t : Nat → Int32) : qy_sr n (fun k => if (fun j : Nat => decide (j < n)) k = true then t k else 0) = qy_sr n t := qy_src (fun _ h => if_pos (decide_eq_true h))
/-- a day of the class, behind its record, and the likeness behind it -/
theorem qy_dayC {S : qz_S} (hR : qy_Rel S.1 0 g) (hW : qy_Wf g B) (hF : 30 < F) :
    ∃ S', (Option.bind (gW_runBuses F S) fun R3 => Option.bind (gW_bringHome F R3) fun R5 => qz_let (qz_wr R5 ((4, 0, 0) : qz_N) 6 ((R5.1 ((4, 0, 0) : qz_N) 6) + (1 : Int32))) fun S7 => some (((S7.1 ((4, 0, 0) : qz_N) 8) - (S.1 ((4, 0, 0) : qz_N) 8)), S7)) =
      some (qy_sr (qy_n g) (fun k => qy_w8 g (qy_Lm g) (qy_rm g k)), S') ∧ S'.2 = S.2 ∧ (∀ n j, ¬ (n.1 = 0 ∧ n.2.1 = 0) → ¬ n = (4, 0, 0) → S'.1 n j = S.1 n j) ∧
      ∀ T G, qm_PD g T (fun _ => true) (fun j => decide (j < qy_n g)) (qy_sr (2 * qy_ec g) (fun k => qy_tb g (qy_Lm g) (k % 2) (k / 2))) → G 7 = T 7 + 1 → (∀ j, j ≠ 7 → G j = T j) → qy_Rel S'.1 0 G := by
  obtain ⟨f1, r1, r2, r3⟩ := qy_runBuses (F := F) hR hW hF
  obtain ⟨T1, t0, t1⟩ := qy_bring (F := F) (S := (f1, S.2)) (f := S.1) hR hW hF (fun n j h => r2 n j (fun q => h ⟨q.1, by omega⟩))
  obtain ⟨b1, b2, b3, b4, b5, b6, b7, b8, b9⟩ := t1
  simp only at b1 b4 b5 b6 b7 b8 b9
  have hp := hR.2.2.2.2.2.2.1
  rw [qy_daysum hR (fun g L r => qy_w7 g L r) qy_w7p] at b6
  rw [qy_daysum hR (fun g L r => qy_w8 g L r) qy_w8p] at b7
  rw [qy_daysum hR (fun g L r => qy_w9 r) (fun _ _ _ _ => rfl)] at b8
  rw [qy_daysum hR (fun g L r => qy_w11 g L r) qy_w11p] at b9
  have e : ∀ j, ¬ j = 10 → f1 (4, 0, 0) j = S.1 (4, 0, 0) j := fun j hj => r2 _ _ (fun q => hj q.2)
  rw [e 7 (by decide)] at b6
  rw [e 8 (by decide)] at b7
  rw [e 9 (by decide)] at b8
  rw [e 11 (by decide)] at b9
  rw [e 6 (by decide)] at b4
  rw [r3] at b5
  rw [r1]
  simp only [Option.bind_some]
  rw [t0]
  simp only [Option.bind_some, qz_let]
  have hv : ((qz_wr T1 (4, 0, 0) 6 (T1.1 (4, 0, 0) 6 + 1)).1 (4, 0, 0) 8 - S.1 (4, 0, 0) 8) = qy_sr (qy_n g) (fun k => qy_w8 g (qy_Lm g) (qy_rm g k)) := by
    rw [wr_ne (fun q => absurd q.2 (by decide)), b7]
    grind
  refine ⟨qz_wr T1 (4, 0, 0) 6 (T1.1 (4, 0, 0) 6 + 1), by rw [hv], b1, ?_, ?_⟩
  · intro n j h0 h4
    rw [wr_ne (fun q => h4 q.1)]
    exact b2 n j (fun q => h0 ⟨q.1, q.2.1⟩) (fun q => h4 q.1)
  · intro T G hPD hG7 hG
    obtain ⟨p1, p2, p7, p8, p9, p10, p11, p12⟩ := hPD
    rw [qy_srT] at p8 p9 p12
    rw [qy_srN] at p10
    obtain ⟨h1, h2, h3, h4, h5, h6, h7, h8, h9⟩ := hR
    have hGlo : ∀ j, j < 43 → ¬ (7 ≤ j ∧ j ≤ 12) → G j = g j := fun j hj hn => (hG j (by omega)).trans (p1 j hn (by omega))
    have hS' : ∀ n j, ¬ (n = (4, 0, 0) ∧ j = 6) → (qz_wr T1 (4, 0, 0) 6 (T1.1 (4, 0, 0) 6 + 1)).1 n j = T1.1 n j := fun n j h => wr_ne h
    have hrec : ∀ i c, i < 30 → c < 8 → (qz_wr T1 (4, 0, 0) 6 (T1.1 (4, 0, 0) 6 + 1)).1 (0, 0, i) c = if qy_lv (qy_rc S.1 0 i) = true then qy_ud g (qy_Lc S.1 0) (qy_rc S.1 0 i) c else S.1 (0, 0, i) c := by
      intro i c hi hc
      rw [hS' _ _ (fun q => qy_kn (by decide) q.1), b3 i c hi hc]
      simp only [hi, true_and]
    generalize hS2 : qz_wr T1 (4, 0, 0) 6 (T1.1 (4, 0, 0) 6 + 1) = S2 at *
    have hn : qy_n G = qy_n g := by unfold qy_n; rw [hGlo 6 (by decide) (by decide)]
    have hLm : qy_Lm G = (qy_Lm g).map (qy_ud g (qy_Lm g)) := by
      unfold qy_Lm
      rw [hn, List.map_map]
      refine List.map_congr_left (fun k hk => ?_)
      have hk := List.mem_range.mp hk
      obtain ⟨q5, q6, q7⟩ := p2 k hk
      funext c
      show qy_rm G k c = qy_ud g (qy_Lm g) (qy_rm g k) c
      by_cases hc : c < 8
      · have e1 : qy_rm G k c = T (43 + 8 * k + c) := by
          unfold qy_rm
          rw [if_pos hc, hG _ (by omega)]
        have e2 : qy_rm g k c = g (43 + 8 * k + c) := by
          unfold qy_rm
          rw [if_pos hc]
        rw [e1]
        by_cases hc5 : c < 5
        · rw [qy_ud0 hc5, e2]
          exact p1 _ (by omega) (by omega)
        · have hcc : c = 5 ∨ c = 6 ∨ c = 7 := by omega
          unfold qy_ud
          rcases hcc with rfl | rfl | rfl
          · rw [q5, e2]
            unfold qy_w7
            cases qy_wt (qy_rm g k) <;> cases qy_dr g (qy_Lm g) (qy_rm g k) <;> simp
          · rw [q6, e2]
            unfold qy_w8
            cases qy_wt (qy_rm g k) <;> cases qy_dr g (qy_Lm g) (qy_rm g k) <;> simp
          · rw [q7, e2]
            unfold qy_w9
            cases qy_wt (qy_rm g k) <;> simp [hk]
      · have e1 : qy_rm G k c = 0 := if_neg hc
        have e2 : qy_rm g k c = 0 := if_neg hc
        unfold qy_ud
        rw [e1, e2, if_neg (by omega)]
    have hLc : qy_Lc S2.1 0 = (qy_Lc S.1 0).map (qy_ud g (qy_Lc S.1 0)) := by
      refine qy_fmL (qy_ud g (qy_Lc S.1 0)) (qy_rc S.1 0) (qy_rc S2.1 0) (List.range 30) (fun i hi => ?_) (fun i hi hl => ?_)
      · have hi := List.mem_range.mp hi
        unfold qy_lv
        have e1 : qy_rc S2.1 0 i 0 = qy_rc S.1 0 i 0 := by
          show S2.1 (0, 0, i) 0 = _
          rw [hrec i 0 hi (by decide), qy_ud0 (by decide)]
          split <;> rfl
        rw [e1]
      · have hi := List.mem_range.mp hi
        funext c
        by_cases hc : c < 8
        · have e1 : qy_rc S2.1 0 i c = S2.1 (0, 0, i) c := if_pos hc
          rw [e1, hrec i c hi hc, if_pos hl]
        · have e1 : qy_rc S2.1 0 i c = 0 := if_neg hc
          have e2 : qy_rc S.1 0 i c = 0 := if_neg hc
          unfold qy_ud
          rw [e1, e2, if_neg (by omega)]
    have hfr : ∀ n j, n.1 ≠ 0 → n ≠ (4, 0, 0) → S2.1 n j = S.1 n j := by
      intro n j h0 h4
      rw [hS' n j (fun q => h4 q.1)]
      rw [b2 n j (fun q => h0 q.1) (fun q => h4 q.1)]
    have h4lo : ∀ j, j < 6 → S2.1 (4, 0, 0) j = S.1 (4, 0, 0) j := by
      intro j hj
      rw [hS' _ _ (fun q => absurd q.2 (by omega)), b2 _ _ (fun q => absurd q.1 (by decide)) (fun q => absurd q.2 (by omega))]
    refine ⟨?_, ?_, ?_, ?_, ?_, ?_, ?_, ?_, ?_⟩
    · rw [h4lo 0 (by decide), hGlo 4 (by decide) (by decide)]; exact h1
    · rw [h4lo 5 (by decide), hGlo 5 (by decide) (by decide)]; exact h2
    · intro c hc
      have hcc : c = 0 ∨ c = 1 ∨ c = 2 ∨ c = 3 ∨ c = 4 ∨ c = 5 := by omega
      have k := h3 c hc
      rcases hcc with rfl | rfl | rfl | rfl | rfl | rfl
      · have : S2.1 (4, 0, 0) 6 = T1.1 (4, 0, 0) 6 + 1 := by rw [← hS2]; exact wr_eq
        show S2.1 (4, 0, 0) 6 = G 7
        rw [this, b4, hG7, p7]
        exact congrArg (· + 1) k
      · show S2.1 (4, 0, 0) 7 = G 8
        rw [hS' _ _ (fun q => absurd q.2 (by decide)), b6, hG 8 (by decide), p8]
        exact congrArg (· + _) k
      · show S2.1 (4, 0, 0) 8 = G 9
        rw [hS' _ _ (fun q => absurd q.2 (by decide)), b7, hG 9 (by decide), p9]
        exact congrArg (· + _) k
      · show S2.1 (4, 0, 0) 9 = G 10
        rw [hS' _ _ (fun q => absurd q.2 (by decide)), b8, hG 10 (by decide), p10]
        exact congrArg (· + _) k
      · show S2.1 (4, 0, 0) 10 = G 11
        rw [hS' _ _ (fun q => absurd q.2 (by decide)), b5, hG 11 (by decide), p11]
        rw [qy_sr2 (fun l e => qy_tb g (qy_Lm g) l e)]
        have e0 : ∀ l, qy_sr (qy_ec g) (qy_tb g (qy_Lc S.1 0) l) = qy_sr (qy_ec g) (qy_tb g (qy_Lm g) l) := fun l => qy_src (fun j _ => qy_tbp hp l j)
        rw [e0, e0]
        exact congrArg (· + _) k
      · show S2.1 (4, 0, 0) 11 = G 12
        rw [hS' _ _ (fun q => absurd q.2 (by decide)), b9, hG 12 (by decide), p12]
        exact congrArg (· + _) k
    · intro i hi
      rw [hfr _ _ (by decide) (by decide), hGlo _ (by omega) (by omega)]; exact h4 i hi
    · intro i hi
      rw [hfr _ _ (by decide) (by decide), hGlo _ (by omega) (by omega)]; exact h5 i hi
    · intro i hi
      rw [hfr _ _ (by decide) (by decide), hGlo _ (by omega) (by omega)]; exact h6 i hi
    · rw [hLc, hLm]
      have : (qy_Lc S.1 0).map (qy_ud g (qy_Lc S.1 0)) = (qy_Lc S.1 0).map (qy_ud g (qy_Lm g)) := List.map_congr_left (fun r _ => qy_udp hp r)
      rw [this]
      exact hp.map _
    · intro i hi
      rw [hrec i 4 hi (by decide), qy_ud0 (by decide)]
      have e1 : qy_rc S.1 0 i 4 = S.1 (0, 0, i) 4 := rfl
      rw [e1]
      split <;> exact h8 i hi
    · intro i hi h0 c hc
      rw [hrec i 0 hi (by decide), qy_ud0 (by decide)] at h0
      have e1 : qy_rc S.1 0 i 0 = S.1 (0, 0, i) 0 := rfl
      rw [e1] at h0
      have h0' : S.1 (0, 0, i) 0 = -1 := by
        split at h0 <;> exact h0
      have hl : ¬ qy_lv (qy_rc S.1 0 i) = true := by
        unfold qy_lv
        rw [e1, h0']
        decide
      rw [hrec i _ hi (by omega), if_neg hl]
      exact h9 i hi h0' c hc
end QYP
