/-! a day: the reference goes -/
section QYN
variable {F B : Nat} {g : Nat → Int32}
/-- what a mutating query of the reference may change besides its state -/
def qm_fs (f f' : qz_F) : Prop := ∀ n j, ¬ n = (17, 0, 0) → ¬ n = (21, 0, 0) → ¬ n = (22, 0, 0) → ¬ (n = (6, 0, 0) ∧ (j = 0 ∨ j = 10)) → f' n j = f n j
theorem qm_fs_trans {f f' f'' : qz_F} (h : qm_fs f f') (h' : qm_fs f' f'') : qm_fs f f'' := fun n j a b c d => (h' n j a b c d).trans (h n j a b c d)
theorem qm_fs_refl (f : qz_F) : qm_fs f f := fun _ _ _ _ _ _ => rfl
theorem qm_fs_fr {f f' : qz_F} (h : qm_fr f f') : qm_fs f f' := fun n j _ b c d => h n j b c d
theorem qm_isAway {f : qz_F} (hW : qy_Wf (f (17, 0, 0)) B) {l e : Nat} (hl : l < 2) (he : e < 10) : gM_isAway F f (nI l) (nI e) = some (if qy_aw (f (17, 0, 0)) l e = true then 1 else 0) := by
  have h10 := hW.2.1
  unfold gM_isAway
  refine qy_bs (qm_partner hl he) ?_
  rcases qy_pac hW hl he with ⟨h5, _⟩ | ⟨o, ho, _, hne, b1, b2, _, h5⟩
  · rw [if_pos h5]
    unfold qy_aw
    rw [h5]
    simp
  · rw [if_neg h5, b1]
    refine qy_bs (qm_minute (by omega)) ?_
    refine qy_bs (qm_minute he) ?_
    have hm1 := qy_mmE hW (show o < 10 by omega)
    have hm2 := qy_mmE hW he
    rw [qy_awN hW he (by omega) b1, qy_erE, hm1.1, hm2.1]
    simp only [qy_lt (show qy_mm (f (17, 0, 0)) e < 2147483648 by omega) (show qy_mm (f (17, 0, 0)) o < 2147483648 by omega), decide_eq_true_eq]
    by_cases h1 : qy_mm (f (17, 0, 0)) e < qy_mm (f (17, 0, 0)) o
    · rw [if_pos h1, if_pos (Or.inl h1)]
    · rw [if_neg h1, qm_minute (show o < 10 by omega), qm_minute he, hm1.1, hm2.1]
      simp only [Option.bind_some, qy_eq (show qy_mm (f (17, 0, 0)) o < 2147483648 by omega) (show qy_mm (f (17, 0, 0)) e < 2147483648 by omega), qy_le (show o < 2147483648 by omega) (show e < 2147483648 by omega)]
      by_cases h2 : qy_mm (f (17, 0, 0)) o = qy_mm (f (17, 0, 0)) e
      · rw [if_pos h2]
        by_cases h3 : o ≤ e
        · rw [if_pos h3, if_neg (by omega)]
        · rw [if_neg h3, if_pos (by omega)]
      · rw [if_neg h2, if_neg (by omega)]
theorem qm_wr17 {S : qz_S} {j j' : Nat} {x : Int32} (h : j' ≠ j) : (qz_wr S (17, 0, 0) j x).1 (17, 0, 0) j' = S.1 (17, 0, 0) j' := wr_ne (fun q => h q.2)
theorem qm_D11 {D W : Nat → Bool} {S : qz_S} {c11 x : Int32} (h : qm_PD g (S.1 (17, 0, 0)) D W c11) : qm_PD g ((qz_wr S (17, 0, 0) 11 (S.1 (17, 0, 0) 11 + x)).1 (17, 0, 0)) D W (c11 + x) := by
  obtain ⟨p1, p2, p7, p8, p9, p10, p11, p12⟩ := h
  refine ⟨?_, ?_, ?_, ?_, ?_, ?_, ?_, ?_⟩
  · intro j b1 b2
    rw [qm_wr17 (by omega)]
    exact p1 j b1 b2
  · intro k hk
    rw [qm_wr17 (by omega), qm_wr17 (by omega), qm_wr17 (by omega)]
    exact p2 k hk
  · rw [qm_wr17 (by decide)]; exact p7
  · rw [qm_wr17 (by decide)]; exact p8
  · rw [qm_wr17 (by decide)]; exact p9
  · rw [qm_wr17 (by decide)]; exact p10
  · rw [wr_eq, p11, Int32.add_assoc]
  · rw [qm_wr17 (by decide)]; exact p12
theorem qm_PDc {T : Nat → Int32} {D D' W : Nat → Bool} {c11 : Int32} (h : qm_PD g T D W c11) (hD : ∀ k, k < qy_n g → qy_wt (qy_rm g k) = false → D k = D' k) : qm_PD g T D' W c11 := by
  obtain ⟨p1, p2, p7, p8, p9, p10, p11, p12⟩ := h
  have hw : ∀ k, k < qy_n g → ((if D k = true then qy_w7 g (qy_Lm g) (qy_rm g k) else 0) = (if D' k = true then qy_w7 g (qy_Lm g) (qy_rm g k) else 0)) ∧ ((if D k = true then qy_w8 g (qy_Lm g) (qy_rm g k) else 0) = (if D' k = true then qy_w8 g (qy_Lm g) (qy_rm g k) else 0)) ∧ ((if D k = true then qy_w11 g (qy_Lm g) (qy_rm g k) else 0) = (if D' k = true then qy_w11 g (qy_Lm g) (qy_rm g k) else 0)) := by
    intro k hk
    cases hwt : qy_wt (qy_rm g k)
    · rw [hD k hk hwt]
      exact ⟨rfl, rfl, rfl⟩
    · unfold qy_w7 qy_w8 qy_w11
      rw [hwt]
      simp
  refine ⟨p1, ?_, p7, ?_, ?_, p10, p11, ?_⟩
  · intro k hk
    rw [← (hw k hk).1, ← (hw k hk).2.1]
    exact p2 k hk
  · rw [← qy_src (fun k hk => (hw k hk).1)]; exact p8
  · rw [← qy_src (fun k hk => (hw k hk).2.1)]; exact p9
  · rw [← qy_src (fun k hk => (hw k hk).2.2)]; exact p12
theorem qm_wr3 (T : qz_S) (a b : Nat) (v v12 : Int32) (hab : a ≠ b) (ha : a ≠ 12) (hb : b ≠ 12) : ∃ T3, T3 = qz_wr (qz_wr (qz_wr T (17, 0, 0) a v) (17, 0, 0) b ((qz_wr T (17, 0, 0) a v).1 (17, 0, 0) b + 1)) (17, 0, 0) 12 ((qz_wr (qz_wr T (17, 0, 0) a v) (17, 0, 0) b ((qz_wr T (17, 0, 0) a v).1 (17, 0, 0) b + 1)).1 (17, 0, 0) 12 + v12) ∧
    T3.2 = T.2 ∧ (∀ n j, ¬ n = (17, 0, 0) → T3.1 n j = T.1 n j) ∧ (∀ j, j ≠ a → j ≠ b → j ≠ 12 → T3.1 (17, 0, 0) j = T.1 (17, 0, 0) j) ∧ T3.1 (17, 0, 0) a = v ∧ T3.1 (17, 0, 0) b = T.1 (17, 0, 0) b + 1 ∧ T3.1 (17, 0, 0) 12 = T.1 (17, 0, 0) 12 + v12 := by
  refine ⟨_, rfl, rfl, ?_, ?_, ?_, ?_, ?_⟩
  · intro n j hn
    rw [wr_ne (fun q => hn q.1), wr_ne (fun q => hn q.1), wr_ne (fun q => hn q.1)]
  · intro j h1 h2 h3
    rw [qm_wr17 h3, qm_wr17 h2, qm_wr17 h1]
  · rw [qm_wr17 ha, qm_wr17 hab, wr_eq]
  · rw [qm_wr17 hb, wr_eq, qm_wr17 hab.symm]
  · rw [wr_eq, qm_wr17 hb.symm, qm_wr17 ha.symm]
theorem qm_brings {S : qz_S} (hW : qy_Wf g B) (hF : 300 < F) {W : Nat → Bool} {c11 : Int32} {l e : Nat} (hl : l < 2) (he : e < qy_ec g) (haw : qy_aw g l e = false) (h : qm_PD g (S.1 (17, 0, 0)) (fun j => decide (qm_bi g (qy_rm g j) < 2 * e + l)) W c11) :
    ∃ S' tx, gM_bringsHome F S (nI l) (nI e) = some (tx, S') ∧ S'.2 = S.2 ∧ qm_fs S.1 S'.1 ∧ qm_PD g (S'.1 (17, 0, 0)) (fun j => decide (qm_bi g (qy_rm g j) < 2 * e + l + 1)) W (c11 + qy_cv g (qy_Lm g) l e (qy_pa g l e)) ∧
      qy_sr (qy_n g) (fun k => if decide (qm_bi g (qy_rm g k) < 2 * e + l + 1) = true then qy_w8 g (qy_Lm g) (qy_rm g k) else 0) = qy_sr (qy_n g) (fun k => if decide (qm_bi g (qy_rm g k) < 2 * e + l) = true then qy_w8 g (qy_Lm g) (qy_rm g k) else 0) + tx := by
  have h10 := hW.2.1
  have h30 := hW.2.2.2.1
  have hWS := qm_PDW h hW
  obtain ⟨S1, m, hS1, hm9, hp, hfr, hrides, hmx⟩ := qm_costOf hWS hF hl (show e < 10 by omega)
  rw [qm_PDpa h hl (by omega), qm_PDst h hW (by omega)] at hrides hmx
  have hmv := qm_PDmx h hW hmx
  have hcost : (if m = 0 then (0 : Int32) else nI (20 + 2 * m)) = qy_cv g (qy_Lm g) l e (qy_pa g l e) := by
    unfold qy_cv
    rw [← hmv]
  rw [hcost] at hS1
  have hg1 : S1.1 (17, 0, 0) = S.1 (17, 0, 0) := qm_fr_g hfr
  have hr1 : ∀ j, j < qy_n g → S1.1 (22, 0, 0) j = if qy_ri g (qy_Lm g) (nI l) (nI e) (qy_pa g l e) (qy_st g e (qy_pa g l e)) (qy_rm g j) = true then 1 else 0 := by
    intro j hj
    rw [hrides j (by rw [qm_PDn h]; exact hj), qm_PDri h hW hj]
  unfold gM_bringsHome
  rw [hS1]
  simp only [Option.bind_some, qz_let]
  have h1 : qm_PD g ((qz_wr S1 (17, 0, 0) 11 (S.1 (17, 0, 0) 11 + qy_cv g (qy_Lm g) l e (qy_pa g l e))).1 (17, 0, 0)) (fun j => decide (qm_bi g (qy_rm g j) < 2 * e + l)) W (c11 + qy_cv g (qy_Lm g) l e (qy_pa g l e)) := by
    have hh : qm_PD g (S1.1 (17, 0, 0)) (fun j => decide (qm_bi g (qy_rm g j) < 2 * e + l)) W c11 := by rw [hg1]; exact h
    have := qm_D11 (x := qy_cv g (qy_Lm g) l e (qy_pa g l e)) hh
    rw [hg1] at this
    exact this
  refine qy_lpE (fun n (a : Int32 × qz_S) y => gM_bringsHome_L21 F (nI l) (nI e) (fun y327 y428 T29 => some (y327, T29)) n a.1 y a.2) (qy_n g)
    (fun i a => a.2.2 = S.2 ∧ qm_fs S.1 a.2.1 ∧ (∀ j, j < qy_n g → a.2.1 (22, 0, 0) j = S1.1 (22, 0, 0) j) ∧ qm_PD g (a.2.1 (17, 0, 0)) (fun j => decide (qm_bi g (qy_rm g j) < 2 * e + l ∨ (qm_bi g (qy_rm g j) = 2 * e + l ∧ j < i ∧ qy_wt (qy_rm g j) = false))) W (c11 + qy_cv g (qy_Lm g) l e (qy_pa g l e)) ∧
      qy_sr (qy_n g) (fun k => if decide (qm_bi g (qy_rm g k) < 2 * e + l ∨ (qm_bi g (qy_rm g k) = 2 * e + l ∧ k < i ∧ qy_wt (qy_rm g k) = false)) = true then qy_w8 g (qy_Lm g) (qy_rm g k) else 0) = qy_sr (qy_n g) (fun k => if decide (qm_bi g (qy_rm g k) < 2 * e + l) = true then qy_w8 g (qy_Lm g) (qy_rm g k) else 0) + a.1)
    (fun r => ∃ S' tx, r = some (tx, S') ∧ S'.2 = S.2 ∧ qm_fs S.1 S'.1 ∧ qm_PD g (S'.1 (17, 0, 0)) (fun j => decide (qm_bi g (qy_rm g j) < 2 * e + l + 1)) W (c11 + qy_cv g (qy_Lm g) l e (qy_pa g l e)) ∧
      qy_sr (qy_n g) (fun k => if decide (qm_bi g (qy_rm g k) < 2 * e + l + 1) = true then qy_w8 g (qy_Lm g) (qy_rm g k) else 0) = qy_sr (qy_n g) (fun k => if decide (qm_bi g (qy_rm g k) < 2 * e + l) = true then qy_w8 g (qy_Lm g) (qy_rm g k) else 0) + tx) ?_ ?_ F 0 (0, _) (by omega) (by omega) ?_
  · rintro n i ⟨y, T⟩ hi ⟨q1, q2, q3, q4, q5⟩
    left
    simp only at q1 q2 q3 q4 q5 ⊢
    have hWT := qm_PDW q4 hW
    have hi' : i < qy_n (T.1 (17, 0, 0)) := by rw [qm_PDn q4]; exact hi
    obtain ⟨c1, c2, c3⟩ := qm_c hWT hi'
    have hWr := qm_Wr hWT hi'
    have hgr := hW.2.2.2.2.2.2.2.2.1 i hi
    simp only [gM_bringsHome_L21, c1, c2, if_false, qm_o4 c3, qm_isOn c3 hl (show e < 10 by omega), Option.bind_some, qm_p1 hWr, qm_PDwt q4, qm_PDpa q4 hl (show e < 10 by omega), qm_PDon q4]
    have hstay : (qy_wt (qy_rm g i) = false → ¬ qm_bi g (qy_rm g i) = 2 * e + l) → ∀ j, decide (qm_bi g (qy_rm g j) < 2 * e + l ∨ (qm_bi g (qy_rm g j) = 2 * e + l ∧ j < i ∧ qy_wt (qy_rm g j) = false)) = decide (qm_bi g (qy_rm g j) < 2 * e + l ∨ (qm_bi g (qy_rm g j) = 2 * e + l ∧ j < i + 1 ∧ qy_wt (qy_rm g j) = false)) := by
      intro hn j
      congr 1
      refine propext ⟨fun h => ?_, fun h => ?_⟩
      · rcases h with h | ⟨h, h', h''⟩
        · exact Or.inl h
        · exact Or.inr ⟨h, by omega, h''⟩
      · rcases h with h | ⟨h, h', h''⟩
        · exact Or.inl h
        · by_cases hji : j = i
          · subst hji
            exact absurd h (hn h'')
          · exact Or.inr ⟨h, by omega, h''⟩
    have hskip : (qy_wt (qy_rm g i) = false → ¬ qm_bi g (qy_rm g i) = 2 * e + l) → T.2 = S.2 ∧ qm_fs S.1 T.1 ∧ (∀ j, j < qy_n g → T.1 (22, 0, 0) j = S1.1 (22, 0, 0) j) ∧ qm_PD g (T.1 (17, 0, 0)) (fun j => decide (qm_bi g (qy_rm g j) < 2 * e + l ∨ (qm_bi g (qy_rm g j) = 2 * e + l ∧ j < i + 1 ∧ qy_wt (qy_rm g j) = false))) W (c11 + qy_cv g (qy_Lm g) l e (qy_pa g l e)) ∧
      qy_sr (qy_n g) (fun k => if decide (qm_bi g (qy_rm g k) < 2 * e + l ∨ (qm_bi g (qy_rm g k) = 2 * e + l ∧ k < i + 1 ∧ qy_wt (qy_rm g k) = false)) = true then qy_w8 g (qy_Lm g) (qy_rm g k) else 0) = qy_sr (qy_n g) (fun k => if decide (qm_bi g (qy_rm g k) < 2 * e + l) = true then qy_w8 g (qy_Lm g) (qy_rm g k) else 0) + y := by
      intro hn
      refine ⟨q1, q2, q3, ?_, ?_⟩
      · exact qm_PDc q4 (fun k _ _ => hstay hn k)
      · rw [← q5]
        refine qy_src (fun k _ => ?_)
        rw [hstay hn k]
    cases hwt : qy_wt (qy_rm g i)
    · rw [if_pos rfl]
      cases hon : qy_on (nI l) (nI e) (qy_pa g l e) (qy_rm g i)
      · have hnb : ¬ qm_bi g (qy_rm g i) = 2 * e + l := by
          have := (qm_bion hW hgr hl (show e < 10 by omega)).1 haw
          rw [hon] at this
          exact fun q => by rw [decide_eq_true q] at this; exact absurd this (by decide)
        rw [if_neg Bool.false_ne_true, if_pos rfl]
        exact ⟨(y, T), rfl, hskip (fun _ => hnb)⟩
      · have hyb : qm_bi g (qy_rm g i) = 2 * e + l := by
          have := (qm_bion hW hgr hl (show e < 10 by omega)).1 haw
          rw [hon] at this
          exact of_decide_eq_true this.symm
        have hdr : qy_ri g (qy_Lm g) (nI l) (nI e) (qy_pa g l e) (qy_st g e (qy_pa g l e)) (qy_rm g i) = qy_dr g (qy_Lm g) (qy_rm g i) := qm_dron hW hgr hl he hon
        have hrv := q3 i hi
        rw [hr1 i hi, hdr] at hrv
        have hDi : decide (qm_bi g (qy_rm g i) < 2 * e + l ∨ (qm_bi g (qy_rm g i) = 2 * e + l ∧ i < i ∧ qy_wt (qy_rm g i) = false)) = false := decide_eq_false (by omega)
        have hDi' : decide (qm_bi g (qy_rm g i) < 2 * e + l ∨ (qm_bi g (qy_rm g i) = 2 * e + l ∧ i < i + 1 ∧ qy_wt (qy_rm g i) = false)) = true := decide_eq_true (Or.inr ⟨hyb, by omega, hwt⟩)
        have hDj : ∀ j, j ≠ i → decide (qm_bi g (qy_rm g j) < 2 * e + l ∨ (qm_bi g (qy_rm g j) = 2 * e + l ∧ j < i + 1 ∧ qy_wt (qy_rm g j) = false)) = decide (qm_bi g (qy_rm g j) < 2 * e + l ∨ (qm_bi g (qy_rm g j) = 2 * e + l ∧ j < i ∧ qy_wt (qy_rm g j) = false)) := by
          intro j hj
          have : (j < i + 1) = (j < i) := propext ⟨fun h => by omega, fun h => by omega⟩
          simp only [this]
        have hsum : qy_sr (qy_n g) (fun k => if decide (qm_bi g (qy_rm g k) < 2 * e + l ∨ (qm_bi g (qy_rm g k) = 2 * e + l ∧ k < i + 1 ∧ qy_wt (qy_rm g k) = false)) = true then qy_w8 g (qy_Lm g) (qy_rm g k) else 0) = qy_sr (qy_n g) (fun k => if decide (qm_bi g (qy_rm g k) < 2 * e + l) = true then qy_w8 g (qy_Lm g) (qy_rm g k) else 0) + (y + qy_w8 g (qy_Lm g) (qy_rm g i)) := by
          rw [qy_srs (t := fun k => if decide (qm_bi g (qy_rm g k) < 2 * e + l ∨ (qm_bi g (qy_rm g k) = 2 * e + l ∧ k < i ∧ qy_wt (qy_rm g k) = false)) = true then qy_w8 g (qy_Lm g) (qy_rm g k) else 0) (k := i) (fun j hj => by simp only [hDj j hj]) (by simp only [hDi, Bool.false_eq_true, if_false]) (qy_n g) hi, q5]
          simp only [hDi', if_true]
          rw [Int32.add_assoc]
        have h6o : gM_of F T.1 (nI i) 6 = some (T.1 (17, 0, 0) (43 + 8 * i + 6)) := qm_of (c := 6) c3 (by decide)
        have h5o : gM_of F T.1 (nI i) 5 = some (T.1 (17, 0, 0) (43 + 8 * i + 5)) := qm_of (c := 5) c3 (by decide)
        have h6l : ∀ v, gM_lay F T (nI i) 6 v = some (qz_wr T (17, 0, 0) (43 + 8 * i + 6) v) := fun v => qm_lay (c := 6) c3 (by decide) v
        have h5l : ∀ v, gM_lay F T (nI i) 5 v = some (qz_wr T (17, 0, 0) (43 + 8 * i + 5) v) := fun v => qm_lay (c := 5) c3 (by decide) v
        have hfs : ∀ (T' : qz_F), (∀ n j, ¬ n = (17, 0, 0) → T' n j = T.1 n j) → qm_fs S.1 T' := fun T' hT n j a b c d => (hT n j a).trans (q2 n j a b c d)
        rw [if_pos rfl, if_neg (by decide), if_pos (qz_xi_nI c3 (by decide)), qz_cl_nI (show i < 2 ^ 31 by omega)]
        cases hd : qy_dr g (qy_Lm g) (qy_rm g i)
        · rw [hd, if_neg Bool.false_ne_true] at hrv
          have h3o : ∀ v w, gM_of F ((qz_wr (qz_wr T (17, 0, 0) (43 + 8 * i + 6) v) (17, 0, 0) 9 w).1) (nI i) 3 = some ((qy_rm g i) 3) := by
            intro v w
            have : gM_of F ((qz_wr (qz_wr T (17, 0, 0) (43 + 8 * i + 6) v) (17, 0, 0) 9 w).1) (nI i) 3 = some ((qz_wr (qz_wr T (17, 0, 0) (43 + 8 * i + 6) v) (17, 0, 0) 9 w).1 (17, 0, 0) (43 + 8 * i + 3)) := qm_of (c := 3) c3 (by decide)
            rw [this, qm_wr17 (by omega), qm_wr17 (by omega)]
            have := qm_PDr q4 (k := i) (c := 3) (by decide)
            exact congrArg some this
          rw [if_pos hrv, h6o]
          simp only [Option.bind_some, h6l, qz_let, h3o]
          have w7 : qy_w7 g (qy_Lm g) (qy_rm g i) = 0 := by unfold qy_w7; rw [hd]; simp
          have w8 : qy_w8 g (qy_Lm g) (qy_rm g i) = 1 := by unfold qy_w8; rw [hd, hwt]; simp
          have w11 : qy_w11 g (qy_Lm g) (qy_rm g i) = 8 + 3 * (qy_rm g i) 3 := by unfold qy_w11; rw [hd, hwt]; simp
          obtain ⟨T3, hT3, t1, t2, t3, t4, t5, t6⟩ := qm_wr3 T (43 + 8 * i + 6) 9 (T.1 (17, 0, 0) (43 + 8 * i + 6) + 1) (8 + 3 * (qy_rm g i) 3) (by omega) (by omega) (by decide)
          rw [← hT3]
          refine ⟨(y + 1, T3), rfl, t1.trans q1, hfs _ t2, ?_, ?_, by rw [hsum, w8]⟩
          · intro j hj
            show T3.1 (22, 0, 0) j = _
            rw [t2 _ _ (by decide)]
            exact q3 j hj
          · refine qm_PDs (S := T) q4 hi hDi hDj hDi' ?_ ?_ ?_ ?_ ?_ ?_ ?_ ?_ ?_
            · intro j b1 b2 b3
              exact t3 j b2 (by omega) (by omega)
            · rw [w7, Int32.add_zero]; exact t3 _ (by omega) (by omega) (by omega)
            · rw [w8]; exact t4
            · exact t3 _ (by omega) (by omega) (by omega)
            · rw [w7, Int32.add_zero]; exact t3 _ (by omega) (by omega) (by omega)
            · rw [w8]; exact t5
            · exact t3 _ (by omega) (by omega) (by omega)
            · exact t3 _ (by omega) (by omega) (by omega)
            · rw [w11]; exact t6
        · rw [hd, if_pos rfl] at hrv
          rw [if_neg (by rw [hrv]; decide), h5o]
          simp only [Option.bind_some, h5l, qz_let]
          have w7 : qy_w7 g (qy_Lm g) (qy_rm g i) = 1 := by unfold qy_w7; rw [hd, hwt]; simp
          have w8 : qy_w8 g (qy_Lm g) (qy_rm g i) = 0 := by unfold qy_w8; rw [hd]; simp
          have w11 : qy_w11 g (qy_Lm g) (qy_rm g i) = 0 := by unfold qy_w11; rw [hd]; simp
          obtain ⟨T3, hT3, t1, t2, t3, t4, t5, t6⟩ := qm_wr3 T (43 + 8 * i + 5) 8 (T.1 (17, 0, 0) (43 + 8 * i + 5) + 1) 0 (by omega) (by omega) (by decide)
          rw [← hT3]
          refine ⟨(y + 0, T3), rfl, t1.trans q1, hfs _ t2, ?_, ?_, by rw [hsum, w8]⟩
          · intro j hj
            show T3.1 (22, 0, 0) j = _
            rw [t2 _ _ (by decide)]
            exact q3 j hj
          · refine qm_PDs (S := T) q4 hi hDi hDj hDi' ?_ ?_ ?_ ?_ ?_ ?_ ?_ ?_ ?_
            · intro j b1 b2 b3
              exact t3 j b1 (by omega) (by omega)
            · rw [w7]; exact t4
            · rw [w8]; exact (t3 (43 + 8 * i + 6) (by omega) (by omega) (by omega)).trans (Int32.add_zero _).symm
            · exact t3 _ (by omega) (by omega) (by omega)
            · rw [w7]; exact t5
            · rw [w8]; exact (t3 9 (by omega) (by omega) (by omega)).trans (Int32.add_zero _).symm
            · exact t3 _ (by omega) (by omega) (by omega)
            · exact t3 _ (by omega) (by omega) (by omega)
            · rw [w11]; exact t6
    · rw [if_neg (by decide)]
      exact ⟨(y, T), rfl, hskip (fun q => absurd (hwt.symm.trans q) (by decide))⟩
  · rintro n ⟨y, T⟩ ⟨q1, q2, q3, q4, q5⟩
    simp only at q1 q2 q3 q4 q5 ⊢
    have hWT := qm_PDW q4 hW
    have c := qm_c' hWT
    rw [qm_PDn q4] at c
    simp only [gM_bringsHome_L21, c, if_true]
    have hw8 : ∀ k, k < qy_n g → (if decide (qm_bi g (qy_rm g k) < 2 * e + l + 1) = true then qy_w8 g (qy_Lm g) (qy_rm g k) else 0) = (if decide (qm_bi g (qy_rm g k) < 2 * e + l ∨ (qm_bi g (qy_rm g k) = 2 * e + l ∧ k < qy_n g ∧ qy_wt (qy_rm g k) = false)) = true then qy_w8 g (qy_Lm g) (qy_rm g k) else 0) := by
      intro k hk
      cases hwt : qy_wt (qy_rm g k)
      · have : decide (qm_bi g (qy_rm g k) < 2 * e + l + 1) = decide (qm_bi g (qy_rm g k) < 2 * e + l ∨ (qm_bi g (qy_rm g k) = 2 * e + l ∧ k < qy_n g ∧ false = false)) := by
          congr 1
          refine propext ⟨fun h => ?_, fun h => ?_⟩
          · by_cases h' : qm_bi g (qy_rm g k) < 2 * e + l
            · exact Or.inl h'
            · exact Or.inr ⟨by omega, hk, rfl⟩
          · rcases h with h | ⟨h, _⟩ <;> omega
        rw [this]
      · unfold qy_w8
        rw [hwt]
        simp
    refine ⟨T, y, rfl, q1, q2, ?_, ?_⟩
    · refine qm_PDc q4 (fun k hk hwt => ?_)
      congr 1
      refine propext ⟨fun h => ?_, fun h => ?_⟩
      · rcases h with h | ⟨h, _⟩ <;> omega
      · by_cases h' : qm_bi g (qy_rm g k) < 2 * e + l
        · exact Or.inl h'
        · exact Or.inr ⟨by omega, hk, hwt⟩
    · rw [← q5]
      exact qy_src hw8
  · refine ⟨hp, ?_, ?_, ?_, ?_⟩
    · intro n j a b c d
      show (qz_wr S1 (17, 0, 0) 11 _).1 n j = _
      rw [wr_ne (fun q => a q.1)]
      exact hfr n j b c d
    · intro j hj
      show (qz_wr S1 (17, 0, 0) 11 _).1 (22, 0, 0) j = _
      rw [wr_ne (fun q => absurd q.1 (by decide))]
    · refine qm_PDc h1 (fun k hk hwt => ?_)
      congr 1
      exact propext ⟨fun h => Or.inl h, fun h => by rcases h with h | ⟨_, h, _⟩ <;> omega⟩
    · rw [Int32.add_zero]
      refine qy_src (fun k hk => ?_)
      have : decide (qm_bi g (qy_rm g k) < 2 * e + l ∨ (qm_bi g (qy_rm g k) = 2 * e + l ∧ k < 0 ∧ qy_wt (qy_rm g k) = false)) = decide (qm_bi g (qy_rm g k) < 2 * e + l) := by
        congr 1
        exact propext ⟨fun h => by rcases h with h | ⟨_, h, _⟩ <;> omega, fun h => Or.inl h⟩
      rw [this]
end QYN
