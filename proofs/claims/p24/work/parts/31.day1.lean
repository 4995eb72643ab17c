/-! a day: sums, and what a day doesn't change -/
def qy_sr : Nat → (Nat → Int32) → Int32
  | 0, _ => 0
  | n + 1, t => qy_sr n t + t n
theorem qy_srS (n : Nat) (t : Nat → Int32) : qy_sr (n + 1) t = qy_sr n t + t n := rfl
def qy_sm (L : List (Nat → Int32)) (w : (Nat → Int32) → Int32) : Int32 := L.foldr (fun r s => w r + s) 0
theorem qy_src {t t' : Nat → Int32} : ∀ {n : Nat}, (∀ j, j < n → t j = t' j) → qy_sr n t = qy_sr n t' := by
  intro n
  induction n with
  | zero => intro _; rfl
  | succ n ih =>
    intro h
    unfold qy_sr
    rw [ih (fun j hj => h j (by omega)), h n (by omega)]
theorem qy_srs {t t' : Nat → Int32} {k : Nat} (h1 : ∀ j, j ≠ k → t' j = t j) (h0 : t k = 0) : ∀ n, k < n → qy_sr n t' = qy_sr n t + t' k := by
  intro n
  induction n with
  | zero => intro h; omega
  | succ n ih =>
    intro h
    unfold qy_sr
    by_cases e : k = n
    · subst e
      rw [qy_src (t := t') (t' := t) (fun j hj => h1 j (by omega)), h0, Int32.add_zero]
    · rw [ih (by omega), h1 n (fun q => e q.symm)]
      grind
theorem qy_sr0 : ∀ n, qy_sr n (fun _ => 0) = 0 := by
  intro n
  induction n with
  | zero => rfl
  | succ n ih =>
    unfold qy_sr
    rw [ih]
    rfl
theorem qy_sr2 (t : Nat → Nat → Int32) : ∀ n, qy_sr (2 * n) (fun k => t (k % 2) (k / 2)) = qy_sr n (t 0) + qy_sr n (t 1) := by
  intro n
  induction n with
  | zero => rfl
  | succ n ih =>
    have e : 2 * (n + 1) = 2 * n + 1 + 1 := by omega
    rw [e]
    rw [qy_srS, qy_srS, qy_srS, qy_srS, ih]
    have a1 : (2 * n) % 2 = 0 := by omega
    have a2 : (2 * n) / 2 = n := by omega
    have a3 : (2 * n + 1) % 2 = 1 := by omega
    have a4 : (2 * n + 1) / 2 = n := by omega
    simp only [a1, a2, a3, a4]
    grind
theorem qy_sma (L L' : List (Nat → Int32)) (w : (Nat → Int32) → Int32) : qy_sm (L ++ L') w = qy_sm L w + qy_sm L' w := by
  induction L with
  | nil => unfold qy_sm; rw [List.nil_append, List.foldr_nil, Int32.zero_add]
  | cons a L ih =>
    have e : ∀ M, qy_sm (a :: M) w = w a + qy_sm M w := fun M => rfl
    rw [List.cons_append, e, e, ih, Int32.add_assoc]
theorem qy_smp {L L' : List (Nat → Int32)} (h : L.Perm L') (w : (Nat → Int32) → Int32) : qy_sm L w = qy_sm L' w := by
  induction h with
  | nil => rfl
  | cons a _ ih =>
    have e : ∀ M, qy_sm (a :: M) w = w a + qy_sm M w := fun M => rfl
    rw [e, e, ih]
  | swap a b l =>
    have e : ∀ a M, qy_sm (a :: M) w = w a + qy_sm M w := fun a M => rfl
    rw [e, e, e, e]
    grind
  | trans _ _ ih1 ih2 => rw [ih1, ih2]
theorem qy_smc {L : List (Nat → Int32)} {w w' : (Nat → Int32) → Int32} (h : ∀ r, r ∈ L → w r = w' r) : qy_sm L w = qy_sm L w' := by
  induction L with
  | nil => rfl
  | cons a L ih =>
    have e : ∀ w, qy_sm (a :: L) w = w a + qy_sm L w := fun w => rfl
    rw [e, e, h a List.mem_cons_self, ih (fun r hr => h r (List.mem_cons_of_mem a hr))]
theorem qy_smR (rr : Nat → Nat → Int32) (q : (Nat → Int32) → Bool) (w : (Nat → Int32) → Int32) : ∀ n, qy_sm (((List.range n).map rr).filter q) w = qy_sr n (fun i => if q (rr i) = true then w (rr i) else 0) := by
  intro n
  induction n with
  | zero => rfl
  | succ n ih =>
    rw [List.range_succ, List.map_append, List.filter_append, qy_sma, ih]
    rw [qy_srS]
    congr 1
    rw [List.map_singleton]
    by_cases h : q (rr n) = true
    · rw [if_pos h, List.filter_cons_of_pos h, List.filter_nil]
      unfold qy_sm
      rw [List.foldr_cons, List.foldr_nil, Int32.add_zero]
    · rw [if_neg h, List.filter_cons_of_neg h, List.filter_nil]
      rfl
theorem qy_smLc (f : qz_F) (w : (Nat → Int32) → Int32) : qy_sm (qy_Lc f 0) w = qy_sr 30 (fun i => if qy_lv (qy_rc f 0 i) = true then w (qy_rc f 0 i) else 0) := qy_smR _ _ _ 30
theorem qy_smLm (g : Nat → Int32) (w : (Nat → Int32) → Int32) : qy_sm (qy_Lm g) w = qy_sr (qy_n g) (fun i => w (qy_rm g i)) := by
  have := qy_smR (qy_rm g) (fun _ => true) w (qy_n g)
  rw [List.filter_eq_self.mpr (fun _ _ => rfl)] at this
  simpa [qy_Lm] using this
/-- the greatest stop, computed -/
def qy_xf (L : List (Nat → Int32)) (p : (Nat → Int32) → Bool) : Nat := L.foldr (fun r m => if p r = true then max (r 3).toNatClampNeg m else m) 0
theorem qy_xfx (L : List (Nat → Int32)) (p : (Nat → Int32) → Bool) : qy_mx L p (qy_xf L p) := by
  induction L with
  | nil => exact ⟨fun r hr => by simp at hr, Or.inl rfl⟩
  | cons a L ih =>
    have e : qy_xf (a :: L) p = if p a = true then max (a 3).toNatClampNeg (qy_xf L p) else qy_xf L p := rfl
    rw [e]
    by_cases h : p a = true
    · rw [if_pos h]
      refine ⟨fun r hr hp => ?_, ?_⟩
      · rcases List.mem_cons.mp hr with rfl | hr
        · exact Nat.le_max_left _ _
        · exact Nat.le_trans (ih.1 r hr hp) (Nat.le_max_right _ _)
      · by_cases hc : (a 3).toNatClampNeg ≤ qy_xf L p
        · rw [Nat.max_eq_right hc]
          rcases ih.2 with h0 | ⟨r, hr, hp, e1⟩
          · exact Or.inl h0
          · exact Or.inr ⟨r, List.mem_cons_of_mem a hr, hp, e1⟩
        · rw [Nat.max_eq_left (by omega)]
          exact Or.inr ⟨a, List.mem_cons_self, h, rfl⟩
    · rw [if_neg h]
      refine ⟨fun r hr hp => ?_, ?_⟩
      · rcases List.mem_cons.mp hr with rfl | hr
        · exact absurd hp h
        · exact ih.1 r hr hp
      · rcases ih.2 with h0 | ⟨r, hr, hp, e1⟩
        · exact Or.inl h0
        · exact Or.inr ⟨r, List.mem_cons_of_mem a hr, hp, e1⟩
/-- what a bus costs -/
def qy_cv (g : Nat → Int32) (L : List (Nat → Int32)) (l e : Nat) (x : Int32) : Int32 :=
  if qy_xf L (qy_ri g L (nI l) (nI e) x (qy_st g e x)) = 0 then 0 else nI (20 + 2 * qy_xf L (qy_ri g L (nI l) (nI e) x (qy_st g e x)))
def qy_aw (g : Nat → Int32) (l e : Nat) : Bool := !decide (qy_pa g l e = -5) && qy_er g e (qy_pa g l e).toNatClampNeg
def qy_tb (g : Nat → Int32) (L : List (Nat → Int32)) (l e : Nat) : Int32 := if qy_aw g l e = true then 0 else qy_cv g L l e (qy_pa g l e)
/-- who rides home -/
def qy_dr (g : Nat → Int32) (L : List (Nat → Int32)) (r : Nat → Int32) : Bool :=
  qy_ri g L (r 2) (r 1) (qy_pa g (r 2).toNatClampNeg (r 1).toNatClampNeg) (qy_st g (r 1).toNatClampNeg (qy_pa g (r 2).toNatClampNeg (r 1).toNatClampNeg)) r
def qy_ud (g : Nat → Int32) (L : List (Nat → Int32)) (r : Nat → Int32) : Nat → Int32 := fun c =>
  if (qy_wt r = true ∧ c = 7) ∨ (qy_wt r = false ∧ qy_dr g L r = true ∧ c = 5) ∨ (qy_wt r = false ∧ qy_dr g L r = false ∧ c = 6) then r c + 1 else r c
section QYK
variable {F B : Nat} {f f' : qz_F} {g : Nat → Int32}
theorem qy_rip {L L' : List (Nat → Int32)} (h : L.Perm L') (l e x st : Int32) (r : Nat → Int32) : qy_ri g L l e x st r = qy_ri g L' l e x st r := by
  unfold qy_ri
  rw [h.countP_eq]
theorem qy_cvp {L L' : List (Nat → Int32)} (h : L.Perm L') (l e : Nat) (x : Int32) : qy_cv g L l e x = qy_cv g L' l e x := by
  unfold qy_cv
  have : qy_xf L (qy_ri g L (nI l) (nI e) x (qy_st g e x)) = qy_xf L' (qy_ri g L' (nI l) (nI e) x (qy_st g e x)) :=
    qy_mx1 (fun r => h.mem_iff) (fun r _ => qy_rip h _ _ _ _ r) (qy_xfx _ _) (qy_xfx _ _)
  rw [this]
theorem qy_tbp {L L' : List (Nat → Int32)} (h : L.Perm L') (l e : Nat) : qy_tb g L l e = qy_tb g L' l e := by
  unfold qy_tb
  rw [qy_cvp h]
theorem qy_drp {L L' : List (Nat → Int32)} (h : L.Perm L') (r : Nat → Int32) : qy_dr g L r = qy_dr g L' r := qy_rip h _ _ _ _ r
theorem qy_cri {L : List (Nat → Int32)} (l e : Nat) (x : Int32) (r : Nat → Int32) : ((!qy_wt r && qy_on (nI l) (nI e) x r) && qy_cr g L e x r) = qy_ri g L (nI l) (nI e) x (qy_st g e x) r := by
  unfold qy_ri qy_ca qy_cr
  cases ho : qy_on (nI l) (nI e) x r
  · simp
  · have h2 : r 2 = nI l := by
      unfold qy_on at ho
      simp only [Bool.and_eq_true, decide_eq_true_eq] at ho
      exact ho.1
    have : L.countP (qy_ah g (qy_st g e x) (nI e) x r) = L.countP (fun q => ((!qy_wt q && qy_on (nI l) (nI e) x q) && qy_it g (qy_st g e x) q) && qy_gt q r) := by
      refine List.countP_congr (fun q _ => ?_)
      unfold qy_ah qy_gt
      rw [h2]
    rw [this]
    cases qy_wt r <;> cases qy_it g (qy_st g e x) r <;> simp
theorem qy_costv (hR : qy_Rel f 0 g) (hW : qy_Wf g B) (hF : 30 < F) {e : Nat} (he : e < 10) (l : Nat) (x : Int32) : gW_costToday F f (nI l) (nI e) x = some (qy_cv g (qy_Lc f 0) l e x) := by
  obtain ⟨m, hm, hmx, h⟩ := qy_cost hR hW hF he (nI l) x
  rw [h]
  have : m = qy_xf (qy_Lc f 0) (qy_ri g (qy_Lc f 0) (nI l) (nI e) x (qy_st g e x)) := qy_mx1 (fun r => Iff.rfl) (fun r _ => qy_cri l e x r) hmx (qy_xfx _ _)
  unfold qy_cv
  rw [← this]
/-- nothing is changed but counters -/
def qy_cg (f f' : qz_F) : Prop := ∀ n j, ¬ (n.1 = 0 ∧ 5 ≤ j) → ¬ (n = (4, 0, 0) ∧ 6 ≤ j) → f' n j = f n j
theorem cg_r (h : qy_cg f f') (i c : Nat) (hc : c < 5) : f' (0, 0, i) c = f (0, 0, i) c := h _ _ (fun q => absurd q.2 (by omega)) (fun q => absurd (congrArg Prod.fst q.1) (show ¬ (0 : Nat) = 4 by decide))
theorem cg_k (h : qy_cg f f') {n : qz_N} (h0 : n.1 ≠ 0) (h4 : n.1 ≠ 4) (j : Nat) : f' n j = f n j := h _ _ (fun q => h0 q.1) (fun q => h4 (by rw [q.1]))
theorem cg_4 (h : qy_cg f f') (j : Nat) (hj : j < 6) : f' (4, 0, 0) j = f (4, 0, 0) j := h _ _ (fun q => absurd q.1 (by decide)) (fun q => absurd q.2 (by omega))
theorem cg_lv (h : qy_cg f f') : gB_isLive f' = gB_isLive f := by
  funext i
  unfold gB_isLive
  rw [cg_r h i 0 (by decide)]
theorem cg_rd (h : qy_cg f f') : gB_isRider f' = gB_isRider f := by
  funext i
  unfold gB_isRider
  rw [cg_r h i 4 (by decide), cg_lv h]
theorem cg_wt (h : qy_cg f f') : gB_isWaiting f' = gB_isWaiting f := by
  funext i
  unfold gB_isWaiting
  rw [cg_r h i 4 (by decide), cg_lv h]
theorem cg_on (h : qy_cg f f') : gB_isOfBus f' = gB_isOfBus f := by
  funext i l e x
  unfold gB_isOfBus
  rw [cg_r h i 1 (by decide), cg_r h i 2 (by decide), cg_lv h]
theorem cg_gs (h : qy_cg f f') : gB_getsSeatAheadOf f' = gB_getsSeatAheadOf f := by
  funext i b
  unfold gB_getsSeatAheadOf
  rw [cg_r h i 3 (by decide), cg_r h b 3 (by decide), cg_r h i 0 (by decide), cg_r h b 0 (by decide)]
theorem cg_mi (h : qy_cg f f') : gW_minuteOf F f' = gW_minuteOf F f := by
  funext a
  unfold gW_minuteOf
  rw [cg_k h (by decide) (by decide)]
theorem cg_se (h : qy_cg f f') : gW_setting F f' = gW_setting F f := by
  funext a
  unfold gW_setting
  rw [cg_k h (by decide) (by decide)]
theorem cg_he (h : qy_cg f f') : gW_hasEnd f' = gW_hasEnd f := by
  funext a
  unfold gW_hasEnd
  rw [cg_4 h 0 (by decide)]
theorem cg_pa (h : qy_cg f f') : gW_partnerOf F f' = gW_partnerOf F f := by
  funext a b
  unfold gW_partnerOf
  rw [cg_k h (by decide) (by decide)]
  rfl
theorem cg_st (h : qy_cg f f') : gW_startOf F f' = gW_startOf F f := by
  funext a b
  unfold gW_startOf
  rw [cg_he h, cg_mi h]
theorem cg_ea (h : qy_cg f f') : gW_isEarlier F f' = gW_isEarlier F f := by
  funext a b
  unfold gW_isEarlier
  rw [cg_mi h]
theorem cg_mb (h : qy_cg f f') : gW_minutesBehind F f' = gW_minutesBehind F f := by
  funext a b c
  unfold gW_minutesBehind
  rw [cg_mi h, cg_se h]
theorem cg_it (h : qy_cg f f') : gW_isInTime F f' = gW_isInTime F f := by
  funext a b c
  unfold gW_isInTime
  rw [cg_mb h, cg_se h]
theorem cg_cr (h : qy_cg f f') : gW_canRide F f' = gW_canRide F f := by
  funext b e x
  unfold gW_canRide
  rw [cg_st h, cg_it h, cg_se h, cg_r h b 1 (by decide), cg_r h b 3 (by decide)]
  have hl : ∀ x1 K n a y, gW_canRide_L44 F f' b e x x1 K n a y = gW_canRide_L44 F f b e x x1 K n a y := by
    intro x1 K n
    induction n with
    | zero => intro a y; rfl
    | succ n ih =>
      intro a y
      simp only [gW_canRide_L44, ih, cg_rd h, cg_on h, cg_it h, cg_gs h, cg_r h b 2 (by decide), fun i => cg_r h i 1 (by decide), fun i => cg_r h i 3 (by decide)]
  congr 1
  funext x1
  congr 1
  funext x3
  rw [hl]
theorem cg_co (h : qy_cg f f') : gW_costToday F f' = gW_costToday F f := by
  funext l e x
  unfold gW_costToday
  have hl : ∀ K n a y, gW_costToday_L17 F f' l e x K n a y = gW_costToday_L17 F f l e x K n a y := by
    intro K n
    induction n with
    | zero => intro a y; rfl
    | succ n ih =>
      intro a y
      simp only [gW_costToday_L17, ih, cg_rd h, cg_on h, cg_cr h, cg_r h _ 3 (by decide)]
  rw [hl]
theorem qy_awE (hR : qy_Rel f 0 g) (hW : qy_Wf g B) {l e : Nat} (hl : l < 2) (he : e < 10) (h5 : ¬ qy_pa g l e = -5) : gW_isEarlier F f (nI e) (qy_pa g l e) = some (if qy_aw g l e = true then 1 else 0) := by
  have h10 := hW.2.1
  rcases qy_pac hW hl he with ⟨h, _⟩ | ⟨o, ho, _, _, h, _, _, _⟩
  · exact absurd h h5
  · rw [h, qy_earlier hR hW he (by omega)]
    unfold qy_aw
    have h6 : ¬ nI o = -5 := by rw [← h]; exact h5
    rw [h, qz_cl_nI (by omega)]
    simp [h6]
theorem qy_runBuses {S : qz_S} (hR : qy_Rel S.1 0 g) (hW : qy_Wf g B) (hF : 30 < F) : ∃ f', gW_runBuses F S = some (f', S.2) ∧ (∀ n j, ¬ (n = (4, 0, 0) ∧ j = 10) → f' n j = S.1 n j) ∧ f' (4, 0, 0) 10 = S.1 (4, 0, 0) 10 + (qy_sr (qy_ec g) (qy_tb g (qy_Lc S.1 0) 0) + qy_sr (qy_ec g) (qy_tb g (qy_Lc S.1 0) 1)) := by
  have h10 := hW.2.1
  have hin : ∀ (l : Nat) (hl : l < 2) (T : qz_S) (A : Int32) (K : Int32 → qz_S → Option qz_S) (Q : Option qz_S → Prop), T.2 = S.2 → (∀ n j, ¬ (n = (4, 0, 0) ∧ j = 10) → T.1 n j = S.1 n j) → T.1 (4, 0, 0) 10 = S.1 (4, 0, 0) 10 + A →
      (∀ T' : qz_S, T'.2 = S.2 → (∀ n j, ¬ (n = (4, 0, 0) ∧ j = 10) → T'.1 n j = S.1 n j) → T'.1 (4, 0, 0) 10 = S.1 (4, 0, 0) 10 + (A + qy_sr (qy_ec g) (qy_tb g (qy_Lc S.1 0) l)) → Q (K (nI (qy_ec g)) T')) → Q (gW_runBuses_L9 F (nI l) K F 0 T) := by
    intro l hl T A K Q h1 h2 h3 hK
    refine qy_lpE (fun n (T : qz_S) y => gW_runBuses_L9 F (nI l) K n y T) (qy_ec g) (fun i T => T.2 = S.2 ∧ (∀ n j, ¬ (n = (4, 0, 0) ∧ j = 10) → T.1 n j = S.1 n j) ∧ T.1 (4, 0, 0) 10 = S.1 (4, 0, 0) 10 + (A + qy_sr i (qy_tb g (qy_Lc S.1 0) l))) Q ?_ ?_ F 0 T (by omega) (by omega) ⟨h1, h2, by rw [h3]; unfold qy_sr; rw [Int32.add_zero]⟩
    · rintro n i T hi ⟨p1, p2, p3⟩
      left
      have hcg : qy_cg S.1 T.1 := fun n j _ b => p2 n j (fun q => b ⟨q.1, by omega⟩)
      have hc : ¬ T.1 (4, 0, 0) 0 ≤ nI i := by rw [p2 _ _ (fun q => absurd q.2 (by decide))]; exact qy_cec hR hW hi
      simp only [gW_runBuses_L9, hc, if_false, cg_pa hcg, cg_ea hcg, cg_co hcg, qy_partner hR hl (show i < 10 by omega), Option.bind_some, qy_costv hR hW hF (show i < 10 by omega), qz_nI1, qz_let]
      have hsr : qy_sr (i + 1) (qy_tb g (qy_Lc S.1 0) l) = qy_sr i (qy_tb g (qy_Lc S.1 0) l) + qy_tb g (qy_Lc S.1 0) l i := rfl
      have hadd : ∃ a', gW_runBuses_L9 F (nI l) K n (nI (i + 1)) (qz_wr T (4, 0, 0) 10 (T.1 (4, 0, 0) 10 + qy_cv g (qy_Lc S.1 0) l i (qy_pa g l i))) = gW_runBuses_L9 F (nI l) K n (nI (i + 1)) a' ∧ (qy_aw g l i = false → a'.2 = S.2 ∧ (∀ n j, ¬ (n = (4, 0, 0) ∧ j = 10) → a'.1 n j = S.1 n j) ∧ a'.1 (4, 0, 0) 10 = S.1 (4, 0, 0) 10 + (A + qy_sr (i + 1) (qy_tb g (qy_Lc S.1 0) l))) := by
        refine ⟨_, rfl, fun haw => ⟨p1, ?_, ?_⟩⟩
        · intro n j hn
          simp only [qz_wr]
          rw [if_neg hn]
          exact p2 n j hn
        · simp only [qz_wr]
          rw [if_pos ⟨trivial, trivial⟩, p3, hsr]
          unfold qy_tb
          rw [haw, if_neg Bool.false_ne_true]
          grind
      obtain ⟨a', ha1, ha2⟩ := hadd
      by_cases h5 : qy_pa g l i = -5
      · rw [if_pos h5]
        have haw : qy_aw g l i = false := by unfold qy_aw; simp [h5]
        exact ⟨a', ha1, ha2 haw⟩
      · rw [if_neg h5, qy_awE hR hW hl (show i < 10 by omega) h5]
        simp only [Option.bind_some]
        cases haw : qy_aw g l i
        · rw [if_neg Bool.false_ne_true, if_pos rfl]
          exact ⟨a', ha1, ha2 haw⟩
        · rw [if_pos rfl, if_neg (by decide)]
          refine ⟨T, rfl, p1, p2, ?_⟩
          rw [p3, hsr]
          unfold qy_tb
          rw [haw, if_pos rfl, Int32.add_zero]
    · rintro n T ⟨p1, p2, p3⟩
      have hc : T.1 (4, 0, 0) 0 ≤ nI (qy_ec g) := by rw [p2 _ _ (fun q => absurd q.2 (by decide))]; exact qy_cec' hR hW
      simp only [gW_runBuses_L9, hc, if_true]
      exact hK T p1 p2 p3
  have hF2 : ∃ n, F = n + 1 + 1 + 1 := ⟨F - 3, by omega⟩
  obtain ⟨n, hn⟩ := hF2
  unfold gW_runBuses
  have e0 : gW_runBuses_L2 F (fun y119 T20 => some T20) F 0 S = gW_runBuses_L2 F (fun y119 T20 => some T20) (n + 1 + 1 + 1) 0 S := by rw [← hn]
  rw [e0]
  have c0 : ¬ (2 : Int32) ≤ 0 := by decide
  have c1 : ¬ (2 : Int32) ≤ 0 + 1 := by decide
  have c2 : (2 : Int32) ≤ 0 + 1 + 1 := by decide
  simp only [gW_runBuses_L2, c0, c1, c2, if_false, if_true]
  refine hin 0 (by decide) S 0 _ (fun r => ∃ f', r = some (f', S.2) ∧ (∀ n j, ¬ (n = (4, 0, 0) ∧ j = 10) → f' n j = S.1 n j) ∧ f' (4, 0, 0) 10 = S.1 (4, 0, 0) 10 + (qy_sr (qy_ec g) (qy_tb g (qy_Lc S.1 0) 0) + qy_sr (qy_ec g) (qy_tb g (qy_Lc S.1 0) 1))) rfl (fun _ _ _ => rfl) (by rw [Int32.add_zero]) ?_
  intro T' p1 p2 p3
  rw [Int32.zero_add] at p3
  refine hin 1 (by decide) T' _ _ (fun r => ∃ f', r = some (f', S.2) ∧ (∀ n j, ¬ (n = (4, 0, 0) ∧ j = 10) → f' n j = S.1 n j) ∧ f' (4, 0, 0) 10 = S.1 (4, 0, 0) 10 + (qy_sr (qy_ec g) (qy_tb g (qy_Lc S.1 0) 0) + qy_sr (qy_ec g) (qy_tb g (qy_Lc S.1 0) 1))) p1 p2 p3 ?_
  intro T'' q1 q2 q3
  exact ⟨T''.1, by rw [← q1], q2, q3⟩
end QYK
