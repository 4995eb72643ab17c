/-! p24: what holds between calls, said of the class alone; an act by what it tells and what it leaves -/
/-- the settings are within their bounds -/
def qv_Ws (g : Nat → Int32) : Prop := ∀ n, n < 4 → qy_vs n (g n)
def qv_Wf (g : Nat → Int32) (B : Nat) : Prop := qy_Wf g B ∧ qv_Ws g
def qv_Sn (f : qz_F) (B : Nat) (k : Option (Nat → Int32)) : Prop := match k with
  | none => f (5, 0, 0) 4 = 0
  | some gk => f (5, 0, 0) 4 = 1 ∧ qy_Rel f 5 gk ∧ qv_Wf gk B
def qv_J (f0 : qz_F) (B : Nat) (k : Option (Nat → Int32)) (f : qz_F) : Prop := qv_Sn f B k ∧ qy_Co f0 f
def qv_I (f0 : qz_F) (B : Nat) (S : qz_S) (g : Nat → Int32) (m : Nat) (G : Nat → Nat → Int32) (k : Option (Nat → Int32)) : Prop :=
  qy_Rel S.1 0 g ∧ qv_Wf g B ∧ qy_HC S.1 S.2 m G ∧ (∀ j, j < m → qv_Wf (G j) B) ∧ qv_J f0 B k S.1
/-- x, from every state that g tells: it answers v; if that is an error nothing has changed, else a record and g' -/
def qv_Act (F : Nat) (f0 : qz_F) (B B' : Nat) (k : Option (Nat → Int32)) (g : Nat → Int32) (x : qz_S → Option (Int32 × qz_S)) (v : Int32) (g' : Nat → Int32) : Prop :=
  qv_Wf g' B' ∧ ((v < 0 ∧ g' = g ∧ ∀ S : qz_S, qy_Rel S.1 0 g → qv_J f0 B k S.1 → x S = some (v, S)) ∨
    (0 ≤ v ∧ ∀ S : qz_S, qy_Rel S.1 0 g → qv_J f0 B k S.1 → ∃ XC : qz_S → Option (Int32 × qz_S), x S = Option.bind (gH_remember F S) XC ∧
      ∀ S1 : qz_S, qy_Rel S1.1 0 g → qy_fH S.1 S1.1 → ∃ S2, XC S1 = some (v, S2) ∧ S2.2 = S1.2 ∧ qy_fw 0 S1.1 S2.1 ∧ qy_Rel S2.1 0 g'))
section QVA
variable {F B B' m : Nat} {f0 f f' : qz_F} {g g' : Nat → Int32} {G : Nat → Nat → Int32} {S S' : qz_S} {k : Option (Nat → Int32)}
theorem qv_WfB (hB : B ≤ B') (h6 : B' ≤ 60000) (h : qv_Wf g B) : qv_Wf g B' := ⟨qy_WfB hB h6 h.1, h.2⟩
theorem qv_SnB (hB : B ≤ B') (h6 : B' ≤ 60000) (h : qv_Sn f B k) : qv_Sn f B' k := by
  cases k with
  | none => exact h
  | some gk => exact ⟨h.1, h.2.1, qv_WfB hB h6 h.2.2⟩
theorem qv_SnC (hf : ∀ n j, (n.2.1 = 5 ∧ qy_kd n) → f' n j = f n j) (h5 : f' (5, 0, 0) 4 = f (5, 0, 0) 4) (h : qv_Sn f B k) : qv_Sn f' B k := by
  cases k with
  | none => exact h5.trans h
  | some gk => exact ⟨h5.trans h.1, qy_RelF (qy_cwK (fun n i hk hw => hf n i ⟨hw, hk⟩)) h.2.1, h.2.2⟩
theorem qv_IB (hB : B ≤ B') (h6 : B' ≤ 60000) (h : qv_I f0 B S g m G k) : qv_I f0 B' S g m G k :=
  ⟨h.1, qv_WfB hB h6 h.2.1, h.2.2.1, fun j hj => qv_WfB hB h6 (h.2.2.2.1 j hj), qv_SnB hB h6 h.2.2.2.2.1, h.2.2.2.2.2⟩
theorem qv_no (hW : qv_Wf g B') {x : qz_S → Option (Int32 × qz_S)} {v : Int32} (hv : v < 0) (h : ∀ S : qz_S, qy_Rel S.1 0 g → qv_J f0 B k S.1 → x S = some (v, S)) : ∃ v g', qv_Act F f0 B B' k g x v g' := ⟨v, g, hW, Or.inl ⟨hv, rfl, h⟩⟩
theorem qv_Actc {x x' : qz_S → Option (Int32 × qz_S)} {v : Int32} (e : ∀ S : qz_S, qy_Rel S.1 0 g → x' S = x S) (h : qv_Act F f0 B B' k g x v g') : qv_Act F f0 B B' k g x' v g' := by
  obtain ⟨hW, h⟩ := h
  refine ⟨hW, ?_⟩
  rcases h with ⟨a, b, c⟩ | ⟨a, c⟩
  · exact Or.inl ⟨a, b, fun S hR hJ => (e S hR).trans (c S hR hJ)⟩
  · refine Or.inr ⟨a, fun S hR hJ => ?_⟩
    obtain ⟨XC, d1, d2⟩ := c S hR hJ
    exact ⟨XC, (e S hR).trans d1, d2⟩
theorem qv_fHw (h : qy_fH S.1 S'.1) {n : qz_N} {j : Nat} (h0 : n.2.1 = 0) (h2 : n ≠ (2, 0, 0)) : S'.1 n j = S.1 n j := h n j (fun q => by omega) h2
theorem qv_fHR (h : qy_fH S.1 S'.1) (hR : qy_Rel S.1 0 g) : qy_Rel S'.1 0 g := qy_RelF (qy_cwK (fun n j hk h0 => qv_fHw h h0 (qy_kd_n hk (by decide)))) hR
theorem qv_JH (h : qy_fH S.1 S'.1) (hJ : qv_J f0 B k S.1) : qv_J f0 B k S'.1 := by
  refine ⟨qv_SnC (fun n j hn => h n j (fun q => by omega) (qy_kd_n hn.2 (by decide))) (h _ _ (fun q => absurd q.1 (by decide)) (by decide)) hJ.1, fun n j hn => ?_⟩
  rw [h n j (fun q => by omega) (fun q => by rw [q] at hn; exact absurd hn (by decide))]
  exact hJ.2 n j hn
theorem qv_Jw (h : qy_fw 0 f f') (hJ : qv_J f0 B k f) : qv_J f0 B k f' := by
  refine ⟨qv_SnC (fun n j hn => h n j (fun q => by omega)) (h _ _ (fun q => by revert q; decide)) hJ.1, fun n j hn => ?_⟩
  rw [h n j (fun q => by omega)]
  exact hJ.2 n j hn
/-- an act, from a state to a state -/
theorem qv_act (hI : qv_I f0 B S g m G k) (hB : B ≤ B') (h6 : B' ≤ 60000) (hF : 30 < F) {x : qz_S → Option (Int32 × qz_S)} {v : Int32} (h : qv_Act F f0 B B' k g x v g') :
    (v < 0 ∧ g' = g ∧ x S = some (v, S) ∧ qv_I f0 B' S g' m G k) ∨ (0 ≤ v ∧ ∃ S', x S = some (v, S') ∧ qv_I f0 B' S' g' (qy_m1 m) (qy_G1 m G g) k) := by
  have hI' := qv_IB hB h6 hI
  obtain ⟨hR, hW, hC, hGW, hJ⟩ := hI
  obtain ⟨hW', h⟩ := h
  rcases h with ⟨a, b, c⟩ | ⟨a, c⟩
  · refine Or.inl ⟨a, b, c S hR hJ, ?_⟩
    rw [b]
    exact hI'
  · right
    refine ⟨a, ?_⟩
    obtain ⟨XC, e, d⟩ := c S hR hJ
    obtain ⟨S1, a1, a2, a3⟩ := qy_remember (F := F) hF hC hR
    obtain ⟨S2, b1, b2, b3, b4⟩ := d S1 (qv_fHR a2 hR) a2
    refine ⟨S2, by rw [e, a1]; exact b1, b4, hW', ?_, ?_, qv_Jw b3 (qv_JH a2 hI'.2.2.2.2)⟩
    · refine qy_HCc b2 (fun n j hn => ?_) a3
      rcases hn with hn | hn
      · exact b3 n j (fun q => by omega)
      · subst hn
        exact b3 _ _ (fun q => by have := q.2; revert this; decide)
    · intro j hj
      have hm4 := hC.2.1
      unfold qy_m1 at hj
      unfold qy_G1
      by_cases hm : m < 4
      · rw [if_pos hm] at hj ⊢
        by_cases e : j = m
        · rw [if_pos e]; exact hI'.2.1
        · rw [if_neg e]; exact hI'.2.2.2.1 j (by omega)
      · rw [if_neg hm] at hj ⊢
        by_cases e : j = 3
        · rw [if_pos e]; exact hI'.2.1
        · rw [if_neg e]; exact hI'.2.2.2.1 (j + 1) (by omega)
/-- the latest record goes back -/
theorem qv_undo (hI : qv_I f0 B S g (m + 1) G k) (hF : 30 < F) : ∃ S', gX_undo F S = some (nI m, S') ∧ qv_I f0 B S' (G m) m G k := by
  obtain ⟨hR, hW, hC, hGW, hJ⟩ := hI
  have hk := hC.2.1
  obtain ⟨S1, a1, a2, a3, a4, a5⟩ := qy_take (F := F) hF hC
  have e0 : ¬ nI (m + 1) = 0 := by
    rw [show (0 : Int32) = nI 0 from rfl, qy_eq (by omega) (by omega)]
    omega
  refine ⟨S1, ?_, a5, hGW m (by omega), ⟨a3, by omega, by rw [a2]; exact hC.2.2.1, ?_⟩, fun j hj => hGW j (by omega), ?_, ?_⟩
  · unfold gX_undo
    rw [hC.1, if_neg e0, a1]
    simp only [Option.bind_some, a3]
  · intro j hj
    rw [a2]
    have hb := hC.2.2.1.1 j (by omega)
    exact qy_RelF (qy_cwK (fun n i hn hw => a4 n i (fun q => by omega) (qy_kd_n hn (by decide)))) (hC.2.2.2 j (by omega))
  · exact qv_SnC (fun n j hn => a4 n j (fun q => by omega) (qy_kd_n hn.2 (by decide))) (a4 _ _ (by unfold qy_kd; decide) (by decide)) hJ.1
  · intro n j hn
    rw [a4 n j (fun q => by have := q.2; unfold qy_kd at this; omega) (fun q => by rw [q] at hn; exact absurd hn (by decide))]
    exact hJ.2 n j hn
theorem qv_undo0 (hI : qv_I f0 B S g 0 G k) : gX_undo F S = some (-5, S) := by
  unfold gX_undo
  rw [hI.2.2.1.1]
  rfl
theorem qv_keep (hI : qv_I f0 B S g m G k) (hF : 30 < F) : ∃ S', gX_keep F S = some (nI (qy_n g), S') ∧ qv_I f0 B S' g m G (some g) := by
  obtain ⟨hR, hW, hC, hGW, hJ⟩ := hI
  obtain ⟨S1, a1, a2, a3, a4⟩ := qy_copy (F := F) (S := S) (w := 5) (w2 := 0) hF (by omega) (by omega) (by omega) (qy_fl hR)
  obtain ⟨S2, s0⟩ : ∃ S2, S2 = qz_wr S1 (5, 0, 0) 4 1 := ⟨_, rfl⟩
  have s2 : ∀ n j, ¬ (n.2.1 = 5 ∧ qy_kd n) → ¬ (n = (5, 0, 0) ∧ j = 4) → S2.1 n j = S.1 n j := by
    intro n j h1 h2
    rw [s0, wr_ne h2]
    exact a4 n j h1
  have hR2 : qy_Rel S2.1 0 g := qy_RelF (qy_cwK (fun n j hn hw => s2 n j (fun q => by omega) (fun q => qy_kd_n hn (by decide) q.1))) hR
  have hR5 : qy_Rel S2.1 5 g := by
    rw [s0]
    exact qy_RelF (qy_cwK (fun n j hn hw => wr_ne (fun q => qy_kd_n hn (by decide) q.1))) (qy_RelF a3 hR)
  refine ⟨S2, ?_, hR2, hW, ?_, hGW, ⟨?_, hR5, hW⟩, ?_⟩
  · unfold gX_keep
    rw [a1]
    simp only [Option.bind_some, qz_let]
    rw [← s0, qy_wcnt hF, qy_lenR hR2]
    rfl
  · refine qy_HCc ?_ (fun n j hn => ?_) hC
    · rw [s0]; exact a2
    · rcases hn with hn | hn
      · exact s2 n j (fun q => by omega) (fun q => qy_kd_n hn.2.2 (by decide) q.1)
      · subst hn
        exact s2 _ _ (by unfold qy_kd; decide) (fun q => qy_kn (by decide) q.1)
  · rw [s0, wr_eq]
  · intro n j hn
    rw [s2 n j (fun q => by have := q.2; unfold qy_kd at this; omega) (fun q => by rw [q.1] at hn; exact absurd hn (by decide))]
    exact hJ.2 n j hn
/-- who waits is looked at: what comes of it hangs on g alone -/
theorem qv_pgW {Q : Int32 → Bool} (h : qv_Wf g B) : qv_Wf (qy_pg Q g) B := ⟨qy_pgW h.1, fun n hn => by rw [qy_pglo (by omega)]; exact h.2 n hn⟩
theorem qv_look (hW : qv_Wf g B) (hF : 30 < F) : ∃ g', qv_Wf g' B ∧ (∃ Q, g' = qy_pg Q g) ∧ ∀ S1 : qz_S, qy_Rel S1.1 0 g → ∃ S2, gW_lookAtWaiting F S1 = some S2 ∧ S2.2 = S1.2 ∧ (∀ n j, ¬ (n.1 = 0 ∧ n.2.1 = 0 ∧ j = 4) → S2.1 n j = S1.1 n j) ∧ qy_Rel S2.1 0 g' := by
  by_cases h : ∃ S0 : qz_S, qy_Rel S0.1 0 g
  · obtain ⟨S0, hR0⟩ := h
    obtain ⟨Q, a1, a2⟩ := qy_lookC (F := F) hR0 hW.1 hF
    refine ⟨qy_pg Q g, qv_pgW hW, ⟨Q, rfl⟩, fun S1 hR => ?_⟩
    obtain ⟨Q', b1, b2⟩ := qy_lookC (F := F) hR hW.1 hF
    have hp := hR.2.2.2.2.2.2.1
    have hp0 := hR0.2.2.2.2.2.2.1
    have hQ : qy_pg Q g = qy_pg Q' g := by
      refine qy_pge (fun r hr => ?_)
      exact qy_uniq (hp0.trans hp.symm) a2 b2 (qy_ky g r + 1) r (Nat.lt_succ_self _) (hp0.mem_iff.mpr hr)
    refine ⟨_, b1, rfl, ?_, by rw [hQ]; exact qy_pfR hR⟩
    intro n j hn
    show qy_pf Q' S1.1 n j = _
    unfold qy_pf
    rw [if_neg (fun q => hn ⟨q.1.1, q.1.2.1, q.1.2.2.2⟩)]
  · exact ⟨qy_pg (fun _ => false) g, qv_pgW hW, ⟨_, rfl⟩, fun S1 hR => absurd ⟨S1, hR⟩ h⟩
theorem qv_restore1 {gk : Nat → Int32} (hk : qv_Wf gk B) (hF : 30 < F) : qv_Act F f0 B B (some gk) g (gX_restore F) (nI (qy_n gk)) gk := by
  have h30 := hk.1.2.2.2.1
  refine ⟨hk, Or.inr ⟨qy_ge0 (by omega), fun S hR hJ => ⟨fun R2 => Option.bind (gW_copyFrom F R2 0 5) fun R4 => Option.bind (gW_workerCount F R4.1) fun x6 => some (x6, R4), ?_, fun S1 k1 k2 => ?_⟩⟩⟩
  · unfold gX_restore
    rw [hJ.1.1, if_neg (by decide)]
  · have r5 : qy_Rel S1.1 5 gk := qy_RelF (qy_cwK (fun n j hn hw => k2 n j (fun q => by omega) (qy_kd_n hn (by decide)))) hJ.1.2.1
    obtain ⟨S2, b1, b2, b3, b4⟩ := qy_copy (F := F) (S := S1) (w := 0) (w2 := 5) hF (by omega) (by omega) (by omega) (qy_fl r5)
    have r0 : qy_Rel S2.1 0 gk := qy_RelF b3 r5
    refine ⟨S2, ?_, b2, b4, r0⟩
    show (Option.bind (gW_copyFrom F S1 0 5) fun R4 => Option.bind (gW_workerCount F R4.1) fun x6 => some (x6, R4)) = _
    rw [b1]
    simp only [Option.bind_some]
    rw [qy_wcnt hF, qy_lenR r0]
    rfl
theorem qv_restore0 (hW : qv_Wf g B) : qv_Act F f0 B B none g (gX_restore F) (-5) g := by
  refine ⟨hW, Or.inl ⟨by decide, rfl, fun S hR hJ => ?_⟩⟩
  unfold gX_restore
  rw [show S.1 (5, 0, 0) 4 = 0 from hJ.1]
  rfl
end QVA
