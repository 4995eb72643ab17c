section QYI
variable {F B : Nat} {g : Nat → Int32}
theorem qy_cmore {α : Type} {p p' : α → Bool} {L : List α} (h : ∀ r, r ∈ L → p r = true → p' r = true) {r0 : α} (hr : r0 ∈ L) (h1 : p r0 = false) (h2 : p' r0 = true) : L.countP p + 1 ≤ L.countP p' := by
  induction L with
  | nil => simp at hr
  | cons a L ih =>
    rw [List.countP_cons, List.countP_cons]
    have hm : L.countP p ≤ L.countP p' := List.countP_mono_left (fun r hr => h r (List.mem_cons_of_mem a hr))
    rcases List.mem_cons.mp hr with e | hr'
    · subst e
      rw [h1, h2]
      simp
      exact hm
    · have := ih (fun r hr => h r (List.mem_cons_of_mem a hr)) hr'
      have h3 : (if p a = true then 1 else 0) ≤ (if p' a = true then 1 else 0) := by
        by_cases hp : p a = true
        · rw [if_pos hp, if_pos (h a (List.mem_cons_self) hp)]
          exact Nat.le_refl _
        · rw [if_neg hp]
          omega
      omega
theorem qy_pfw {f : qz_F} (hR : qy_Rel f 0 g) (hW : qy_Wf g B) {Q : Int32 → Bool} {j : Nat} (hj : j < 30) (hl : qy_lv (qy_rc f 0 j) = true) (p : Nat → Nat) (hQ : Q (-1) = false) : qz_wr (qy_pf Q f, p) (0, 0, j) 4 1 = (qy_pf (fun N => Q N || decide (N = (qy_rc f 0 j) 0)) f, p) := by
  unfold qz_wr
  refine Prod.ext ?_ rfl
  funext n c
  simp only
  by_cases h : n = (0, 0, j) ∧ c = 4
  · obtain ⟨rfl, rfl⟩ := h
    rw [if_pos ⟨rfl, rfl⟩]
    unfold qy_pf
    rw [if_pos]
    refine ⟨⟨rfl, rfl, hj, rfl⟩, ?_⟩
    have : f (0, 0, j) 0 = (qy_rc f 0 j) 0 := rfl
    simp [this]
  · rw [if_neg h]
    unfold qy_pf
    by_cases hn : n.1 = 0 ∧ n.2.1 = 0 ∧ n.2.2 < 30 ∧ c = 4
    · obtain ⟨k, w, i⟩ := n
      simp only at hn
      obtain ⟨rfl, rfl, hi, rfl⟩ := hn
      have hij : ¬ i = j := fun q => h ⟨by rw [q], rfl⟩
      have hne : ¬ f (0, 0, i) 0 = (qy_rc f 0 j) 0 := by
        intro q
        refine hij (qy_slot hR hW hi hj ?_ hl q)
        have hlj : ¬ (qy_rc f 0 j) 0 = -1 := by
          intro q2
          unfold qy_lv at hl
          rw [q2] at hl
          simp at hl
        unfold qy_lv
        have : (qy_rc f 0 i) 0 = f (0, 0, i) 0 := rfl
        rw [this, q]
        simp [hlj]
      simp [hne]
    · rw [if_neg (fun q => hn q.1), if_neg (fun q => hn q.1)]
theorem qy_pf0f {f : qz_F} : qy_pf (fun _ => false) f = f := by
  funext n j
  unfold qy_pf
  rw [if_neg (fun q => Bool.false_ne_true q.2)]
theorem qy_lookC {S : qz_S} (hR : qy_Rel S.1 0 g) (hW : qy_Wf g B) (hF : 30 < F) : ∃ Q, gW_lookAtWaiting F S = some (qy_pf Q S.1, S.2) ∧ qy_Fn g (qy_Lc S.1 0) Q := by
  have h10 := hW.2.1
  have hB := hW.2.2.2.2.2.2.2.2.2.2
  have hL : ∀ r, r ∈ qy_Lc S.1 0 → qy_Wr g B r := fun r hr => qy_WrC hR hW hr
  unfold gW_lookAtWaiting
  refine qy_lpE (fun n (a : Option Nat × qz_S) y => gW_lookAtWaiting_L4 F (fun q19 y210 T11 => some T11) n a.1 y a.2) 30
    (fun i a => ∃ Q b, a.2 = (qy_pf Q S.1, S.2) ∧ Q (-1) = false ∧ qy_Fx g (qy_Lc S.1 0) Q b ∧ ((a.1 = none ∧ b = 0) ∨ ∃ j, j < 30 ∧ a.1 = some j ∧ qy_lv (qy_rc S.1 0 j) = true ∧ b = qy_ky g (qy_rc S.1 0 j) + 1) ∧ i ≤ (qy_Lc S.1 0).countP (fun r => qy_wt r && decide (qy_ky g r < b)))
    (fun r => ∃ Q, r = some (qy_pf Q S.1, S.2) ∧ qy_Fn g (qy_Lc S.1 0) Q) ?_ ?_ F 0 (none, S) (by omega) (by omega) ?_
  · rintro n i ⟨q1, T⟩ hi ⟨Q, b, hT, hQ1, hFx, hq, hc⟩
    simp only at hT hq ⊢
    subst hT
    obtain ⟨h1, _, _, h4⟩ := qy_c30 hi
    have hR' := qy_pfR (Q := Q) hR
    have hW' := qy_pgW (Q := Q) hW
    have hnx : ∃ o, gW_nextWaiting F (qy_pf Q S.1) q1 = some o ∧ qy_NW (qy_pf Q S.1) (qy_pg Q g) b 30 o := by
      refine qy_next hR' hW' hF q1 b ?_
      rcases hq with h | ⟨j, hj, e, hl, eb⟩
      · exact Or.inl h
      · have hWj := hL _ (qy_mLc.mpr ⟨j, hj, rfl, hl⟩)
        refine Or.inr ⟨j, e, ?_, ?_⟩
        · rw [qy_pfr hj]; exact qy_pgWr hWj
        · rw [qy_pfr hj, qy_pgky hWj h10]; exact eb
    obtain ⟨o, ho, hNW⟩ := hnx
    have hwq : ∀ k, k < 30 → qy_lv (qy_rc S.1 0 k) = true → (qy_rc S.1 0 k) 4 = 0 → b ≤ qy_ky g (qy_rc S.1 0 k) → qy_lv (qy_rc (qy_pf Q S.1) 0 k) = true ∧ qy_wt (qy_rc (qy_pf Q S.1) 0 k) = true ∧ qy_ky (qy_pg Q g) (qy_rc (qy_pf Q S.1) 0 k) = qy_ky g (qy_rc S.1 0 k) := by
      intro k hk hl h4' hb
      have hm := qy_mLc.mpr ⟨k, hk, rfl, hl⟩
      have hQk : Q ((qy_rc S.1 0 k) 0) = false := by
        cases hx : Q ((qy_rc S.1 0 k) 0)
        · rfl
        · have := (hFx.1 _ hm hx).2
          omega
      rw [qy_pfr hk]
      refine ⟨by rw [qy_prlv]; exact hl, ?_, qy_pgky (hL _ hm) h10⟩
      unfold qy_wt qy_pr
      rw [hQk]
      simp [h4']
    simp only [gW_lookAtWaiting_L4, h1, if_false, ho, Option.bind_some, h4]
    rcases hNW with ⟨rfl, hNW⟩ | ⟨j, hj, rfl, n1, n2, n3, n4⟩
    · right
      simp only [Option.elim_none]
      refine ⟨Q, rfl, qy_fin hFx (fun r hr h4' => ?_)⟩
      obtain ⟨k, hk, rfl, hl⟩ := qy_mLc.mp hr
      by_cases hb : qy_ky g (qy_rc S.1 0 k) < b
      · exact hb
      · obtain ⟨w1, w2, w3⟩ := hwq k hk hl h4' (by omega)
        have := hNW k hk w1 w2
        omega
    · left
      simp only [Option.elim_some]
      rw [qy_pfr hj] at n1 n2 n3
      rw [qy_prlv] at n1
      have hm := qy_mLc.mpr ⟨j, hj, rfl, n1⟩
      have hWj := hL _ hm
      rw [qy_pgky hWj h10] at n3
      have hQj : Q ((qy_rc S.1 0 j) 0) = false := by
        cases hx : Q ((qy_rc S.1 0 j) 0)
        · rfl
        · have := (hFx.1 _ hm hx).2
          omega
      have h4j : (qy_rc S.1 0 j) 4 = 0 := by
        unfold qy_wt qy_pr at n2
        rw [hQj] at n2
        simpa using n2
      have hno : ∀ r, r ∈ qy_Lc S.1 0 → r 4 = 0 → b ≤ qy_ky g r → qy_ky g (qy_rc S.1 0 j) ≤ qy_ky g r := by
        intro r hr h4' hb
        obtain ⟨k, hk, rfl, hl⟩ := qy_mLc.mp hr
        obtain ⟨w1, w2, w3⟩ := hwq k hk hl h4' hb
        have := n4 k hk w1 w2 (by rw [w3]; exact hb)
        rw [qy_pfr hj, qy_pgky hWj h10] at this
        rw [← w3]
        exact this
      have hcnt : i + 1 ≤ (qy_Lc S.1 0).countP (fun r => qy_wt r && decide (qy_ky g r < qy_ky g (qy_rc S.1 0 j) + 1)) := by
        refine Nat.le_trans (Nat.succ_le_succ hc) (qy_cmore (r0 := qy_rc S.1 0 j) ?_ hm ?_ ?_)
        · intro r hr hh
          simp only [Bool.and_eq_true, decide_eq_true_eq] at hh ⊢
          exact ⟨hh.1, by omega⟩
        · have : ¬ qy_ky g (qy_rc S.1 0 j) < b := by omega
          simp [this]
        · simp [qy_wt, h4j]
      have hst := qy_step hL hB (qy_Uc hR hW) hFx hm h4j n3 hno
      have hrs : ∃ v, gW_reason F (qy_pf Q S.1) (qy_pf Q S.1 (0, 0, j) 2) (qy_pf Q S.1 (0, 0, j) 1) (qy_pf Q S.1 (0, 0, j) 3) none = some v ∧ (v = 0) = qy_ok g (qy_Lc S.1 0) Q (qy_rc S.1 0 j) := by
        rw [← qy_rsok hL hB h10 hFx (M := qy_Lc (qy_pf Q S.1) 0) (by rw [qy_pfL]) hm n3]
        have e2 : qy_pf Q S.1 (0, 0, j) 2 = (qy_rc S.1 0 j) 2 := by unfold qy_pf; rw [if_neg (fun q => absurd q.1.2.2.2 (by decide))]; rfl
        have e1 : qy_pf Q S.1 (0, 0, j) 1 = (qy_rc S.1 0 j) 1 := by unfold qy_pf; rw [if_neg (fun q => absurd q.1.2.2.2 (by decide))]; rfl
        have e3 : qy_pf Q S.1 (0, 0, j) 3 = (qy_rc S.1 0 j) 3 := by unfold qy_pf; rw [if_neg (fun q => absurd q.1.2.2.2 (by decide))]; rfl
        rw [e1, e2, e3]
        obtain ⟨_, ⟨e, he, a1⟩, ⟨l, hl, a2⟩, _, _⟩ := hWj
        rw [a1, a2, qz_cl_nI (show e < 2 ^ 31 by omega), qz_cl_nI (show l < 2 ^ 31 by omega)]
        have := qy_reason hR' hW' hF hl (e := e) (by rw [qy_pgec]; exact he) ((qy_rc S.1 0 j) 3) (-1) none (qy_none _)
        rw [qy_pgrs hW hl (by omega)] at this
        exact ⟨_, this, rfl⟩
      obtain ⟨v, hv, hv'⟩ := hrs
      rw [hv]
      simp only [Option.bind_some, qz_let]
      by_cases hok : qy_ok g (qy_Lc S.1 0) Q (qy_rc S.1 0 j)
      · have hv0 : v = 0 := by rw [hv']; exact hok
        rw [if_pos hv0, qy_pfw hR hW hj n1 S.2 hQ1]
        refine ⟨(some j, (qy_pf (fun N => Q N || decide (N = (qy_rc S.1 0 j) 0)) S.1, S.2)), rfl, _, _, rfl, ?_, hst.1 hok, Or.inr ⟨j, hj, rfl, n1, rfl⟩, hcnt⟩
        have : ¬ (-1 : Int32) = (qy_rc S.1 0 j) 0 := by
          intro q
          unfold qy_lv at n1
          rw [← q] at n1
          simp at n1
        rw [hQ1]
        simp [this]
      · have hv0 : ¬ v = 0 := by rw [hv']; exact hok
        rw [if_neg hv0]
        exact ⟨(some j, (qy_pf Q S.1, S.2)), rfl, _, _, rfl, hQ1, hst.2 hok, Or.inr ⟨j, hj, rfl, n1, rfl⟩, hcnt⟩
  · rintro n ⟨q1, T⟩ ⟨Q, b, hT, hQ1, hFx, hq, hc⟩
    simp only at hT ⊢
    subst hT
    simp only [gW_lookAtWaiting_L4, qy_c30', if_true]
    refine ⟨Q, rfl, qy_fin hFx (fun r hr h4' => ?_)⟩
    have hlen : (qy_Lc S.1 0).length ≤ 30 := by
      unfold qy_Lc
      refine Nat.le_trans (List.length_filter_le _ _) ?_
      rw [List.length_map, List.length_range]
      exact Nat.le_refl _
    have hle : (qy_Lc S.1 0).countP (fun r => qy_wt r && decide (qy_ky g r < b)) ≤ (qy_Lc S.1 0).length := List.countP_le_length
    have heq : (qy_Lc S.1 0).countP (fun r => qy_wt r && decide (qy_ky g r < b)) = (qy_Lc S.1 0).length := by omega
    have := List.countP_eq_length.mp heq r hr
    simp only [Bool.and_eq_true, decide_eq_true_eq] at this
    exact this.2
  · refine ⟨fun _ => false, 0, ?_, rfl, ⟨fun r hr h => absurd h Bool.false_ne_true, fun r hr h4 hk => absurd hk (by omega)⟩, Or.inl ⟨rfl, rfl⟩, by omega⟩
    rw [qy_pf0f]
end QYI
