/-! acts: a setting, merge, part -/
def qy_K (f0 : qz_F) : Prop := f0 (31, 0, 0) = qz_g31 ∧ f0 (32, 0, 0) = qz_g32
def qy_vs (k : Nat) (v : Int32) : Prop := qz_g31 k ≤ v ∧ v ≤ qz_g32 k
/-- two buses can be merged -/
def qy_cm (g : Nat → Int32) (l e o : Nat) : Prop :=
  qy_pa g l e = -5 ∧ qy_pa g l o = -5 ∧ g (13 + e) - g (13 + o) ≤ g 2 ∧ -(g (13 + e) - g (13 + o)) ≤ g 2 ∧ nI ((qy_Lm g).countP (fun r => !qy_wt r && qy_on (nI l) (nI e) (nI o) r)) ≤ g 1 ∧ (qy_Lm g).countP (fun r => !qy_wt r && qy_on (nI l) (nI e) (nI o) r && !qy_it g (qy_st g e (nI o)) r) = 0
def qm_px (F : Nat) (T : qz_S) (a0 a1 a2 : Int32) (K : Option (Int32 × qz_S)) : Option (Int32 × qz_S) :=
  if (gM_isLine T.1 a0) = 0 then (some ((-1 : Int32), T)) else (Option.bind (gM_isEnd F T.1 a1) fun x3 => if x3 = 0 then (some ((-1 : Int32), T)) else (Option.bind (gM_isEnd F T.1 a2) fun x6 => if x6 = 0 then (some ((-1 : Int32), T)) else (if a1 = a2 then (some ((-2 : Int32), T)) else (Option.bind (gM_canMerge F T.1 a0 a1 a2) fun x10 => if x10 = 0 then (some ((-4 : Int32), T)) else K))))
section QYV
variable {F B B' m : Nat} {f0 f f' : qz_F} {g g' : Nat → Int32} {S S' : qz_S}
theorem qy_canM (hR : qy_Rel f 0 g) (hW : qy_Wf g B) (hF : 30 < F) {l e o : Nat} (hl : l < 2) (he : e < 10) (ho : o < 10) : (qy_cm g l e o → gW_canMerge F f (nI l) (nI e) (nI o) = some 1) ∧ (¬ qy_cm g l e o → gW_canMerge F f (nI l) (nI e) (nI o) = some 0) := by
  rw [qy_canMerge hR hW hF hl he ho]
  have hp := hR.2.2.2.2.2.2.1
  have h1 : (qy_Lc f 0).countP (qy_tk (nI l) (nI e) (nI o) 1 (-1)) = (qy_Lm g).countP (fun r => !qy_wt r && qy_on (nI l) (nI e) (nI o) r) := by
    rw [← hp.countP_eq]
    refine List.countP_congr (fun r hr => ?_)
    obtain ⟨⟨N, hN, e0, _⟩, _, _, ⟨s, s1, s9, e3⟩, _⟩ := qy_WrC hR hW hr
    have hB := hW.2.2.2.2.2.2.2.2.2.2
    have c1 : (1 : Int32) ≤ nI s := (qz_le_nI (a := 1) (b := s) (by decide) (by omega)).mpr s1
    have c2 : ¬ nI N = -1 := qy_n1 (by omega)
    unfold qy_tk
    rw [e3, e0]
    simp [c1, c2]
  have h2 : (qy_Lc f 0).countP (fun r => !qy_wt r && qy_on (nI l) (nI e) (nI o) r && !qy_it g (qy_st g e (nI o)) r) = (qy_Lm g).countP (fun r => !qy_wt r && qy_on (nI l) (nI e) (nI o) r && !qy_it g (qy_st g e (nI o)) r) := hp.countP_eq _
  unfold qy_cm
  rw [h1, h2]
  exact ⟨fun h => by rw [if_pos h], fun h => by rw [if_neg h]⟩
theorem qm_canM (hW : qy_Wf (f (17, 0, 0)) B) (hF : 30 < F) {l e o : Nat} (hl : l < 2) (he : e < 10) (ho : o < qy_ec (f (17, 0, 0))) : (qy_cm (f (17, 0, 0)) l e o → gM_canMerge F f (nI l) (nI e) (nI o) = some 1) ∧ (¬ qy_cm (f (17, 0, 0)) l e o → gM_canMerge F f (nI l) (nI e) (nI o) = some 0) := by
  rw [qm_canMerge hW hF hl he ho]
  unfold qy_cm
  exact ⟨fun h => by rw [if_pos h], fun h => by rw [if_neg h]⟩
theorem qy_merr (hR : qy_Rel S.1 0 g) (hW : qy_Wf g B) (hF : 30 < F) (a0 a1 a2 : Int32) :
    (∃ v, ¬ v = 0 ∧ gX_mergingError F S.1 a0 a1 a2 = some v ∧ ∀ (T : qz_S) K, T.1 (17, 0, 0) = g → qm_px F T a0 a1 a2 K = some (v, T)) ∨
    (∃ l e o, l < 2 ∧ e < qy_ec g ∧ o < qy_ec g ∧ e ≠ o ∧ a0 = nI l ∧ a1 = nI e ∧ a2 = nI o ∧ qy_cm g l e o ∧ gX_mergingError F S.1 a0 a1 a2 = some 0 ∧ ∀ (T : qz_S) K, T.1 (17, 0, 0) = g → qm_px F T a0 a1 a2 K = K) := by
  have h10 := hW.2.1
  by_cases hl : ∃ l, l < 2 ∧ a0 = nI l
  · have x1 : ¬ gX_isLine S.1 a0 = 0 := by rw [qy_line]; exact fun q => q hl
    have m1 : ∀ T : qz_S, ¬ gM_isLine T.1 a0 = 0 := fun T => by rw [qm_isLine]; exact fun q => q hl
    obtain ⟨l, hl2, rfl⟩ := hl
    by_cases h1 : 0 ≤ a1 ∧ a1 < g 4
    · have x2 : ¬ gW_hasEnd S.1 a1 = 0 := by rw [qy_hasEnd hR]; exact fun q => q h1
      by_cases h2 : 0 ≤ a2 ∧ a2 < g 4
      · have x3 : ¬ gW_hasEnd S.1 a2 = 0 := by rw [qy_hasEnd hR]; exact fun q => q h2
        have mE : ∀ (T : qz_S) (x : Int32), T.1 (17, 0, 0) = g → (0 ≤ x ∧ x < g 4) → ∃ v, gM_isEnd F T.1 x = some v ∧ ¬ v = 0 := fun T x hT hx => by
          obtain ⟨v, e1, e2⟩ := qm_isEnd (F := F) (f := T.1) (B := B) (by rw [hT]; exact hW) x
          refine ⟨v, e1, ?_⟩
          rw [e2, hT]
          exact fun q => q hx
        by_cases h3 : a1 = a2
        · refine Or.inl ⟨-2, by decide, ?_, ?_⟩
          · unfold gX_mergingError
            rw [if_neg x1, if_neg x2, if_neg x3, if_pos h3]
          · intro T K hT
            obtain ⟨v1, e1, n1⟩ := mE T a1 hT h1
            obtain ⟨v2, e2, n2⟩ := mE T a2 hT h2
            unfold qm_px
            rw [if_neg (m1 T), e1]
            simp only [Option.bind_some]
            rw [if_neg n1, e2]
            simp only [Option.bind_some]
            rw [if_neg n2, if_pos h3]
        · obtain ⟨e, he, rfl⟩ := qy_isE hW h1
          obtain ⟨o, ho, rfl⟩ := qy_isE hW h2
          have hne : e ≠ o := fun q => h3 (by rw [q])
          by_cases h4 : qy_cm g l e o
          · refine Or.inr ⟨l, e, o, hl2, he, ho, hne, rfl, rfl, rfl, h4, ?_, ?_⟩
            · unfold gX_mergingError
              rw [if_neg x1, if_neg x2, if_neg x3, if_neg h3, (qy_canM hR hW hF hl2 (by omega) (by omega)).1 h4]
              rfl
            · intro T K hT
              obtain ⟨v1, e1, n1⟩ := mE T _ hT h1
              obtain ⟨v2, e2, n2⟩ := mE T _ hT h2
              unfold qm_px
              rw [if_neg (m1 T), e1]
              simp only [Option.bind_some]
              rw [if_neg n1, e2]
              simp only [Option.bind_some]
              rw [if_neg n2, if_neg h3, (qm_canM (B := B) (f := T.1) (by rw [hT]; exact hW) hF hl2 (by omega) (by rw [hT]; exact ho)).1 (by rw [hT]; exact h4)]
              rfl
          · refine Or.inl ⟨-4, by decide, ?_, ?_⟩
            · unfold gX_mergingError
              rw [if_neg x1, if_neg x2, if_neg x3, if_neg h3, (qy_canM hR hW hF hl2 (by omega) (by omega)).2 h4]
              rfl
            · intro T K hT
              obtain ⟨v1, e1, n1⟩ := mE T _ hT h1
              obtain ⟨v2, e2, n2⟩ := mE T _ hT h2
              unfold qm_px
              rw [if_neg (m1 T), e1]
              simp only [Option.bind_some]
              rw [if_neg n1, e2]
              simp only [Option.bind_some]
              rw [if_neg n2, if_neg h3, (qm_canM (B := B) (f := T.1) (by rw [hT]; exact hW) hF hl2 (by omega) (by rw [hT]; exact ho)).2 (by rw [hT]; exact h4)]
              rfl
      · refine Or.inl ⟨-1, by decide, ?_, ?_⟩
        · have x3 : gW_hasEnd S.1 a2 = 0 := by rw [qy_hasEnd hR]; exact h2
          unfold gX_mergingError
          rw [if_neg x1, if_neg x2, if_pos x3]
        · intro T K hT
          obtain ⟨v1, e1, n1⟩ := qm_isEnd (F := F) (f := T.1) (B := B) (by rw [hT]; exact hW) a1
          obtain ⟨v2, e2, n2⟩ := qm_isEnd (F := F) (f := T.1) (B := B) (by rw [hT]; exact hW) a2
          rw [hT] at n1 n2
          unfold qm_px
          rw [if_neg (m1 T), e1]
          simp only [Option.bind_some]
          rw [if_neg (by rw [n1]; exact fun q => q h1), e2]
          simp only [Option.bind_some]
          rw [if_pos (by rw [n2]; exact h2)]
    · refine Or.inl ⟨-1, by decide, ?_, ?_⟩
      · have x2 : gW_hasEnd S.1 a1 = 0 := by rw [qy_hasEnd hR]; exact h1
        unfold gX_mergingError
        rw [if_neg x1, if_pos x2]
      · intro T K hT
        obtain ⟨v1, e1, n1⟩ := qm_isEnd (F := F) (f := T.1) (B := B) (by rw [hT]; exact hW) a1
        rw [hT] at n1
        unfold qm_px
        rw [if_neg (m1 T), e1]
        simp only [Option.bind_some]
        rw [if_pos (by rw [n1]; exact h1)]
  · refine Or.inl ⟨-1, by decide, ?_, ?_⟩
    · have x1 : gX_isLine S.1 a0 = 0 := by rw [qy_line]; exact hl
      unfold gX_mergingError
      rw [if_pos x1]
    · intro T K hT
      have m1 : gM_isLine T.1 a0 = 0 := by rw [qm_isLine]; exact hl
      unfold qm_px
      rw [if_pos m1]
theorem qy_tie (F : Nat) (S : qz_S) {l e : Nat} (hl : l < 2) (he : e < 10) (x : Int32) : gW_tie F S (nI l) (nI e) x = some (qz_wr S (11, 0, 0) (10 * l + e) x) := by
  unfold gW_tie
  have h1 : ¬ (20 : Int32) ≤ nI (10 * l + e) := fun q => by have := (qz_le_nI (a := 20) (b := 10 * l + e) (by decide) (by omega)).mp q; omega
  rw [qy_bix hl he, if_neg (qy_nn (by omega)), if_neg h1, if_pos (qz_xi_nI (by omega) (by decide)), qz_cl_nI (by omega)]
  rfl
theorem qm_layM (F : Nat) (S : qz_S) {l e : Nat} (hl : l < 2) (he : e < 10) (x : Int32) : gM_layMerged F S (nI l) (nI e) x = some (qz_wr S (17, 0, 0) (23 + 10 * l + e) (if x = -5 then 0 else x + 1)) := by
  unfold gM_layMerged
  have h1 : ((23 : Int32) + (10 : Int32) * nI l) + nI e = nI (23 + 10 * l + e) := by rw [show (23 : Int32) = nI 23 from rfl, show (10 : Int32) = nI 10 from rfl, qy_mul, qy_add, qy_add]
  rw [h1, if_pos (qz_xi_nI (by omega) (by decide)), qz_cl_nI (by omega), if_pos (qz_xi_nI (by omega) (by decide))]
  by_cases hx : x = -5
  · rw [if_pos hx, if_pos hx]; rfl
  · rw [if_neg hx, if_neg hx]; rfl
theorem qy_pc1 {o : Nat} (ho : o < 10) : qy_pc (nI (o + 1)) = nI o := by
  unfold qy_pc
  have : ¬ nI (o + 1) = 0 := by rw [show (0 : Int32) = nI 0 from rfl, qy_eq (by omega) (by omega)]; omega
  rw [if_neg this]
  exact qy_sub (a := o + 1) (b := 1) (by omega)
theorem qy_pcn5 {v : Int32} (h : v = 0 ∨ ∃ o, o < 10 ∧ v = nI (o + 1)) (h5 : qy_pc v = -5) : v = 0 := by
  rcases h with h | ⟨o, ho, h⟩
  · exact h
  · rw [h, qy_pc1 ho] at h5
    exact absurd h5 (qy_n5 (by omega))
/-- two places of the partners are laid -/
theorem qy_ties {l e o : Nat} {x y : Int32} {S1 S3 : qz_S} (hR : qy_Rel S1.1 0 g) (hW : qy_Wf g B) (c1 : S3.1 (17, 0, 0) = g) (hl : l < 2) (he : e < 10) (ho : o < 10) (hne : e ≠ o) :
    (∀ c, (qz_wr (qz_wr S3 (17, 0, 0) (23 + 10 * l + e) x) (17, 0, 0) (23 + 10 * l + o) y).1 (17, 0, 0) c = if c = 23 + 10 * l + o then y else if c = 23 + 10 * l + e then x else g c) ∧
    qy_Rel (qz_wr (qz_wr S1 (11, 0, 0) (10 * l + e) (qy_pc x)) (11, 0, 0) (10 * l + o) (qy_pc y)).1 0 (fun c => if c = 23 + 10 * l + o then y else if c = 23 + 10 * l + e then x else g c) := by
  constructor
  · intro c
    by_cases h1 : c = 23 + 10 * l + o
    · rw [if_pos h1, h1, wr_eq]
    · rw [if_neg h1, qm_wr17 h1]
      by_cases h2 : c = 23 + 10 * l + e
      · rw [if_pos h2, h2, wr_eq]
      · rw [if_neg h2, qm_wr17 h2, c1]
  · have e0 : ∀ k i j, k ≠ 11 → (qz_wr (qz_wr S1 (11, 0, 0) (10 * l + e) (qy_pc x)) (11, 0, 0) (10 * l + o) (qy_pc y)).1 (k, 0, i) j = S1.1 (k, 0, i) j := fun k i j hk => by
      rw [wr_ne (fun q => qy_kn hk q.1), wr_ne (fun q => qy_kn hk q.1)]
    refine qy_RelL hR (fun i j => e0 _ _ _ (by decide)) (fun c h1 _ => ?_) ?_ hW.2.2.2.1 ?_ ?_ ?_ ?_ ?_ ?_
    · rw [if_neg (by omega), if_neg (by omega)]
    · rw [if_neg (by omega), if_neg (by omega)]
    · rw [if_neg (by omega), if_neg (by omega), e0 _ _ _ (by decide)]; exact hR.1
    · rw [if_neg (by omega), if_neg (by omega), e0 _ _ _ (by decide)]; exact hR.2.1
    · intro c hc
      rw [if_neg (by omega), if_neg (by omega), e0 _ _ _ (by decide)]; exact hR.2.2.1 c hc
    · intro i hi
      rw [if_neg (by omega), if_neg (by omega), e0 _ _ _ (by decide)]; exact hR.2.2.2.1 i hi
    · intro i hi
      by_cases h1 : i = 10 * l + o
      · rw [if_pos (by omega), h1, wr_eq]
      · rw [if_neg (by omega), wr_ne (fun q => h1 q.2)]
        by_cases h2 : i = 10 * l + e
        · rw [if_pos (by omega), h2, wr_eq]
        · rw [if_neg (by omega), wr_ne (fun q => h2 q.2)]; exact hR.2.2.2.2.1 i hi
    · intro i hi
      rw [if_neg (by omega), if_neg (by omega), e0 _ _ _ (by decide)]; exact hR.2.2.2.2.2.1 i hi
theorem qy_WfT {l e o : Nat} {x y : Int32} (hW : qy_Wf g B) (hl : l < 2) (he : e < 10) (ho : o < 10)
    (hp : ∀ l' e', l' < 2 → e' < 10 → (fun c => if c = 23 + 10 * l + o then y else if c = 23 + 10 * l + e then x else g c) (23 + 10 * l' + e') = 0 ∨ ∃ o', o' < qy_ec g ∧ e' < qy_ec g ∧ o' ≠ e' ∧ (fun c => if c = 23 + 10 * l + o then y else if c = 23 + 10 * l + e then x else g c) (23 + 10 * l' + e') = nI (o' + 1) ∧ (fun c => if c = 23 + 10 * l + o then y else if c = 23 + 10 * l + e then x else g c) (23 + 10 * l' + o') = nI (e' + 1)) :
    qy_Wf (fun c => if c = 23 + 10 * l + o then y else if c = 23 + 10 * l + e then x else g c) B := by
  have hz : ∀ c, c < 23 ∨ 43 ≤ c → (fun c => if c = 23 + 10 * l + o then y else if c = 23 + 10 * l + e then x else g c) c = g c := fun c hc => by
    show (if _ then _ else _) = _
    rw [if_neg (by omega), if_neg (by omega)]
  generalize hG : (fun c => if c = 23 + 10 * l + o then y else if c = 23 + 10 * l + e then x else g c) = G at *
  have hec : qy_ec G = qy_ec g := by
    unfold qy_ec
    rw [hz 4 (by decide)]
  refine qy_WfL hW (fun c h1 _ => hz c (Or.inr h1)) (hz 5 (by decide)) (hz 6 (by decide)) ?_ ?_ ?_ ?_ ?_ ?_
  · rw [hec, hz 4 (by decide)]; exact hW.1
  · rw [hec]; exact hW.2.1
  · rw [hec]; exact Nat.le_refl _
  · rw [hz 1 (by decide)]; exact hW.2.2.2.2.2.1
  · intro i hi
    rw [hz _ (by omega)]; exact hW.2.2.2.2.2.2.1 i hi
  · rw [hec]; exact hp
end QYV
