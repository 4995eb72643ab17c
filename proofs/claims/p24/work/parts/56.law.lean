/-! p24: the law's loop -/
def qv_Q (r : Option (Int32 × qz_S)) : Prop := ∃ S', r = some (1, S')
section QVL
variable {F B B' L m t : Nat} {f0 f : qz_F} {g g' gk : Nat → Int32} {G : Nat → Nat → Int32} {S T : qz_S}
theorem qv_ActK {B'' : Nat} {v : Int32} {x : qz_S → Option (Int32 × qz_S)} (hk : qv_Wf gk B) (h : qv_Act F f0 B B' (some gk) g x v g') : qv_Act F f0 B'' B' (some gk) g x v g' := by
  have hJ : ∀ f, qv_J f0 B'' (some gk) f → qv_J f0 B (some gk) f := fun f hJ => ⟨⟨hJ.1.1, hJ.1.2.1, hk⟩, hJ.2⟩
  refine ⟨h.1, ?_⟩
  rcases h.2 with ⟨a, b, c⟩ | ⟨a, c⟩
  · exact Or.inl ⟨a, b, fun S hR h' => c S hR (hJ _ h')⟩
  · exact Or.inr ⟨a, fun S hR h' => c S hR (hJ _ h')⟩
theorem qv_cell (hL : L ≤ 260) (h33 : f0 (33, 1, 0) 0 = nI L) (hC : qy_Co f0 f) {i : Nat} (hi : i < 100000) : ∃ v, gL_cell F f (nI i) = some v := by
  have hln : qz_ln f (33, 0, 0) = L := by
    show (f (33, 1, 0) 0).toNatClampNeg = L
    rw [hC _ _ (by decide), h33, qz_cl_nI (by omega)]
  unfold gL_cell
  rw [hln]
  by_cases h : Int32.ofNat L ≤ nI i
  · exact ⟨_, if_pos h⟩
  · rw [if_neg h]
    rw [show Int32.ofNat L = nI L from rfl, qy_le (by omega) (by omega)] at h
    have x0 : qz_xi (nI i) L = true := qz_xi_nI (by omega) (by omega)
    exact ⟨_, if_pos x0⟩
theorem qv_cmp (x : Int64) : lg_cmp x x = 0 := by
  unfold lg_cmp
  simp
theorem qv_P340 {R : Int32 → Int64 → qz_S → Option (Int32 × qz_S)} {l19 l30 : Int64} (y4 y5 : Int32) (hI : qv_I f0 B S g m G (some gk)) (hF : 30 < F) (hB : B < F)
    (hl : ∀ f, qy_Rel f 0 gk → gL_told F f = some l19) (hl' : ∀ f, qy_Rel f 0 g → gL_told F f = some l30)
    (hR : ∀ S' g' m' G' gk' l, qv_I f0 B S' g' m' G' (some gk') → (∀ f, qy_Rel f 0 gk' → gL_told F f = some l) → qv_Q (R (y4 + 1) l S')) : qv_Q (gL_law_P340 F R y4 y5 l19 l30 S) := by
  have hP : qv_Q (gL_law_P357 F R y4 y5 l19 l30 S) := by
    unfold gL_law_P357
    by_cases h : ((y5 >>> ((14 : Int32) &&& 31)) &&& (7 : Int32)) = (1 : Int32)
    · rw [if_pos h]
      obtain ⟨S', a1, a2⟩ := qv_keep hI hF
      rw [a1, Option.bind_some]
      exact hR _ _ _ _ _ _ a2 hl'
    · rw [if_neg h]
      exact hR _ _ _ _ _ _ hI hl
  unfold gL_law_P340
  by_cases h : (y4 - y4 / (2 : Int32) * (2 : Int32)) = (1 : Int32)
  · rw [if_pos h, qv_holds hI.1 hI.2.1.1 hF hB, Option.bind_some, if_neg (by decide)]
    exact hP
  · rw [if_neg h]
    exact hP
theorem qv_m1 (hm : m ≤ 4) : ∃ m0, qy_m1 m = m0 + 1 ∧ (∀ G : Nat → Nat → Int32, qy_G1 m G g m0 = g) := by
  unfold qy_m1 qy_G1
  by_cases h : m < 4
  · refine ⟨m, if_pos h, fun G => ?_⟩
    rw [if_pos h, if_pos rfl]
  · refine ⟨3, if_neg h, fun G => ?_⟩
    rw [if_neg h, if_pos rfl]
theorem qv_P271 {R : Int32 → Int64 → qz_S → Option (Int32 × qz_S)} {l19 l24 l30 : Int64} {v : Int32} (y4 y5 y6 : Int32) (hm : m ≤ 4) (hI : qv_I f0 (t + 1) S g' (qy_m1 m) (qy_G1 m G g) (some gk)) (hF : 30 < F) (hB : t + 1 < F) (hB6 : t + 1 ≤ 60000)
    (hk : qv_Wf gk t) (hA : qv_Act F f0 t (t + 1) (some gk) g (fun S => gL_act F S y5 y6) v g') (hv : 0 ≤ v)
    (hl : ∀ f, qy_Rel f 0 gk → gL_told F f = some l19) (hg : ∀ f, qy_Rel f 0 g → gL_told F f = some l24) (hl' : ∀ f, qy_Rel f 0 g' → gL_told F f = some l30)
    (hR : ∀ S' g' m' G' gk' l, qv_I f0 (t + 1) S' g' m' G' (some gk') → (∀ f, qy_Rel f 0 gk' → gL_told F f = some l) → qv_Q (R (y4 + 1) l S')) : qv_Q (gL_law_P271 F R y4 y5 y6 v l19 l24 l30 S) := by
  have hnv : ¬ v < 0 := Int32.not_lt.mpr hv
  unfold gL_law_P271
  rw [if_neg hnv]
  by_cases h : ((y5 >>> ((13 : Int32) &&& 31)) &&& (1 : Int32)) = 0
  · rw [if_pos h, qv_count16, Option.bind_some, hI.2.2.1.1]
    obtain ⟨m0, e1, e2⟩ := qv_m1 (g := g) hm
    rw [e1] at hI ⊢
    obtain ⟨S2, a1, a2⟩ := qv_undo hI hF
    have hm0 := hI.2.2.1.2.1
    rw [e2] at a2
    rw [a1, Option.bind_some, if_pos (by rw [show (1 : Int32) = nI 1 from rfl, qy_sub (by omega)]; rfl), hg _ a2.1, Option.bind_some, if_pos (qv_cmp _)]
    rcases qv_act (B := t + 1) (B' := t + 1) a2 (Nat.le_refl _) hB6 hF (qv_ActK hk hA) with ⟨b1, _⟩ | ⟨_, S3, b1, b2⟩
    · exact absurd b1 hnv
    · dsimp only at b1 ⊢
      rw [b1, Option.bind_some, if_pos rfl, hl' _ b2.1, Option.bind_some, if_pos (qv_cmp _)]
      exact qv_P340 y4 y5 b2 hF hB hl hl' hR
  · rw [if_neg h]
    exact qv_P340 y4 y5 hI hF hB hl hl' hR
theorem qv_P193 {R : Int32 → Int64 → qz_S → Option (Int32 × qz_S)} {l19 l24 l30 : Int64} {v : Int32} {m' : Nat} {G' : Nat → Nat → Int32} (y4 y5 y6 : Int32) (hI : qv_I f0 (t + 1) S g' m' G' (some gk)) (hF : 30 < F) (hB : t + 1 < F)
    (hs : (y5 &&& (15 : Int32)) = 6 ∨ (y5 &&& (15 : Int32)) = 7 → g' 8 + g' 9 + g' 10 = g 8 + g 9 + g 10 + g 6) (hr : (y5 &&& (15 : Int32)) = 8 → (y6 &&& (1 : Int32)) = 1 → g' = gk)
    (hl : ∀ f, qy_Rel f 0 gk → gL_told F f = some l19) (hl' : ∀ f, qy_Rel f 0 g' → gL_told F f = some l30)
    (hP : qv_Q (gL_law_P271 F R y4 y5 y6 v l19 l24 l30 S)) : qv_Q (gL_law_P193 F R y4 y5 y6 (g 8 + g 9 + g 10) (g 6) v l19 l24 l30 S) := by
  have hW := hI.2.1.1
  have c6 : gX_count F S.1 6 = some (g' 8) := qv_count hI.1 hW hF (a := 6) (by decide)
  have c7 : gX_count F S.1 7 = some (g' 9) := qv_count hI.1 hW hF (a := 7) (by decide)
  have c8 : gX_count F S.1 8 = some (g' 10) := qv_count hI.1 hW hF (a := 8) (by decide)
  have h2 : qv_Q (gL_law_P242 F R y4 y5 y6 v (y5 &&& (15 : Int32)) l19 l24 l30 S) := by
    unfold gL_law_P242
    by_cases n : v < 0
    · rw [if_pos n]
      exact hP
    rw [if_neg n]
    by_cases h8 : (y5 &&& (15 : Int32)) = 8
    · rw [if_pos h8]
      by_cases h1 : (y6 &&& (1 : Int32)) = 1
      · rw [if_pos h1]
        have e := hl' _ hI.1
        have e2 := hl S.1 (by rw [← hr h8 h1]; exact hI.1)
        rw [e] at e2
        rw [Option.some.inj e2] at hP ⊢
        rw [if_pos (qv_cmp _)]
        exact hP
      · rw [if_neg h1]
        exact hP
    · rw [if_neg h8]
      exact hP
  unfold gL_law_P193
  by_cases h6 : (y5 &&& (15 : Int32)) = 6
  · rw [if_pos h6, c6, Option.bind_some, c7, Option.bind_some, c8, Option.bind_some, if_pos (hs (Or.inl h6))]
    exact h2
  rw [if_neg h6]
  by_cases h7 : (y5 &&& (15 : Int32)) = 7
  · rw [if_pos h7, c6, Option.bind_some, c7, Option.bind_some, c8, Option.bind_some, if_pos (hs (Or.inr h7))]
    exact h2
  · rw [if_neg h7]
    exact h2
theorem qv_turn {R : Int32 → Int64 → qz_S → Option (Int32 × qz_S)} {l19 : Int64} (a1 a2 : Int32) (hI : qv_I f0 t T g m G (some gk)) (hK : qy_K f0) (hF : 30 < F) (hB : t + 1 < F) (hB6 : t + 1 ≤ 60000)
    (hl : ∀ f, qy_Rel f 0 gk → gL_told F f = some l19)
    (hR : ∀ S' g' m' G' gk' l, qv_I f0 (t + 1) S' g' m' G' (some gk') → (∀ f, qy_Rel f 0 gk' → gL_told F f = some l) → qv_Q (R (nI t + 1) l S')) :
    qv_Q (Option.bind (gL_told F T.1) fun z16 => Option.bind (gX_count F T.1 (16 : Int32)) fun x18 => Option.bind (gX_count F T.1 (6 : Int32)) fun x20 => Option.bind (gX_count F T.1 (7 : Int32)) fun x22 => Option.bind (gX_count F T.1 (8 : Int32)) fun x24 => Option.bind (gX_count F T.1 (1 : Int32)) fun x26 => Option.bind (gL_act F T a1 a2) fun R28 => Option.bind (gL_told F R28.2.1) fun z30 => if 0 ≤ R28.1 then (Option.bind (gX_count F R28.2.1 (16 : Int32)) fun x33 => Option.bind (if (4 : Int32) ≤ x18 then (some (4 : Int32)) else (some (x18 + (1 : Int32)))) fun j35 => if x33 = j35 then (gL_law_P193 F R (nI t) a1 a2 ((x20 + x22) + x24) x26 R28.1 l19 z16 z30 R28.2) else (some ((0 : Int32), R28.2))) else (if (lg_cmp z30 z16) = 0 then (Option.bind (gX_count F R28.2.1 (16 : Int32)) fun x83 => if x83 = x18 then (gL_law_P193 F R (nI t) a1 a2 ((x20 + x22) + x24) x26 R28.1 l19 z16 z30 R28.2) else (some ((0 : Int32), R28.2))) else (some ((0 : Int32), R28.2)))) := by
  have hW := hI.2.1.1
  have hm : m ≤ 4 := hI.2.2.1.2.1
  have hk : qv_Wf gk t := hI.2.2.2.2.1.2.2
  have c6 : gX_count F T.1 6 = some (g 8) := qv_count hI.1 hW hF (a := 6) (by decide)
  have c7 : gX_count F T.1 7 = some (g 9) := qv_count hI.1 hW hF (a := 7) (by decide)
  have c8 : gX_count F T.1 8 = some (g 10) := qv_count hI.1 hW hF (a := 8) (by decide)
  have c1 : gX_count F T.1 1 = some (g 6) := qv_count hI.1 hW hF (a := 1) (by decide)
  obtain ⟨z16, hg⟩ := qv_told hW hF (show t < F by omega)
  obtain ⟨v, g', hA, hs, hr⟩ := qv_actL (F := F) (f0 := f0) hI.2.1 hk hK hF hB6 a1 a2
  obtain ⟨z30, hg'⟩ := qv_told (F := F) hA.1.1 hF hB
  rw [hg _ hI.1, Option.bind_some, qv_count16, Option.bind_some, c6, Option.bind_some, c7, Option.bind_some, c8, Option.bind_some, c1, Option.bind_some, hI.2.2.1.1]
  rcases qv_act hI (Nat.le_succ t) hB6 hF hA with ⟨b1, b2, b3, b4⟩ | ⟨b1, S1, b3, b4⟩
  · rw [b3, Option.bind_some, hg' _ b4.1, Option.bind_some, if_neg (Int32.not_le.mpr b1)]
    have e : z30 = z16 := by
      have e1 := hg' _ b4.1
      rw [hg _ hI.1] at e1
      exact (Option.some.inj e1).symm
    rw [e, if_pos (qv_cmp _), qv_count16, Option.bind_some, if_pos hI.2.2.1.1]
    rw [e] at hg'
    refine qv_P193 (nI t) a1 a2 b4 hF hB hs hr hl hg' ?_
    unfold gL_law_P271
    rw [if_pos b1]
    exact qv_P340 (nI t) a1 b4 hF hB hl hg' hR
  · rw [b3, Option.bind_some, hg' _ b4.1, Option.bind_some, if_pos b1, qv_count16, Option.bind_some, b4.2.2.1.1]
    have ej : (if (4 : Int32) ≤ nI m then (some (4 : Int32)) else (some (nI m + (1 : Int32)))) = some (nI (qy_m1 m)) := by
      unfold qy_m1
      have hle : ((4 : Int32) ≤ nI m) = (4 ≤ m) := qy_le (a := 4) (by decide) (by omega)
      by_cases h : m < 4
      · rw [if_neg (by rw [hle]; omega), if_pos h, qz_nI1]
      · rw [if_pos (by rw [hle]; omega), if_neg h]
        rfl
    rw [ej, Option.bind_some, if_pos rfl]
    exact qv_P193 (nI t) a1 a2 b4 hF hB hs hr hl hg' (qv_P271 (nI t) a1 a2 hm b4 hF hB hB6 hk hA b1 hl hg hg' hR)
theorem qv_loop (hL : L ≤ 260) (hF : 100 < F) (h33 : f0 (33, 1, 0) 0 = nI L) (hK : qy_K f0) : ∀ (d n t : Nat) (T : qz_S) (g : Nat → Int32) (m : Nat) (G : Nat → Nat → Int32) (gk : Nat → Int32) (l19 : Int64), t + d = 34 → d < n → qv_I f0 t T g m G (some gk) → (∀ f, qy_Rel f 0 gk → gL_told F f = some l19) →
    qv_Q (gL_law_L43 F (fun y490 l1991 T92 => some ((1 : Int32), T92)) n (nI t) l19 T) := by
  intro d
  induction d with
  | zero =>
    intro n t T g m G gk l19 h1 h2 hI hl
    obtain ⟨n, rfl⟩ : ∃ n', n = n' + 1 := ⟨n - 1, by omega⟩
    refine ⟨T, ?_⟩
    rw [gL_law_L43, if_pos (by rw [show (34 : Int32) = nI 34 from rfl, qy_le (by omega) (by omega)]; omega)]
  | succ d ih =>
    intro n t T g m G gk l19 h1 h2 hI hl
    obtain ⟨n, rfl⟩ : ∃ n', n = n' + 1 := ⟨n - 1, by omega⟩
    have hC : qy_Co f0 T.1 := hI.2.2.2.2.2
    have n1 : ¬ (34 : Int32) ≤ nI t := by rw [show (34 : Int32) = nI 34 from rfl, qy_le (by omega) (by omega)]; omega
    have e2 : (2 : Int32) * nI t = nI (2 * t) := by rw [show (2 : Int32) = nI 2 from rfl, qy_mul]
    rw [gL_law_L43, if_neg n1, e2, qz_nI1]
    obtain ⟨a1, k1⟩ : ∃ a1, (if (2 : Int32) ≤ nI t then (Option.bind (gL_cell F T.1 (nI (2 * t))) fun x87 => some x87) else (some (0 : Int32))) = some a1 := by
      by_cases h : (2 : Int32) ≤ nI t
      · rw [if_pos h]
        obtain ⟨v, hv⟩ := qv_cell (F := F) hL h33 hC (i := 2 * t) (by omega)
        exact ⟨v, by rw [hv]; rfl⟩
      · exact ⟨0, if_neg h⟩
    obtain ⟨a2, k2⟩ := qv_cell (F := F) hL h33 hC (i := 2 * t + 1) (by omega)
    rw [k1, Option.bind_some, k2, Option.bind_some]
    refine qv_turn a1 a2 hI hK (by omega) (by omega) (by omega) hl (fun S' g' m' G' gk' l hI' hl' => ?_)
    rw [qz_nI1]
    exact ih n (t + 1) S' g' m' G' gk' l (by omega) (by omega) hI' hl'
end QVL
