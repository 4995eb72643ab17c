/-! the law -/
section QL
variable {F B B' L : Nat} {f0 : qz_F} {S T : qz_S}
theorem ql_a {x : Option (Int32 × qz_S)} {mm : qz_S → Option (Int32 × qz_S)} {G : Int32 × qz_S → Option (Int32 × qz_S)} (P : Option (Int32 × qz_S) → Prop) (h : qy_Call f0 B x mm) (hG : ∀ v S' S'', qy_Co f0 S'.1 → mm S' = some (v, S'') → qy_Inv f0 B S'' → P (G (v, S'))) : P (Option.bind x G) := by
  obtain ⟨v, S', S'', a1, a2, a3, a4⟩ := h
  rw [a1, Option.bind_some]
  exact hG v S' S'' a2 a3 a4
theorem ql_q {x : Option Int32} {mm : Option (Int32 × qz_S)} {G : Int32 → Option (Int32 × qz_S)} (P : Option (Int32 × qz_S) → Prop) (h : qy_Qry f0 B x mm) (hG : ∀ v S'', mm = some (v, S'') → qy_Inv f0 B S'' → P (G v)) : P (Option.bind x G) := by
  obtain ⟨v, S'', a1, a2, a3⟩ := h
  rw [a1, Option.bind_some]
  exact hG v S'' a2 a3
theorem ql_out (hL : L ≤ 2048) {i : Nat} (hi : i ≤ 3000) : (nI L - 4 < nI i) = (L < i + 4) := by
  rw [Int32.lt_iff_toInt_lt, show (4 : Int32) = nI 4 from rfl, qy_subI (by omega) (by omega), qy_ti (by omega)]
  exact propext ⟨fun h => by omega, fun h => by omega⟩
set_option maxHeartbeats 4000000 in
theorem ql_loop (hL : L ≤ 2048) (hF : 1132 < F) (h33 : f0 (33, 1, 0) 0 = nI L) (hK : qy_K f0) : ∀ (d n i B : Nat) (T : qz_S), L < i + 4 * d → d < n → i ≤ 3000 → B + 30 * d ≤ 60000 → qy_Inv f0 B T → ∃ S', gL_law_L18 F (fun y3176 T177 => some ((1 : Int32), T177)) n (nI i) T = some (1, S') := by
  intro d
  have hln : ∀ U : qz_S, qy_Co f0 U.1 → qz_ln U.1 (33, 0, 0) = L := fun U hU => by
    show (U.1 (33, 1, 0) 0).toNatClampNeg = L
    rw [hU _ _ (by decide), h33, qz_cl_nI (by omega)]
  have hz : ∀ (U : qz_S) (k : Nat), qy_Co f0 U.1 → U.1 (33, 0, 0) k = f0 (33, 0, 0) k := fun U k hU => hU _ _ (by decide)
  induction d with
  | zero =>
    intro n i B T h1 h2 h3 _ hI
    obtain ⟨n, rfl⟩ : ∃ n', n = n' + 1 := ⟨n - 1, by omega⟩
    refine ⟨T, ?_⟩
    rw [gL_law_L18, hln T hI.2.2.2.2, if_pos (by rw [show Int32.ofNat L = nI L from rfl, ql_out hL h3]; omega)]
  | succ d ih =>
    intro n i B T h1 h2 h3 hB hI
    by_cases h4 : L < i + 4
    · obtain ⟨n, rfl⟩ : ∃ n', n = n' + 1 := ⟨n - 1, by omega⟩
      refine ⟨T, ?_⟩
      rw [gL_law_L18, hln T hI.2.2.2.2, if_pos (by rw [show Int32.ofNat L = nI L from rfl, ql_out hL h3]; exact h4)]
    · obtain ⟨n, rfl⟩ : ∃ n', n = n' + 1 := ⟨n - 1, by omega⟩
      have hC := hI.2.2.2.2
      have hlt : ¬ Int32.ofNat L - 4 < nI i := by rw [show Int32.ofNat L = nI L from rfl, ql_out hL h3]; exact h4
      have e2 : nI i + (2 : Int32) = nI (i + 2) := by rw [show (2 : Int32) = nI 2 from rfl, qy_add]
      have e3 : nI i + (3 : Int32) = nI (i + 3) := by rw [show (3 : Int32) = nI 3 from rfl, qy_add]
      have e4 : nI i + (4 : Int32) = nI (i + 4) := by rw [show (4 : Int32) = nI 4 from rfl, qy_add]
      have x0 : qz_xi (nI i) L = true := qz_xi_nI (by omega) (by omega)
      have x1 : qz_xi (nI (i + 1)) L = true := qz_xi_nI (by omega) (by omega)
      have x2 : qz_xi (nI (i + 2)) L = true := qz_xi_nI (by omega) (by omega)
      have x3 : qz_xi (nI (i + 3)) L = true := qz_xi_nI (by omega) (by omega)
      have z0 : (nI i).toNatClampNeg = i := qz_cl_nI (by omega)
      have z1 : (nI (i + 1)).toNatClampNeg = i + 1 := qz_cl_nI (by omega)
      have z2 : (nI (i + 2)).toNatClampNeg = i + 2 := qz_cl_nI (by omega)
      have z3 : (nI (i + 3)).toNatClampNeg = i + 3 := qz_cl_nI (by omega)
      have hgo : ∀ B' S'', qy_Inv f0 B' S'' → B' ≤ B + 30 → ∃ S', gL_law_L18 F (fun y3176 T177 => some ((1 : Int32), T177)) n (nI (i + 4)) S'' = some (1, S') := fun B' S'' hS hB' => ih n (i + 4) (B + 30) S'' (by omega) (by omega) (by omega) (by omega) (qy_InvB hB' (by omega) hS)
      rw [gL_law_L18, hln T hC, if_neg hlt, if_pos x0]
      simp only [qz_nI1, e2, e3, e4, z0, z1, z2, z3, hz T _ hC]
      generalize hw : f0 (33, 0, 0) i &&& 31 = w
      by_cases c0 : w = 0
      · rw [if_pos c0]
        rw [if_pos x1]
        refine ql_a (fun r => ∃ S', r = some (1, S')) (qy_addEnd hI hF (by omega) _) (fun v S' S'' g2 g3 g4 => ?_)
        simp only [hln S' g2, x1, if_true, hz S' _ g2]
        rw [g3]
        simp only [Option.bind_some, if_true]
        exact hgo _ S'' g4 (by omega)
      rw [if_neg c0]
      by_cases c1 : w = 1
      · rw [if_pos c1]
        rw [if_pos x1]
        rw [if_pos x2]
        rw [if_pos x3]
        refine ql_a (fun r => ∃ S', r = some (1, S')) (qy_book hI hF (by omega) _ _ _) (fun v S' S'' g2 g3 g4 => ?_)
        simp only [hln S' g2, x1, x2, x3, if_true, hz S' _ g2]
        rw [g3]
        simp only [Option.bind_some, if_true]
        exact hgo _ S'' g4 (by omega)
      rw [if_neg c1]
      by_cases c2 : w = 2
      · rw [if_pos c2]
        refine ql_a (fun r => ∃ S', r = some (1, S')) (qy_bookAll hI hF (by omega)) (fun v S' S'' g2 g3 g4 => ?_)
        simp only
        rw [g3]
        simp only [Option.bind_some, if_true]
        exact hgo _ S'' g4 (by omega)
      rw [if_neg c2]
      by_cases c3 : w = 3
      · rw [if_pos c3]
        rw [if_pos x1]
        refine ql_a (fun r => ∃ S', r = some (1, S')) (qy_takeBack hI hF (by omega) _) (fun v S' S'' g2 g3 g4 => ?_)
        simp only [hln S' g2, x1, if_true, hz S' _ g2]
        rw [g3]
        simp only [Option.bind_some, if_true]
        exact hgo _ S'' g4 (by omega)
      rw [if_neg c3]
      by_cases c4 : w = 4
      · rw [if_pos c4]
        rw [if_pos x1]
        rw [if_pos x2]
        refine ql_a (fun r => ∃ S', r = some (1, S')) (qy_stay hI hF (by omega) _ _) (fun v S' S'' g2 g3 g4 => ?_)
        simp only [hln S' g2, x1, x2, if_true, hz S' _ g2]
        rw [g3]
        simp only [Option.bind_some, if_true]
        exact hgo _ S'' g4 (by omega)
      rw [if_neg c4]
      by_cases c5 : w = 5
      · rw [if_pos c5]
        rw [if_pos x1]
        rw [if_pos x2]
        rw [if_pos x3]
        refine ql_a (fun r => ∃ S', r = some (1, S')) (qy_merge hI hF (by omega) _ _ _) (fun v S' S'' g2 g3 g4 => ?_)
        simp only [hln S' g2, x1, x2, x3, if_true, hz S' _ g2]
        rw [g3]
        simp only [Option.bind_some, if_true]
        exact hgo _ S'' g4 (by omega)
      rw [if_neg c5]
      by_cases c6 : w = 6
      · rw [if_pos c6]
        rw [if_pos x1]
        rw [if_pos x2]
        refine ql_a (fun r => ∃ S', r = some (1, S')) (qy_part hI hF (by omega) _ _) (fun v S' S'' g2 g3 g4 => ?_)
        simp only [hln S' g2, x1, x2, if_true, hz S' _ g2]
        rw [g3]
        simp only [Option.bind_some, if_true]
        exact hgo _ S'' g4 (by omega)
      rw [if_neg c6]
      by_cases c7 : w = 7
      · rw [if_pos c7]
        rw [if_pos x1]
        rw [if_pos x2]
        refine ql_a (fun r => ∃ S', r = some (1, S')) (qy_set hI hK hF (by omega) _ _) (fun v S' S'' g2 g3 g4 => ?_)
        simp only [hln S' g2, x1, x2, if_true, hz S' _ g2]
        rw [g3]
        simp only [Option.bind_some, if_true]
        exact hgo _ S'' g4 (by omega)
      rw [if_neg c7]
      by_cases c8 : w = 8
      · rw [if_pos c8]
        refine ql_a (fun r => ∃ S', r = some (1, S')) (qy_passDay hI hF (by omega)) (fun v S' S'' g2 g3 g4 => ?_)
        simp only
        rw [g3]
        simp only [Option.bind_some, if_true]
        exact hgo _ S'' g4 (by omega)
      rw [if_neg c8]
      by_cases c9 : w = 9
      · rw [if_pos c9]
        rw [if_pos x1]
        refine ql_a (fun r => ∃ S', r = some (1, S')) (qy_type hI _ (qt_char _)) (fun v S' S'' g2 g3 g4 => ?_)
        simp only [hln S' g2, x1, if_true, hz S' _ g2]
        rw [g3]
        simp only [Option.bind_some, if_true]
        exact hgo _ S'' g4 (by omega)
      rw [if_neg c9]
      by_cases c10 : w = 10
      · rw [if_pos c10]
        refine ql_a (fun r => ∃ S', r = some (1, S')) (qy_clearText hI) (fun v S' S'' g2 g3 g4 => ?_)
        simp only
        rw [g3]
        simp only [Option.bind_some, if_true]
        exact hgo _ S'' g4 (by omega)
      rw [if_neg c10]
      by_cases c11 : w = 11
      · rw [if_pos c11]
        refine ql_a (fun r => ∃ S', r = some (1, S')) (qy_undo hI hF) (fun v S' S'' g2 g3 g4 => ?_)
        simp only
        rw [g3]
        simp only [Option.bind_some, if_true]
        exact hgo _ S'' g4 (by omega)
      rw [if_neg c11]
      by_cases c12 : w = 12
      · rw [if_pos c12]
        refine ql_a (fun r => ∃ S', r = some (1, S')) (qy_keep hI hF) (fun v S' S'' g2 g3 g4 => ?_)
        simp only
        rw [g3]
        simp only [Option.bind_some, if_true]
        exact hgo _ S'' g4 (by omega)
      rw [if_neg c12]
      by_cases c13 : w = 13
      · rw [if_pos c13]
        refine ql_a (fun r => ∃ S', r = some (1, S')) (qy_restore hI hF (by omega)) (fun v S' S'' g2 g3 g4 => ?_)
        simp only
        rw [g3]
        simp only [Option.bind_some, if_true]
        exact hgo _ S'' g4 (by omega)
      rw [if_neg c13]
      by_cases c14 : w = 14
      · rw [if_pos c14]
        rw [if_pos x1]
        rw [if_pos x2]
        refine ql_q (fun r => ∃ S', r = some (1, S')) (qy_worker hI hF _ _) (fun v S'' g3 g4 => ?_)
        rw [g3]
        simp only [Option.bind_some, if_true]
        exact hgo _ S'' g4 (by omega)
      rw [if_neg c14]
      by_cases c15 : w = 15
      · rw [if_pos c15]
        rw [if_pos x1]
        rw [if_pos x2]
        rw [if_pos x3]
        refine ql_q (fun r => ∃ S', r = some (1, S')) (qy_bus hI hF _ _ _) (fun v S'' g3 g4 => ?_)
        rw [g3]
        simp only [Option.bind_some, if_true]
        exact hgo _ S'' g4 (by omega)
      rw [if_neg c15]
      by_cases c16 : w = 16
      · rw [if_pos c16]
        rw [if_pos x1]
        rw [if_pos x2]
        rw [if_pos x3]
        refine ql_q (fun r => ∃ S', r = some (1, S')) (qy_taken' hI hF _ _ _) (fun v S'' g3 g4 => ?_)
        rw [g3]
        simp only [Option.bind_some, if_true]
        exact hgo _ S'' g4 (by omega)
      rw [if_neg c16]
      by_cases c17 : w = 17
      · rw [if_pos c17]
        rw [if_pos x1]
        rw [if_pos x2]
        rw [if_pos x3]
        refine ql_q (fun r => ∃ S', r = some (1, S')) (qy_why hI hF _ _ _) (fun v S'' g3 g4 => ?_)
        rw [g3]
        simp only [Option.bind_some, if_true]
        exact hgo _ S'' g4 (by omega)
      rw [if_neg c17]
      by_cases c18 : w = 18
      · rw [if_pos c18]
        rw [if_pos x1]
        rw [if_pos x2]
        rw [if_pos x3]
        refine ql_q (fun r => ∃ S', r = some (1, S')) (qy_spares hI hF _ _ _) (fun v S'' g3 g4 => ?_)
        rw [g3]
        simp only [Option.bind_some, if_true]
        exact hgo _ S'' g4 (by omega)
      rw [if_neg c18]
      by_cases c19 : w = 19
      · rw [if_pos c19]
        rw [if_pos x1]
        refine ql_q (fun r => ∃ S', r = some (1, S')) (qy_byMinute hI hF _) (fun v S'' g3 g4 => ?_)
        rw [g3]
        simp only [Option.bind_some, if_true]
        exact hgo _ S'' g4 (by omega)
      rw [if_neg c19]
      by_cases c20 : w = 20
      · rw [if_pos c20]
        rw [if_pos x1]
        refine ql_q (fun r => ∃ S', r = some (1, S')) (qy_count hI hF _) (fun v S'' g3 g4 => ?_)
        rw [g3]
        simp only [Option.bind_some, if_true]
        exact hgo _ S'' g4 (by omega)
      rw [if_neg c20]
      exact hgo _ T hI (by omega)
end QL
