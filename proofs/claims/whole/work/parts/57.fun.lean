/-! the start, and the end -/
section QL2
variable {L : Nat} {xs : Nat → Int32}
theorem qs_k {k w i j : Nat} (h0 : k ≠ 0) (h11 : k ≠ 11) (h12 : k ≠ 12) (h17 : k ≠ 17) (h30 : k < 30) : qz_I0 L xs (k, w, i) j = 0 := by
  unfold qz_I0
  rw [if_neg h0, if_neg h11, if_neg h12, if_neg h17]
  exact qz_F0d h30
theorem qs_c {k w i j : Nat} (h30 : 30 ≤ k) : qz_I0 L xs (k, w, i) j = qz_F0 L xs (k, w, i) j := by
  unfold qz_I0
  rw [if_neg (show ¬ k = 0 by omega), if_neg (show ¬ k = 11 by omega), if_neg (show ¬ k = 12 by omega), if_neg (show ¬ k = 17 by omega)]
theorem qs_17 {j : Nat} : qz_I0 L xs (17, 0, 0) j = if j < 4 then qz_g30 j else 0 := by
  unfold qz_I0
  rw [if_neg (by decide), if_neg (by decide), if_neg (by decide), if_pos rfl]
  by_cases h : j < 4
  · rw [if_pos h, if_pos ⟨h, rfl, rfl⟩]
  · rw [if_neg h, if_neg (fun q => h q.1)]
theorem qs_0 {w i j : Nat} (hw : w < 6) (hi : i < 30) : qz_I0 L xs (0, w, i) j = if j = 0 then -1 else 0 := by
  unfold qz_I0
  rw [if_pos rfl]
  by_cases h : j = 0
  · rw [if_pos h, if_pos h, if_pos (by simp [qz_vl, hw, hi])]
  · rw [if_neg h, if_neg h]
theorem qs_n : qy_n (qz_I0 L xs (17, 0, 0)) = 0 := by
  unfold qy_n
  rw [qs_17]
  decide
theorem qs_ec : qy_ec (qz_I0 L xs (17, 0, 0)) = 0 := by
  unfold qy_ec
  rw [qs_17]
  decide
theorem qs_Rel {w : Nat} (hw : w < 6) : qy_Rel (qz_I0 L xs) w (qz_I0 L xs (17, 0, 0)) := by
  have hLc : qy_Lc (qz_I0 L xs) w = [] := by
    unfold qy_Lc
    rw [List.filter_eq_nil_iff]
    intro r hr
    obtain ⟨i, hi, rfl⟩ := List.mem_map.mp hr
    have hi := List.mem_range.mp hi
    have : qy_rc (qz_I0 L xs) w i 0 = -1 := by
      show qz_I0 L xs (0, w, i) 0 = -1
      rw [qs_0 hw hi, if_pos rfl]
    unfold qy_lv
    rw [this]
    decide
  have hLm : qy_Lm (qz_I0 L xs (17, 0, 0)) = [] := by
    unfold qy_Lm
    rw [qs_n]
    rfl
  refine ⟨?_, ?_, ?_, ?_, ?_, ?_, ?_, ?_, ?_⟩
  · rw [qs_k (by decide) (by decide) (by decide) (by decide) (by decide), qs_17]; rfl
  · rw [qs_k (by decide) (by decide) (by decide) (by decide) (by decide), qs_17]; rfl
  · intro c hc
    rw [qs_k (by decide) (by decide) (by decide) (by decide) (by decide), qs_17, if_neg (by omega)]
  · intro i hi
    rw [qs_k (by decide) (by decide) (by decide) (by decide) (by decide), qs_17, if_neg (by omega)]
  · intro i hi
    rw [qs_17, if_neg (by omega)]
    unfold qz_I0
    rw [if_neg (show ¬ (11 : Nat) = 0 by decide), if_pos rfl, if_pos ⟨hi, hw, rfl⟩]
    rfl
  · intro i hi
    rw [qs_17, if_pos hi]
    unfold qz_I0
    rw [if_neg (show ¬ (12 : Nat) = 0 by decide), if_neg (show ¬ (12 : Nat) = 11 by decide), if_pos rfl, if_pos ⟨hi, hw, rfl⟩]
  · rw [hLc, hLm]
  · intro i hi
    rw [qs_0 hw hi, if_neg (by decide)]
    exact Or.inl rfl
  · intro i hi _ c hc
    rw [qs_0 hw hi, if_neg (by omega)]
theorem qs_Wf : qy_Wf (qz_I0 L xs (17, 0, 0)) 0 := by
  refine ⟨?_, ?_, ?_, ?_, ⟨0, by omega, ?_⟩, ⟨6, by decide, by decide, ?_⟩, ?_, ?_, ?_, ?_, by decide⟩
  · rw [qs_ec, qs_17]; rfl
  · rw [qs_ec]; decide
  · rw [qs_n, qs_17]; rfl
  · rw [qs_n]; decide
  · rw [qs_17]; rfl
  · rw [qs_17]; rfl
  · intro i hi
    rw [qs_17, if_neg (by omega)]
    exact ⟨0, by decide, rfl⟩
  · intro l e _ _
    rw [qs_17, if_neg (by omega)]
    exact Or.inl rfl
  · intro k hk
    rw [qs_n] at hk
    omega
  · intro i k _ hk
    rw [qs_n] at hk
    omega
theorem qs_Inv : qy_Inv (qz_I0 L xs) 0 (qz_I0 L xs, qz_p0) := by
  refine ⟨⟨qs_Rel (by decide), @qs_Wf L xs⟩, ⟨0, fun _ _ => 0, ⟨?_, by omega, ⟨?_, ?_⟩, ?_⟩, ⟨?_, ?_⟩, ?_⟩, Or.inl ⟨?_, ?_⟩, ⟨0, by omega, ?_, ?_, ?_⟩, fun _ _ _ => rfl⟩
  · exact qs_k (L := L) (xs := xs) (k := 2) (w := 0) (i := 0) (j := 1) (by decide) (by decide) (by decide) (by decide) (by decide)
  · intro j hj
    show 1 ≤ 1 + j ∧ 1 + j ≤ 4
    omega
  · intro i j _ _ h
    have h : 1 + i = 1 + j := h
    omega
  · intro j hj; omega
  · exact qs_k (L := L) (xs := xs) (k := 6) (w := 0) (i := 0) (j := 3) (by decide) (by decide) (by decide) (by decide) (by decide)
  · intro j hj; omega
  · intro j hj; omega
  · exact qs_k (L := L) (xs := xs) (k := 5) (w := 0) (i := 0) (j := 4) (by decide) (by decide) (by decide) (by decide) (by decide)
  · exact qs_k (L := L) (xs := xs) (k := 6) (w := 0) (i := 0) (j := 5) (by decide) (by decide) (by decide) (by decide) (by decide)
  · exact qs_k (L := L) (xs := xs) (k := 1) (w := 0) (i := 0) (j := 1) (by decide) (by decide) (by decide) (by decide) (by decide)
  · exact qs_k (L := L) (xs := xs) (k := 6) (w := 0) (i := 0) (j := 7) (by decide) (by decide) (by decide) (by decide) (by decide)
  · intro i hi; omega
theorem qz_fun : qz_Fun := by
  intro L xs hL
  obtain ⟨S', h⟩ := ql_loop (F := 3000) (f0 := qz_I0 L xs) hL (by decide) ((qs_c (by decide)).trans (qz_F331 L xs)) ⟨funext fun j => (qs_c (by decide)).trans (congrFun (qz_F31 L xs) j), funext fun j => (qs_c (by decide)).trans (congrFun (qz_F32 L xs) j)⟩ 513 3000 0 0 (qz_I0 L xs, qz_p0) (by omega) (by decide) (by decide) (by decide) qs_Inv
  exact ⟨3000, S', h⟩
end QL2
