/-! p24: the start, and the end -/
def qs_g (j : Nat) : Int32 := if j < 4 then qz_g30 j else 0
section QVE
variable {L : Nat} {xs : Nat → Int32}
theorem qs_k {k w i j : Nat} (h0 : k ≠ 0) (h11 : k ≠ 11) (h12 : k ≠ 12) (h30 : k < 30) : qz_I0 L xs (k, w, i) j = 0 := by
  unfold qz_I0
  rw [if_neg h0, if_neg h11, if_neg h12]
  exact qz_F0d h30
theorem qs_c {k w i j : Nat} (h30 : 30 ≤ k) : qz_I0 L xs (k, w, i) j = qz_F0 L xs (k, w, i) j := by
  unfold qz_I0
  rw [if_neg (show ¬ k = 0 by omega), if_neg (show ¬ k = 11 by omega), if_neg (show ¬ k = 12 by omega)]
theorem qs_lo {j : Nat} (h : j < 4) : qs_g j = qz_g30 j := if_pos h
theorem qs_hi {j : Nat} (h : 4 ≤ j) : qs_g j = 0 := if_neg (by omega)
theorem qs_0 {w i j : Nat} (hw : w < 6) (hi : i < 30) : qz_I0 L xs (0, w, i) j = if j = 0 then -1 else 0 := by
  unfold qz_I0
  rw [if_pos rfl]
  by_cases h : j = 0
  · rw [if_pos h, if_pos h, if_pos (by simp [qz_vl, hw, hi])]
  · rw [if_neg h, if_neg h]
theorem qs_n : qy_n qs_g = 0 := by
  unfold qy_n
  rw [qs_hi (by decide)]
  decide
theorem qs_ec : qy_ec qs_g = 0 := by
  unfold qy_ec
  rw [qs_hi (by decide)]
  decide
theorem qs_Rel {w : Nat} (hw : w < 6) : qy_Rel (qz_I0 L xs) w qs_g := by
  have hLc : qy_Lc (qz_I0 L xs) w = [] := by
    unfold qy_Lc
    rw [List.filter_eq_nil_iff]
    intro r hr
    obtain ⟨i, hi, rfl⟩ := List.mem_map.mp hr
    have hi := List.mem_range.mp hi
    have : qy_rc (qz_I0 L xs) w i 0 = -1 := by
      show qz_I0 L xs (0, w, i) 0 = -1
      rw [qs_0 hw hi, if_pos rfl]
    unfold qy_lv
    rw [this]
    decide
  have hLm : qy_Lm qs_g = [] := by
    unfold qy_Lm
    rw [qs_n]
    rfl
  refine ⟨?_, ?_, ?_, ?_, ?_, ?_, ?_, ?_, ?_⟩
  · rw [qs_k (by decide) (by decide) (by decide) (by decide), qs_hi (by decide)]
  · rw [qs_k (by decide) (by decide) (by decide) (by decide), qs_hi (by decide)]
  · intro c hc
    rw [qs_k (by decide) (by decide) (by decide) (by decide), qs_hi (by omega)]
  · intro i hi
    rw [qs_k (by decide) (by decide) (by decide) (by decide), qs_hi (by omega)]
  · intro i hi
    rw [qs_hi (by omega)]
    unfold qz_I0
    rw [if_neg (show ¬ (11 : Nat) = 0 by decide), if_pos rfl, if_pos ⟨hi, hw, rfl⟩]
    rfl
  · intro i hi
    rw [qs_lo hi]
    unfold qz_I0
    rw [if_neg (show ¬ (12 : Nat) = 0 by decide), if_neg (show ¬ (12 : Nat) = 11 by decide), if_pos rfl, if_pos ⟨hi, hw, rfl⟩]
  · rw [hLc, hLm]
  · intro i hi
    rw [qs_0 hw hi, if_neg (by decide)]
    exact Or.inl rfl
  · intro i hi _ c hc
    rw [qs_0 hw hi, if_neg (by omega)]
theorem qs_Wf : qv_Wf qs_g 0 := by
  refine ⟨⟨?_, ?_, ?_, ?_, ⟨0, by omega, ?_⟩, ⟨6, by decide, by decide, ?_⟩, ?_, ?_, ?_, ?_, by decide⟩, ?_⟩
  · rw [qs_ec, qs_hi (by decide)]; rfl
  · rw [qs_ec]; decide
  · rw [qs_n, qs_hi (by decide)]; rfl
  · rw [qs_n]; decide
  · rw [qs_hi (by decide)]; rfl
  · rw [qs_lo (by decide)]; rfl
  · intro i hi
    rw [qs_hi (by omega)]
    exact ⟨0, by decide, rfl⟩
  · intro l e _ _
    rw [qs_hi (by omega)]
    exact Or.inl rfl
  · intro k hk
    rw [qs_n] at hk
    omega
  · intro i k _ hk
    rw [qs_n] at hk
    omega
  · intro n hn
    rw [qs_lo hn]
    have hc : n = 0 ∨ n = 1 ∨ n = 2 ∨ n = 3 := by omega
    unfold qy_vs
    rcases hc with rfl | rfl | rfl | rfl <;> decide
theorem qs_I : qv_I (qz_I0 L xs) 0 (qz_I0 L xs, qz_p0) qs_g 0 (fun _ _ => 0) none := by
  refine ⟨qs_Rel (by decide), qs_Wf, ⟨?_, by omega, ⟨?_, ?_⟩, ?_⟩, ?_, ⟨?_, fun _ _ _ => rfl⟩⟩
  · exact qs_k (L := L) (xs := xs) (k := 2) (w := 0) (i := 0) (j := 1) (by decide) (by decide) (by decide) (by decide)
  · intro j hj
    show 1 ≤ 1 + j ∧ 1 + j ≤ 4
    omega
  · intro i j _ _ h
    have h : 1 + i = 1 + j := h
    omega
  · intro j hj; omega
  · intro j hj; omega
  · exact qs_k (L := L) (xs := xs) (k := 5) (w := 0) (i := 0) (j := 4) (by decide) (by decide) (by decide) (by decide)
theorem qz_fun : qz_Fun := by
  intro L xs hL
  have hI := qs_I (L := L) (xs := xs)
  have hr : gX_restore 3000 (qz_I0 L xs, qz_p0) = some (-5, (qz_I0 L xs, qz_p0)) := by
    unfold gX_restore
    rw [show (qz_I0 L xs, qz_p0).1 (5, 0, 0) 4 = 0 from hI.2.2.2.2.1]
    rfl
  obtain ⟨S', a1, a2⟩ := qv_keep (F := 3000) hI (by decide)
  obtain ⟨z, hz⟩ := qv_told (F := 3000) qs_Wf.1 (by decide) (by decide)
  obtain ⟨S'', h⟩ := qv_loop (F := 3000) (f0 := qz_I0 L xs) hL (by decide) ((qs_c (by decide)).trans (qz_F331 L xs)) ⟨funext fun j => (qs_c (by decide)).trans (congrFun (qz_F31 L xs) j), funext fun j => (qs_c (by decide)).trans (congrFun (qz_F32 L xs) j)⟩ 34 3000 0 S' qs_g 0 (fun _ _ => 0) qs_g z (by decide) (by decide) a2 hz
  refine ⟨3000, S'', ?_⟩
  unfold gL_law
  rw [qv_undo0 (F := 3000) hI, Option.bind_some, if_pos rfl]
  dsimp only
  rw [hr, Option.bind_some, if_pos rfl]
  dsimp only
  rw [a1, Option.bind_some, if_pos (by rw [qs_n]; rfl), hz _ a2.1, Option.bind_some]
  exact h
end QVE
