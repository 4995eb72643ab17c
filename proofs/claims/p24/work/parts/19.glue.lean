/-! what is left is a statement of functions -/
def qz_Fun : Prop := ∀ (L : Nat) (xs : Nat → Int32), L ≤ 260 → ∃ (F : Nat) (S' : qz_S), gL_law F (qz_I0 L xs, qz_p0) = some (1, S')
theorem qz_pure_of (h : qz_Fun) : qz_Pure := by
  intro L xs hL
  obtain ⟨F, S', h⟩ := h L xs hL
  have hE := vL_law F (qz_I0 L xs, qz_p0) (1, S') h
  obtain ⟨n, hn⟩ := k_L (L := L) (xs := xs) _ _ hE
  exact ⟨n, _, hn, by show 276 ≤ 600000; decide, by show qz_ss 276 ≤ 7302250; decide +kernel⟩
