/-! the order of the shift ends, by the reference -/
section QYF
variable {F B : Nat}
def qy_mm (g : Nat → Int32) (e : Nat) : Nat := (g (13 + e)).toNatClampNeg
theorem qy_mmE {g : Nat → Int32} (hW : qy_Wf g B) {e : Nat} (he : e < 10) : g (13 + e) = nI (qy_mm g e) ∧ qy_mm g e < 1440 := by
  obtain ⟨m, hm, a1, a2⟩ := qy_min hW he
  unfold qy_mm
  rw [a2]
  exact ⟨a1, hm⟩
theorem qy_erE {g : Nat → Int32} {o e : Nat} : qy_er g o e = decide (qy_mm g o < qy_mm g e ∨ (qy_mm g o = qy_mm g e ∧ o < e)) := rfl
theorem qy_cltn (k : Nat) : ∀ n, (List.range n).countP (fun i => decide (i < k)) = min n k := by
  intro n
  induction n with
  | zero => simp
  | succ n ih =>
    rw [List.range_succ, List.countP_append, List.countP_singleton, ih]
    by_cases h : n < k
    · simp [h]; omega
    · simp [h]; omega
end QYF
