/-! what holds between calls -/
def qy_kd (n : qz_N) : Prop := n.1 = 0 ∨ n.1 = 4 ∨ n.1 = 10 ∨ n.1 = 11 ∨ n.1 = 12
def qy_Co (f0 f : qz_F) : Prop := ∀ n j, 30 ≤ n.1 → f n j = f0 n j
section QYS
variable {F B B' m : Nat} {f0 f f' : qz_F} {g : Nat → Int32} {G : Nat → Nat → Int32} {S S' : qz_S}
theorem qy_HCc {p p' : Nat → Nat} (h2 : p' = p) (hf : ∀ n j, (1 ≤ n.2.1 ∧ n.2.1 ≤ 4 ∧ qy_kd n) ∨ n = (2, 0, 0) → f' n j = f n j) (h : qy_HC f p m G) : qy_HC f' p' m G := by
  obtain ⟨a, b, c, d⟩ := h
  subst h2
  refine ⟨by rw [hf _ _ (Or.inr rfl)]; exact a, b, c, fun j hj => ?_⟩
  refine qy_RelF (qy_cwK (fun n i hk hw => hf n i (Or.inl ⟨?_, ?_, hk⟩))) (d j hj)
  · rw [hw]; exact (c.1 j (by omega)).1
  · rw [hw]; exact (c.1 j (by omega)).2
theorem qy_kd_n {n : qz_N} (h : qy_kd n) {k w i : Nat} (hk : k ≠ 0 ∧ k ≠ 4 ∧ k ≠ 10 ∧ k ≠ 11 ∧ k ≠ 12) : ¬ n = (k, w, i) := qy_nk h hk
end QYS
