/-! rides are laid; what a bus costs; ranks -/
section QYE
variable {F B : Nat}
theorem qy_on5 {g r : Nat → Int32} (h : qy_Wr g B r) (hec : qy_ec g ≤ 10) (l e : Int32) : qy_on l e (-5) r = qy_on l e e r := by
  obtain ⟨_, ⟨a, ha, e1⟩, _⟩ := h
  unfold qy_on
  rw [e1]
  have : ¬ nI a = -5 := qy_n5 (by omega)
  simp [this]
theorem qy_rion {g : Nat → Int32} {L : List (Nat → Int32)} (hL : ∀ r, r ∈ L → qy_Wr g B r) (hec : qy_ec g ≤ 10) (l e st : Int32) {r : Nat → Int32} (hr : r ∈ L) : qy_ri g L l e (-5) st r = qy_ri g L l e e st r := by
  unfold qy_ri qy_ca
  rw [qy_on5 (hL r hr) hec]
  congr 3
  refine congrArg nI (List.countP_congr (fun q hq => ?_))
  rw [qy_on5 (hL q hq) hec]
end QYE
