/-! what the reference tells, read off -/
section QYC
variable {F B : Nat} {f : qz_F}
theorem qy_pac {g : Nat → Int32} (hW : qy_Wf g B) {l e : Nat} (hl : l < 2) (he : e < 10) : qy_pa g l e = -5 ∧ g (23 + 10 * l + e) = 0 ∨ ∃ o, o < qy_ec g ∧ e < qy_ec g ∧ o ≠ e ∧ qy_pa g l e = nI o ∧ qy_pa g l o = nI e ∧ g (23 + 10 * l + e) = nI (o + 1) ∧ ¬ qy_pa g l e = -5 := by
  have h10 := hW.2.1
  have hs : ∀ o, o < 10 → qy_pc (nI (o + 1)) = nI o ∧ ¬ nI o = -5 := by
    intro o ho
    unfold qy_pc
    have h0 : ¬ nI (o + 1) = 0 := by
      have : ¬ nI (o + 1) = nI 0 := by rw [qy_eq (by omega) (by decide)]; omega
      exact this
    rw [if_neg h0, show (1 : Int32) = nI 1 from rfl, qy_sub (by omega)]
    refine ⟨by congr 1, fun q => ?_⟩
    have := congrArg Int32.toInt q
    rw [qy_ti (by omega)] at this
    have h5 : (-5 : Int32).toInt = -5 := rfl
    rw [h5] at this
    omega
  rcases hW.2.2.2.2.2.2.2.1 l e hl he with h | ⟨o, ho, hee, hne, h1, h2⟩
  · left
    refine ⟨?_, h⟩
    unfold qy_pa qy_pc
    rw [if_pos h]
  · right
    have a1 : qy_pa g l e = nI o := by
      unfold qy_pa
      rw [h1]
      exact (hs o (by omega)).1
    have a2 : qy_pa g l o = nI e := by
      unfold qy_pa
      rw [h2]
      exact (hs e (by omega)).1
    exact ⟨o, ho, hee, hne, a1, a2, h1, by rw [a1]; exact (hs o (by omega)).2⟩
theorem qy_n5 {a : Nat} (h : a < 2147483648) : ¬ nI a = -5 := by
  intro q
  have := congrArg Int32.toInt q
  rw [qy_ti h] at this
  have h5 : (-5 : Int32).toInt = -5 := rfl
  rw [h5] at this
  omega
theorem qy_stE {g : Nat → Int32} (hW : qy_Wf g B) {e o : Nat} (ho : o < qy_ec g) : qy_st g e (nI o) = if g (13 + e) < g (13 + o) then g (13 + o) else g (13 + e) := by
  have h10 := hW.2.1
  unfold qy_st qy_mi
  rw [if_pos (qy_isE' hW ho), qz_cl_nI (by omega)]
theorem qy_st5 {g : Nat → Int32} {e : Nat} : qy_st g e (-5) = g (13 + e) := by
  unfold qy_st qy_mi
  rw [if_neg (fun q => absurd q.1 (by decide))]
theorem qm_p1 {g r : Nat → Int32} (h : qy_Wr g B r) : (r 4 = 1) = (qy_wt r = false) := by
  unfold qy_wt
  rcases h.2.2.2.2 with h | h <;> rw [h] <;> simp
theorem qy_tkle {L : List (Nat → Int32)} {l e x s N : Int32} (hs : 1 ≤ s) : L.countP (qy_tk l e x s N) ≤ L.countP (qy_tk l e x 1 N) := by
  refine List.countP_mono_left (fun r hr h => ?_)
  unfold qy_tk at h ⊢
  simp only [Bool.and_eq_true, decide_eq_true_eq] at h ⊢
  exact ⟨⟨h.1.1, Int32.le_trans hs h.1.2⟩, h.2⟩
theorem qy_n1 {a : Nat} (h : a < 2147483648) : ¬ nI a = -1 := by
  intro q
  have := congrArg Int32.toInt q
  rw [qy_ti h] at this
  have h5 : (-1 : Int32).toInt = -1 := rfl
  rw [h5] at this
  omega
end QYC
