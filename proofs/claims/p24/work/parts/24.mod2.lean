/-! who rides, by the reference -/
section QYD
variable {F B : Nat}
theorem qy_cset {t t' : Nat → Bool} {k : Nat} (h1 : ∀ j, j ≠ k → t' j = t j) (h2 : t k = false) (h3 : t' k = true) : ∀ n, (List.range n).countP t' = (List.range n).countP t + if k < n then 1 else 0 := by
  intro n
  induction n with
  | zero => rfl
  | succ n ih =>
    rw [List.range_succ, List.countP_append, List.countP_append, List.countP_singleton, List.countP_singleton, ih]
    by_cases h : k = n
    · subst h
      rw [h2, h3]
      simp
    · rw [h1 n (fun q => h q.symm)]
      by_cases h4 : k < n
      · rw [if_pos h4, if_pos (show k < n + 1 by omega)]
        omega
      · rw [if_neg h4, if_neg (show ¬ k < n + 1 by omega)]
        omega
theorem qy_csame {t t' : Nat → Bool} {n : Nat} (h : ∀ j, j < n → t j = t' j) : (List.range n).countP t = (List.range n).countP t' := by
  refine List.countP_congr (fun j hj => ?_)
  rw [h j (List.mem_range.mp hj)]
def qy_gt (q r : Nat → Int32) : Bool := decide (r 3 < q 3) || (decide (q 3 = r 3) && decide (q 0 < r 0))
/-- who may ride -/
def qy_ca (g : Nat → Int32) (l e x st : Int32) (r : Nat → Int32) : Bool := (!qy_wt r && qy_on l e x r) && qy_it g st r
/-- who rides -/
def qy_ri (g : Nat → Int32) (L : List (Nat → Int32)) (l e x st : Int32) (r : Nat → Int32) : Bool :=
  qy_ca g l e x st r && decide (nI (L.countP (fun q => qy_ca g l e x st q && qy_gt q r)) < g 1)
theorem qm_sorted {g : Nat → Int32} (hW : qy_Wf g B) {i k : Nat} (hi : i < qy_n g) (hk : k < qy_n g) : ((qy_rm g i) 0 < (qy_rm g k) 0) = (i < k) := by
  have hs := hW.2.2.2.2.2.2.2.2.2.1
  refine propext ⟨fun h => ?_, fun h => hs i k h hk⟩
  rcases Nat.lt_trichotomy i k with h1 | h1 | h1
  · exact h1
  · subst h1
    exact absurd h (Int32.lt_irrefl)
  · exact absurd (Int32.lt_trans h (hs k i h1 hi)) (Int32.lt_irrefl)
end QYD
