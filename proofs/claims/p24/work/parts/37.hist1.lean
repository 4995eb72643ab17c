/-! history: copies -/
theorem qy_cp {β : Type} (lp : Nat → qz_S → Int32 → β) (fin : qz_S → β) (N i0 : Nat) (dst src : qz_N) (a b : Nat) (S : qz_S) (hne : dst ≠ src ∨ a ≤ b) (hi0 : i0 ≤ N)
    (hs : ∀ n i T, i0 ≤ i → i < N → T.2 = S.2 → (∀ n j, n ≠ dst → T.1 n j = S.1 n j) → (∀ j, ¬ (a + i0 ≤ j ∧ j < a + N) → T.1 dst j = S.1 dst j) → lp (n + 1) T (nI i) = lp n (qz_wr T dst (a + i) (T.1 src (b + i))) (nI (i + 1)))
    (he : ∀ n T, T.2 = S.2 → (∀ n j, n ≠ dst → T.1 n j = S.1 n j) → (∀ j, ¬ (a + i0 ≤ j ∧ j < a + N) → T.1 dst j = S.1 dst j) → lp (n + 1) T (nI N) = fin T) (n : Nat) (hn : N < n) :
    ∃ S', lp n S (nI i0) = fin S' ∧ S'.2 = S.2 ∧ (∀ n j, n ≠ dst → S'.1 n j = S.1 n j) ∧ (∀ i, i0 ≤ i → i < N → S'.1 dst (a + i) = S.1 src (b + i)) ∧ (∀ j, ¬ (a + i0 ≤ j ∧ j < a + N) → S'.1 dst j = S.1 dst j) := by
  refine qy_lpE lp N (fun i T => i0 ≤ i ∧ T.2 = S.2 ∧ (∀ n j, n ≠ dst → T.1 n j = S.1 n j) ∧ (∀ k, i0 ≤ k → k < i → T.1 dst (a + k) = S.1 src (b + k)) ∧ (∀ j, ¬ (a + i0 ≤ j ∧ j < a + i) → T.1 dst j = S.1 dst j))
    (fun r => ∃ S', r = fin S' ∧ S'.2 = S.2 ∧ (∀ n j, n ≠ dst → S'.1 n j = S.1 n j) ∧ (∀ i, i0 ≤ i → i < N → S'.1 dst (a + i) = S.1 src (b + i)) ∧ (∀ j, ¬ (a + i0 ≤ j ∧ j < a + N) → S'.1 dst j = S.1 dst j)) ?_ ?_ n i0 S hi0 (by omega) ?_
  · rintro n i T hi ⟨q0, q1, q2, q3, q4⟩
    left
    refine ⟨_, hs n i T q0 hi q1 q2 (fun j hj => q4 j (fun q => hj ⟨q.1, by omega⟩)), by omega, q1, ?_, ?_, ?_⟩
    · intro n j hn
      rw [wr_ne (fun q => hn q.1)]
      exact q2 n j hn
    · intro k hk0 hk
      have hsrc : T.1 src (b + i) = S.1 src (b + i) := by
        by_cases e : src = dst
        · have hab := hne.resolve_left (fun q => q e.symm)
          rw [e]
          exact q4 _ (fun q => by omega)
        · exact q2 _ _ e
      by_cases e : k = i
      · subst e
        rw [wr_eq, hsrc]
      · rw [wr_ne (fun q => e (by omega))]
        exact q3 k hk0 (by omega)
    · intro j hj
      rw [wr_ne (fun q => hj (by omega))]
      exact q4 j (fun q => hj ⟨q.1, by omega⟩)
  · rintro n T ⟨q0, q1, q2, q3, q4⟩
    exact ⟨T, he n T q1 q2 q4, q1, q2, q3, q4⟩
  · exact ⟨Nat.le_refl _, rfl, fun _ _ _ => rfl, fun k h1 h2 => by omega, fun _ _ => rfl⟩
section QYQ
variable {F w w2 : Nat}
theorem qy_nw {k i w w2 : Nat} (h : w ≠ w2) : ¬ ((k, w, i) : qz_N) = (k, w2, i) := fun q => h (congrArg (fun n : qz_N => n.2.1) q)
theorem qy_row10 {S : qz_S} (hF : 30 < F) (h : w ≠ w2) : ∃ S', gW_copyRow_10 F S w2 w = some S' ∧ S'.2 = S.2 ∧ (∀ n j, n ≠ (10, w, 0) → S'.1 n j = S.1 n j) ∧ (∀ j, j < 10 → S'.1 (10, w, 0) j = S.1 (10, w2, 0) j) := by
  unfold gW_copyRow_10
  obtain ⟨S', a1, a2, a3, a4, _⟩ := qy_cp (fun n T y => gW_copyRow_10_L2 F w2 w (fun y24 T5 => some T5) n y T) some 10 0 ((10, w, 0) : qz_N) ((10, w2, 0) : qz_N) 0 0 S (Or.inl (qy_nw h)) (by omega)
    (fun n i T _ hi _ _ _ => by
      have h1 : ¬ (10 : Int32) ≤ nI i := fun q => by have := (qz_le_nI (a := 10) (b := i) (by decide) (by omega)).mp q; omega
      simp only [gW_copyRow_10_L2, h1, if_false, qz_xi_nI hi (show 10 < 2 ^ 31 by decide), if_true, qz_cl_nI (show i < 2 ^ 31 by omega), qz_let, qz_nI1, Nat.zero_add])
    (fun n T _ _ _ => by
      have h1 : (10 : Int32) ≤ nI 10 := by decide
      simp only [gW_copyRow_10_L2, h1, if_true]) F (by omega)
  exact ⟨S', a1, a2, a3, fun j hj => by have := a4 j (by omega) hj; rw [Nat.zero_add] at this; exact this⟩
theorem qy_row11 {S : qz_S} (hF : 30 < F) (h : w ≠ w2) : ∃ S', gW_copyRow_11 F S w2 w = some S' ∧ S'.2 = S.2 ∧ (∀ n j, n ≠ (11, w, 0) → S'.1 n j = S.1 n j) ∧ (∀ j, j < 20 → S'.1 (11, w, 0) j = S.1 (11, w2, 0) j) := by
  unfold gW_copyRow_11
  obtain ⟨S', a1, a2, a3, a4, _⟩ := qy_cp (fun n T y => gW_copyRow_11_L2 F w2 w (fun y24 T5 => some T5) n y T) some 20 0 ((11, w, 0) : qz_N) ((11, w2, 0) : qz_N) 0 0 S (Or.inl (qy_nw h)) (by omega)
    (fun n i T _ hi _ _ _ => by
      have h1 : ¬ (20 : Int32) ≤ nI i := fun q => by have := (qz_le_nI (a := 20) (b := i) (by decide) (by omega)).mp q; omega
      simp only [gW_copyRow_11_L2, h1, if_false, qz_xi_nI hi (show 20 < 2 ^ 31 by decide), if_true, qz_cl_nI (show i < 2 ^ 31 by omega), qz_let, qz_nI1, Nat.zero_add])
    (fun n T _ _ _ => by
      have h1 : (20 : Int32) ≤ nI 20 := by decide
      simp only [gW_copyRow_11_L2, h1, if_true]) F (by omega)
  exact ⟨S', a1, a2, a3, fun j hj => by have := a4 j (by omega) hj; rw [Nat.zero_add] at this; exact this⟩
theorem qy_row12 {S : qz_S} (hF : 30 < F) (h : w ≠ w2) : ∃ S', gW_copyRow_12 F S w2 w = some S' ∧ S'.2 = S.2 ∧ (∀ n j, n ≠ (12, w, 0) → S'.1 n j = S.1 n j) ∧ (∀ j, j < 4 → S'.1 (12, w, 0) j = S.1 (12, w2, 0) j) := by
  unfold gW_copyRow_12
  obtain ⟨S', a1, a2, a3, a4, _⟩ := qy_cp (fun n T y => gW_copyRow_12_L2 F w2 w (fun y24 T5 => some T5) n y T) some 4 0 ((12, w, 0) : qz_N) ((12, w2, 0) : qz_N) 0 0 S (Or.inl (qy_nw h)) (by omega)
    (fun n i T _ hi _ _ _ => by
      have h1 : ¬ (4 : Int32) ≤ nI i := fun q => by have := (qz_le_nI (a := 4) (b := i) (by decide) (by omega)).mp q; omega
      simp only [gW_copyRow_12_L2, h1, if_false, qz_xi_nI hi (show 4 < 2 ^ 31 by decide), if_true, qz_cl_nI (show i < 2 ^ 31 by omega), qz_let, qz_nI1, Nat.zero_add])
    (fun n T _ _ _ => by
      have h1 : (4 : Int32) ≤ nI 4 := by decide
      simp only [gW_copyRow_12_L2, h1, if_true]) F (by omega)
  exact ⟨S', a1, a2, a3, fun j hj => by have := a4 j (by omega) hj; rw [Nat.zero_add] at this; exact this⟩
theorem qy_bcp {S : qz_S} {i : Nat} (h : w ≠ w2) (h4 : S.1 (0, w2, i) 4 = 0 ∨ S.1 (0, w2, i) 4 = 1) : ∃ S', gB_copyFrom F S w i w2 i = some S' ∧ S'.2 = S.2 ∧ (∀ n j, n ≠ (0, w, i) → S'.1 n j = S.1 n j) ∧ (∀ j, j < 8 → S'.1 (0, w, i) j = S.1 (0, w2, i) j) := by
  have hne : ∀ (S : qz_S) (j : Nat) (x : Int32) (j' : Nat), (qz_wr S (0, w, i) j x).1 (0, w2, i) j' = S.1 (0, w2, i) j' := fun S j x j' => wr_ne (fun q => qy_nw (i := i) h.symm q.1)
  unfold gB_copyFrom
  simp only [qz_let, hne, h4, if_true]
  refine ⟨_, rfl, rfl, ?_, ?_⟩
  · intro n j hn
    rw [wr_ne (fun q => hn q.1), wr_ne (fun q => hn q.1), wr_ne (fun q => hn q.1), wr_ne (fun q => hn q.1), wr_ne (fun q => hn q.1), wr_ne (fun q => hn q.1), wr_ne (fun q => hn q.1), wr_ne (fun q => hn q.1)]
  · intro j hj
    have hc : j = 0 ∨ j = 1 ∨ j = 2 ∨ j = 3 ∨ j = 4 ∨ j = 5 ∨ j = 6 ∨ j = 7 := by omega
    rcases hc with rfl | rfl | rfl | rfl | rfl | rfl | rfl | rfl <;> simp [qz_wr]
/-- what a copy leaves -/
def qy_fw (w : Nat) (f f' : qz_F) : Prop := ∀ n j, ¬ (n.2.1 = w ∧ (n.1 = 0 ∨ n.1 = 4 ∨ n.1 = 10 ∨ n.1 = 11 ∨ n.1 = 12)) → f' n j = f n j
theorem qy_copy {S : qz_S} (hF : 30 < F) (hw : w < 6) (hw2 : w2 < 6) (h : w ≠ w2) (h4 : ∀ i, i < 30 → S.1 (0, w2, i) 4 = 0 ∨ S.1 (0, w2, i) 4 = 1) :
    ∃ S', gW_copyFrom F S w w2 = some S' ∧ S'.2 = S.2 ∧ qy_cw S.1 w2 S'.1 w ∧ qy_fw w S.1 S'.1 := by
  have k4 : ∀ {k i j : Nat}, ¬ ((k, w2, i) : qz_N) = (j, w, 0) := fun q => h (congrArg (fun n : qz_N => n.2.1) q).symm
  unfold gW_copyFrom
  rw [if_pos ⟨hw, hw2⟩]
  simp only [qz_let]
  obtain ⟨S1, e1⟩ : ∃ S1, S1 = qz_wr S (4, w, 0) 0 (S.1 (4, w2, 0) 0) := ⟨_, rfl⟩
  rw [← e1]
  have s1 : ∀ n j, n ≠ (4, w, 0) → S1.1 n j = S.1 n j := fun n j hn => by rw [e1]; exact wr_ne (fun q => hn q.1)
  have s10 : S1.1 (4, w, 0) 0 = S.1 (4, w2, 0) 0 := by rw [e1]; exact wr_eq
  have s12 : S1.2 = S.2 := by rw [e1]; rfl
  obtain ⟨S2, a1, a2, a3, a4⟩ := qy_row10 (S := S1) hF h
  obtain ⟨S3, b1, b2, b3, b4⟩ := qy_row11 (S := S2) hF h
  obtain ⟨S4, c1, c2, c3, c4⟩ := qy_row12 (S := S3) hF h
  rw [a1]
  simp only [Option.bind_some]
  rw [b1]
  simp only [Option.bind_some]
  rw [c1]
  simp only [Option.bind_some]
  refine qy_lpE (fun n (T : qz_S) y => gW_copyFrom_L43 F w w2 _ n y T) 30 (fun i T => T.2 = S4.2 ∧ (∀ n j, ¬ (n.1 = 0 ∧ n.2.1 = w) → T.1 n j = S4.1 n j) ∧ (∀ k j, k < i → j < 8 → T.1 (0, w, k) j = S4.1 (0, w2, k) j))
    (fun r => ∃ S', r = some S' ∧ S'.2 = S.2 ∧ qy_cw S.1 w2 S'.1 w ∧ qy_fw w S.1 S'.1) ?_ ?_ F 0 S4 (by omega) (by omega) ?_
  · rintro n i T hi ⟨q1, q2, q3⟩
    left
    obtain ⟨h1, h2, h3, h5⟩ := qy_c30 hi
    have e2 : ∀ k j, T.1 (0, w2, k) j = S.1 (0, w2, k) j := by
      intro k j
      rw [q2 _ _ (fun q => h q.2.symm), c3 _ _ k4, b3 _ _ k4, a3 _ _ k4, s1 _ _ k4]
    obtain ⟨T', t1, t2, t3, t4⟩ := qy_bcp (F := F) (S := T) (i := i) h (by rw [e2]; exact h4 i hi)
    refine ⟨T', ?_, t2.trans q1, ?_, ?_⟩
    · simp only [gW_copyFrom_L43, h1, h2, h3, h5, if_false, if_true]
      rw [t1]
      rfl
    · intro n j hn
      rw [t3 n j (fun q => hn (by rw [q]; exact ⟨rfl, rfl⟩))]
      exact q2 n j hn
    · intro k j hk hj
      by_cases e : k = i
      · subst e
        rw [t4 j hj]
        exact q2 _ _ (fun q => h q.2.symm)
      · rw [t3 _ _ (fun q => e (congrArg (fun n : qz_N => n.2.2) q))]
        exact q3 k j (by omega) hj
  · rintro n T ⟨q1, q2, q3⟩
    have hne : ∀ (S : qz_S) (j : Nat) (x : Int32) (j' : Nat), (qz_wr S (4, w, 0) j x).1 (4, w2, 0) j' = S.1 (4, w2, 0) j' := fun S j x j' => wr_ne (fun q => qy_nw (i := 0) h.symm q.1)
    simp only [gW_copyFrom_L43, qy_c30', if_true, hne]
    refine ⟨_, rfl, ?_, ⟨?_, ?_, ?_, ?_, ?_⟩, ?_⟩
    · show T.2 = S.2
      rw [q1, c2, b2, a2, s12]
    · intro i j hi hj
      have e : ∀ (S : qz_S) (k : Nat) (x : Int32) (j' : Nat), (qz_wr S (4, w, 0) k x).1 (0, w, i) j' = S.1 (0, w, i) j' := fun S k x j' => wr_ne (fun q => absurd (congrArg Prod.fst q.1) (show ¬ (0 : Nat) = 4 by decide))
      simp only [e]
      rw [q3 i j hi hj, c3 _ _ k4, b3 _ _ k4, a3 _ _ k4, s1 _ _ k4]
    · intro j hj hj2
      have e2 : ∀ k, T.1 (4, w2, 0) k = S.1 (4, w2, 0) k := by
        intro k
        rw [q2 _ _ (fun q => absurd q.1 (show ¬ (4 : Nat) = 0 by decide)), c3 _ _ k4, b3 _ _ k4, a3 _ _ k4, s1 _ _ k4]
      have e3 : T.1 (4, w, 0) 0 = S.1 (4, w2, 0) 0 := by
        rw [q2 _ _ (fun q => absurd q.1 (show ¬ (4 : Nat) = 0 by decide)), c3 _ _ (fun q => absurd (congrArg Prod.fst q) (show ¬ (4 : Nat) = 12 by decide)), b3 _ _ (fun q => absurd (congrArg Prod.fst q) (show ¬ (4 : Nat) = 11 by decide)), a3 _ _ (fun q => absurd (congrArg Prod.fst q) (show ¬ (4 : Nat) = 10 by decide)), s10]
      have hc : j = 0 ∨ j = 5 ∨ j = 6 ∨ j = 7 ∨ j = 8 ∨ j = 9 ∨ j = 10 ∨ j = 11 := by omega
      rcases hc with rfl | rfl | rfl | rfl | rfl | rfl | rfl | rfl <;> simp [qz_wr, e2, e3]
    · intro j hj
      have e : ∀ (S : qz_S) (k : Nat) (x : Int32) (j' : Nat), (qz_wr S (4, w, 0) k x).1 (10, w, 0) j' = S.1 (10, w, 0) j' := fun S k x j' => wr_ne (fun q => absurd (congrArg Prod.fst q.1) (show ¬ (10 : Nat) = 4 by decide))
      simp only [e]
      rw [q2 _ _ (fun q => absurd q.1 (show ¬ (10 : Nat) = 0 by decide)), c3 _ _ (fun q => absurd (congrArg Prod.fst q) (show ¬ (10 : Nat) = 12 by decide)), b3 _ _ (fun q => absurd (congrArg Prod.fst q) (show ¬ (10 : Nat) = 11 by decide)), a4 j hj, s1 _ _ k4]
    · intro j hj
      have e : ∀ (S : qz_S) (k : Nat) (x : Int32) (j' : Nat), (qz_wr S (4, w, 0) k x).1 (11, w, 0) j' = S.1 (11, w, 0) j' := fun S k x j' => wr_ne (fun q => absurd (congrArg Prod.fst q.1) (show ¬ (11 : Nat) = 4 by decide))
      simp only [e]
      rw [q2 _ _ (fun q => absurd q.1 (show ¬ (11 : Nat) = 0 by decide)), c3 _ _ (fun q => absurd (congrArg Prod.fst q) (show ¬ (11 : Nat) = 12 by decide)), b4 j hj, a3 _ _ k4, s1 _ _ k4]
    · intro j hj
      have e : ∀ (S : qz_S) (k : Nat) (x : Int32) (j' : Nat), (qz_wr S (4, w, 0) k x).1 (12, w, 0) j' = S.1 (12, w, 0) j' := fun S k x j' => wr_ne (fun q => absurd (congrArg Prod.fst q.1) (show ¬ (12 : Nat) = 4 by decide))
      simp only [e]
      rw [q2 _ _ (fun q => absurd q.1 (show ¬ (12 : Nat) = 0 by decide)), c4 j hj, b3 _ _ k4, a3 _ _ k4, s1 _ _ k4]
    · intro n j hn
      have z : ∀ k : Nat, (k = 0 ∨ k = 4 ∨ k = 10 ∨ k = 11 ∨ k = 12) → ∀ i : Nat, n ≠ (k, w, i) := by
        intro k hk i q
        apply hn
        rw [q]
        exact ⟨rfl, hk⟩
      have e : ∀ (S : qz_S) (k : Nat) (x : Int32), (qz_wr S (4, w, 0) k x).1 n j = S.1 n j := fun S k x => wr_ne (fun q => z 4 (by omega) 0 q.1)
      simp only [e]
      rw [q2 _ _ (fun q => hn ⟨q.2, Or.inl q.1⟩), c3 _ _ (z 12 (by omega) 0), b3 _ _ (z 11 (by omega) 0), a3 _ _ (z 10 (by omega) 0), s1 _ _ (z 4 (by omega) 0)]
  · exact ⟨rfl, fun _ _ _ => rfl, fun k j hk => by omega⟩
theorem qy_cwfw {f f' : qz_F} {v : Nat} (h : qy_fw w f f') (hv : v ≠ w) : qy_cw f v f' v :=
  ⟨fun _ _ _ _ => h _ _ (fun q => hv q.1), fun _ _ _ => h _ _ (fun q => hv q.1), fun _ _ => h _ _ (fun q => hv q.1), fun _ _ => h _ _ (fun q => hv q.1), fun _ _ => h _ _ (fun q => hv q.1)⟩
end QYQ
