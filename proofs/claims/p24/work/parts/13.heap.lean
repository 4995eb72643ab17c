abbrev qz_F : Type := qz_N → Nat → Int32
abbrev qz_S : Type := qz_F × (Nat → Nat)
def qz_let {α β : Type} (x : α) (g : α → β) : β := g x
def qz_wr (S : qz_S) (n : qz_N) (j : Nat) (x : Int32) : qz_S := (fun n' j' => if n' = n ∧ j' = j then x else S.1 n' j', S.2)
def qz_wp (S : qz_S) (j w : Nat) : qz_S := (S.1, fun j' => if j' = j then w else S.2 j')
def qz_bo (o : Option Nat) : Option qz_N := o.map (fun i => (0, 0, i))
/-- the references, once all is made; p: which state stands where in the history -/
def qz_fr (p : Nat → Nat) (n : qz_N) (j : Nat) : Option qz_N := match n.1 with
  | 4 => if n.2.1 < 6 ∧ n.2.2 = 0 then (if j = 1 then some (10, n.2.1, 0) else if j = 2 then some (11, n.2.1, 0) else if j = 3 then some (12, n.2.1, 0) else if j = 4 then some (13, n.2.1, 0) else none) else none
  | 13 => if n.2.1 < 6 ∧ n.2.2 = 0 ∧ j < 30 then some (0, n.2.1, j) else none
  | 1 => if n.2.1 = 0 ∧ n.2.2 = 0 then (if j = 0 then some (14, 0, 0) else if j = 2 then some (15, 0, 0) else none) else none
  | 15 => if n.2.1 = 0 ∧ n.2.2 = 0 ∧ j < 60 then some (3, 0, j) else none
  | 2 => if n.2.1 = 0 ∧ n.2.2 = 0 ∧ j = 0 then some (16, 0, 0) else none
  | 16 => if n.2.1 = 0 ∧ n.2.2 = 0 ∧ j < 4 then some (4, p j, 0) else none
  | 5 => if n.2.1 = 0 ∧ n.2.2 = 0 then (if j = 0 then some (4, 0, 0) else if j = 1 then some (1, 0, 0) else if j = 2 then some (2, 0, 0) else if j = 3 then some (4, 5, 0) else none) else none
  | _ => none
def qz_mk (f : qz_F) (p : Nat → Nat) : qz_M := (276, f, qz_fr p)
/-- what holds of a value on both sides of a branch -/
theorem qz_jn {Q R : Prop} (h : Q) (k : Q → R) : R := k h
theorem qz_dy_bo {o : Option Nat} : qz_dy (qz_bo o) = true := by cases o <;> rfl
theorem qz_bo_eq {o : Option Nat} {i : Nat} : (some ((0, 0, i) : qz_N) = qz_bo o) ↔ o = some i := by
  cases o with
  | none => simp [qz_bo]
  | some j => simp [qz_bo, eq_comm]
theorem qz_xi_lt {e : Int32} {n : Nat} (h : qz_xi e n = true) : e.toNatClampNeg < n := by
  simp [qz_xi] at h
  exact h.2
theorem qz_fr_4 {p : Nat → Nat} {w j : Nat} (hw : w < 6) (hj : j = 1 ∨ j = 2 ∨ j = 3 ∨ j = 4) : qz_fr p (4, w, 0) j = some (9 + j, w, 0) := by
  rcases hj with rfl | rfl | rfl | rfl <;> simp [qz_fr, hw]
theorem qz_fr_13 {f : qz_F} {p : Nat → Nat} {w : Nat} {e : Int32} (hw : w < 6) (h : qz_xi e 30 = true) : (qz_mk f p).2.2 (13, w, 0) e.toNatClampNeg = some (0, w, e.toNatClampNeg) := by
  simp [qz_mk, qz_fr, hw, qz_xi_lt h]
theorem qz_fr_15 {f : qz_F} {p : Nat → Nat} {e : Int32} (h : qz_xi e 60 = true) : (qz_mk f p).2.2 (15, 0, 0) e.toNatClampNeg = some (3, 0, e.toNatClampNeg) := by
  simp [qz_mk, qz_fr, qz_xi_lt h]
theorem qz_fr_16 {f : qz_F} {p : Nat → Nat} {e : Int32} (h : qz_xi e 4 = true) : (qz_mk f p).2.2 (16, 0, 0) e.toNatClampNeg = some (4, p e.toNatClampNeg, 0) := by
  simp [qz_mk, qz_fr, qz_xi_lt h]
theorem qz_fr_ne {p p' : Nat → Nat} {n : qz_N} {j : Nat} (h : ¬ n.1 = 16) : qz_fr p n j = qz_fr p' n j := by
  obtain ⟨k, w', i⟩ := n
  simp only at h
  unfold qz_fr
  simp only
  split <;> first | rfl | exact absurd rfl h
theorem qz_fr_upd (p : Nat → Nat) {a w : Nat} (ha : a < 4) : (fun (n' : qz_N) (j' : Nat) => if n' = (16, 0, 0) ∧ j' = a then some ((4, w, 0) : qz_N) else qz_fr p n' j') = qz_fr (fun j' => if j' = a then w else p j') := by
  funext n j
  by_cases hk : n.1 = 16
  · obtain ⟨k, w', i⟩ := n
    simp only at hk
    subst hk
    simp only [qz_fr, Prod.mk.injEq, true_and]
    by_cases h1 : w' = 0
    · by_cases h2 : i = 0
      · by_cases h3 : j = a
        · subst h3
          simp [h1, h2, ha]
        · simp [h1, h2, h3]
      · simp [h1, h2]
    · simp [h1]
  · rw [if_neg (fun q => hk (by rw [q.1]))]
    exact qz_fr_ne hk
theorem qz_ur_wp {S : qz_S} {e : Int32} {w : Nat} (h : qz_xi e 4 = true) : qz_ur (qz_mk S.1 S.2) (16, 0, 0) e.toNatClampNeg (some (4, w, 0)) = qz_mk (qz_wp S e.toNatClampNeg w).1 (qz_wp S e.toNatClampNeg w).2 := by
  have := qz_fr_upd S.2 (w := w) (qz_xi_lt h)
  unfold qz_ur qz_mk qz_wp
  simp only
  rw [← this]

theorem qz_k_1 : qz_cf 1 1 false false 0 := ⟨rfl, rfl, by decide +kernel, rfl⟩
theorem qz_k_2 : qz_cf 2 1 false false 0 := ⟨rfl, rfl, by decide +kernel, rfl⟩
theorem qz_k_3 : qz_cf 3 1 false false 0 := ⟨rfl, rfl, by decide +kernel, rfl⟩
theorem qz_k_4 : qz_cf 4 4 false false 0 := ⟨rfl, rfl, by decide +kernel, rfl⟩
theorem qz_k_5 : qz_cf 5 2 false false 0 := ⟨rfl, rfl, by decide +kernel, rfl⟩
theorem qz_k_6 : qz_cf 6 1 false false 0 := ⟨rfl, rfl, by decide +kernel, rfl⟩
theorem qz_k_7 : qz_cf 7 2 false false 0 := ⟨rfl, rfl, by decide +kernel, rfl⟩
theorem qz_k_10 : qz_cf 10 2 false false 2 := ⟨rfl, rfl, by decide +kernel, rfl⟩
theorem qz_k_11 : qz_cf 11 1 false false 2 := ⟨rfl, rfl, by decide +kernel, rfl⟩
theorem qz_k_12 : qz_cf 12 2 false false 2 := ⟨rfl, rfl, by decide +kernel, rfl⟩
theorem qz_k_15 : qz_cf 15 2 false false 4 := ⟨rfl, rfl, by decide +kernel, rfl⟩
theorem qz_k_16 : qz_cf 16 2 true false 4 := ⟨rfl, rfl, by decide +kernel, rfl⟩
theorem qz_k_17 : qz_cf 17 2 false false 4 := ⟨rfl, rfl, by decide +kernel, rfl⟩
theorem qz_k_18 : qz_cf 18 3 false false 4 := ⟨rfl, rfl, by decide +kernel, rfl⟩
theorem qz_k_19 : qz_cf 19 2 false false 4 := ⟨rfl, rfl, by decide +kernel, rfl⟩
theorem qz_k_20 : qz_cf 20 2 false false 4 := ⟨rfl, rfl, by decide +kernel, rfl⟩
theorem qz_k_21 : qz_cf 21 2 false false 4 := ⟨rfl, rfl, by decide +kernel, rfl⟩
theorem qz_k_22 : qz_cf 22 3 false false 4 := ⟨rfl, rfl, by decide +kernel, rfl⟩
theorem qz_k_23 : qz_cf 23 2 false false 4 := ⟨rfl, rfl, by decide +kernel, rfl⟩
theorem qz_k_24 : qz_cf 24 4 false false 4 := ⟨rfl, rfl, by decide +kernel, rfl⟩
theorem qz_k_25 : qz_cf 25 1 false false 4 := ⟨rfl, rfl, by decide +kernel, rfl⟩
theorem qz_k_26 : qz_cf 26 1 false false 4 := ⟨rfl, rfl, by decide +kernel, rfl⟩
theorem qz_k_27 : qz_cf 27 5 false false 4 := ⟨rfl, rfl, by decide +kernel, rfl⟩
theorem qz_k_28 : qz_cf 28 1 false false 4 := ⟨rfl, rfl, by decide +kernel, rfl⟩
theorem qz_k_29 : qz_cf 29 2 false false 4 := ⟨rfl, rfl, by decide +kernel, rfl⟩
theorem qz_k_30 : qz_cf 30 3 false false 4 := ⟨rfl, rfl, by decide +kernel, rfl⟩
theorem qz_k_31 : qz_cf 31 2 true false 4 := ⟨rfl, rfl, by decide +kernel, rfl⟩
theorem qz_k_32 : qz_cf 32 3 false false 4 := ⟨rfl, rfl, by decide +kernel, rfl⟩
theorem qz_k_33 : qz_cf 33 4 false false 4 := ⟨rfl, rfl, by decide +kernel, rfl⟩
theorem qz_k_34 : qz_cf 34 1 false false 4 := ⟨rfl, rfl, by decide +kernel, rfl⟩
theorem qz_k_35 : qz_cf 35 3 false false 4 := ⟨rfl, rfl, by decide +kernel, rfl⟩
theorem qz_k_36 : qz_cf 36 2 false false 4 := ⟨rfl, rfl, by decide +kernel, rfl⟩
theorem qz_k_37 : qz_cf 37 4 false false 4 := ⟨rfl, rfl, by decide +kernel, rfl⟩
theorem qz_k_38 : qz_cf 38 4 false false 4 := ⟨rfl, rfl, by decide +kernel, rfl⟩
theorem qz_k_39 : qz_cf 39 6 false false 4 := ⟨rfl, rfl, by decide +kernel, rfl⟩
theorem qz_k_40 : qz_cf 40 4 false false 4 := ⟨rfl, rfl, by decide +kernel, rfl⟩
theorem qz_k_41 : qz_cf 41 4 false false 4 := ⟨rfl, rfl, by decide +kernel, rfl⟩
theorem qz_k_42 : qz_cf 42 4 false false 4 := ⟨rfl, rfl, by decide +kernel, rfl⟩
theorem qz_k_43 : qz_cf 43 4 false false 4 := ⟨rfl, rfl, by decide +kernel, rfl⟩
theorem qz_k_44 : qz_cf 44 4 false false 4 := ⟨rfl, rfl, by decide +kernel, rfl⟩
theorem qz_k_45 : qz_cf 45 4 false false 4 := ⟨rfl, rfl, by decide +kernel, rfl⟩
theorem qz_k_46 : qz_cf 46 1 false false 4 := ⟨rfl, rfl, by decide +kernel, rfl⟩
theorem qz_k_47 : qz_cf 47 1 false false 4 := ⟨rfl, rfl, by decide +kernel, rfl⟩
theorem qz_k_48 : qz_cf 48 2 false false 4 := ⟨rfl, rfl, by decide +kernel, rfl⟩
theorem qz_k_50 : qz_cf 50 2 false false 5 := ⟨rfl, rfl, by decide +kernel, rfl⟩
theorem qz_k_51 : qz_cf 51 4 false false 5 := ⟨rfl, rfl, by decide +kernel, rfl⟩
theorem qz_k_52 : qz_cf 52 2 false false 5 := ⟨rfl, rfl, by decide +kernel, rfl⟩
theorem qz_k_53 : qz_cf 53 3 false false 5 := ⟨rfl, rfl, by decide +kernel, rfl⟩
theorem qz_k_54 : qz_cf 54 4 false false 5 := ⟨rfl, rfl, by decide +kernel, rfl⟩
theorem qz_k_55 : qz_cf 55 3 false false 5 := ⟨rfl, rfl, by decide +kernel, rfl⟩
theorem qz_k_56 : qz_cf 56 3 false false 5 := ⟨rfl, rfl, by decide +kernel, rfl⟩
theorem qz_k_57 : qz_cf 57 1 false false 5 := ⟨rfl, rfl, by decide +kernel, rfl⟩
theorem qz_k_58 : qz_cf 58 1 false false 5 := ⟨rfl, rfl, by decide +kernel, rfl⟩
theorem qz_k_59 : qz_cf 59 1 false false 5 := ⟨rfl, rfl, by decide +kernel, rfl⟩
theorem qz_k_60 : qz_cf 60 1 false false 5 := ⟨rfl, rfl, by decide +kernel, rfl⟩
theorem qz_k_61 : qz_cf 61 3 false false 5 := ⟨rfl, rfl, by decide +kernel, rfl⟩
theorem qz_k_62 : qz_cf 62 4 false false 5 := ⟨rfl, rfl, by decide +kernel, rfl⟩
theorem qz_k_63 : qz_cf 63 4 false false 5 := ⟨rfl, rfl, by decide +kernel, rfl⟩
theorem qz_k_64 : qz_cf 64 4 false false 5 := ⟨rfl, rfl, by decide +kernel, rfl⟩
theorem qz_k_65 : qz_cf 65 2 false false 5 := ⟨rfl, rfl, by decide +kernel, rfl⟩
theorem qz_k_66 : qz_cf 66 1 true false 5 := ⟨rfl, rfl, by decide +kernel, rfl⟩
theorem qz_k_67 : qz_cf 67 1 true false 5 := ⟨rfl, rfl, by decide +kernel, rfl⟩
theorem qz_k_68 : qz_cf 68 2 true false 5 := ⟨rfl, rfl, by decide +kernel, rfl⟩
theorem qz_k_69 : qz_cf 69 4 false false 5 := ⟨rfl, rfl, by decide +kernel, rfl⟩
theorem qz_k_70 : qz_cf 70 2 true false 8 := ⟨rfl, rfl, by decide +kernel, rfl⟩
theorem qz_k_71 : qz_cf 71 2 true false 8 := ⟨rfl, rfl, by decide +kernel, rfl⟩
theorem qz_k_72 : qz_cf 72 1 true false 8 := ⟨rfl, rfl, by decide +kernel, rfl⟩
theorem qz_k_73 : qz_cf 73 3 true false 8 := ⟨rfl, rfl, by decide +kernel, rfl⟩
theorem qz_k_74 : qz_cf 74 1 true false 8 := ⟨rfl, rfl, by decide +kernel, rfl⟩
theorem qz_k_75 : qz_cf 75 1 true false 8 := ⟨rfl, rfl, by decide +kernel, rfl⟩
theorem qz_q_2_1 : qz_rr 2 1 := ⟨by decide +kernel, by decide +kernel⟩
theorem qz_q_3_1 : qz_rr 3 1 := ⟨by decide +kernel, by decide +kernel⟩
theorem qz_q_4_1 : qz_rr 4 1 := ⟨by decide +kernel, by decide +kernel⟩
theorem qz_q_10_11 : qz_rr 10 11 := ⟨by decide +kernel, by decide +kernel⟩
theorem qz_q_10_15 : qz_rr 10 15 := ⟨by decide +kernel, by decide +kernel⟩
theorem qz_q_12_15 : qz_rr 12 15 := ⟨by decide +kernel, by decide +kernel⟩
theorem qz_q_15_7 : qz_rr 15 7 := ⟨by decide +kernel, by decide +kernel⟩
theorem qz_q_15_16 : qz_rr 15 16 := ⟨by decide +kernel, by decide +kernel⟩
theorem qz_q_22_21 : qz_rr 22 21 := ⟨by decide +kernel, by decide +kernel⟩
theorem qz_q_23_1 : qz_rr 23 1 := ⟨by decide +kernel, by decide +kernel⟩
theorem qz_q_24_1 : qz_rr 24 1 := ⟨by decide +kernel, by decide +kernel⟩
theorem qz_q_24_27 : qz_rr 24 27 := ⟨by decide +kernel, by decide +kernel⟩
theorem qz_q_25_1 : qz_rr 25 1 := ⟨by decide +kernel, by decide +kernel⟩
theorem qz_q_26_2 : qz_rr 26 2 := ⟨by decide +kernel, by decide +kernel⟩
theorem qz_q_27_17 : qz_rr 27 17 := ⟨by decide +kernel, by decide +kernel⟩
theorem qz_q_27_19 : qz_rr 27 19 := ⟨by decide +kernel, by decide +kernel⟩
theorem qz_q_27_32 : qz_rr 27 32 := ⟨by decide +kernel, by decide +kernel⟩
theorem qz_q_27_35 : qz_rr 27 35 := ⟨by decide +kernel, by decide +kernel⟩
theorem qz_q_27_38 : qz_rr 27 38 := ⟨by decide +kernel, by decide +kernel⟩
theorem qz_q_27_39 : qz_rr 27 39 := ⟨by decide +kernel, by decide +kernel⟩
theorem qz_q_28_27 : qz_rr 28 27 := ⟨by decide +kernel, by decide +kernel⟩
theorem qz_q_28_29 : qz_rr 28 29 := ⟨by decide +kernel, by decide +kernel⟩
theorem qz_q_29_2 : qz_rr 29 2 := ⟨by decide +kernel, by decide +kernel⟩
theorem qz_q_29_30 : qz_rr 29 30 := ⟨by decide +kernel, by decide +kernel⟩
theorem qz_q_30_22 : qz_rr 30 22 := ⟨by decide +kernel, by decide +kernel⟩
theorem qz_q_31_66 : qz_rr 31 66 := ⟨by decide +kernel, by decide +kernel⟩
theorem qz_q_32_31 : qz_rr 32 31 := ⟨by decide +kernel, by decide +kernel⟩
theorem qz_q_33_31 : qz_rr 33 31 := ⟨by decide +kernel, by decide +kernel⟩
theorem qz_q_35_19 : qz_rr 35 19 := ⟨by decide +kernel, by decide +kernel⟩
theorem qz_q_35_21 : qz_rr 35 21 := ⟨by decide +kernel, by decide +kernel⟩
theorem qz_q_36_32 : qz_rr 36 32 := ⟨by decide +kernel, by decide +kernel⟩
theorem qz_q_36_35 : qz_rr 36 35 := ⟨by decide +kernel, by decide +kernel⟩
theorem qz_q_37_17 : qz_rr 37 17 := ⟨by decide +kernel, by decide +kernel⟩
theorem qz_q_37_21 : qz_rr 37 21 := ⟨by decide +kernel, by decide +kernel⟩
theorem qz_q_38_17 : qz_rr 38 17 := ⟨by decide +kernel, by decide +kernel⟩
theorem qz_q_38_37 : qz_rr 38 37 := ⟨by decide +kernel, by decide +kernel⟩
theorem qz_q_39_3 : qz_rr 39 3 := ⟨by decide +kernel, by decide +kernel⟩
theorem qz_q_39_4 : qz_rr 39 4 := ⟨by decide +kernel, by decide +kernel⟩
theorem qz_q_40_2 : qz_rr 40 2 := ⟨by decide +kernel, by decide +kernel⟩
theorem qz_q_40_4 : qz_rr 40 4 := ⟨by decide +kernel, by decide +kernel⟩
theorem qz_q_41_3 : qz_rr 41 3 := ⟨by decide +kernel, by decide +kernel⟩
theorem qz_q_41_4 : qz_rr 41 4 := ⟨by decide +kernel, by decide +kernel⟩
theorem qz_q_42_17 : qz_rr 42 17 := ⟨by decide +kernel, by decide +kernel⟩
theorem qz_q_42_21 : qz_rr 42 21 := ⟨by decide +kernel, by decide +kernel⟩
theorem qz_q_42_32 : qz_rr 42 32 := ⟨by decide +kernel, by decide +kernel⟩
theorem qz_q_42_39 : qz_rr 42 39 := ⟨by decide +kernel, by decide +kernel⟩
theorem qz_q_42_43 : qz_rr 42 43 := ⟨by decide +kernel, by decide +kernel⟩
theorem qz_q_43_3 : qz_rr 43 3 := ⟨by decide +kernel, by decide +kernel⟩
theorem qz_q_43_4 : qz_rr 43 4 := ⟨by decide +kernel, by decide +kernel⟩
theorem qz_q_43_35 : qz_rr 43 35 := ⟨by decide +kernel, by decide +kernel⟩
theorem qz_q_43_38 : qz_rr 43 38 := ⟨by decide +kernel, by decide +kernel⟩
theorem qz_q_44_3 : qz_rr 44 3 := ⟨by decide +kernel, by decide +kernel⟩
theorem qz_q_44_4 : qz_rr 44 4 := ⟨by decide +kernel, by decide +kernel⟩
theorem qz_q_44_5 : qz_rr 44 5 := ⟨by decide +kernel, by decide +kernel⟩
theorem qz_q_44_17 : qz_rr 44 17 := ⟨by decide +kernel, by decide +kernel⟩
theorem qz_q_44_35 : qz_rr 44 35 := ⟨by decide +kernel, by decide +kernel⟩
theorem qz_q_44_38 : qz_rr 44 38 := ⟨by decide +kernel, by decide +kernel⟩
theorem qz_q_45_3 : qz_rr 45 3 := ⟨by decide +kernel, by decide +kernel⟩
theorem qz_q_45_4 : qz_rr 45 4 := ⟨by decide +kernel, by decide +kernel⟩
theorem qz_q_45_44 : qz_rr 45 44 := ⟨by decide +kernel, by decide +kernel⟩
theorem qz_q_46_22 : qz_rr 46 22 := ⟨by decide +kernel, by decide +kernel⟩
theorem qz_q_46_32 : qz_rr 46 32 := ⟨by decide +kernel, by decide +kernel⟩
theorem qz_q_46_45 : qz_rr 46 45 := ⟨by decide +kernel, by decide +kernel⟩
theorem qz_q_47_2 : qz_rr 47 2 := ⟨by decide +kernel, by decide +kernel⟩
theorem qz_q_47_3 : qz_rr 47 3 := ⟨by decide +kernel, by decide +kernel⟩
theorem qz_q_47_48 : qz_rr 47 48 := ⟨by decide +kernel, by decide +kernel⟩
theorem qz_q_48_32 : qz_rr 48 32 := ⟨by decide +kernel, by decide +kernel⟩
theorem qz_q_48_44 : qz_rr 48 44 := ⟨by decide +kernel, by decide +kernel⟩
theorem qz_q_50_10 : qz_rr 50 10 := ⟨by decide +kernel, by decide +kernel⟩
theorem qz_q_50_20 : qz_rr 50 20 := ⟨by decide +kernel, by decide +kernel⟩
theorem qz_q_51_10 : qz_rr 51 10 := ⟨by decide +kernel, by decide +kernel⟩
theorem qz_q_51_19 : qz_rr 51 19 := ⟨by decide +kernel, by decide +kernel⟩
theorem qz_q_51_24 : qz_rr 51 24 := ⟨by decide +kernel, by decide +kernel⟩
theorem qz_q_51_25 : qz_rr 51 25 := ⟨by decide +kernel, by decide +kernel⟩
theorem qz_q_51_66 : qz_rr 51 66 := ⟨by decide +kernel, by decide +kernel⟩
theorem qz_q_51_67 : qz_rr 51 67 := ⟨by decide +kernel, by decide +kernel⟩
theorem qz_q_52_6 : qz_rr 52 6 := ⟨by decide +kernel, by decide +kernel⟩
theorem qz_q_52_10 : qz_rr 52 10 := ⟨by decide +kernel, by decide +kernel⟩
theorem qz_q_52_23 : qz_rr 52 23 := ⟨by decide +kernel, by decide +kernel⟩
theorem qz_q_52_26 : qz_rr 52 26 := ⟨by decide +kernel, by decide +kernel⟩
theorem qz_q_52_28 : qz_rr 52 28 := ⟨by decide +kernel, by decide +kernel⟩
theorem qz_q_53_10 : qz_rr 53 10 := ⟨by decide +kernel, by decide +kernel⟩
theorem qz_q_53_19 : qz_rr 53 19 := ⟨by decide +kernel, by decide +kernel⟩
theorem qz_q_53_23 : qz_rr 53 23 := ⟨by decide +kernel, by decide +kernel⟩
theorem qz_q_53_28 : qz_rr 53 28 := ⟨by decide +kernel, by decide +kernel⟩
theorem qz_q_54_10 : qz_rr 54 10 := ⟨by decide +kernel, by decide +kernel⟩
theorem qz_q_54_28 : qz_rr 54 28 := ⟨by decide +kernel, by decide +kernel⟩
theorem qz_q_54_33 : qz_rr 54 33 := ⟨by decide +kernel, by decide +kernel⟩
theorem qz_q_54_35 : qz_rr 54 35 := ⟨by decide +kernel, by decide +kernel⟩
theorem qz_q_54_69 : qz_rr 54 69 := ⟨by decide +kernel, by decide +kernel⟩
theorem qz_q_55_10 : qz_rr 55 10 := ⟨by decide +kernel, by decide +kernel⟩
theorem qz_q_55_19 : qz_rr 55 19 := ⟨by decide +kernel, by decide +kernel⟩
theorem qz_q_55_28 : qz_rr 55 28 := ⟨by decide +kernel, by decide +kernel⟩
theorem qz_q_55_32 : qz_rr 55 32 := ⟨by decide +kernel, by decide +kernel⟩
theorem qz_q_55_33 : qz_rr 55 33 := ⟨by decide +kernel, by decide +kernel⟩
theorem qz_q_55_66 : qz_rr 55 66 := ⟨by decide +kernel, by decide +kernel⟩
theorem qz_q_56_10 : qz_rr 56 10 := ⟨by decide +kernel, by decide +kernel⟩
theorem qz_q_56_17 : qz_rr 56 17 := ⟨by decide +kernel, by decide +kernel⟩
theorem qz_q_56_18 : qz_rr 56 18 := ⟨by decide +kernel, by decide +kernel⟩
theorem qz_q_56_28 : qz_rr 56 28 := ⟨by decide +kernel, by decide +kernel⟩
theorem qz_q_56_68 : qz_rr 56 68 := ⟨by decide +kernel, by decide +kernel⟩
theorem qz_q_57_10 : qz_rr 57 10 := ⟨by decide +kernel, by decide +kernel⟩
theorem qz_q_57_46 : qz_rr 57 46 := ⟨by decide +kernel, by decide +kernel⟩
theorem qz_q_57_47 : qz_rr 57 47 := ⟨by decide +kernel, by decide +kernel⟩
theorem qz_q_58_12 : qz_rr 58 12 := ⟨by decide +kernel, by decide +kernel⟩
theorem qz_q_59_15 : qz_rr 59 15 := ⟨by decide +kernel, by decide +kernel⟩
theorem qz_q_59_25 : qz_rr 59 25 := ⟨by decide +kernel, by decide +kernel⟩
theorem qz_q_60_10 : qz_rr 60 10 := ⟨by decide +kernel, by decide +kernel⟩
theorem qz_q_60_15 : qz_rr 60 15 := ⟨by decide +kernel, by decide +kernel⟩
theorem qz_q_60_25 : qz_rr 60 25 := ⟨by decide +kernel, by decide +kernel⟩
theorem qz_q_61_23 : qz_rr 61 23 := ⟨by decide +kernel, by decide +kernel⟩
theorem qz_q_61_27 : qz_rr 61 27 := ⟨by decide +kernel, by decide +kernel⟩
theorem qz_q_61_36 : qz_rr 61 36 := ⟨by decide +kernel, by decide +kernel⟩
theorem qz_q_61_37 : qz_rr 61 37 := ⟨by decide +kernel, by decide +kernel⟩
theorem qz_q_62_19 : qz_rr 62 19 := ⟨by decide +kernel, by decide +kernel⟩
theorem qz_q_62_32 : qz_rr 62 32 := ⟨by decide +kernel, by decide +kernel⟩
theorem qz_q_62_35 : qz_rr 62 35 := ⟨by decide +kernel, by decide +kernel⟩
theorem qz_q_62_39 : qz_rr 62 39 := ⟨by decide +kernel, by decide +kernel⟩
theorem qz_q_62_40 : qz_rr 62 40 := ⟨by decide +kernel, by decide +kernel⟩
theorem qz_q_62_41 : qz_rr 62 41 := ⟨by decide +kernel, by decide +kernel⟩
theorem qz_q_62_45 : qz_rr 62 45 := ⟨by decide +kernel, by decide +kernel⟩
theorem qz_q_62_66 : qz_rr 62 66 := ⟨by decide +kernel, by decide +kernel⟩
theorem qz_q_63_19 : qz_rr 63 19 := ⟨by decide +kernel, by decide +kernel⟩
theorem qz_q_63_32 : qz_rr 63 32 := ⟨by decide +kernel, by decide +kernel⟩
theorem qz_q_63_39 : qz_rr 63 39 := ⟨by decide +kernel, by decide +kernel⟩
theorem qz_q_63_66 : qz_rr 63 66 := ⟨by decide +kernel, by decide +kernel⟩
theorem qz_q_63_67 : qz_rr 63 67 := ⟨by decide +kernel, by decide +kernel⟩
theorem qz_q_64_27 : qz_rr 64 27 := ⟨by decide +kernel, by decide +kernel⟩
theorem qz_q_64_66 : qz_rr 64 66 := ⟨by decide +kernel, by decide +kernel⟩
theorem qz_q_64_67 : qz_rr 64 67 := ⟨by decide +kernel, by decide +kernel⟩
theorem qz_q_65_17 : qz_rr 65 17 := ⟨by decide +kernel, by decide +kernel⟩
theorem qz_q_65_25 : qz_rr 65 25 := ⟨by decide +kernel, by decide +kernel⟩
theorem qz_q_65_26 : qz_rr 65 26 := ⟨by decide +kernel, by decide +kernel⟩
theorem qz_q_65_34 : qz_rr 65 34 := ⟨by decide +kernel, by decide +kernel⟩
theorem qz_q_69_19 : qz_rr 69 19 := ⟨by decide +kernel, by decide +kernel⟩
theorem qz_q_69_42 : qz_rr 69 42 := ⟨by decide +kernel, by decide +kernel⟩
theorem qz_q_69_66 : qz_rr 69 66 := ⟨by decide +kernel, by decide +kernel⟩
theorem qz_q_72_61 : qz_rr 72 61 := ⟨by decide +kernel, by decide +kernel⟩
theorem qz_q_72_62 : qz_rr 72 62 := ⟨by decide +kernel, by decide +kernel⟩
theorem qz_q_72_65 : qz_rr 72 65 := ⟨by decide +kernel, by decide +kernel⟩
theorem qz_q_73_50 : qz_rr 73 50 := ⟨by decide +kernel, by decide +kernel⟩
theorem qz_q_73_51 : qz_rr 73 51 := ⟨by decide +kernel, by decide +kernel⟩
theorem qz_q_73_52 : qz_rr 73 52 := ⟨by decide +kernel, by decide +kernel⟩
theorem qz_q_73_53 : qz_rr 73 53 := ⟨by decide +kernel, by decide +kernel⟩
theorem qz_q_73_54 : qz_rr 73 54 := ⟨by decide +kernel, by decide +kernel⟩
theorem qz_q_73_55 : qz_rr 73 55 := ⟨by decide +kernel, by decide +kernel⟩
theorem qz_q_73_56 : qz_rr 73 56 := ⟨by decide +kernel, by decide +kernel⟩
theorem qz_q_73_57 : qz_rr 73 57 := ⟨by decide +kernel, by decide +kernel⟩
theorem qz_q_73_60 : qz_rr 73 60 := ⟨by decide +kernel, by decide +kernel⟩
theorem qz_q_73_65 : qz_rr 73 65 := ⟨by decide +kernel, by decide +kernel⟩
theorem qz_q_73_71 : qz_rr 73 71 := ⟨by decide +kernel, by decide +kernel⟩
theorem qz_q_74_61 : qz_rr 74 61 := ⟨by decide +kernel, by decide +kernel⟩
theorem qz_q_74_62 : qz_rr 74 62 := ⟨by decide +kernel, by decide +kernel⟩
theorem qz_q_74_63 : qz_rr 74 63 := ⟨by decide +kernel, by decide +kernel⟩
theorem qz_q_74_64 : qz_rr 74 64 := ⟨by decide +kernel, by decide +kernel⟩
theorem qz_q_74_65 : qz_rr 74 65 := ⟨by decide +kernel, by decide +kernel⟩
theorem qz_q_75_58 : qz_rr 75 58 := ⟨by decide +kernel, by decide +kernel⟩
theorem qz_q_75_59 : qz_rr 75 59 := ⟨by decide +kernel, by decide +kernel⟩
theorem qz_q_75_60 : qz_rr 75 60 := ⟨by decide +kernel, by decide +kernel⟩
theorem qz_q_75_65 : qz_rr 75 65 := ⟨by decide +kernel, by decide +kernel⟩
theorem qz_q_75_70 : qz_rr 75 70 := ⟨by decide +kernel, by decide +kernel⟩
theorem qz_q_75_72 : qz_rr 75 72 := ⟨by decide +kernel, by decide +kernel⟩
theorem qz_q_75_73 : qz_rr 75 73 := ⟨by decide +kernel, by decide +kernel⟩
theorem qz_q_75_74 : qz_rr 75 74 := ⟨by decide +kernel, by decide +kernel⟩
