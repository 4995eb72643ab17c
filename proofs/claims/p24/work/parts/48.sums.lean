/-! p24: sums -/
def qv_sm (t : Nat → Nat) : Nat → Nat
  | 0 => 0
  | n + 1 => qv_sm t n + t n
theorem qv_smc {t t' : Nat → Nat} {n : Nat} (h : ∀ i, i < n → t i = t' i) : qv_sm t n = qv_sm t' n := by
  induction n with
  | zero => rfl
  | succ n ih =>
    show qv_sm t n + t n = qv_sm t' n + t' n
    rw [ih (fun i hi => h i (by omega)), h n (by omega)]
theorem qv_smadd (t t' : Nat → Nat) (n : Nat) : qv_sm (fun i => t i + t' i) n = qv_sm t n + qv_sm t' n := by
  induction n with
  | zero => rfl
  | succ n ih =>
    show qv_sm (fun i => t i + t' i) n + (t n + t' n) = (qv_sm t n + t n) + (qv_sm t' n + t' n)
    rw [ih]
    omega
theorem qv_sm0 (n : Nat) : qv_sm (fun _ => 0) n = 0 := by
  induction n with
  | zero => rfl
  | succ n ih =>
    show qv_sm (fun _ => 0) n + 0 = 0
    rw [ih]
theorem qv_sm1 {k n : Nat} (b : Nat) (h : k < n) : qv_sm (fun i => if i = k then b else 0) n = b := by
  induction n with
  | zero => omega
  | succ n ih =>
    show qv_sm (fun i => if i = k then b else 0) n + (if n = k then b else 0) = b
    by_cases h1 : n = k
    · rw [if_pos h1, qv_smc (t' := fun _ => 0) (fun i hi => if_neg (by omega)), qv_sm0, Nat.zero_add]
    · rw [if_neg h1, ih (by omega), Nat.add_zero]
theorem qv_smcut (t : Nat → Nat) (n m : Nat) (h : ∀ i, n ≤ i → t i = 0) : qv_sm t (n + m) = qv_sm t n := by
  induction m with
  | zero => rfl
  | succ m ih =>
    show qv_sm t (n + m) + t (n + m) = _
    rw [ih, h (n + m) (by omega), Nat.add_zero]
theorem qv_smsw (h : Nat → Nat → Nat) (n m : Nat) : qv_sm (fun i => qv_sm (fun j => h i j) m) n = qv_sm (fun j => qv_sm (fun i => h i j) n) m := by
  induction n with
  | zero => exact (qv_sm0 m).symm
  | succ n ih =>
    show qv_sm (fun i => qv_sm (fun j => h i j) m) n + qv_sm (fun j => h n j) m = qv_sm (fun j => qv_sm (fun i => h i j) n + h n j) m
    rw [ih, qv_smadd]
theorem qv_sm2 (t : Nat → Nat) (n : Nat) : qv_sm t (2 * n) = qv_sm (fun i => t (2 * i)) n + qv_sm (fun i => t (2 * i + 1)) n := by
  induction n with
  | zero => rfl
  | succ n ih =>
    show qv_sm t (2 * n) + t (2 * n) + t (2 * n + 1) = (qv_sm (fun i => t (2 * i)) n + t (2 * n)) + (qv_sm (fun i => t (2 * i + 1)) n + t (2 * n + 1))
    rw [ih]
    omega
theorem qv_smC (p : Nat → Bool) (n : Nat) : (List.range n).countP p = qv_sm (fun i => if p i = true then 1 else 0) n := by
  induction n with
  | zero => rfl
  | succ n ih =>
    rw [List.range_succ, List.countP_append, List.countP_singleton, ih]
    rfl
theorem qv_smap (t : Nat → Nat) (n m : Nat) : qv_sm t (n + m) = qv_sm t n + qv_sm (fun i => t (n + i)) m := by
  induction m with
  | zero => rfl
  | succ m ih =>
    show qv_sm t (n + m) + t (n + m) = qv_sm t n + (qv_sm (fun i => t (n + i)) m + t (n + m))
    rw [ih]
    omega
theorem qv_smK {α : Type} (L : List α) (q : α → Nat) (p : α → Bool) (x : Nat) (h : ∀ r, r ∈ L → q r < x) : qv_sm (fun k => L.countP (fun r => decide (q r = k) && p r)) x = L.countP p := by
  induction L with
  | nil =>
    exact (qv_smc (t' := fun _ => 0) (fun i hi => rfl)).trans (qv_sm0 x)
  | cons a L ih =>
    rw [List.countP_cons, ← ih (fun r hr => h r (List.mem_cons_of_mem _ hr)), qv_smc (t' := fun k => L.countP (fun r => decide (q r = k) && p r) + (if k = q a then (if p a = true then 1 else 0) else 0)), qv_smadd, qv_sm1 _ (h a List.mem_cons_self)]
    intro k hk
    rw [List.countP_cons]
    by_cases h1 : k = q a
    · subst h1
      simp
    · have : ¬ q a = k := fun e => h1 e.symm
      simp [h1, this]
/-- two that belong together are two -/
theorem qv_even (R : Nat → Nat → Bool) (n : Nat) (hs : ∀ e o, R e o = R o e) (hn : ∀ e, R e e = false) : ∃ m, qv_sm (fun e => qv_sm (fun o => if R e o = true then 1 else 0) n) n = 2 * m := by
  refine ⟨qv_sm (fun e => qv_sm (fun o => if R e o = true ∧ e < o then 1 else 0) n) n, ?_⟩
  have e1 : qv_sm (fun e => qv_sm (fun o => if R e o = true then 1 else 0) n) n = qv_sm (fun e => qv_sm (fun o => if R e o = true ∧ e < o then 1 else 0) n + qv_sm (fun o => if R o e = true ∧ o < e then 1 else 0) n) n := by
    refine qv_smc (fun e _ => ?_)
    rw [← qv_smadd]
    refine qv_smc (fun o _ => ?_)
    rw [← hs e o]
    rcases Nat.lt_trichotomy e o with h | h | h
    · by_cases h2 : R e o = true
      · rw [if_pos h2, if_pos ⟨h2, h⟩, if_neg (by omega)]
      · rw [if_neg h2, if_neg (fun q => h2 q.1), if_neg (fun q => h2 q.1)]
    · subst h
      rw [hn e, if_neg Bool.false_ne_true, if_neg (by omega)]
    · by_cases h2 : R e o = true
      · rw [if_pos h2, if_neg (by omega), if_pos ⟨h2, h⟩]
      · rw [if_neg h2, if_neg (fun q => h2 q.1), if_neg (fun q => h2 q.1)]
  rw [e1, qv_smadd, qv_smsw (fun e o => if R o e = true ∧ o < e then 1 else 0)]
  omega
section QVS
variable {B : Nat} {g : Nat → Int32}
/-- the bus that a booking is on, said of the one end that comes first -/
def qv_aw (g : Nat → Int32) (l e : Nat) : Bool := !decide (qy_pa g l e = -5) && decide (qy_pa g l e ≤ nI e)
def qv_bi (g r : Nat → Int32) : Nat := 2 * (if qv_aw g (r 2).toNatClampNeg (r 1).toNatClampNeg = true then (qy_pa g (r 2).toNatClampNeg (r 1).toNatClampNeg).toNatClampNeg else (r 1).toNatClampNeg) + (r 2).toNatClampNeg
theorem qv_awN {l e o : Nat} (he : e < 10) (ho : o < 10) (hpe : qy_pa g l e = nI o) : qv_aw g l e = decide (o ≤ e) := by
  unfold qv_aw
  have h5 : ¬ nI o = -5 := qy_n5 (by omega)
  rw [hpe]
  simp [h5, qy_le (show o < 2147483648 by omega) (show e < 2147483648 by omega)]
theorem qv_bilt (hW : qy_Wf g B) {r : Nat → Int32} (hr : qy_Wr g B r) : qv_bi g r < 2 * qy_ec g := by
  have h10 := hW.2.1
  obtain ⟨_, ⟨e1, he1, a1⟩, ⟨l1, hl1, a2⟩, _, _⟩ := hr
  unfold qv_bi
  rw [a1, a2, qz_cl_nI (by omega), qz_cl_nI (by omega)]
  by_cases h : qv_aw g l1 e1 = true
  · rw [if_pos h]
    rcases qy_pac hW hl1 (show e1 < 10 by omega) with ⟨h5, _⟩ | ⟨o, ho, _, hne, b1, b2, _, _⟩
    · unfold qv_aw at h
      rw [h5] at h
      simp at h
    · rw [b1, qz_cl_nI (by omega)]
      omega
  · rw [if_neg h]
    omega
theorem qv_bion (hW : qy_Wf g B) {r : Nat → Int32} (hr : qy_Wr g B r) {l e : Nat} (hl : l < 2) (he : e < 10) : (qv_aw g l e = false → qy_on (nI l) (nI e) (qy_pa g l e) r = decide (qv_bi g r = 2 * e + l)) ∧ (qv_aw g l e = true → ¬ qv_bi g r = 2 * e + l) := by
  have h10 := hW.2.1
  obtain ⟨_, ⟨e1, he1, a1⟩, ⟨l1, hl1, a2⟩, _, _⟩ := hr
  have hbi : qv_bi g r = 2 * (if qv_aw g l1 e1 = true then (qy_pa g l1 e1).toNatClampNeg else e1) + l1 := by
    unfold qv_bi
    rw [a1, a2, qz_cl_nI (by omega), qz_cl_nI (by omega)]
  have hon : qy_on (nI l) (nI e) (qy_pa g l e) r = true ↔ l1 = l ∧ (e1 = e ∨ nI e1 = qy_pa g l e) := by
    unfold qy_on
    rw [a1, a2]
    simp only [Bool.and_eq_true, Bool.or_eq_true, decide_eq_true_eq, qy_eq (show l1 < 2147483648 by omega) (show l < 2147483648 by omega), qy_eq (show e1 < 2147483648 by omega) (show e < 2147483648 by omega)]
  have hfac : l1 = l → qv_aw g l1 e1 = true → ∃ o, o < 10 ∧ o ≠ e1 ∧ qy_pa g l e1 = nI o ∧ qy_pa g l o = nI e1 ∧ qv_aw g l o = false := by
    intro hll haw
    subst hll
    rcases qy_pac hW hl1 (show e1 < 10 by omega) with ⟨h5, _⟩ | ⟨o, ho, _, hne, b1, b2, _, _⟩
    · unfold qv_aw at haw
      rw [h5] at haw
      simp at haw
    · refine ⟨o, by omega, hne, b1, b2, ?_⟩
      rw [qv_awN (by omega) (by omega) b1, decide_eq_true_eq] at haw
      rw [qv_awN (by omega) (by omega) b2, decide_eq_false_iff_not]
      omega
  constructor
  · intro haw
    rw [Bool.eq_iff_iff, hon, decide_eq_true_eq, hbi]
    constructor
    · rintro ⟨rfl, hc⟩
      rcases hc with rfl | hc
      · rw [haw, if_neg Bool.false_ne_true]
      · rcases qy_pac hW hl1 he with ⟨h5, _⟩ | ⟨o, ho, _, hne, b1, b2, _, _⟩
        · rw [h5] at hc
          exact absurd hc (qy_n5 (by omega))
        · rw [b1, qy_eq (by omega) (by omega)] at hc
          subst hc
          rw [qv_awN (by omega) (by omega) b1, decide_eq_false_iff_not] at haw
          have : qv_aw g l1 e1 = true := by
            rw [qv_awN (by omega) (by omega) b2, decide_eq_true_eq]
            omega
          rw [this, if_pos rfl, b2, qz_cl_nI (by omega)]
    · intro h
      cases haw1 : qv_aw g l1 e1
      · rw [haw1, if_neg Bool.false_ne_true] at h
        exact ⟨by omega, Or.inl (by omega)⟩
      · rw [haw1, if_pos rfl] at h
        have hll : l1 = l := by omega
        obtain ⟨o, ho, hne, b1, b2, _⟩ := hfac hll haw1
        subst hll
        rw [b1, qz_cl_nI (by omega)] at h
        have : o = e := by omega
        subst this
        exact ⟨rfl, Or.inr b2.symm⟩
  · intro haw h
    rw [hbi] at h
    cases haw1 : qv_aw g l1 e1
    · rw [haw1, if_neg Bool.false_ne_true] at h
      have h1 : l1 = l := by omega
      have h2 : e1 = e := by omega
      rw [h1, h2, haw] at haw1
      exact absurd haw1 (by decide)
    · rw [haw1, if_pos rfl] at h
      have hll : l1 = l := by omega
      obtain ⟨o, ho, hne, b1, b2, b3⟩ := hfac hll haw1
      subst hll
      rw [b1, qz_cl_nI (by omega)] at h
      have : o = e := by omega
      subst this
      rw [b3] at haw
      exact absurd haw (by decide)
theorem qv_mW (hW : qy_Wf g B) {r : Nat → Int32} (h : r ∈ qy_Lm g) : qy_Wr g B r := by
  obtain ⟨k, hk, rfl⟩ := qy_mLm.mp h
  exact hW.2.2.2.2.2.2.2.2.1 k hk
/-- who rides on a bus, or waits for it, is counted with its first end alone -/
theorem qv_bisum (hW : qy_Wf g B) (p : (Nat → Int32) → Bool) {l e : Nat} (hl : l < 2) (he : e < 10) :
    (if qv_aw g l e = true then 0 else (qy_Lm g).countP (fun r => p r && qy_on (nI l) (nI e) (qy_pa g l e) r)) = (qy_Lm g).countP (fun r => decide (qv_bi g r = 2 * e + l) && p r) := by
  cases h : qv_aw g l e
  · rw [if_neg Bool.false_ne_true]
    refine List.countP_congr (fun r hr => ?_)
    rw [(qv_bion hW (qv_mW hW hr) hl he).1 h, Bool.and_comm]
  · rw [if_pos rfl]
    refine (List.countP_eq_zero.mpr (fun r hr q => ?_)).symm
    simp only [Bool.and_eq_true, decide_eq_true_eq] at q
    exact (qv_bion hW (qv_mW hW hr) hl he).2 h q.1
/-- merged buses -/
theorem qv_pairs (hW : qy_Wf g B) : nI (qv_sm (fun k => if qy_pa g (k % 2) (k / 2) = -5 then 0 else 1) (2 * qy_ec g)) = 2 * (nI ((List.range 20).countP (fun i => !decide (qy_pc (g (23 + i)) = -5))) / 2) := by
  have h10 := hW.2.1
  have hz : ∀ l e, l < 2 → qy_ec g ≤ e → e < 10 → qy_pa g l e = -5 := by
    intro l e hl h1 h2
    rcases qy_pac hW hl h2 with ⟨h5, _⟩ | ⟨o, ho, he, _⟩
    · exact h5
    · omega
  have hl : ∀ l, l < 2 → ∃ m, qv_sm (fun e => if qy_pa g l e = -5 then 0 else 1) 10 = 2 * m := by
    intro l hl
    obtain ⟨m, hm⟩ := qv_even (fun e o => decide (e < 10) && decide (o < 10) && decide (qy_pa g l e = nI o) && decide (qy_pa g l o = nI e)) 10 (fun e o => by
      rw [Bool.eq_iff_iff]
      simp only [Bool.and_eq_true, decide_eq_true_eq]
      constructor
      · rintro ⟨⟨⟨a, b⟩, c⟩, d⟩; exact ⟨⟨⟨b, a⟩, d⟩, c⟩
      · rintro ⟨⟨⟨a, b⟩, c⟩, d⟩; exact ⟨⟨⟨b, a⟩, d⟩, c⟩) (fun e => by
      rw [Bool.eq_false_iff]
      intro h
      simp only [Bool.and_eq_true, decide_eq_true_eq] at h
      obtain ⟨⟨⟨a, b⟩, c⟩, d⟩ := h
      rcases qy_pac hW hl a with ⟨h5, _⟩ | ⟨o, ho, he, hne, b1, _⟩
      · rw [h5] at c
        exact qy_n5 (by omega) c.symm
      · rw [b1, qy_eq (by omega) (by omega)] at c
        exact hne c)
    refine ⟨m, ?_⟩
    rw [← hm]
    refine qv_smc (fun e he => ?_)
    rcases qy_pac hW hl he with ⟨h5, _⟩ | ⟨o, ho, _, hne, b1, b2, _, h5⟩
    · rw [if_pos h5]
      refine ((qv_smc (t' := fun _ => 0) (fun o ho => if_neg (fun h => ?_))).trans (qv_sm0 10)).symm
      simp only [Bool.and_eq_true, decide_eq_true_eq] at h
      rw [h5] at h
      exact qy_n5 (by omega) h.1.2.symm
    · rw [if_neg h5]
      refine ((qv_smc (t' := fun i => if i = o then 1 else 0) (fun i hi => ?_)).trans (qv_sm1 1 (show o < 10 by omega))).symm
      by_cases h : i = o
      · subst h
        rw [if_pos rfl, if_pos]
        simp only [Bool.and_eq_true, decide_eq_true_eq]
        exact ⟨⟨⟨he, hi⟩, b1⟩, b2⟩
      · rw [if_neg h, if_neg]
        intro q
        simp only [Bool.and_eq_true, decide_eq_true_eq] at q
        rw [b1, qy_eq (by omega) (by omega)] at q
        omega
  obtain ⟨m0, h0⟩ := hl 0 (by decide)
  obtain ⟨m1, h1⟩ := hl 1 (by decide)
  have hC : (List.range 20).countP (fun i => !decide (qy_pc (g (23 + i)) = -5)) = 2 * (m0 + m1) := by
    rw [qv_smC, qv_smap _ 10 10, Nat.mul_add, ← h0, ← h1]
    congr 1
    · refine qv_smc (fun i hi => ?_)
      show _ = if qy_pc (g (23 + 10 * 0 + i)) = -5 then 0 else 1
      rw [show 23 + 10 * 0 + i = 23 + i by omega]
      by_cases h : qy_pc (g (23 + i)) = -5
      · rw [if_pos h, decide_eq_true h]; rfl
      · rw [if_neg h, decide_eq_false h]; rfl
    · refine qv_smc (fun i hi => ?_)
      show _ = if qy_pc (g (23 + 10 * 1 + i)) = -5 then 0 else 1
      rw [show 23 + 10 * 1 + i = 23 + (10 + i) by omega]
      by_cases h : qy_pc (g (23 + (10 + i))) = -5
      · rw [if_pos h, decide_eq_true h]; rfl
      · rw [if_neg h, decide_eq_false h]; rfl
  have hS : qv_sm (fun k => if qy_pa g (k % 2) (k / 2) = -5 then 0 else 1) (2 * qy_ec g) = 2 * (m0 + m1) := by
    rw [qv_sm2, Nat.mul_add, ← h0, ← h1]
    have hc : ∀ l, l < 2 → qv_sm (fun e => if qy_pa g l e = -5 then 0 else 1) 10 = qv_sm (fun e => if qy_pa g l e = -5 then 0 else 1) (qy_ec g) := by
      intro l hl
      have e2 := qv_smcut (fun e => if e < 10 then (if qy_pa g l e = -5 then 0 else 1) else 0) (qy_ec g) (10 - qy_ec g) (fun i hi => by
        by_cases h : i < 10
        · rw [if_pos h, if_pos (hz l i hl hi h)]
        · rw [if_neg h])
      rw [show qy_ec g + (10 - qy_ec g) = 10 by omega] at e2
      rw [qv_smc (t' := fun e => if e < 10 then (if qy_pa g l e = -5 then 0 else 1) else 0) (fun i hi => (if_pos hi).symm), e2]
      exact qv_smc (fun i hi => if_pos (by omega))
    rw [hc 0 (by decide), hc 1 (by decide)]
    congr 1
    · refine qv_smc (fun i _ => ?_)
      rw [show 2 * i % 2 = 0 by omega, show 2 * i / 2 = i by omega]
    · refine qv_smc (fun i _ => ?_)
      rw [show (2 * i + 1) % 2 = 1 by omega, show (2 * i + 1) / 2 = i by omega]
  have hle : (List.range 20).countP (fun i => !decide (qy_pc (g (23 + i)) = -5)) ≤ 20 := by
    have := List.countP_le_length (p := fun i => !decide (qy_pc (g (23 + i)) = -5)) (l := List.range 20)
    rwa [List.length_range] at this
  rw [hS, hC, show (2 : Int32) = nI 2 from rfl, qy_div (by omega) (by omega), qy_mul]
  congr 1
  omega
end QVS
