/-! numbers and loops for the pure functions -/
theorem qy_le {a b : Nat} (ha : a < 2147483648) (hb : b < 2147483648) : (nI a ≤ nI b) = (a ≤ b) := propext (qz_le_nI ha hb)
theorem qy_lt {a b : Nat} (ha : a < 2147483648) (hb : b < 2147483648) : (nI a < nI b) = (a < b) := by
  rw [← Int32.not_le, qy_le hb ha, Nat.not_le]
theorem qy_eq {a b : Nat} (ha : a < 2147483648) (hb : b < 2147483648) : (nI a = nI b) = (a = b) := by
  refine propext ⟨fun h => ?_, fun h => by rw [h]⟩
  rw [← qz_cl_nI (i := a) ha, ← qz_cl_nI (i := b) hb, h]
theorem qy_add (a b : Nat) : nI a + nI b = nI (a + b) := (Int32.ofNat_add a b).symm
theorem qy_mul (a b : Nat) : nI a * nI b = nI (a * b) := (Int32.ofNat_mul a b).symm
theorem qy_sub {a b : Nat} (h : b ≤ a) : nI a - nI b = nI (a - b) := by
  have h1 : nI (a - b) + nI b = nI a := by rw [qy_add, Nat.sub_add_cancel h]
  rw [← h1]
  grind
theorem qy_nn {a : Nat} (ha : a < 2147483648) : ¬ nI a < 0 := qz_nneg ha
theorem qy_ge0 {a : Nat} (ha : a < 2147483648) : (0 : Int32) ≤ nI a := Int32.not_lt.mp (qz_nneg ha)
theorem qy_ti {a : Nat} (ha : a < 2147483648) : (nI a).toInt = (a : Int) := nI_toInt ha
theorem qy_of {x : Int32} (h : 0 ≤ x) : ∃ k, k < 2147483648 ∧ x = nI k := by
  have h1 : (0 : Int) ≤ x.toInt := by
    have := Int32.le_iff_toInt_le.mp h
    simpa using this
  have h2 : x.toInt < 2147483648 := by
    have := Int32.toInt_lt x
    simpa using this
  refine ⟨x.toInt.toNat, by omega, ?_⟩
  apply Int32.toInt_inj.mp
  rw [qy_ti (by omega)]
  omega
theorem qy_not0 {x : Int32} (h : ¬ 0 ≤ x) : x < 0 := Int32.not_le.mp h
theorem qy_div {a b : Nat} (ha : a < 2147483648) (hb : b < 2147483648) : nI a / nI b = nI (a / b) := by
  have hd : a / b < 2147483648 := Nat.lt_of_le_of_lt (Nat.div_le_self a b) ha
  apply Int32.toInt_inj.mp
  rw [Int32.toInt_div_of_ne_left, qy_ti ha, qy_ti hb, qy_ti hd]
  · rw [Int.ofNat_tdiv]
  · intro h
    have := congrArg Int32.toInt h
    rw [qy_ti ha] at this
    have h2 : Int32.minValue.toInt = -2147483648 := by decide
    rw [h2] at this
    omega
theorem qy_t1 (a b c d : Int32) : (a - b) + c * d = (a + d * c) - b := by grind
theorem qy_subI {a b : Nat} (ha : a < 1000000000) (hb : b < 1000000000) : (nI a - nI b).toInt = (a : Int) - (b : Int) := by
  rw [Int32.toInt_sub, qy_ti (by omega), qy_ti (by omega)]
  apply Int.bmod_eq_of_le <;> omega
theorem qy_sub0 {a b : Nat} (ha : a < 1000000000) (hb : b < 1000000000) : (nI a - nI b = 0) = (a = b) := by
  refine propext ⟨fun h => ?_, fun h => ?_⟩
  · have := congrArg Int32.toInt h
    rw [qy_subI ha hb] at this
    have h0 : (0 : Int32).toInt = 0 := rfl
    rw [h0] at this
    omega
  · subst h
    apply Int32.toInt_inj.mp
    rw [qy_subI ha hb]
    have h0 : (0 : Int32).toInt = 0 := rfl
    rw [h0]
    omega
theorem qy_subge {a b : Nat} (ha : a < 1000000000) (hb : b < 1000000000) : (0 ≤ nI a - nI b) = (b ≤ a) := by
  rw [Int32.le_iff_toInt_le, qy_subI ha hb]
  have h0 : (0 : Int32).toInt = 0 := rfl
  rw [h0]
  exact propext ⟨fun h => by omega, fun h => by omega⟩
theorem qy_absI {a b : Nat} (ha : a < 1000000000) (hb : b < 1000000000) (s : Int32) : ((if 0 ≤ nI a - nI b then nI a - nI b else 0 - (nI a - nI b)) ≤ s) = (nI a - nI b ≤ s ∧ -(nI a - nI b) ≤ s) := by
  have hn : -(nI a - nI b) = nI b - nI a := by grind
  have hn' : 0 - (nI a - nI b) = nI b - nI a := by grind
  rw [hn, hn']
  simp only [qy_subge ha hb]
  rw [Int32.le_iff_toInt_le, Int32.le_iff_toInt_le, Int32.le_iff_toInt_le, qy_subI ha hb, qy_subI hb ha]
  refine propext ?_
  by_cases h : b ≤ a
  · rw [if_pos h, qy_subI ha hb]
    omega
  · rw [if_neg h, qy_subI hb ha]
    omega
theorem qy_lpE {α β : Type} (lp : Nat → α → Int32 → β) (N : Nat) (P : Nat → α → Prop) (Q : β → Prop)
    (hs : ∀ n i a, i < N → P i a → (∃ a', lp (n + 1) a (nI i) = lp n a' (nI (i + 1)) ∧ P (i + 1) a') ∨ Q (lp (n + 1) a (nI i)))
    (he : ∀ n a, P N a → Q (lp (n + 1) a (nI N))) : ∀ n i a, i ≤ N → N - i < n → P i a → Q (lp n a (nI i)) := by
  intro n
  induction n with
  | zero => intro i a _ h; omega
  | succ n ih =>
    intro i a hi hn hP
    by_cases h : i = N
    · subst h; exact he n a hP
    · rcases hs n i a (by omega) hP with ⟨a', e, hP'⟩ | hq
      · rw [e]; exact ih (i + 1) a' (by omega) (by omega) hP'
      · exact hq
theorem qy_cnt {β : Type} (lp : Nat → Int32 → Int32 → β) (fin : Int32 → β) (N : Nat) (t : Nat → Bool)
    (hs : ∀ n i a, i < N → lp (n + 1) a (nI i) = lp n (if t i = true then a + 1 else a) (nI (i + 1)))
    (he : ∀ n a, lp (n + 1) a (nI N) = fin a) (n : Nat) (hn : N < n) : lp n 0 0 = fin (nI ((List.range N).countP t)) := by
  refine qy_lpE lp N (fun i a => a = nI ((List.range i).countP t)) (fun b => b = fin (nI ((List.range N).countP t))) ?_ ?_ n 0 0 (by omega) (by omega) rfl
  · intro n i a hi ha
    refine Or.inl ⟨_, hs n i a hi, ?_⟩
    rw [List.range_succ, List.countP_append, List.countP_singleton, ha]
    by_cases ht : t i = true
    · rw [if_pos ht, if_pos ht, qz_nI1]
    · rw [if_neg ht, if_neg ht, Nat.add_zero]
  · intro n a ha
    rw [he, ha]
theorem qy_bs {α β : Type} {o : Option α} {a : α} {k : α → Option β} {r : Option β} (h : o = some a) (h2 : k a = r) : Option.bind o k = r := by
  rw [h, Option.bind_some, h2]
/-! records -/
def qy_rc (f : qz_F) (w i : Nat) : Nat → Int32 := fun c => if c < 8 then f (0, w, i) c else 0
def qy_rm (g : Nat → Int32) (k : Nat) : Nat → Int32 := fun c => if c < 8 then g (43 + 8 * k + c) else 0
def qy_lv (r : Nat → Int32) : Bool := !decide (r 0 = -1)
def qy_wt (r : Nat → Int32) : Bool := decide (r 4 = 0)
def qy_on (l e x : Int32) (r : Nat → Int32) : Bool := decide (r 2 = l) && (decide (r 1 = e) || decide (r 1 = x))
def qy_Lc (f : qz_F) (w : Nat) : List (Nat → Int32) := ((List.range 30).map (qy_rc f w)).filter qy_lv
def qy_n (g : Nat → Int32) : Nat := (g 6).toNatClampNeg
def qy_Lm (g : Nat → Int32) : List (Nat → Int32) := (List.range (qy_n g)).map (qy_rm g)
theorem qy_cLc (f : qz_F) (w : Nat) (p : (Nat → Int32) → Bool) : (List.range 30).countP (fun i => p (qy_rc f w i) && qy_lv (qy_rc f w i)) = (qy_Lc f w).countP p := by
  simp [qy_Lc, List.countP_filter, List.countP_map, Function.comp_def]
theorem qy_cLm (g : Nat → Int32) (p : (Nat → Int32) → Bool) : (List.range (qy_n g)).countP (fun k => p (qy_rm g k)) = (qy_Lm g).countP p := by
  simp [qy_Lm, List.countP_map, Function.comp_def]
theorem qy_mLc {f : qz_F} {w : Nat} {r : Nat → Int32} : r ∈ qy_Lc f w ↔ ∃ i, i < 30 ∧ qy_rc f w i = r ∧ qy_lv r = true := by
  simp only [qy_Lc, List.mem_filter, List.mem_map, List.mem_range]
  constructor
  · rintro ⟨⟨i, h1, h2⟩, h3⟩; exact ⟨i, h1, h2, h3⟩
  · rintro ⟨i, h1, h2, h3⟩; exact ⟨⟨i, h1, h2⟩, h3⟩
theorem qy_mLm {g : Nat → Int32} {r : Nat → Int32} : r ∈ qy_Lm g ↔ ∃ k, k < qy_n g ∧ qy_rm g k = r := by
  simp [qy_Lm, List.mem_map, List.mem_range]
/-! surroundings -/
def qy_pc (v : Int32) : Int32 := if v = 0 then -5 else v - 1
def qy_mi (g : Nat → Int32) (e : Nat) : Int32 := g (13 + e)
def qy_pa (g : Nat → Int32) (l e : Nat) : Int32 := qy_pc (g (23 + 10 * l + e))
def qy_ec (g : Nat → Int32) : Nat := (g 4).toNatClampNeg
/-- the start of the bus of a shift end and another one, or none -/
def qy_st (g : Nat → Int32) (e : Nat) (x : Int32) : Int32 := if 0 ≤ x ∧ x < g 4 then (if qy_mi g e < qy_mi g x.toNatClampNeg then qy_mi g x.toNatClampNeg else qy_mi g e) else qy_mi g e
def qy_bh (g : Nat → Int32) (l e : Nat) (s : Int32) : Int32 := (qy_st g e (qy_pa g l e) + g 0 * s) - qy_mi g e
def qy_it (g : Nat → Int32) (st : Int32) (r : Nat → Int32) : Bool := decide ((st + g 0 * r 3) - g (13 + (r 1).toNatClampNeg) ≤ g 3)
def qy_tk (l e x s N : Int32) (r : Nat → Int32) : Bool := !qy_wt r && qy_on l e x r && decide (s ≤ r 3) && !decide (r 0 = N)
def qy_rs (g : Nat → Int32) (L : List (Nat → Int32)) (l e : Nat) (s N : Int32) : Int32 :=
  if nI (L.countP (qy_tk (nI l) (nI e) (qy_pa g l e) 1 N)) < g 1 then (if qy_bh g l e s ≤ g 3 then 0 else 3) else 2
/-- a state of the class and one of the reference say the same -/
def qy_Rel (f : qz_F) (w : Nat) (g : Nat → Int32) : Prop :=
  f (4, w, 0) 0 = g 4 ∧ f (4, w, 0) 5 = g 5 ∧ (∀ c, c < 6 → f (4, w, 0) (6 + c) = g (7 + c)) ∧ (∀ i, i < 10 → f (10, w, 0) i = g (13 + i)) ∧
  (∀ i, i < 20 → f (11, w, 0) i = qy_pc (g (23 + i))) ∧ (∀ i, i < 4 → f (12, w, 0) i = g i) ∧ (qy_Lc f w).Perm (qy_Lm g) ∧
  (∀ i, i < 30 → f (0, w, i) 4 = 0 ∨ f (0, w, i) 4 = 1) ∧ (∀ i, i < 30 → f (0, w, i) 0 = -1 → ∀ c, c < 3 → f (0, w, i) (5 + c) = 0)
/-- a record is well made -/
def qy_Wr (g : Nat → Int32) (B : Nat) (r : Nat → Int32) : Prop :=
  (∃ N, N < B ∧ r 0 = nI N ∧ r 0 < g 5) ∧ (∃ e, e < qy_ec g ∧ r 1 = nI e) ∧ (∃ l, l < 2 ∧ r 2 = nI l) ∧ (∃ s, 1 ≤ s ∧ s ≤ 9 ∧ r 3 = nI s) ∧ (r 4 = 0 ∨ r 4 = 1)
def qy_Wf (g : Nat → Int32) (B : Nat) : Prop :=
  g 4 = nI (qy_ec g) ∧ qy_ec g ≤ 10 ∧ g 6 = nI (qy_n g) ∧ qy_n g ≤ 30 ∧ (∃ x, x ≤ B ∧ g 5 = nI x) ∧ (∃ s, 1 ≤ s ∧ s ≤ 30 ∧ g 1 = nI s) ∧
  (∀ i, i < 10 → ∃ m, m < 1440 ∧ g (13 + i) = nI m) ∧
  (∀ l e, l < 2 → e < 10 → g (23 + 10 * l + e) = 0 ∨ ∃ o, o < qy_ec g ∧ e < qy_ec g ∧ o ≠ e ∧ g (23 + 10 * l + e) = nI (o + 1) ∧ g (23 + 10 * l + o) = nI (e + 1)) ∧
  (∀ k, k < qy_n g → qy_Wr g B (qy_rm g k)) ∧ (∀ i k, i < k → k < qy_n g → (qy_rm g i) 0 < (qy_rm g k) 0) ∧ B ≤ 60000
