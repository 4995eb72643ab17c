/-! p24: what told tells hangs on g alone; the acts that the law chooses -/
def qv_fo {α : Type} (s : Nat → α → α) (a : α) : Nat → α
  | 0 => a
  | n + 1 => s n (qv_fo s a n)
/-- a loop that gathers -/
theorem qv_acc {α β : Type} (lp : Nat → α → Int32 → β) (N : Nat) (s : Nat → α → α) (fin : α → β) (hs : ∀ n i a, i < N → lp (n + 1) a (nI i) = lp n (s i a) (nI (i + 1))) (he : ∀ n a, lp (n + 1) a (nI N) = fin a) (n : Nat) (hn : N < n) (a0 : α) : lp n a0 (nI 0) = fin (qv_fo s a0 N) := by
  refine qy_lpE lp N (fun i a => a = qv_fo s a0 i) (fun b => b = fin (qv_fo s a0 N)) ?_ ?_ n 0 a0 (by omega) (by omega) rfl
  · intro n i a hi ha
    exact Or.inl ⟨_, hs n i a hi, by rw [ha]; rfl⟩
  · intro n a ha
    rw [he, ha]
def qv_lw (a n : Int32) : Int32 := (a &&& (2147483647 : Int32)) - (a &&& (2147483647 : Int32)) / n * n
def qv_ab (F : Nat) (S : qz_S) (a1 a2 x3 x7 : Int32) : Option (Int32 × qz_S) :=
  if (a1 &&& (15 : Int32)) = 0 then (Option.bind (if ((a2 >>> ((20 : Int32) &&& 31)) &&& (1 : Int32)) = 0 then (some (50 : Int32)) else (some (1441 : Int32))) fun j10 => Option.bind (gL_low F S.1 a2 j10) fun x11 => Option.bind (gX_addEnd F S x11) fun R13 => some (R13.1, R13.2)) else (if (a1 &&& (15 : Int32)) = 1 then (Option.bind (if ((a2 >>> ((20 : Int32) &&& 31)) &&& (1 : Int32)) = 0 then (some (50 : Int32)) else (some (1441 : Int32))) fun j18 => Option.bind (gL_low F S.1 a2 j18) fun x19 => Option.bind (gX_addEnd F S x19) fun R21 => some (R21.1, R21.2)) else (if (a1 &&& (15 : Int32)) = 2 then (Option.bind (gL_low F S.1 a2 (5 : Int32)) fun x26 => Option.bind (if x26 = 0 then (some (22 : Int32)) else (if x26 = (1 : Int32) then (some (9 : Int32)) else (if x26 = (2 : Int32) then (some (122 : Int32)) else (some (200 : Int32))))) fun j28 => Option.bind (gL_low F S.1 (a2 >>> ((3 : Int32) &&& 31)) j28) fun x29 => Option.bind (gX_set F S x26 x29) fun R31 => some (R31.1, R31.2)) else (if (a1 &&& (15 : Int32)) = 3 then (Option.bind (gL_low F S.1 a2 (11 : Int32)) fun x38 => Option.bind (gX_merge F S ((a1 >>> ((12 : Int32) &&& 31)) &&& (1 : Int32)) x3 x38) fun R40 => some (R40.1, R40.2)) else (if (a1 &&& (15 : Int32)) = 4 then (Option.bind (gL_low F S.1 a2 (11 : Int32)) fun x43 => Option.bind (gX_merge F S ((a1 >>> ((12 : Int32) &&& 31)) &&& (1 : Int32)) x3 x43) fun R45 => some (R45.1, R45.2)) else (if (a1 &&& (15 : Int32)) = 5 then (Option.bind (gX_part F S ((a1 >>> ((12 : Int32) &&& 31)) &&& (1 : Int32)) x3) fun R48 => some (R48.1, R48.2)) else (if (a1 &&& (15 : Int32)) = 6 then (Option.bind (gX_passDay F S) fun R51 => some (R51.1, R51.2)) else (if (a1 &&& (15 : Int32)) = 7 then (Option.bind (gX_passDay F S) fun R54 => some (R54.1, R54.2)) else (if (a1 &&& (15 : Int32)) = 8 then (if (a2 &&& (1 : Int32)) = 0 then (Option.bind (gX_takeBack F S x7) fun R58 => some (R58.1, R58.2)) else (Option.bind (gX_restore F S) fun R60 => some (R60.1, R60.2))) else (if (a1 &&& (15 : Int32)) = 9 then (Option.bind (gX_count F S.1 (0 : Int32)) fun x63 => Option.bind (gL_low F S.1 a2 (x63 + (1 : Int32))) fun x65 => Option.bind (gX_stay F S x7 x65) fun R67 => some (R67.1, R67.2)) else (if (a1 &&& (15 : Int32)) = 10 then (Option.bind (gX_count F S.1 (0 : Int32)) fun x70 => Option.bind (gL_low F S.1 a2 (x70 + (1 : Int32))) fun x72 => Option.bind (gX_stay F S x7 x72) fun R74 => some (R74.1, R74.2)) else (Option.bind (if ((a2 >>> ((20 : Int32) &&& 31)) &&& (7 : Int32)) = 0 then (some (3 : Int32)) else (some (2 : Int32))) fun j76 => Option.bind (gL_low F S.1 a2 j76) fun x77 => Option.bind (if ((a2 >>> ((20 : Int32) &&& 31)) &&& (7 : Int32)) = (1 : Int32) then (some (11 : Int32)) else (some (9 : Int32))) fun j79 => Option.bind (gL_low F S.1 (a2 >>> ((2 : Int32) &&& 31)) j79) fun x80 => Option.bind (if ((a2 >>> ((20 : Int32) &&& 31)) &&& (7 : Int32)) = (1 : Int32) then (some (0 : Int32)) else (some (1 : Int32))) fun j82 => Option.bind (gX_book F S x3 x77 (x80 + j82)) fun R83 => some (R83.1, R83.2))))))))))))
section QVG
variable {F B B' m : Nat} {f0 f f' : qz_F} {g g' : Nat → Int32} {S S' : qz_S} {k : Option (Nat → Int32)}
theorem qv_k2 {i : Nat} (hi : i < 100000) : nI i / (2 : Int32) = nI (i / 2) ∧ nI i - nI i / (2 : Int32) * (2 : Int32) = nI (i % 2) := by
  have e1 : nI i / (2 : Int32) = nI (i / 2) := qy_div (a := i) (b := 2) (by omega) (by decide)
  refine ⟨e1, ?_⟩
  rw [e1, show (2 : Int32) = nI 2 from rfl, qy_mul, qy_sub (by omega)]
  congr 1
  omega
theorem qv_told (hW : qy_Wf g B) (hF : 30 < F) (hB : B < F) : ∃ h : Int64, ∀ f : qz_F, qy_Rel f 0 g → gL_told F f = some h := by
  have h10 := hW.2.1
  have hB6 := hW.2.2.2.2.2.2.2.2.2.2
  obtain ⟨x, hx, h5⟩ := hW.2.2.2.2.1
  have hwk : ∃ c : Int32 → Int32 → Int32, ∀ a a1, ¬ a1 = 5 → ∀ f : qz_F, qy_Rel f 0 g → gX_worker F f a a1 = some (c a a1) :=
    ⟨fun a a1 => Classical.choose (qv_worker (F := F) hW hF a a1), fun a a1 => Classical.choose_spec (qv_worker (F := F) hW hF a a1)⟩
  obtain ⟨c, hc⟩ := hwk
  refine ⟨qv_fo (fun i l => ((31 : Int64) * (((31 : Int64) * l) + (qv_bs g (i % 2) (i / 2) 0).toInt64)) + (qv_bs g (i % 2) (i / 2) 1).toInt64)
    (qv_fo (fun i l => qv_fo (fun j l => if nI j = 5 then l else ((31 : Int64) * l) + (c (nI i) (nI j)).toInt64) l 9) (qv_fo (fun i l => ((31 : Int64) * l) + (qv_ct g i).toInt64) 3 16) x) (2 * qy_ec g), fun f hR => ?_⟩
  unfold gL_told
  have l92 : ∀ (K : Int32 → Int64 → Option Int64) (a : Int64), gL_told_L92 F f K F 0 a = K (nI (2 * qy_ec g)) (qv_fo (fun i l => ((31 : Int64) * (((31 : Int64) * l) + (qv_bs g (i % 2) (i / 2) 0).toInt64)) + (qv_bs g (i % 2) (i / 2) 1).toInt64) a (2 * qy_ec g)) := by
    intro K a
    have hc0 : gX_count F f 0 = some (nI (qy_ec g)) := by rw [← hW.1]; exact qv_count hR hW hF (a := 0) (by decide)
    refine qv_acc (fun n a y => gL_told_L92 F f K n y a) (2 * qy_ec g) _ (fun a => K (nI (2 * qy_ec g)) a) ?_ ?_ F (by omega) a
    · intro n i a hi
      obtain ⟨q1, q2⟩ := qv_k2 (i := i) (by omega)
      have n1 : ¬ (2 : Int32) * nI (qy_ec g) ≤ nI i := by
        rw [show (2 : Int32) = nI 2 from rfl, qy_mul, qy_le (by omega) (by omega)]
        omega
      have b0 : gX_bus F f (nI (i % 2)) (nI (i / 2)) 0 = some (qv_bs g (i % 2) (i / 2) 0) := qv_bus hR hW hF (w := 0) (by omega) (by omega) (by decide)
      have b1 : gX_bus F f (nI (i % 2)) (nI (i / 2)) 1 = some (qv_bs g (i % 2) (i / 2) 1) := qv_bus hR hW hF (w := 1) (by omega) (by omega) (by decide)
      show gL_told_L92 F f K (n + 1) (nI i) a = _
      rw [gL_told_L92, hc0]
      simp only [Option.bind_some]
      rw [if_neg n1, q2, q1, b0]
      simp only [Option.bind_some]
      rw [b1]
      simp only [Option.bind_some, qz_nI1]
    · intro n a
      have n1 : (2 : Int32) * nI (qy_ec g) ≤ nI (2 * qy_ec g) := by
        rw [show (2 : Int32) = nI 2 from rfl, qy_mul]
        exact Int32.le_refl _
      show gL_told_L92 F f K (n + 1) (nI (2 * qy_ec g)) a = _
      rw [gL_told_L92, hc0]
      simp only [Option.bind_some]
      rw [if_pos n1]
  have l46 : ∀ (K : Int32 → Int64 → Option Int64) (i : Nat) (a : Int64), gL_told_L46 F f (nI i) K F 0 a = K (nI 9) (qv_fo (fun j l => if nI j = 5 then l else ((31 : Int64) * l) + (c (nI i) (nI j)).toInt64) a 9) := by
    intro K i a
    refine qv_acc (fun n a y => gL_told_L46 F f (nI i) K n y a) 9 _ (fun a => K (nI 9) a) ?_ ?_ F (by omega) a
    · intro n j a hj
      have n1 : ¬ (9 : Int32) ≤ nI j := fun q => by have := (qz_le_nI (a := 9) (b := j) (by decide) (by omega)).mp q; omega
      show gL_told_L46 F f (nI i) K (n + 1) (nI j) a = _
      rw [gL_told_L46, if_neg n1]
      by_cases h5' : nI j = 5
      · rw [if_pos h5', if_pos h5']
        simp only [Option.bind_some, qz_nI1]
      · rw [if_neg h5', if_neg h5', hc _ _ h5' f hR]
        simp only [Option.bind_some, qz_nI1]
    · intro n a
      have n1 : (9 : Int32) ≤ nI 9 := by decide
      show gL_told_L46 F f (nI i) K (n + 1) (nI 9) a = _
      rw [gL_told_L46, if_pos n1]
  have l33 : ∀ (K : Int32 → Int64 → Option Int64) (a : Int64), gL_told_L33 F f K F 0 a = K (nI x) (qv_fo (fun i l => qv_fo (fun j l => if nI j = 5 then l else ((31 : Int64) * l) + (c (nI i) (nI j)).toInt64) l 9) a x) := by
    intro K a
    have hc15 : gX_count F f 15 = some (nI x) := by rw [← h5]; exact qv_count hR hW hF (a := 15) (by decide)
    refine qv_acc (fun n a y => gL_told_L33 F f K n y a) x _ (fun a => K (nI x) a) ?_ ?_ F (by omega) a
    · intro n i a hi
      have n1 : ¬ nI x ≤ nI i := by rw [qy_le (by omega) (by omega)]; omega
      show gL_told_L33 F f K (n + 1) (nI i) a = _
      rw [gL_told_L33, hc15]
      simp only [Option.bind_some]
      rw [if_neg n1, l46]
      simp only [qz_nI1]
    · intro n a
      show gL_told_L33 F f K (n + 1) (nI x) a = _
      rw [gL_told_L33, hc15]
      simp only [Option.bind_some]
      rw [if_pos (Int32.le_refl _)]
  have l6 : ∀ (K : Int32 → Int64 → Option Int64) (a : Int64), gL_told_L6 F f K F 0 a = K (nI 16) (qv_fo (fun i l => ((31 : Int64) * l) + (qv_ct g i).toInt64) a 16) := by
    intro K a
    refine qv_acc (fun n a y => gL_told_L6 F f K n y a) 16 _ (fun a => K (nI 16) a) ?_ ?_ F (by omega) a
    · intro n i a hi
      have n1 : ¬ (16 : Int32) ≤ nI i := fun q => by have := (qz_le_nI (a := 16) (b := i) (by decide) (by omega)).mp q; omega
      show gL_told_L6 F f K (n + 1) (nI i) a = _
      rw [gL_told_L6, if_neg n1, qv_count hR hW hF hi]
      simp only [Option.bind_some, qz_nI1]
    · intro n a
      have n1 : (16 : Int32) ≤ nI 16 := by decide
      show gL_told_L6 F f K (n + 1) (nI 16) a = _
      rw [gL_told_L6, if_pos n1]
  rw [l6, l33, l92]
theorem qv_low {n : Int32} (hn : ¬ n = 0) (a : Int32) : gL_low F f a n = some (qv_lw a n) := by
  unfold gL_low qv_lw
  rw [if_neg hn]
theorem qv_bif {α : Type} {p : Prop} [Decidable p] (a b : Int32) (K : Int32 → Option α) : Option.bind (if p then some a else some b) K = K (if p then a else b) := by
  by_cases h : p
  · rw [if_pos h, if_pos h]; rfl
  · rw [if_neg h, if_neg h]; rfl
theorem qv_eta (o : Option (Int32 × qz_S)) : (Option.bind o fun R => some (R.1, R.2)) = o := by
  cases o <;> rfl
theorem qv_ActB {v : Int32} {B'' : Nat} {x : qz_S → Option (Int32 × qz_S)} (hB : B' ≤ B'') (h6 : B'' ≤ 60000) (h : qv_Act F f0 B B' k g x v g') : qv_Act F f0 B B'' k g x v g' := ⟨qv_WfB hB h6 h.1, h.2⟩
theorem qv_actH {S : qz_S} {a1 a2 x3 x7 c0 c15 : Int32} (e0 : gX_count F S.1 0 = some c0) (e15 : gX_count F S.1 15 = some c15) (n4 : ¬ c0 + 1 = 0) (n5 : ¬ c15 + 1 = 0) (hx3 : x3 = qv_lw (a1 >>> ((4 : Int32) &&& 31)) (c0 + 1)) (hx7 : x7 = qv_lw (a1 >>> ((8 : Int32) &&& 31)) (c15 + 1)) : gL_act F S a1 a2 = qv_ab F S a1 a2 x3 x7 := by
  refine qy_bs e0 ?_
  refine qy_bs (qv_low n4 _) ?_
  refine qy_bs e15 ?_
  refine qy_bs (qv_low n5 _) ?_
  rw [hx3, hx7]
  rfl
theorem qv_n1441 : ¬ (1441 : Int32) = 0 := by
  intro h
  have h2 := congrArg Int32.toInt h
  revert h2
  decide
theorem qv_actL {gk : Nat → Int32} (hWv : qv_Wf g B) (hk : qv_Wf gk B) (hK : qy_K f0) (hF : 30 < F) (hB6 : B + 1 ≤ 60000) (a1 a2 : Int32) :
    ∃ v g', qv_Act F f0 B (B + 1) (some gk) g (fun S => gL_act F S a1 a2) v g' ∧ ((a1 &&& (15 : Int32)) = 6 ∨ (a1 &&& (15 : Int32)) = 7 → g' 8 + g' 9 + g' 10 = g 8 + g 9 + g 10 + g 6) ∧ ((a1 &&& (15 : Int32)) = 8 → (a2 &&& (1 : Int32)) = 1 → g' = gk) := by
  have hW := hWv.1
  have h10 := hW.2.1
  obtain ⟨x, hx, h5⟩ := hW.2.2.2.2.1
  have n4 : ¬ g 4 + 1 = 0 := by
    rw [hW.1, qz_nI1, show (0 : Int32) = nI 0 from rfl, qy_eq (by omega) (by omega)]
    omega
  have n5 : ¬ g 5 + 1 = 0 := by
    rw [h5, qz_nI1, show (0 : Int32) = nI 0 from rfl, qy_eq (by omega) (by omega)]
    omega
  have e0 : ∀ S : qz_S, qy_Rel S.1 0 g → gX_count F S.1 0 = some (g 4) := fun S hR => qv_count hR hW hF (a := 0) (by decide)
  have e15 : ∀ S : qz_S, qy_Rel S.1 0 g → gX_count F S.1 15 = some (g 5) := fun S hR => qv_count hR hW hF (a := 15) (by decide)
  obtain ⟨x3, hx3⟩ : ∃ x3, x3 = qv_lw (a1 >>> ((4 : Int32) &&& 31)) (g 4 + 1) := ⟨_, rfl⟩
  obtain ⟨x7, hx7⟩ : ∃ x7, x7 = qv_lw (a1 >>> ((8 : Int32) &&& 31)) (g 5 + 1) := ⟨_, rfl⟩
  have hact : ∀ S : qz_S, qy_Rel S.1 0 g → gL_act F S a1 a2 = qv_ab F S a1 a2 x3 x7 := fun S hR => qv_actH (e0 S hR) (e15 S hR) n4 n5 hx3 hx7
  have hB1 : B ≤ B + 1 := Nat.le_succ B
  have done : ∀ {v : Int32} {g' : Nat → Int32} {B' : Nat} {X : qz_S → Option (Int32 × qz_S)}, B' ≤ B + 1 → qv_Act F f0 B B' (some gk) g X v g' → (∀ S : qz_S, qy_Rel S.1 0 g → qv_ab F S a1 a2 x3 x7 = X S) → qv_Act F f0 B (B + 1) (some gk) g (fun S => gL_act F S a1 a2) v g' :=
    fun hB h e => qv_ActB hB hB6 (qv_Actc (fun S hR => (hact S hR).trans (e S hR)) h)
  have n50 : ∀ (p : Prop) [Decidable p] (u w : Int32), ¬ u = 0 → ¬ w = 0 → ¬ (if p then u else w) = 0 := fun p _ u w hu hw => by
    by_cases h : p
    · rw [if_pos h]; exact hu
    · rw [if_neg h]; exact hw
  by_cases h0 : (a1 &&& (15 : Int32)) = 0
  · obtain ⟨v, g', h⟩ := qv_addEnd (F := F) (f0 := f0) (k := some gk) hWv (qv_lw a2 (if ((a2 >>> ((20 : Int32) &&& 31)) &&& (1 : Int32)) = 0 then 50 else 1441))
    refine ⟨v, g', done hB1 h (fun S hR => ?_), fun q => by rw [h0] at q; exact absurd q (by decide), fun q => by rw [h0] at q; exact absurd q (by decide)⟩
    unfold qv_ab
    rw [if_pos h0, qv_bif, qv_low (n50 _ _ _ (by decide) qv_n1441)]
    exact qv_eta _
  by_cases h1 : (a1 &&& (15 : Int32)) = 1
  · obtain ⟨v, g', h⟩ := qv_addEnd (F := F) (f0 := f0) (k := some gk) hWv (qv_lw a2 (if ((a2 >>> ((20 : Int32) &&& 31)) &&& (1 : Int32)) = 0 then 50 else 1441))
    refine ⟨v, g', done hB1 h (fun S hR => ?_), fun q => by rw [h1] at q; exact absurd q (by decide), fun q => by rw [h1] at q; exact absurd q (by decide)⟩
    unfold qv_ab
    rw [if_neg h0, if_pos h1, qv_bif, qv_low (n50 _ _ _ (by decide) qv_n1441)]
    exact qv_eta _
  by_cases h2 : (a1 &&& (15 : Int32)) = 2
  · obtain ⟨v, g', h⟩ := qv_set (F := F) (f0 := f0) (k := some gk) hWv hK hF (qv_lw a2 5) (qv_lw (a2 >>> ((3 : Int32) &&& 31)) (if qv_lw a2 5 = 0 then 22 else if qv_lw a2 5 = 1 then 9 else if qv_lw a2 5 = 2 then 122 else 200))
    refine ⟨v, g', done hB1 h (fun S hR => ?_), fun q => by rw [h2] at q; exact absurd q (by decide), fun q => by rw [h2] at q; exact absurd q (by decide)⟩
    unfold qv_ab
    rw [if_neg h0, if_neg h1, if_pos h2, qv_low (by decide)]
    have e3 : ∀ c : Int32, (if c = 0 then (some (22 : Int32)) else (if c = (1 : Int32) then (some (9 : Int32)) else (if c = (2 : Int32) then (some (122 : Int32)) else (some (200 : Int32))))) = some (if c = 0 then 22 else if c = 1 then 9 else if c = 2 then 122 else 200) := by
      intro c
      split
      · rfl
      · split
        · rfl
        · split <;> rfl
    have e4 : ∀ c : Int32, ¬ (if c = 0 then (22 : Int32) else if c = 1 then 9 else if c = 2 then 122 else 200) = 0 := by
      intro c
      split
      · decide
      · split
        · decide
        · split <;> decide
    simp only [Option.bind_some]
    rw [e3]
    simp only [Option.bind_some]
    rw [qv_low (e4 _)]
    exact qv_eta _
  by_cases h3 : (a1 &&& (15 : Int32)) = 3
  · obtain ⟨v, g', h⟩ := qv_merge (F := F) (f0 := f0) (k := some gk) hWv hF ((a1 >>> ((12 : Int32) &&& 31)) &&& (1 : Int32)) x3 (qv_lw a2 11)
    refine ⟨v, g', done hB1 h (fun S hR => ?_), fun q => by rw [h3] at q; exact absurd q (by decide), fun q => by rw [h3] at q; exact absurd q (by decide)⟩
    unfold qv_ab
    rw [if_neg h0, if_neg h1, if_neg h2, if_pos h3, qv_low (by decide)]
    exact qv_eta _
  by_cases h4 : (a1 &&& (15 : Int32)) = 4
  · obtain ⟨v, g', h⟩ := qv_merge (F := F) (f0 := f0) (k := some gk) hWv hF ((a1 >>> ((12 : Int32) &&& 31)) &&& (1 : Int32)) x3 (qv_lw a2 11)
    refine ⟨v, g', done hB1 h (fun S hR => ?_), fun q => by rw [h4] at q; exact absurd q (by decide), fun q => by rw [h4] at q; exact absurd q (by decide)⟩
    unfold qv_ab
    rw [if_neg h0, if_neg h1, if_neg h2, if_neg h3, if_pos h4, qv_low (by decide)]
    exact qv_eta _
  by_cases h5' : (a1 &&& (15 : Int32)) = 5
  · obtain ⟨v, g', h⟩ := qv_part (F := F) (f0 := f0) (k := some gk) hWv hF ((a1 >>> ((12 : Int32) &&& 31)) &&& (1 : Int32)) x3
    refine ⟨v, g', done hB1 h (fun S hR => ?_), fun q => by rw [h5'] at q; exact absurd q (by decide), fun q => by rw [h5'] at q; exact absurd q (by decide)⟩
    unfold qv_ab
    rw [if_neg h0, if_neg h1, if_neg h2, if_neg h3, if_neg h4, if_pos h5']
    exact qv_eta _
  by_cases h6 : (a1 &&& (15 : Int32)) = 6
  · obtain ⟨v, g', h, _, hs⟩ := qv_passDay (F := F) (f0 := f0) (k := some gk) hWv hF
    refine ⟨v, g', done hB1 h (fun S hR => ?_), fun _ => hs, fun q => by rw [h6] at q; exact absurd q (by decide)⟩
    unfold qv_ab
    rw [if_neg h0, if_neg h1, if_neg h2, if_neg h3, if_neg h4, if_neg h5', if_pos h6]
    exact qv_eta _
  by_cases h7 : (a1 &&& (15 : Int32)) = 7
  · obtain ⟨v, g', h, _, hs⟩ := qv_passDay (F := F) (f0 := f0) (k := some gk) hWv hF
    refine ⟨v, g', done hB1 h (fun S hR => ?_), fun _ => hs, fun q => by rw [h7] at q; exact absurd q (by decide)⟩
    unfold qv_ab
    rw [if_neg h0, if_neg h1, if_neg h2, if_neg h3, if_neg h4, if_neg h5', if_neg h6, if_pos h7]
    exact qv_eta _
  by_cases h8 : (a1 &&& (15 : Int32)) = 8
  · by_cases hw : (a2 &&& (1 : Int32)) = 0
    · obtain ⟨v, g', h⟩ := qv_takeBack (F := F) (f0 := f0) (kk := some gk) hWv hF x7
      refine ⟨v, g', done hB1 h (fun S hR => ?_), fun q => by rw [h8] at q; exact absurd q (by decide), fun _ q => by rw [hw] at q; exact absurd q (by decide)⟩
      unfold qv_ab
      rw [if_neg h0, if_neg h1, if_neg h2, if_neg h3, if_neg h4, if_neg h5', if_neg h6, if_neg h7, if_pos h8, if_pos hw]
      exact qv_eta _
    · refine ⟨_, gk, done hB1 (qv_restore1 (F := F) (f0 := f0) hk hF) (fun S hR => ?_), fun q => by rw [h8] at q; exact absurd q (by decide), fun _ _ => rfl⟩
      unfold qv_ab
      rw [if_neg h0, if_neg h1, if_neg h2, if_neg h3, if_neg h4, if_neg h5', if_neg h6, if_neg h7, if_pos h8, if_neg hw]
      exact qv_eta _
  by_cases h9 : (a1 &&& (15 : Int32)) = 9
  · obtain ⟨v, g', h⟩ := qv_stay (F := F) (f0 := f0) (kk := some gk) hWv hF x7 (qv_lw a2 (g 4 + 1))
    refine ⟨v, g', done hB1 h (fun S hR => ?_), fun q => by rw [h9] at q; exact absurd q (by decide), fun q => absurd q h8⟩
    unfold qv_ab
    rw [if_neg h0, if_neg h1, if_neg h2, if_neg h3, if_neg h4, if_neg h5', if_neg h6, if_neg h7, if_neg h8, if_pos h9, e0 S hR]
    simp only [Option.bind_some]
    rw [qv_low n4]
    exact qv_eta _
  by_cases h10' : (a1 &&& (15 : Int32)) = 10
  · obtain ⟨v, g', h⟩ := qv_stay (F := F) (f0 := f0) (kk := some gk) hWv hF x7 (qv_lw a2 (g 4 + 1))
    refine ⟨v, g', done hB1 h (fun S hR => ?_), fun q => by rw [h10'] at q; exact absurd q (by decide), fun q => absurd q h8⟩
    unfold qv_ab
    rw [if_neg h0, if_neg h1, if_neg h2, if_neg h3, if_neg h4, if_neg h5', if_neg h6, if_neg h7, if_neg h8, if_neg h9, if_pos h10', e0 S hR]
    simp only [Option.bind_some]
    rw [qv_low n4]
    exact qv_eta _
  · obtain ⟨v, g', h⟩ := qv_book (F := F) (f0 := f0) (kk := some gk) hWv hF hB6 x3 (qv_lw a2 (if ((a2 >>> ((20 : Int32) &&& 31)) &&& (7 : Int32)) = 0 then 3 else 2)) (qv_lw (a2 >>> ((2 : Int32) &&& 31)) (if ((a2 >>> ((20 : Int32) &&& 31)) &&& (7 : Int32)) = (1 : Int32) then 11 else 9) + (if ((a2 >>> ((20 : Int32) &&& 31)) &&& (7 : Int32)) = (1 : Int32) then 0 else 1))
    refine ⟨v, g', done (Nat.le_refl _) h (fun S hR => ?_), fun q => by rcases q with q | q <;> contradiction, fun q => absurd q h8⟩
    unfold qv_ab
    rw [if_neg h0, if_neg h1, if_neg h2, if_neg h3, if_neg h4, if_neg h5', if_neg h6, if_neg h7, if_neg h8, if_neg h9, if_neg h10', qv_bif, qv_low (n50 _ _ _ (by decide) (by decide))]
    simp only [Option.bind_some]
    rw [qv_bif, qv_low (n50 _ _ _ (by decide) (by decide))]
    simp only [Option.bind_some]
    rw [qv_bif]
    exact qv_eta _
end QVG
