/-! p24: what the queries tell, from g -/
def qv_ct (g : Nat → Int32) (a : Nat) : Int32 :=
  if a = 0 then g 4 else if a = 1 then g 6 else if a = 2 then g 6 - nI ((qy_Lm g).countP qy_wt) else if a = 3 then nI ((qy_Lm g).countP qy_wt)
  else if a = 4 then nI ((List.range 20).countP (fun i => !decide (qy_pc (g (23 + i)) = -5))) / 2 else if a < 11 then g (a + 2) else if a < 15 then g (a - 11) else g 5
def qv_bs (g : Nat → Int32) (l e w : Nat) : Int32 :=
  if w = 0 then qy_st g e (qy_pa g l e) else if w = 1 then qy_pa g l e
  else if w = 2 then nI ((qy_Lm g).countP (fun r => !qy_wt r && qy_on (nI l) (nI e) (qy_pa g l e) r))
  else if w = 3 then nI ((qy_Lm g).countP (fun r => qy_wt r && qy_on (nI l) (nI e) (qy_pa g l e) r))
  else if w = 4 then nI (qy_xf (qy_Lm g) (fun r => !qy_wt r && qy_on (nI l) (nI e) (qy_pa g l e) r)) else qy_cv g (qy_Lm g) l e (qy_pa g l e)
section QVF
variable {F B B' m : Nat} {f0 f f' : qz_F} {g g' : Nat → Int32} {S S' : qz_S}
theorem qv_count (hR : qy_Rel f 0 g) (hW : qy_Wf g B) (hF : 30 < F) {a : Nat} (ha : a < 16) : gX_count F f (nI a) = some (qv_ct g a) := by
  have hwc : gW_workerCount F f = some (g 6) := by rw [qy_wcnt hF, qy_lenR hR, ← hW.2.2.1]
  have hwt : gW_waitingCount F f = some (nI ((qy_Lm g).countP qy_wt)) := by rw [qy_wait hF, hR.2.2.2.2.2.2.1.countP_eq]
  have hc : a = 0 ∨ a = 1 ∨ a = 2 ∨ a = 3 ∨ a = 4 ∨ a = 5 ∨ a = 6 ∨ a = 7 ∨ a = 8 ∨ a = 9 ∨ a = 10 ∨ a = 11 ∨ a = 12 ∨ a = 13 ∨ a = 14 ∨ a = 15 := by omega
  unfold gX_count
  rcases hc with rfl | rfl | rfl | rfl | rfl | rfl | rfl | rfl | rfl | rfl | rfl | rfl | rfl | rfl | rfl | rfl
  · rw [if_pos (by decide)]
    exact congrArg some hR.1
  · rw [if_neg (by decide), if_pos (by decide), hwc]; rfl
  · rw [if_neg (by decide), if_neg (by decide), if_pos (by decide), hwc]
    simp only [Option.bind_some]
    rw [hwt]; rfl
  · rw [if_neg (by decide), if_neg (by decide), if_neg (by decide), if_pos (by decide), hwt]; rfl
  · rw [if_neg (by decide), if_neg (by decide), if_neg (by decide), if_neg (by decide), if_pos (by decide), qy_pairs hR hF]; rfl
  · rw [if_neg (by decide), if_neg (by decide), if_neg (by decide), if_neg (by decide), if_neg (by decide), if_pos (by decide)]
    exact congrArg some (hR.2.2.1 0 (by decide))
  · rw [if_neg (by decide), if_neg (by decide), if_neg (by decide), if_neg (by decide), if_neg (by decide), if_neg (by decide), if_pos (by decide)]
    exact congrArg some (hR.2.2.1 1 (by decide))
  · rw [if_neg (by decide), if_neg (by decide), if_neg (by decide), if_neg (by decide), if_neg (by decide), if_neg (by decide), if_neg (by decide), if_pos (by decide)]
    exact congrArg some (hR.2.2.1 2 (by decide))
  · rw [if_neg (by decide), if_neg (by decide), if_neg (by decide), if_neg (by decide), if_neg (by decide), if_neg (by decide), if_neg (by decide), if_neg (by decide), if_pos (by decide)]
    exact congrArg some (hR.2.2.1 3 (by decide))
  · rw [if_neg (by decide), if_neg (by decide), if_neg (by decide), if_neg (by decide), if_neg (by decide), if_neg (by decide), if_neg (by decide), if_neg (by decide), if_neg (by decide), if_pos (by decide)]
    exact congrArg some (hR.2.2.1 4 (by decide))
  · rw [if_neg (by decide), if_neg (by decide), if_neg (by decide), if_neg (by decide), if_neg (by decide), if_neg (by decide), if_neg (by decide), if_neg (by decide), if_neg (by decide), if_neg (by decide), if_pos (by decide)]
    exact congrArg some (hR.2.2.1 5 (by decide))
  · rw [if_neg (by decide), if_neg (by decide), if_neg (by decide), if_neg (by decide), if_neg (by decide), if_neg (by decide), if_neg (by decide), if_neg (by decide), if_neg (by decide), if_neg (by decide), if_neg (by decide), if_pos (by decide), qy_set0 hR]; rfl
  · rw [if_neg (by decide), if_neg (by decide), if_neg (by decide), if_neg (by decide), if_neg (by decide), if_neg (by decide), if_neg (by decide), if_neg (by decide), if_neg (by decide), if_neg (by decide), if_neg (by decide), if_neg (by decide), if_pos (by decide), qy_set1 hR]; rfl
  · rw [if_neg (by decide), if_neg (by decide), if_neg (by decide), if_neg (by decide), if_neg (by decide), if_neg (by decide), if_neg (by decide), if_neg (by decide), if_neg (by decide), if_neg (by decide), if_neg (by decide), if_neg (by decide), if_neg (by decide), if_pos (by decide), qy_set2 hR]; rfl
  · rw [if_neg (by decide), if_neg (by decide), if_neg (by decide), if_neg (by decide), if_neg (by decide), if_neg (by decide), if_neg (by decide), if_neg (by decide), if_neg (by decide), if_neg (by decide), if_neg (by decide), if_neg (by decide), if_neg (by decide), if_neg (by decide), if_pos (by decide), qy_set3 hR]; rfl
  · rw [if_neg (by decide), if_neg (by decide), if_neg (by decide), if_neg (by decide), if_neg (by decide), if_neg (by decide), if_neg (by decide), if_neg (by decide), if_neg (by decide), if_neg (by decide), if_neg (by decide), if_neg (by decide), if_neg (by decide), if_neg (by decide), if_neg (by decide), if_pos (by decide)]
    exact congrArg some hR.2.1
theorem qv_count16 (f : qz_F) : gX_count F f 16 = some (f (2, 0, 0) 1) := by
  unfold gX_count
  rw [if_neg (by decide), if_neg (by decide), if_neg (by decide), if_neg (by decide), if_neg (by decide), if_neg (by decide), if_neg (by decide), if_neg (by decide), if_neg (by decide), if_neg (by decide), if_neg (by decide), if_neg (by decide), if_neg (by decide), if_neg (by decide), if_neg (by decide), if_neg (by decide), if_pos rfl]
theorem qv_tk1 (hR : qy_Rel f 0 g) (hW : qy_Wf g B) (l e : Nat) (x : Int32) : (qy_Lc f 0).countP (qy_tk (nI l) (nI e) x 1 (-1)) = (qy_Lm g).countP (fun r => !qy_wt r && qy_on (nI l) (nI e) x r) := by
  rw [← hR.2.2.2.2.2.2.1.countP_eq]
  refine List.countP_congr (fun r hr => ?_)
  obtain ⟨⟨N, hN, e0, _⟩, _, _, ⟨s, s1, s9, e3⟩, _⟩ := qy_WrC hR hW hr
  have hB := hW.2.2.2.2.2.2.2.2.2.2
  have c1 : (1 : Int32) ≤ nI s := (qz_le_nI (a := 1) (b := s) (by decide) (by omega)).mpr s1
  have c2 : ¬ nI N = -1 := qy_n1 (by omega)
  unfold qy_tk
  rw [e3, e0]
  simp [c1, c2]
theorem qv_mxP {L L' : List (Nat → Int32)} {p : (Nat → Int32) → Bool} {m : Nat} (hp : L.Perm L') (h : qy_mx L p m) : m = qy_xf L' p := qy_mx1 (fun _ => hp.mem_iff) (fun _ _ => rfl) h (qy_xfx L' p)
theorem qv_ln (f : qz_F) {l : Nat} (hl : l < 2) : ¬ gX_isLine f (nI l) = 0 := by rw [qy_line]; exact fun q => q ⟨l, hl, rfl⟩
theorem qv_bus (hR : qy_Rel f 0 g) (hW : qy_Wf g B) (hF : 30 < F) {l e w : Nat} (hl : l < 2) (he : e < qy_ec g) (hw : w < 6) : gX_bus F f (nI l) (nI e) (nI w) = some (qv_bs g l e w) := by
  have h10 := hW.2.1
  have hp := hR.2.2.2.2.2.2.1
  have hc : w = 0 ∨ w = 1 ∨ w = 2 ∨ w = 3 ∨ w = 4 ∨ w = 5 := by omega
  unfold gX_bus
  rw [if_neg (qv_ln f hl), if_neg (qy_hasEnd1 hR hW he), qy_partner hR hl (by omega)]
  simp only [Option.bind_some]
  rcases hc with rfl | rfl | rfl | rfl | rfl | rfl
  · rw [if_pos (by decide), qy_start hR hW (by omega)]; rfl
  · rw [if_neg (by decide), if_pos (by decide)]; rfl
  · rw [if_neg (by decide), if_neg (by decide), if_pos (by decide), qy_taken hF _ _ _ _ (-1) none (qy_none f), qv_tk1 hR hW]; rfl
  · rw [if_neg (by decide), if_neg (by decide), if_neg (by decide), if_pos (by decide), qy_waitFor hF, hp.countP_eq]; rfl
  · obtain ⟨m, z1, z2⟩ := qy_far (F := F) hR hW hF (nI l) (nI e) (qy_pa g l e)
    rw [if_neg (by decide), if_neg (by decide), if_neg (by decide), if_neg (by decide), if_pos (by decide), z2, qv_mxP hp z1]; rfl
  · rw [if_neg (by decide), if_neg (by decide), if_neg (by decide), if_neg (by decide), if_neg (by decide), if_pos (by decide), qy_costv hR hW hF (by omega), qy_cvp hp]; rfl
/-- the seats taken on a stretch -/
def qv_tn (g : Nat → Int32) (l e s : Nat) : Nat := (qy_Lm g).countP (qy_tk (nI l) (nI e) (qy_pa g l e) (nI s) (-1))
theorem qv_taken (hR : qy_Rel f 0 g) (hW : qy_Wf g B) (hF : 30 < F) {l e s : Nat} (hl : l < 2) (he : e < qy_ec g) (h1 : 1 ≤ s) (h9 : s ≤ 9) : gX_taken F f (nI l) (nI e) (nI s) = some (nI (qv_tn g l e s)) := by
  have h10 := hW.2.1
  unfold gX_taken
  rw [if_neg (qv_ln f hl), if_neg (qy_hasEnd1 hR hW he), if_neg (by rw [qy_stop]; exact fun q => q ⟨s, h1, h9, rfl⟩), qy_partner hR hl (by omega)]
  simp only [Option.bind_some]
  rw [qy_taken hF _ _ _ _ (-1) none (qy_none f), hR.2.2.2.2.2.2.1.countP_eq]
  rfl
theorem qv_why1 (hR : qy_Rel f 0 g) {l : Nat} (hl : l < 2) : gX_why F f (nI l) (g 4) 5 = some 1 := by
  unfold gX_why
  rw [if_neg (qv_ln f hl), if_neg (by rw [qy_stop]; exact fun q => q ⟨5, by decide, by decide, rfl⟩), qy_reason0 hR (fun q => absurd q.2 Int32.lt_irrefl)]
  rfl
theorem qv_why (hR : qy_Rel f 0 g) (hW : qy_Wf g B) (hF : 30 < F) {l e : Nat} (hl : l < 2) (he : e < qy_ec g) : ∃ v, gX_why F f (nI l) (nI e) 5 = some v ∧ ¬ v = 1 := by
  unfold gX_why
  rw [if_neg (qv_ln f hl), if_neg (by rw [qy_stop]; exact fun q => q ⟨5, by decide, by decide, rfl⟩), qy_reason hR hW hF hl he 5 (-1) none (qy_none f)]
  refine ⟨_, rfl, ?_⟩
  unfold qy_rs
  split
  · split <;> decide
  · decide
theorem qv_workerN (hR : qy_Rel f 0 g) (hW : qy_Wf g B) (hF : 30 < F) {a : Int32} (h : ∀ k, k < qy_n g → ¬ qy_rm g k 0 = a) (a1 : Int32) : gX_worker F f a a1 = some (-1) := by
  rcases qv_find (F := F) hW hF a with x | ⟨k, hk, hk0, _⟩
  · unfold gX_worker
    rw [x f hR]
    rfl
  · exact absurd hk0 (h k hk)
/-- what a worker's booking tells, but for the reason -/
def qv_wv (g r : Nat → Int32) (a : Int32) : Int32 :=
  if a = 0 then r 1 else if a = 1 then r 2 else if a = 2 then r 3 else if a = 3 then r 4
  else if a = 4 then qy_bh g (r 2).toNatClampNeg (r 1).toNatClampNeg (r 3) else if a = 6 then r 5 else if a = 7 then r 6 else if a = 8 then r 7 else -2
theorem qv_workerY (hR : qy_Rel f 0 g) (hW : qy_Wf g B) (hF : 30 < F) {k : Nat} (hk : k < qy_n g) {a1 : Int32} (h5 : ¬ a1 = 5) : gX_worker F f (qy_rm g k 0) a1 = some (qv_wv g (qy_rm g k) a1) := by
  have h10 := hW.2.1
  rcases qv_find (F := F) hW hF (qy_rm g k 0) with x | ⟨k', hk', hk0, x⟩
  · exfalso
    have hm : qy_rm g k ∈ qy_Lc f 0 := hR.2.2.2.2.2.2.1.mem_iff.mpr (qy_mLm.mpr ⟨k, hk, rfl⟩)
    obtain ⟨o, a1, a2⟩ := qy_bookingOf (F := F) (f := f) hF (qy_rm g k 0)
    rw [x f hR] at a1
    cases a1
    rcases a2 with ⟨_, a2⟩ | ⟨i, _, e, _⟩
    · exact a2 _ hm rfl
    · cases e
  · have ek : qy_rm g k' = qy_rm g k := qy_U hW _ _ (qy_mLm.mpr ⟨k', hk', rfl⟩) (qy_mLm.mpr ⟨k, hk, rfl⟩) hk0
    obtain ⟨i, hi, x, hl, h0, hrr⟩ := x f hR
    rw [ek] at hrr
    have hcl : ∀ c, c < 8 → f (0, 0, i) c = qy_rm g k c := fun c hc => by
      rw [← hrr]
      exact (if_pos hc).symm
    obtain ⟨_, ⟨e, he, w1⟩, ⟨l, hl2, w2⟩, ⟨s, s1, s9, w3⟩, w4⟩ := hW.2.2.2.2.2.2.2.2.1 k hk
    unfold gX_worker qv_wv
    rw [x]
    simp only [Option.bind_some, Option.elim_some]
    by_cases h0' : a1 = 0
    · rw [if_pos h0', if_pos h0', hcl 1 (by decide)]
    rw [if_neg h0', if_neg h0']
    by_cases h1 : a1 = 1
    · rw [if_pos h1, if_pos h1, hcl 2 (by decide)]
    rw [if_neg h1, if_neg h1]
    by_cases h2 : a1 = 2
    · rw [if_pos h2, if_pos h2, hcl 3 (by decide)]
    rw [if_neg h2, if_neg h2]
    by_cases h3 : a1 = 3
    · rw [if_pos h3, if_pos h3, hcl 4 (by decide)]
      rcases w4 with q | q
      · rw [if_pos q, q]
      · rw [if_neg (by rw [q]; decide), q]
    rw [if_neg h3, if_neg h3]
    by_cases h4 : a1 = 4
    · rw [if_pos h4, if_pos h4]
      unfold gW_startOfBusOf
      rw [hcl 1 (by decide), hcl 2 (by decide), hcl 3 (by decide), w1, w2, w3, qz_cl_nI (show l < 2 ^ 31 by omega), qz_cl_nI (show e < 2 ^ 31 by omega), qy_partner hR hl2 (by omega)]
      simp only [Option.bind_some]
      rw [qy_start hR hW (by omega)]
      simp only [Option.bind_some]
      rw [qy_behindS hR (by omega)]
      rfl
    rw [if_neg h4, if_neg h4, if_neg h5]
    by_cases h6 : a1 = 6
    · rw [if_pos h6, if_pos h6, hcl 5 (by decide)]
    rw [if_neg h6, if_neg h6]
    by_cases h7 : a1 = 7
    · rw [if_pos h7, if_pos h7, hcl 6 (by decide)]
    rw [if_neg h7, if_neg h7]
    by_cases h8 : a1 = 8
    · rw [if_pos h8, if_pos h8, hcl 7 (by decide)]
    rw [if_neg h8, if_neg h8]
theorem qv_worker (hW : qy_Wf g B) (hF : 30 < F) (a a1 : Int32) : ∃ v, ¬ a1 = 5 → ∀ f : qz_F, qy_Rel f 0 g → gX_worker F f a a1 = some v := by
  by_cases h : ∃ k, k < qy_n g ∧ qy_rm g k 0 = a
  · obtain ⟨k, hk, rfl⟩ := h
    exact ⟨_, fun h5 f hR => qv_workerY hR hW hF hk h5⟩
  · exact ⟨-1, fun _ f hR => qv_workerN hR hW hF (fun k hk q => h ⟨k, hk, q⟩) a1⟩
end QVF
