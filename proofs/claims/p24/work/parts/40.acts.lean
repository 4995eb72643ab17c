/-! acts: undo, keep, restore, a day, a shift end -/
section QYT
variable {F B B' m : Nat} {f0 f f' : qz_F} {g : Nat → Int32} {G : Nat → Nat → Int32} {S S' : qz_S}
theorem qy_lenR {w : Nat} (hR : qy_Rel f w g) : (qy_Lc f w).length = qy_n g := by
  rw [hR.2.2.2.2.2.2.1.length_eq]
  simp [qy_Lm]
theorem qy_take {k : Nat} (hF : 30 < F) (h : qy_HC S.1 S.2 (k + 1) G) : ∃ S', gH_takeLatestInto F S = some S' ∧ S'.2 = S.2 ∧ S'.1 (2, 0, 0) 1 = nI k ∧ (∀ n j, ¬ (n.2.1 = 0 ∧ qy_kd n) → n ≠ (2, 0, 0) → S'.1 n j = S.1 n j) ∧ qy_Rel S'.1 0 (G k) := by
  obtain ⟨h1, h2, h3, h4⟩ := h
  have hb := h3.1 k (by omega)
  obtain ⟨S1, a1, a2, a3, a4⟩ := qy_copy (F := F) (S := S) (w := 0) (w2 := S.2 k) hF (by omega) (by omega) (by omega) (qy_fl (h4 k (by omega)))
  have e1 : nI (k + 1) - (1 : Int32) = nI k := qy_sub (a := k + 1) (b := 1) (by omega)
  have e2 : ¬ (4 : Int32) ≤ nI k := fun q => by have := (qz_le_nI (a := 4) (b := k) (by decide) (by omega)).mp q; omega
  unfold gH_takeLatestInto
  rw [h1, e1, if_neg (qy_nn (by omega)), if_neg e2, if_pos (qz_xi_nI (by omega) (by decide)), qz_cl_nI (by omega), a1]
  refine ⟨_, rfl, a2, wr_eq, ?_, ?_⟩
  · intro n j n1 n2
    rw [wr_ne (fun q => n2 q.1)]
    exact a4 n j n1
  · exact qy_RelF qy_cwW (qy_RelF a3 (h4 k (by omega)))
end QYT
/-! acts: a shift end, a setting, merge, part -/
section QYU
variable {F B B' m : Nat} {f0 f f' : qz_F} {g g' : Nat → Int32} {S S' : qz_S}
theorem qy_RelL (h : qy_Rel f 0 g) (h0 : ∀ i j, f' (0, 0, i) j = f (0, 0, i) j) (hg : ∀ c, 43 ≤ c → c < 283 → g' c = g c) (h6 : g' 6 = g 6) (hn : qy_n g ≤ 30)
    (a1 : f' (4, 0, 0) 0 = g' 4) (a2 : f' (4, 0, 0) 5 = g' 5) (a3 : ∀ c, c < 6 → f' (4, 0, 0) (6 + c) = g' (7 + c)) (a4 : ∀ i, i < 10 → f' (10, 0, 0) i = g' (13 + i)) (a5 : ∀ i, i < 20 → f' (11, 0, 0) i = qy_pc (g' (23 + i))) (a6 : ∀ i, i < 4 → f' (12, 0, 0) i = g' i) : qy_Rel f' 0 g' := by
  have hrc : qy_rc f' 0 = qy_rc f 0 := by
    funext i c
    unfold qy_rc
    rw [h0]
  have hLc : qy_Lc f' 0 = qy_Lc f 0 := by
    unfold qy_Lc
    rw [hrc]
  have hnn : qy_n g' = qy_n g := by
    unfold qy_n
    rw [h6]
  have hLm : qy_Lm g' = qy_Lm g := by
    unfold qy_Lm
    rw [hnn]
    refine List.map_congr_left (fun k hk => ?_)
    have hk := List.mem_range.mp hk
    funext c
    unfold qy_rm
    by_cases hc : c < 8
    · rw [if_pos hc, if_pos hc, hg _ (by omega) (by omega)]
    · rw [if_neg hc, if_neg hc]
  refine ⟨a1, a2, a3, a4, a5, a6, ?_, ?_, ?_⟩
  · rw [hLc, hLm]
    exact h.2.2.2.2.2.2.1
  · intro i hi
    rw [h0]
    exact h.2.2.2.2.2.2.2.1 i hi
  · intro i hi k c hc
    rw [h0] at k ⊢
    exact h.2.2.2.2.2.2.2.2 i hi k c hc
theorem qy_WfL (h : qy_Wf g B) (hg : ∀ c, 43 ≤ c → c < 283 → g' c = g c) (h5 : g' 5 = g 5) (h6 : g' 6 = g 6) (a : g' 4 = nI (qy_ec g')) (a10 : qy_ec g' ≤ 10) (aec : qy_ec g ≤ qy_ec g') (a1 : ∃ s, 1 ≤ s ∧ s ≤ 30 ∧ g' 1 = nI s) (am : ∀ i, i < 10 → ∃ m, m < 1440 ∧ g' (13 + i) = nI m)
    (ap : ∀ l e, l < 2 → e < 10 → g' (23 + 10 * l + e) = 0 ∨ ∃ o, o < qy_ec g' ∧ e < qy_ec g' ∧ o ≠ e ∧ g' (23 + 10 * l + e) = nI (o + 1) ∧ g' (23 + 10 * l + o) = nI (e + 1)) : qy_Wf g' B := by
  obtain ⟨h1, h2, h3, h4, h5', h6', h7, h8, h9, h10, h11⟩ := h
  have hnn : qy_n g' = qy_n g := by
    unfold qy_n
    rw [h6]
  have hrm : ∀ k, k < qy_n g → qy_rm g' k = qy_rm g k := by
    intro k hk
    funext c
    unfold qy_rm
    by_cases hc : c < 8
    · rw [if_pos hc, if_pos hc, hg _ (by omega) (by omega)]
    · rw [if_neg hc, if_neg hc]
  refine ⟨a, a10, ?_, ?_, ?_, a1, am, ap, ?_, ?_, h11⟩
  · rw [h6, hnn]; exact h3
  · rw [hnn]; exact h4
  · rw [h5]; exact h5'
  · intro k hk
    rw [hnn] at hk
    rw [hrm k hk]
    obtain ⟨⟨N, hN, e1, e2⟩, ⟨e, he, e3⟩, b⟩ := h9 k hk
    exact ⟨⟨N, hN, e1, by rw [h5]; exact e2⟩, ⟨e, by omega, e3⟩, b⟩
  · intro i k hik hk
    rw [hnn] at hk
    rw [hrm i (by omega), hrm k hk]
    exact h10 i k hik hk
theorem qy_fw4 {S1 : qz_S} {i j : Nat} {x : Int32} : qy_fw 0 S1.1 (qz_wr S1 (0, 0, i) j x).1 := fun n k hn => wr_ne (fun q => hn (by rw [q.1]; exact ⟨rfl, Or.inl rfl⟩))
theorem qy_fwW {S1 : qz_S} {k i j : Nat} {x : Int32} (hk : k = 0 ∨ k = 4 ∨ k = 10 ∨ k = 11 ∨ k = 12) : qy_fw 0 S1.1 (qz_wr S1 (k, 0, i) j x).1 := fun n _ hn => wr_ne (fun q => hn (by rw [q.1]; exact ⟨rfl, hk⟩))
theorem qy_fwT {f1 f2 f3 : qz_F} {w : Nat} (h : qy_fw w f1 f2) (h' : qy_fw w f2 f3) : qy_fw w f1 f3 := fun n j hn => (h' n j hn).trans (h n j hn)
theorem qy_fwl {f1 f2 : qz_F} (h : ∀ n j, ¬ (n.1 = 0 ∧ n.2.1 = 0 ∧ j = 4) → f2 n j = f1 n j) : qy_fw 0 f1 f2 := fun n j hn => h n j (fun q => hn ⟨q.2.1, Or.inl q.1⟩)
end QYU
/-! acts: a setting, merge, part -/
def qy_K (f0 : qz_F) : Prop := f0 (31, 0, 0) = qz_g31 ∧ f0 (32, 0, 0) = qz_g32
def qy_vs (k : Nat) (v : Int32) : Prop := qz_g31 k ≤ v ∧ v ≤ qz_g32 k
/-- two buses can be merged -/
def qy_cm (g : Nat → Int32) (l e o : Nat) : Prop :=
  qy_pa g l e = -5 ∧ qy_pa g l o = -5 ∧ g (13 + e) - g (13 + o) ≤ g 2 ∧ -(g (13 + e) - g (13 + o)) ≤ g 2 ∧ nI ((qy_Lm g).countP (fun r => !qy_wt r && qy_on (nI l) (nI e) (nI o) r)) ≤ g 1 ∧ (qy_Lm g).countP (fun r => !qy_wt r && qy_on (nI l) (nI e) (nI o) r && !qy_it g (qy_st g e (nI o)) r) = 0
section QYV
variable {F B B' m : Nat} {f0 f f' : qz_F} {g g' : Nat → Int32} {S S' : qz_S}
theorem qy_canM (hR : qy_Rel f 0 g) (hW : qy_Wf g B) (hF : 30 < F) {l e o : Nat} (hl : l < 2) (he : e < 10) (ho : o < 10) : (qy_cm g l e o → gW_canMerge F f (nI l) (nI e) (nI o) = some 1) ∧ (¬ qy_cm g l e o → gW_canMerge F f (nI l) (nI e) (nI o) = some 0) := by
  rw [qy_canMerge hR hW hF hl he ho]
  have hp := hR.2.2.2.2.2.2.1
  have h1 : (qy_Lc f 0).countP (qy_tk (nI l) (nI e) (nI o) 1 (-1)) = (qy_Lm g).countP (fun r => !qy_wt r && qy_on (nI l) (nI e) (nI o) r) := by
    rw [← hp.countP_eq]
    refine List.countP_congr (fun r hr => ?_)
    obtain ⟨⟨N, hN, e0, _⟩, _, _, ⟨s, s1, s9, e3⟩, _⟩ := qy_WrC hR hW hr
    have hB := hW.2.2.2.2.2.2.2.2.2.2
    have c1 : (1 : Int32) ≤ nI s := (qz_le_nI (a := 1) (b := s) (by decide) (by omega)).mpr s1
    have c2 : ¬ nI N = -1 := qy_n1 (by omega)
    unfold qy_tk
    rw [e3, e0]
    simp [c1, c2]
  have h2 : (qy_Lc f 0).countP (fun r => !qy_wt r && qy_on (nI l) (nI e) (nI o) r && !qy_it g (qy_st g e (nI o)) r) = (qy_Lm g).countP (fun r => !qy_wt r && qy_on (nI l) (nI e) (nI o) r && !qy_it g (qy_st g e (nI o)) r) := hp.countP_eq _
  unfold qy_cm
  rw [h1, h2]
  exact ⟨fun h => by rw [if_pos h], fun h => by rw [if_neg h]⟩
theorem qy_tie (F : Nat) (S : qz_S) {l e : Nat} (hl : l < 2) (he : e < 10) (x : Int32) : gW_tie F S (nI l) (nI e) x = some (qz_wr S (11, 0, 0) (10 * l + e) x) := by
  unfold gW_tie
  have h1 : ¬ (20 : Int32) ≤ nI (10 * l + e) := fun q => by have := (qz_le_nI (a := 20) (b := 10 * l + e) (by decide) (by omega)).mp q; omega
  rw [qy_bix hl he, if_neg (qy_nn (by omega)), if_neg h1, if_pos (qz_xi_nI (by omega) (by decide)), qz_cl_nI (by omega)]
  rfl
theorem qy_pc1 {o : Nat} (ho : o < 10) : qy_pc (nI (o + 1)) = nI o := by
  unfold qy_pc
  have : ¬ nI (o + 1) = 0 := by rw [show (0 : Int32) = nI 0 from rfl, qy_eq (by omega) (by omega)]; omega
  rw [if_neg this]
  exact qy_sub (a := o + 1) (b := 1) (by omega)
theorem qy_pcn5 {v : Int32} (h : v = 0 ∨ ∃ o, o < 10 ∧ v = nI (o + 1)) (h5 : qy_pc v = -5) : v = 0 := by
  rcases h with h | ⟨o, ho, h⟩
  · exact h
  · rw [h, qy_pc1 ho] at h5
    exact absurd h5 (qy_n5 (by omega))
theorem qy_WfT {l e o : Nat} {x y : Int32} (hW : qy_Wf g B) (hl : l < 2) (he : e < 10) (ho : o < 10)
    (hp : ∀ l' e', l' < 2 → e' < 10 → (fun c => if c = 23 + 10 * l + o then y else if c = 23 + 10 * l + e then x else g c) (23 + 10 * l' + e') = 0 ∨ ∃ o', o' < qy_ec g ∧ e' < qy_ec g ∧ o' ≠ e' ∧ (fun c => if c = 23 + 10 * l + o then y else if c = 23 + 10 * l + e then x else g c) (23 + 10 * l' + e') = nI (o' + 1) ∧ (fun c => if c = 23 + 10 * l + o then y else if c = 23 + 10 * l + e then x else g c) (23 + 10 * l' + o') = nI (e' + 1)) :
    qy_Wf (fun c => if c = 23 + 10 * l + o then y else if c = 23 + 10 * l + e then x else g c) B := by
  have hz : ∀ c, c < 23 ∨ 43 ≤ c → (fun c => if c = 23 + 10 * l + o then y else if c = 23 + 10 * l + e then x else g c) c = g c := fun c hc => by
    show (if _ then _ else _) = _
    rw [if_neg (by omega), if_neg (by omega)]
  generalize hG : (fun c => if c = 23 + 10 * l + o then y else if c = 23 + 10 * l + e then x else g c) = G at *
  have hec : qy_ec G = qy_ec g := by
    unfold qy_ec
    rw [hz 4 (by decide)]
  refine qy_WfL hW (fun c h1 _ => hz c (Or.inr h1)) (hz 5 (by decide)) (hz 6 (by decide)) ?_ ?_ ?_ ?_ ?_ ?_
  · rw [hec, hz 4 (by decide)]; exact hW.1
  · rw [hec]; exact hW.2.1
  · rw [hec]; exact Nat.le_refl _
  · rw [hz 1 (by decide)]; exact hW.2.2.2.2.2.1
  · intro i hi
    rw [hz _ (by omega)]; exact hW.2.2.2.2.2.2.1 i hi
  · rw [hec]; exact hp
end QYV
/-! acts: merge, part, a setting -/
section QYW
variable {F B B' m : Nat} {f0 f f' : qz_F} {g g' : Nat → Int32} {S S' : qz_S}
theorem qy_0pc {l e : Nat} (hW : qy_Wf g B) (hl : l < 2) (he : e < 10) : g (23 + 10 * l + e) = 0 ∨ ∃ o, o < 10 ∧ g (23 + 10 * l + e) = nI (o + 1) := by
  have h10 := hW.2.1
  rcases hW.2.2.2.2.2.2.2.1 l e hl he with h | ⟨o, ho, _, _, h, _⟩
  · exact Or.inl h
  · exact Or.inr ⟨o, by omega, h⟩
end QYW
/-! acts: a setting -/
section QYX
variable {F B B' m : Nat} {f0 f f' : qz_F} {g g' : Nat → Int32} {S S' : qz_S}
theorem qy_set4 (hR : qy_Rel f 0 g) {k : Nat} (hk : k < 4) : gW_setting F f (nI k) = some (g k) := by
  have c1 : ¬ (4 : Int32) ≤ nI k := fun q => by have := (qz_le_nI (a := 4) (b := k) (by decide) (by omega)).mp q; omega
  unfold gW_setting
  rw [if_neg (qy_nn (by omega)), if_neg c1, if_pos (qz_xi_nI hk (by decide)), qz_cl_nI (by omega), hR.2.2.2.2.2.1 k hk]
end QYX
/-! acts: a booking is found; takeBack -/
section QYY
variable {F B B' m : Nat} {f0 f f' : qz_F} {g g' : Nat → Int32} {S S' : qz_S}
theorem qy_flt {α : Type} (a b : α → (Nat → Int32)) (i : α) (hl : qy_lv (a i) = true) (hd : qy_lv (b i) = false) : ∀ L : List α, L.Nodup → i ∈ L → (∀ j, j ∈ L → j ≠ i → b j = a j) → ((L.map a).filter qy_lv).Perm (a i :: (L.map b).filter qy_lv) := by
  intro L
  induction L with
  | nil => intro _ h; cases h
  | cons x L ih =>
    intro hn hm hj
    obtain ⟨hx, hn⟩ := List.nodup_cons.mp hn
    by_cases e : x = i
    · subst e
      have : L.map b = L.map a := List.map_congr_left (fun j hjL => hj j (List.mem_cons_of_mem _ hjL) (fun q => hx (by rw [← q]; exact hjL)))
      simp only [List.map_cons, List.filter_cons, hl, hd, if_true, Bool.false_eq_true, if_false, this]
      exact List.Perm.refl _
    · have hiL : i ∈ L := by
        rcases List.mem_cons.mp hm with h | h
        · exact absurd h.symm e
        · exact h
      have ih' := ih hn hiL (fun j hjL => hj j (List.mem_cons_of_mem _ hjL))
      have ex := hj x List.mem_cons_self e
      simp only [List.map_cons, List.filter_cons, ex]
      cases hlx : qy_lv (a x)
      · simp only [Bool.false_eq_true, if_false]
        exact ih'
      · simp only [if_true]
        exact (ih'.cons _).trans (List.Perm.swap _ _ _)
theorem qy_Lmk {n k : Nat} (hk : k < n) (r r' : Nat → (Nat → Int32)) (h1 : ∀ j, j < k → r' j = r j) (h2 : ∀ j, k ≤ j → j < n - 1 → r' j = r (j + 1)) : ((List.range n).map r).Perm (r k :: (List.range (n - 1)).map r') := by
  obtain ⟨d, hd⟩ : ∃ d, n = k + (d + 1) := ⟨n - 1 - k, by omega⟩
  have e0 : n - 1 = k + d := by omega
  rw [e0] at h2 ⊢
  subst hd
  have e1 : (List.range (k + (d + 1))).map r = (List.range k).map r ++ (r k :: (List.range d).map (fun i => r (k + (i + 1)))) := by
    rw [List.range_add, List.map_append, List.map_map, List.range_succ_eq_map, List.map_cons, List.map_map]
    rfl
  have e2 : (List.range (k + d)).map r' = (List.range k).map r ++ (List.range d).map (fun i => r (k + (i + 1))) := by
    rw [List.range_add, List.map_append, List.map_map]
    congr 1
    · exact List.map_congr_left (fun j hj => h1 j (List.mem_range.mp hj))
    · refine List.map_congr_left (fun j hj => ?_)
      have := List.mem_range.mp hj
      exact h2 (k + j) (by omega) (by omega)
  rw [e1, e2]
  exact List.perm_middle
end QYY
/-! acts: stay -/
def qy_us (N a : Int32) (r : Nat → Int32) : Nat → Int32 := if r 0 = N then (fun c => if c = 1 then a else if c = 4 then 0 else r c) else r
section QYZ
variable {F B B' m : Nat} {f0 f f' : qz_F} {g g' : Nat → Int32} {S S' : qz_S}
end QYZ
/-! acts: book -/
def qy_nr (N e l s p : Int32) : Nat → Int32 := fun c => if c = 0 then N else if c = 1 then e else if c = 2 then l else if c = 3 then s else if c = 4 then p else 0
section QYa
variable {F B B' m : Nat} {f0 f f' : qz_F} {g g' : Nat → Int32} {S S' : qz_S}
theorem qy_ent0 (T : qz_S) (i : Nat) (a0 a1 a2 p : Int32) : ∃ S2, S2 = qz_wr (qz_wr (qz_wr (qz_wr (qz_wr (qz_wr T (0, 0, i) 0 (T.1 (4, 0, 0) 5)) (0, 0, i) 1 a0) (0, 0, i) 2 a1) (0, 0, i) 3 a2) (0, 0, i) 4 p) (4, 0, 0) 5
    ((qz_wr (qz_wr (qz_wr (qz_wr (qz_wr T (0, 0, i) 0 (T.1 (4, 0, 0) 5)) (0, 0, i) 1 a0) (0, 0, i) 2 a1) (0, 0, i) 3 a2) (0, 0, i) 4 p).1 (4, 0, 0) 5 + 1) ∧ S2.2 = T.2 ∧ S2.1 (4, 0, 0) 5 = T.1 (4, 0, 0) 5 + 1 ∧ (∀ n j, n ≠ (0, 0, i) → ¬ (n = (4, 0, 0) ∧ j = 5) → S2.1 n j = T.1 n j) ∧
      ∀ c, S2.1 (0, 0, i) c = if c = 0 then T.1 (4, 0, 0) 5 else if c = 1 then a0 else if c = 2 then a1 else if c = 3 then a2 else if c = 4 then p else T.1 (0, 0, i) c := by
  have k4 : ∀ (U : qz_S) (j : Nat) (x : Int32) (j' : Nat), (qz_wr U (0, 0, i) j x).1 (4, 0, 0) j' = U.1 (4, 0, 0) j' := fun U j x j' => wr_ne (fun q => qy_kn (by decide) q.1)
  refine ⟨_, rfl, rfl, ?_, ?_, ?_⟩
  · rw [wr_eq, k4, k4, k4, k4, k4]
  · intro n j h1 h2
    rw [wr_ne h2, wr_ne (fun q => h1 q.1), wr_ne (fun q => h1 q.1), wr_ne (fun q => h1 q.1), wr_ne (fun q => h1 q.1), wr_ne (fun q => h1 q.1)]
  · intro c
    rw [wr_ne (fun q => qy_kn (by decide) q.1)]
    by_cases c0 : c = 0
    · rw [if_pos c0, c0]; simp [qz_wr]
    · rw [if_neg c0]
      by_cases c1 : c = 1
      · rw [if_pos c1, c1]; simp [qz_wr]
      · rw [if_neg c1]
        by_cases c2 : c = 2
        · rw [if_pos c2, c2]; simp [qz_wr]
        · rw [if_neg c2]
          by_cases c3 : c = 3
          · rw [if_pos c3, c3]; simp [qz_wr]
          · rw [if_neg c3]
            by_cases c4 : c = 4
            · rw [if_pos c4, c4, wr_eq]
            · rw [if_neg c4, wr_ne (fun q => c4 q.2), wr_ne (fun q => c3 q.2), wr_ne (fun q => c2 q.2), wr_ne (fun q => c1 q.2), wr_ne (fun q => c0 q.2)]
theorem qy_ent1 (lp : Nat → qz_S → Int32 → Option (Int32 × qz_S)) (K : Int32 → qz_S → Option (Int32 × qz_S)) (a0 a1 a2 p : Int32) (hF : 30 < F) (hn : (qy_Lc S.1 0).length < 30)
    (hl : ∀ n T y, lp (n + 1) T y = if (30 : Int32) ≤ y then (K y T) else (if qz_xi y 30 = true then (if (gB_isLive T.1 ((y).toNatClampNeg)) = 0 then (qz_let (qz_wr T ((0, 0, (y).toNatClampNeg) : qz_N) 0 (T.1 ((4, 0, 0) : qz_N) 5)) fun S19 => qz_let (qz_wr S19 ((0, 0, (y).toNatClampNeg) : qz_N) 1 a0) fun S20 => qz_let (qz_wr S20 ((0, 0, (y).toNatClampNeg) : qz_N) 2 a1) fun S21 => qz_let (qz_wr S21 ((0, 0, (y).toNatClampNeg) : qz_N) 3 a2) fun S22 => qz_let (qz_wr S22 ((0, 0, (y).toNatClampNeg) : qz_N) 4 p) fun S23 => qz_let (qz_wr S23 ((4, 0, 0) : qz_N) 5 ((S23.1 ((4, 0, 0) : qz_N) 5) + (1 : Int32))) fun S24 => some ((S24.1 ((0, 0, (y).toNatClampNeg) : qz_N) 0), S24)) else (lp n T (y + 1))) else none)) :
    ∃ i S2, i < 30 ∧ qy_lv (qy_rc S.1 0 i) = false ∧ lp F S 0 = some (S.1 (4, 0, 0) 5, S2) ∧ S2.2 = S.2 ∧ S2.1 (4, 0, 0) 5 = S.1 (4, 0, 0) 5 + 1 ∧ (∀ n j, n ≠ (0, 0, i) → ¬ (n = (4, 0, 0) ∧ j = 5) → S2.1 n j = S.1 n j) ∧
      ∀ c, S2.1 (0, 0, i) c = if c = 0 then S.1 (4, 0, 0) 5 else if c = 1 then a0 else if c = 2 then a1 else if c = 3 then a2 else if c = 4 then p else S.1 (0, 0, i) c := by
  refine qy_lpE lp 30 (fun i T => T = S ∧ ∀ j, j < i → qy_lv (qy_rc S.1 0 j) = true) (fun r => ∃ i S2, i < 30 ∧ qy_lv (qy_rc S.1 0 i) = false ∧ r = some (S.1 (4, 0, 0) 5, S2) ∧ S2.2 = S.2 ∧ S2.1 (4, 0, 0) 5 = S.1 (4, 0, 0) 5 + 1 ∧ (∀ n j, n ≠ (0, 0, i) → ¬ (n = (4, 0, 0) ∧ j = 5) → S2.1 n j = S.1 n j) ∧
      ∀ c, S2.1 (0, 0, i) c = if c = 0 then S.1 (4, 0, 0) 5 else if c = 1 then a0 else if c = 2 then a1 else if c = 3 then a2 else if c = 4 then p else S.1 (0, 0, i) c) ?_ ?_ F 0 S (by omega) (by omega) ⟨rfl, fun j h => absurd h (by omega)⟩
  · rintro n i T hi ⟨rfl, q2⟩
    obtain ⟨c1, c2, c3, c4⟩ := qy_c30 hi
    rw [hl, if_neg c1, if_pos c2, c3, c4]
    cases hv : qy_lv (qy_rc T.1 0 i)
    · right
      rw [if_pos (by rw [qy_lv0]; exact hv)]
      simp only [qz_let]
      obtain ⟨S2, e, e1, e2, e3, e4⟩ := qy_ent0 T i a0 a1 a2 p
      rw [← e]
      refine ⟨i, S2, hi, hv, ?_, e1, e2, e3, e4⟩
      rw [e4 0, if_pos rfl]
    · left
      rw [if_neg (by rw [qy_lv0, hv]; decide)]
      refine ⟨T, rfl, rfl, fun j hj => ?_⟩
      by_cases e : j = i
      · rw [e]; exact hv
      · exact q2 j (by omega)
  · rintro n T ⟨rfl, q2⟩
    exfalso
    have : (qy_Lc T.1 0).length = 30 := by
      unfold qy_Lc
      rw [List.filter_eq_self.mpr]
      · simp
      · intro r hr
        obtain ⟨j, hj, rfl⟩ := List.mem_map.mp hr
        exact q2 j (List.mem_range.mp hj)
    omega
end QYa
