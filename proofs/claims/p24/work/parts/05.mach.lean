/-! the interpreter's states on the machine's heap -/
def qz_ad (z : Nat) (tA : Nat → Nat) (n : qz_N) : Nat := if n.1 < 30 then z + qz_ix n else tA n.1
def qz_tv (z : Nat) (tA : Nat → Nat) (v : qz_V) : Value := match v with
  | .inl x => .int x
  | .inr (.inl r) => va_rf (r.map (qz_ad z tA))
  | .inr (.inr x) => .long x
theorem qz_tvc (z : Nat) (tA : Nat → Nat) {v : qz_V} (h : qz_nl v = true) : (qz_tv z tA v).category = 1 := by
  rcases v with x | (_ | n) | x
  · rfl
  · rfl
  · rfl
  · cases h
theorem qz_tvw (z : Nat) (tA : Nat → Nat) (v : qz_V) : (qz_tv z tA v).category = qz_ct v := by
  rcases v with x | (_ | n) | x <;> rfl
theorem qz_tvs (z : Nat) (tA : Nat → Nat) (l : List qz_V) : ((l.map (qz_tv z tA)).map fun v => v.category).sum = qz_wl l := by
  unfold qz_wl
  rw [List.map_map]
  congr 1
  exact List.map_congr_left (fun v _ => qz_tvw z tA v)
theorem qz_ad_dyn {z : Nat} {tA : Nat → Nat} {n : qz_N} (h : n.1 < 30) : qz_ad z tA n = z + qz_ix n := if_pos h
/-- what a name's cell holds -/
def qz_ce (z : Nat) (tA : Nat → Nat) (cy : Nat → ClassId) (M : qz_M) (n : qz_N) : va_E :=
  if n.1 < 6 then .inr (n.1, (List.range (qz_nf n.1)).map (fun j => if qz_rf n.1 j = true then va_rf ((M.2.2 n j).map (qz_ad z tA)) else .int (M.2.1 n j)))
  else if qz_at n.1 < 4 then .inl (cy (qz_at n.1), qz_al n.1, .inl (M.2.1 n)) else .inl (cy (qz_at n.1), qz_al n.1, .inr (.inr (.inr (.inr (fun j => (M.2.2 n j).map (qz_ad z tA))))))
def qz_A (z : Nat) : Nat → Prop := fun q => z ≤ q
def qz_P (z : Nat) (tA : Nat → Nat) (D : va_G) (cy : Nat → ClassId) (M : qz_M) (H : Heap) : Prop := H.size = z + M.1 ∧ ∀ n : qz_N, qz_vl n = true → qz_ix n < M.1 → va_at D vwCl (z + qz_ix n, qz_ce z tA cy M n) H
def qz_ts (cy : Nat → ClassId) : List (ClassId × FieldType) := [(cy 1, .int), (cy 2, .char), (cy 4, .object "ShiftBuses$Booking"), (cy 5, .object "ShiftBuses$Wish"), (cy 6, .object "ShiftBuses$Works")]
def qz_St (z : Nat) (tA : Nat → Nat) (f : qz_N → Nat → Int32) (s : State) : Prop := ∀ k : Nat, 30 ≤ k → k ≤ 33 → va_T .int (tA k) (qz_ln f (k, 0, 0)) (fun j => .int (f (k, 0, 0) j)) (qz_A z) s s.heap
def qz_Kx (z : Nat) (tA : Nat → Nat) (D : va_G) (cy : Nat → ClassId) (s : State) : Prop := va_K D vwCl (qz_ts cy) s ∧ (∀ k : Nat, 30 ≤ k → k ≤ 32 → va_Z RX5 (qz_sn k) "[I" (.ref (tA k)) (qz_A z) s s.heap) ∧ (∀ e ∈ qz_ne, va_Nw (.methodLinkNest (qz_ow e.1) e.2.1 (qz_y e.2.2) "ShiftBuses") s) ∧ va_Nw (.fieldLinkNest RX4 22 RX5 "FIRST_SETTINGS" "[I" "ShiftBuses") s ∧ va_AO "ShiftBuses$Booking" s ∧ va_AO "ShiftBuses$Wish" s ∧ va_AO "ShiftBuses$Works" s
section QZM
variable {z : Nat} {tA : Nat → Nat} {D : va_G} {cy : Nat → ClassId}
theorem qz_St.same {f f' : qz_N → Nat → Int32} {s : State} (h : qz_St z tA f s) (e : ∀ n : qz_N, 30 ≤ n.1 → f' n = f n) : qz_St z tA f' s := by
  intro k h1 h2
  have e1 : f' (k, 0, 0) = f (k, 0, 0) := e (k, 0, 0) h1
  have e2 : f' (33, 1, 0) = f (33, 1, 0) := e (33, 1, 0) (by decide)
  have e3 : qz_ln f' (k, 0, 0) = qz_ln f (k, 0, 0) := by unfold qz_ln; rw [e2]
  rw [e1, e3]
  exact h k h1 h2
theorem qz_St.to {f : qz_N → Nat → Int32} {s U : State} (h : qz_St z tA f s) (hvm : s.vm.Alike U.vm) (hh : ∀ a : Nat, a < s.heap.size → ¬ qz_A z a → U.heap[a]? = s.heap[a]?) : qz_St z tA f U := fun k h1 h2 => ((h k h1 h2).moved hvm).kept hh
theorem qz_Kx.warm {s U : State} {locs : List Loc} (h : qz_Kx z tA D cy s) (hW : s.WarmedH U.vm) (hS : va_S (qz_A z) s.heap U.heap locs) : qz_Kx z tA D cy U := by
  obtain ⟨h1, h2, h3, h4, h5, h6, h7⟩ := h
  exact ⟨h1.moved hW.alike, fun k a b => ((h2 k a b).moved hW.alike).kept hS.2.1, fun e he => va_Nw.warmM hW (h3 e he), va_Nw.warmF hW h4, h5.moved hW.alike, h6.moved hW.alike, h7.moved hW.alike⟩
theorem qz_Kx.same {u U : State} (h : qz_Kx z tA D cy u) (hvm : u.vm = U.vm) (hh : u.heap = U.heap) : qz_Kx z tA D cy U := by
  obtain ⟨h1, h2, h3, h4, h5, h6, h7⟩ := h
  have al : u.vm.Alike U.vm := hvm ▸ Vm.Alike.refl u.vm
  exact ⟨h1.moved al, fun k a b => hh ▸ (h2 k a b).moved al, fun e he => va_Nw.same rfl hvm (h3 e he), va_Nw.same rfl hvm h4, h5.moved al, h6.moved al, h7.moved al⟩
theorem qz_St.eq {f : qz_N → Nat → Int32} {u U : State} (h : qz_St z tA f u) (hvm : u.vm = U.vm) (hh : u.heap = U.heap) : qz_St z tA f U := fun k a b => hh ▸ (h k a b).moved (hvm ▸ Vm.Alike.refl u.vm)
/-! locals: the first nL places are the machine's; a long stands behind them, its two places are free -/
/-- all that the machine's locals hold -/
def qz_fu (lsm : Array Slot) : List (Nat × Value) := (List.range lsm.size).filterMap (fun (j : Nat) => match (lsm[j]? : Option Slot) with
  | some (Slot.val w) => some (j, w)
  | _ => none)
theorem qz_fu_mem {lsm : Array Slot} {j : Nat} {w : Value} : (j, w) ∈ qz_fu lsm ↔ lsm[j]? = some (.val w) := by
  unfold qz_fu
  rw [List.mem_filterMap]
  constructor
  · rintro ⟨i, hi, h⟩
    split at h
    · next w' e =>
      cases h
      exact e
    · cases h
  · intro h
    refine ⟨j, List.mem_range.mpr (Array.getElem?_eq_some_iff.mp h).1, ?_⟩
    rw [h]
theorem qz_fu_has {lsm : Array Slot} {nL : Nat} (h1 : lsm.size = nL) (h2 : lv_wf lsm) : lv_has lsm nL (qz_fu lsm) := ⟨h1, h2, fun q hq => qz_fu_mem.mp hq⟩
def qz_L (z : Nat) (tA : Nat → Nat) (nL : Nat) (ls : List (Option qz_V)) (lsm : Array Slot) : Prop :=
  nL ≤ ls.length ∧ lsm.size = nL ∧ lv_wf lsm ∧ (∀ (j : Nat) (v : qz_V), ls[j]? = some (some v) → qz_nl v = true → lsm[j]? = some (Slot.val (qz_tv z tA v))) ∧ ∀ (j : Nat) (x : Int64), ls[nL + j]? = some (some (.inr (.inr x))) → lsm[j]? = some (Slot.val (.long x))
theorem qz_L.has {nL : Nat} {ls : List (Option qz_V)} {lsm : Array Slot} (h : qz_L z tA nL ls lsm) : lv_has lsm nL (qz_fu lsm) := qz_fu_has h.2.1 h.2.2.1
theorem qz_L.at' {nL k : Nat} {ls : List (Option qz_V)} {lsm : Array Slot} {v : qz_V} (h : qz_L z tA nL ls lsm) (hk : ls[k]? = some (some v)) (hv : qz_nl v = true) : lsm[k]? = some (.val (qz_tv z tA v)) := h.2.2.2.1 k v hk hv
theorem qz_L.atl {nL k : Nat} {ls : List (Option qz_V)} {lsm : Array Slot} {x : Int64} (h : qz_L z tA nL ls lsm) (hk : ls[nL + k]? = some (some (.inr (.inr x)))) : lsm[k]? = some (.val (.long x)) := h.2.2.2.2 k x hk
theorem qz_g1_no {nL j : Nat} {ls : List (Option qz_V)} (h : qz_g1 nL ls j = true) (v : qz_V) : ¬ ls[nL + j]? = some (some v) := by
  intro q
  unfold qz_g1 at h
  rw [q] at h
  cases h
theorem qz_g3_no {nL k j : Nat} {ls : List (Option qz_V)} (h : qz_g3 nL ls k = true) (hj : j + 1 = k) (v : qz_V) : ¬ ls[nL + j]? = some (some v) := by
  subst hj
  exact qz_g1_no h v
theorem qz_L.set {nL k : Nat} {ls : List (Option qz_V)} {lsm lsm' : Array Slot} {v : qz_V} (h : qz_L z tA nL ls lsm) (hk : k < nL) (hg : qz_g2 nL ls k = true) (hv : qz_nl v = true) (h' : lv_has lsm' nL ((k, qz_tv z tA v) :: (qz_fu lsm).filter (fun q => !(q.1 == k) && !(q.1 + 1 == k && q.2.category == 2)))) : qz_L z tA nL (ls.set k (some v)) lsm' := by
  unfold qz_g2 at hg
  rw [Bool.and_eq_true] at hg
  have keep : ∀ (j : Nat) (w : Value), lsm[j]? = some (.val w) → ¬ j = k → ¬ (j + 1 = k ∧ w.category = 2) → lsm'[j]? = some (.val w) := by
    intro j w e n1 n2
    refine h'.2.2 (j, w) (List.mem_cons_of_mem _ (List.mem_filter.mpr ⟨qz_fu_mem.mpr e, ?_⟩))
    have b1 : (j == k) = false := by simp [n1]
    have b2 : (j + 1 == k && w.category == 2) = false := by
      by_cases e1 : j + 1 = k
      · by_cases e2 : w.category = 2
        · exact absurd ⟨e1, e2⟩ n2
        · simp [e2]
      · simp [e1]
    simp only [b1, b2, Bool.not_false, Bool.and_self]
  refine ⟨by rw [List.length_set]; exact h.1, h'.1, h'.2.1, fun j w h1 hw => ?_, fun j x h1 => ?_⟩
  · rw [List.getElem?_set] at h1
    split at h1
    · next e =>
      subst e
      split at h1
      · cases h1
        exact h'.2.2 _ List.mem_cons_self
      · cases h1
    · next e =>
      refine keep j _ (h.2.2.2.1 j w h1 hw) (fun q => e q.symm) (fun q => ?_)
      rw [qz_tvc z tA hw] at q
      exact absurd q.2 (by decide)
  · rw [List.getElem?_set, if_neg (by omega)] at h1
    refine keep j _ (h.2.2.2.2 j x h1) (fun q => ?_) (fun q => ?_)
    · subst q
      exact qz_g1_no hg.1 _ h1
    · exact qz_g3_no hg.2 q.1 _ h1
theorem qz_L.setl {nL k : Nat} {ls : List (Option qz_V)} {lsm lsm' : Array Slot} {x : Int64} (h : qz_L z tA nL ls lsm) (hk : k + 1 < nL) (hg1 : qz_g1 nL ls (k + 1) = true) (hg3 : qz_g3 nL ls k = true) (h' : lv_has lsm' nL ((k, Value.long x) :: (qz_fu lsm).filter (fun q => !(q.1 == k) && (!(q.1 == k + 1) && !(q.1 + 1 == k && q.2.category == 2))))) : qz_L z tA nL (qz_sl' nL k ls x) lsm' := by
  have keep : ∀ (j : Nat) (w : Value), lsm[j]? = some (.val w) → ¬ j = k → ¬ j = k + 1 → ¬ (j + 1 = k ∧ w.category = 2) → lsm'[j]? = some (.val w) := by
    intro j w e n1 n3 n2
    refine h'.2.2 (j, w) (List.mem_cons_of_mem _ (List.mem_filter.mpr ⟨qz_fu_mem.mpr e, ?_⟩))
    have b1 : (j == k) = false := by simp [n1]
    have b3 : (j == k + 1) = false := by simp [n3]
    have b2 : (j + 1 == k && w.category == 2) = false := by
      by_cases e1 : j + 1 = k
      · by_cases e2 : w.category = 2
        · exact absurd ⟨e1, e2⟩ n2
        · simp [e2]
      · simp [e1]
    simp only [b1, b2, b3, Bool.not_false, Bool.and_self]
  have len : (qz_sl' nL k ls x).length = ls.length := by simp [qz_sl']
  have get : ∀ j : Nat, ¬ j = nL + k → (qz_sl' nL k ls x)[j]? = if k + 1 = j then (if k + 1 < ls.length then some none else none) else if k = j then (if k < ls.length then some none else none) else ls[j]? := by
    intro j hj
    unfold qz_sl'
    rw [List.getElem?_set, if_neg (fun q => hj q.symm), List.getElem?_set, List.getElem?_set]
    simp only [List.length_set]
  refine ⟨by rw [len]; exact h.1, h'.1, h'.2.1, fun j w h1 hw => ?_, fun j y h1 => ?_⟩
  · by_cases hj : j = nL + k
    · exfalso
      subst hj
      unfold qz_sl' at h1
      rw [List.getElem?_set, if_pos rfl] at h1
      split at h1
      · cases h1
        cases hw
      · cases h1
    · rw [get j hj] at h1
      split at h1
      · split at h1 <;> cases h1
      · next e1 =>
        split at h1
        · split at h1 <;> cases h1
        · next e2 =>
          refine keep j _ (h.2.2.2.1 j w h1 hw) (fun q => e2 q.symm) (fun q => e1 q.symm) (fun q => ?_)
          rw [qz_tvc z tA hw] at q
          exact absurd q.2 (by decide)
  · by_cases hj : j = k
    · subst hj
      unfold qz_sl' at h1
      rw [List.getElem?_set, if_pos rfl] at h1
      split at h1
      · cases h1
        exact h'.2.2 _ List.mem_cons_self
      · cases h1
    · rw [get _ (by omega), if_neg (by omega), if_neg (by omega)] at h1
      refine keep j _ (h.2.2.2.2 j y h1) hj (fun q => ?_) (fun q => ?_)
      · subst q
        exact qz_g1_no hg1 _ h1
      · exact qz_g3_no hg3 q.1 _ h1
theorem qz_L.start (as : List qz_V) (n n2 : Nat) (hn : as.length ≤ n) (hn2 : n ≤ n2) (ha : as.all qz_nl = true) : qz_L z tA n (as.map some ++ List.replicate (n2 - as.length) none) ((lg_sl (as.map (qz_tv z tA)) ++ List.replicate (n - (lg_sl (as.map (qz_tv z tA))).length) Slot.unset).toArray) := by
  have hl : ∀ as : List qz_V, as.all qz_nl = true → (lg_sl (as.map (qz_tv z tA))).length = as.length := by
    intro as
    induction as with
    | nil => intro _; rfl
    | cons v as ih =>
      intro ha
      rw [List.all_cons, Bool.and_eq_true] at ha
      have : lg_sl ((v :: as).map (qz_tv z tA)) = Slot.val (qz_tv z tA v) :: lg_sl (as.map (qz_tv z tA)) := by simp [lg_sl, qz_tvc z tA ha.1]
      rw [this, List.length_cons, ih ha.2, List.length_cons]
  have hm : ∀ (as : List qz_V) (i j : Nat) (v : qz_V), as.all qz_nl = true → as[j]? = some v → (i + j, qz_tv z tA v) ∈ lv_args i (as.map (qz_tv z tA)) := by
    intro as
    induction as with
    | nil =>
      intro i j v _ h
      simp at h
    | cons v as ih =>
      intro i j w ha h
      rw [List.all_cons, Bool.and_eq_true] at ha
      have e : lv_args i ((v :: as).map (qz_tv z tA)) = (i, qz_tv z tA v) :: lv_args (i + 1) (as.map (qz_tv z tA)) := by simp [lv_args, qz_tvc z tA ha.1]
      rw [e]
      cases j with
      | zero =>
        simp at h
        subst h
        exact List.mem_cons_self
      | succ j =>
        have := ih (i + 1) j w ha.2 (by simpa using h)
        rw [show i + (j + 1) = i + 1 + j by omega]
        exact List.mem_cons_of_mem _ this
  have h := lv_entry (as.map (qz_tv z tA)) (n := n) (by rw [hl as ha]; exact hn)
  have get : ∀ (j : Nat) (v : qz_V), (as.map some ++ List.replicate (n2 - as.length) none)[j]? = some (some v) → as[j]? = some v := by
    intro j v h1
    rw [List.getElem?_append] at h1
    split at h1
    · rw [List.getElem?_map] at h1
      cases hq : as[j]? with
      | none => rw [hq] at h1; cases h1
      | some w => rw [hq] at h1; cases h1; rfl
    · rw [List.getElem?_replicate] at h1
      split at h1 <;> cases h1
  refine ⟨by simp; omega, h.1, h.2.1, fun j v h1 _ => ?_, fun j x h1 => ?_⟩
  · have := hm as 0 j v ha (get j v h1)
    rw [Nat.zero_add] at this
    exact h.2.2 _ this
  · exfalso
    have e := get _ _ h1
    have := List.all_eq_true.mp ha _ (List.mem_of_getElem? e)
    cases this
/-! the heap -/
theorem qz_one {a : Nat} {e : va_E} {H : Heap} (h : va_at D vwCl (a, e) H) : va_P D vwCl [(a, e)] H := by
  intro k q hq
  cases k with
  | zero => cases hq; exact h
  | succ k => simp at hq
theorem qz_P.set {M M' : qz_M} {H H' : Heap} {n : qz_N} (h : qz_P z tA D cy M H) (hv : qz_vl n = true) (hM : M'.1 = M.1) (ho : ∀ n' : qz_N, ¬ n' = n → qz_ce z tA cy M' n' = qz_ce z tA cy M n') (he : va_at D vwCl (z + qz_ix n, qz_ce z tA cy M' n) H') (hz : H'.size = H.size) (oq : ∀ q : Nat, q ≠ z + qz_ix n → H'[q]? = H[q]?) : qz_P z tA D cy M' H' := by
  refine ⟨by rw [hz, hM]; exact h.1, fun n' h1 h2 => ?_⟩
  by_cases e : n' = n
  · subst e; exact he
  · rw [ho n' e]
    refine (h.2 n' h1 (by rw [← hM]; exact h2)).kept (oq _ ?_)
    show z + qz_ix n' ≠ z + qz_ix n
    intro q
    exact e (qz_ix_inj h1 hv (by omega))
theorem qz_ce_ui {M : qz_M} {n n' : qz_N} {j : Nat} {x : Int32} (e : ¬ n' = n) : qz_ce z tA cy (qz_ui M n j x) n' = qz_ce z tA cy M n' := by
  have h : (qz_ui M n j x).2.1 n' = M.2.1 n' := by
    funext j'
    show (if n' = n ∧ j' = j then x else M.2.1 n' j') = _
    rw [if_neg (fun q => e q.1)]
  have h2 : (qz_ui M n j x).2.2 = M.2.2 := rfl
  unfold qz_ce
  rw [h, h2]
theorem qz_ce_ur {M : qz_M} {n n' : qz_N} {j : Nat} {x : Option qz_N} (e : ¬ n' = n) : qz_ce z tA cy (qz_ur M n j x) n' = qz_ce z tA cy M n' := by
  have h : (qz_ur M n j x).2.2 n' = M.2.2 n' := by
    funext j'
    show (if n' = n ∧ j' = j then x else M.2.2 n' j') = _
    rw [if_neg (fun q => e q.1)]
  have h2 : (qz_ur M n j x).2.1 = M.2.1 := rfl
  unfold qz_ce
  rw [h, h2]
/-- the fields of an object, one of them written -/
theorem qz_fs_set {α : Type} (N j : Nat) (g g' : Nat → α) (v : α) (h1 : g' j = v) (h2 : ∀ i, ¬ i = j → g' i = g i) : (List.range N).map g' = ((List.range N).map g).set j v := by
  apply List.ext_getElem?
  intro i
  rw [List.getElem?_set, List.getElem?_map, List.getElem?_map]
  by_cases hi : i < N
  · rw [List.getElem?_range hi]
    split
    · next e => subst e; simp [hi, h1]
    · next e => simp [h2 i (fun q => e q.symm)]
  · have : (List.range N)[i]? = none := by simp; omega
    rw [this]
    split
    · simp; omega
    · rfl
theorem qz_arr_ui {M : qz_M} {n : qz_N} {j : Nat} {x : Int32} : (qz_ui M n j x).2.1 n = upd (M.2.1 n) j x := by
  funext j'
  show (if n = n ∧ j' = j then x else M.2.1 n j') = if j' = j then x else M.2.1 n j'
  simp
theorem qz_def : ∀ c, c < 6 → ∀ j, j < qz_nf c → defaultValue (qz_ty c j) = if qz_rf c j = true then Value.null else .int 0 := by decide +kernel
theorem qz_fit : ∀ c, c < 6 → ∀ j, j < qz_nf c → qz_rf c j = false → (qz_bl c j = true ∧ qz_ty c j = .boolean) ∨ (qz_bl c j = false ∧ qz_ty c j = .int) := by decide +kernel
theorem qz_fitR : ∀ c, c < 6 → ∀ j, j < qz_nf c → qz_rf c j = true → (∃ C, qz_ty c j = .object C) ∨ ∃ t, qz_ty c j = .array t := by
  intro c hc j hj h
  have key : ∀ c, c < 6 → ∀ j, j < qz_nf c → qz_rf c j = true → (match qz_ty c j with
    | .object _ => true
    | .array _ => true
    | _ => false) = true := by decide +kernel
  have := key c hc j hj h
  split at this
  · next C e => exact Or.inl ⟨C, e⟩
  · next t e => exact Or.inr ⟨t, e⟩
  · cases this
theorem qz_atk : ∀ k : Nat, k < 17 → 7 ≤ k → qz_at k < 7 := by decide
theorem qz_at3 : ∀ k : Nat, k < 17 → ¬ qz_at k = 3 := by decide
theorem qz_at0 {k : Nat} (h : ¬ qz_at k = 0) : 7 ≤ k := by
  rcases Nat.lt_or_ge k 7 with q | q
  · exfalso
    have : ∀ k : Nat, k < 7 → qz_at k = 0 := by decide
    exact h (this k q)
  · exact q
theorem qz_sta {o : Nat} {n : qz_N} (h : qz_lv o n) (hn : ¬ n.1 < 30) : 30 ≤ n.1 ∧ n.1 ≤ 33 ∧ n = (n.1, 0, 0) := by
  rcases h with h | h
  · exact absurd h.1 hn
  · obtain ⟨k, w, i⟩ := n
    simp [qz_sa'] at h
    obtain ⟨h1, h2, rfl, rfl⟩ := h
    exact ⟨h1, h2, rfl⟩
theorem qz_xi_in {i : Int32} {n : Nat} (h : qz_xi i n = true) : vp_in i n := by
  simp [qz_xi] at h
  rintro (q | q)
  · exact absurd q (Int32.not_lt.mpr h.1)
  · omega
theorem qz_Kt {s : State} (h : qz_Kx z tA D cy s) {t : Nat} (h1 : 1 ≤ t) (h2 : t < 7) (h3 : ¬ t = 3) : ArrOfT s (cy t) (qz_ft t) ∧ va_RA s (cy t) (qz_ft t) := by
  have h := h.1.2
  have hc : t = 1 ∨ t = 2 ∨ t = 4 ∨ t = 5 ∨ t = 6 := by omega
  rcases hc with rfl | rfl | rfl | rfl | rfl
  · exact h 0 _ rfl
  · exact h 1 _ rfl
  · exact h 2 _ rfl
  · exact h 3 _ rfl
  · exact h 4 _ rfl
theorem qz_ss_le {o o' : Nat} (h : o ≤ o') : qz_ss o ≤ qz_ss o' := by
  induction h with
  | refl => exact Nat.le_refl _
  | step _ ih => exact Nat.le_trans ih (Nat.le_add_right _ _)
end QZM
