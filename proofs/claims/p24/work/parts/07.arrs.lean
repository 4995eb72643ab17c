/-! arrays, and what is made -/
section QZA
variable {p : Program} {l : Launch} {e : Env} {R : Room} {s : State} {m : MethodId} {args : Array Value} {below : List Frame} {meth : Method} {c : Code} {Q : State → Prop}
variable {z : Nat} {tA : Nat → Nat} {D : va_G} {cy : Nat → ClassId} {k : Nat}
variable {ce sl pc : Nat} {ls : List (Option qz_V)} {st : List qz_V} {M : qz_M}
theorem qz_atd {t : Nat} {n : qz_N} (h : qz_at n.1 = t) (ht : ¬ t = 0) (ht1 : ¬ t = 1) {o : Nat} (hn : qz_lv o n) : n.1 < 30 := by
  rcases Nat.lt_or_ge n.1 30 with q | q
  · exact q
  · exfalso
    obtain ⟨h1, h2, -⟩ := qz_sta hn (by omega)
    have : ∀ k : Nat, k < 34 → 30 ≤ k → qz_at k = 1 := by decide
    have := this n.1 (by omega) h1
    omega
theorem qz_cei {t : Nat} {n : qz_N} (h : qz_at n.1 = t) (h1 : 1 ≤ t) (h4 : t < 4) : qz_ce z tA cy M n = .inl (cy t, qz_al n.1, .inl (M.2.1 n)) := by
  have h7 : 7 ≤ n.1 := qz_at0 (by omega)
  unfold qz_ce
  rw [if_neg (by omega), if_pos (by omega), h]
theorem qz_ceq {t : Nat} {n : qz_N} (h : qz_at n.1 = t) (h4 : 4 ≤ t) : qz_ce z tA cy M n = .inl (cy t, qz_al n.1, .inr (.inr (.inr (.inr (fun j => (M.2.2 n j).map (qz_ad z tA)))))) := by
  have h7 : 7 ≤ n.1 := qz_at0 (by omega)
  unfold qz_ce
  rw [if_neg (by omega), if_neg (by omega), h]
theorem qz_lnd {f : qz_N → Nat → Int32} {n : qz_N} (h : n.1 < 30) : qz_ln f n = qz_al n.1 := if_neg (by omega)
theorem qz_adr {n : qz_N} (h : n.1 < 30) : (Value.ref (qz_ad z tA n)) = .ref (z + qz_ix n) := by rw [qz_ad_dyn h]
theorem qz_r_iald (hC : qz_Cx p s m args meth c z tA D cy k) {i : Int32} {n : qz_N} (hd : decode (qz_b k) pc = .ok (.iaload, 1)) (ht : qz_at n.1 = 1) (hi : qz_xi i (qz_ln M.2.1 n) = true) (hn : qz_lv M.1 n) (kk : qz_W p l e R s m args below meth c z tA D cy k Q ce sl (pc + 1) ls (.inl (M.2.1 n i.toNatClampNeg) :: st) M) : qz_W p l e R s m args below meth c z tA D cy k Q ce sl pc ls (.inl i :: .inr (.inl (some n)) :: st) M := by
  intro H locs lsm hL hP hS hT
  have k1 := kk H locs lsm hL hP hS hT
  show W p l e R s m args below meth c H locs ce sl Q (F0 m pc lsm (.int i :: Value.ref (qz_ad z tA n) :: st.map (qz_tv z tA)))
  rcases Nat.lt_or_ge n.1 30 with q | q
  · obtain ⟨hv, hx⟩ := qz_dyn hn q
    have hat := hP.2 n hv hx
    rw [qz_cei ht (by omega) (by omega)] at hat
    rw [qz_adr q]
    rw [qz_lnd q] at hi
    exact va_iald (D := D) hC.1 hC.2.1 hC.2.2.2.2.2.2.1.1 (qz_one hat) 0 0 rfl rfl (qz_xi_in hi) hd k1
  · obtain ⟨h1, h2, e1⟩ := qz_sta hn (by omega)
    have hT1 := hT n.1 h1 h2
    rw [← e1] at hT1
    have e2 : qz_ad z tA n = tA n.1 := if_neg (by omega)
    rw [e2]
    exact va_ti hC.1 hC.2.1 hT1 hS (qz_xi_in hi) rfl hd k1
theorem qz_r_cald (hC : qz_Cx p s m args meth c z tA D cy k) {i : Int32} {n : qz_N} (hd : decode (qz_b k) pc = .ok (.caload, 1)) (ht : qz_at n.1 = 2) (hi : qz_xi i (qz_ln M.2.1 n) = true) (hn : qz_lv M.1 n) (kk : qz_W p l e R s m args below meth c z tA D cy k Q ce sl (pc + 1) ls (.inl (M.2.1 n i.toNatClampNeg) :: st) M) : qz_W p l e R s m args below meth c z tA D cy k Q ce sl pc ls (.inl i :: .inr (.inl (some n)) :: st) M := by
  intro H locs lsm hL hP hS hT
  have k1 := kk H locs lsm hL hP hS hT
  show W p l e R s m args below meth c H locs ce sl Q (F0 m pc lsm (.int i :: Value.ref (qz_ad z tA n) :: st.map (qz_tv z tA)))
  have q := qz_atd ht (by omega) (by omega) hn
  obtain ⟨hv, hx⟩ := qz_dyn hn q
  have hat := hP.2 n hv hx
  rw [qz_cei ht (by omega) (by omega)] at hat
  rw [qz_adr q]
  rw [qz_lnd q] at hi
  exact va_cald (D := D) hC.1 hC.2.1 hC.2.2.2.2.2.2.1.1 (qz_one hat) 0 1 rfl rfl (qz_xi_in hi) hd k1
/-- an int array's cell, one place written -/
theorem qz_cst {t N j : Nat} {f : Nat → Int32} {x : Int32} {H1 : Heap} {a : Nat} (e : H1[a]? = some ((vp_cell (cy t) (N, .inl f)).setSlot j (.int x))) : va_at D vwCl (a, .inl (cy t, N, .inl (upd f j x))) H1 := by
  show H1[a]? = some (vp_cell _ _)
  rw [e, vp_cell_i, vp_cell_i, arrV_store]
  congr 2
  funext q
  by_cases hq : q = j
  · subst hq; simp [updV, upd]
  · simp [updV, upd, hq]
theorem qz_r_iast (hC : qz_Cx p s m args meth c z tA D cy k) {i x : Int32} {n : qz_N} (hd : decode (qz_b k) pc = .ok (.iastore, 1)) (ht : qz_at n.1 = 1) (q : n.1 < 30) (hi : qz_xi i (qz_al n.1) = true) (hn : qz_lv M.1 n) (kk : qz_W p l e R s m args below meth c z tA D cy k Q ce sl (pc + 1) ls st (qz_ui M n i.toNatClampNeg x)) : qz_W p l e R s m args below meth c z tA D cy k Q ce sl pc ls (.inl x :: .inl i :: .inr (.inl (some n)) :: st) M := by
  intro H locs lsm hL hP hS hT
  show W p l e R s m args below meth c H locs ce sl Q (F0 m pc lsm (.int x :: .int i :: Value.ref (qz_ad z tA n) :: st.map (qz_tv z tA)))
  obtain ⟨hv, hx⟩ := qz_dyn hn q
  have hat := hP.2 n hv hx
  rw [qz_cei ht (by omega) (by omega)] at hat
  rw [qz_adr q]
  refine W.iast hC.1 hC.2.1 hat ((qz_Kt hC.2.2.2.2.2.2.1 (t := 1) (by omega) (by omega) (by omega)).1 _ (fun j => .int (M.2.1 n j))) (fun q => by cases q) (by show ¬ (i < 0 ∨ (arrV _ _ _).slots.size ≤ _); rw [arrV_size]; exact qz_xi_in hi) rfl rfl hd fun H1 e1 e2 e3 => ?_
  refine kk H1 _ lsm hL (hP.set hv rfl (fun n' e => qz_ce_ui e) ?_ e2 e3) (hS.put e2 e3 (Nat.le_add_right _ _)) (hT.same (fun n' hn' => (qz_le_ui q _ _).2 n' hn'))
  rw [qz_cei ht (by omega) (by omega), qz_arr_ui]
  exact qz_cst e1
theorem qz_r_cast (hC : qz_Cx p s m args meth c z tA D cy k) {i x : Int32} {n : qz_N} (hd : decode (qz_b k) pc = .ok (.castore, 1)) (ht : qz_at n.1 = 2) (q : n.1 < 30) (hi : qz_xi i (qz_al n.1) = true) (hn : qz_lv M.1 n) (kk : qz_W p l e R s m args below meth c z tA D cy k Q ce sl (pc + 1) ls st (qz_ui M n i.toNatClampNeg (vp_nar .char x))) : qz_W p l e R s m args below meth c z tA D cy k Q ce sl pc ls (.inl x :: .inl i :: .inr (.inl (some n)) :: st) M := by
  intro H locs lsm hL hP hS hT
  show W p l e R s m args below meth c H locs ce sl Q (F0 m pc lsm (.int x :: .int i :: Value.ref (qz_ad z tA n) :: st.map (qz_tv z tA)))
  obtain ⟨hv, hx⟩ := qz_dyn hn q
  have hat := hP.2 n hv hx
  rw [qz_cei ht (by omega) (by omega)] at hat
  rw [qz_adr q]
  refine W.cast hC.1 hC.2.1 hat ((qz_Kt hC.2.2.2.2.2.2.1 (t := 2) (by omega) (by omega) (by omega)).1 _ (fun j => .int (M.2.1 n j))) (fun q => by cases q) (by show ¬ (i < 0 ∨ (arrV _ _ _).slots.size ≤ _); rw [arrV_size]; exact qz_xi_in hi) rfl rfl hd fun H1 e1 e2 e3 => ?_
  refine kk H1 _ lsm hL (hP.set hv rfl (fun n' e => qz_ce_ui e) ?_ e2 e3) (hS.put e2 e3 (Nat.le_add_right _ _)) (hT.same (fun n' hn' => (qz_le_ui q _ _).2 n' hn'))
  rw [qz_cei ht (by omega) (by omega), qz_arr_ui]
  exact qz_cst e1
theorem qz_ato {t : Nat} (h : 4 ≤ t) (h7 : t < 7) : ∃ C, qz_ft t = .object C ∧ C = qz_ow (qz_ec t) ∧ qz_ec t < 6 := by
  have hc : t = 4 ∨ t = 5 ∨ t = 6 := by omega
  rcases hc with rfl | rfl | rfl
  · exact ⟨_, rfl, rfl, by decide⟩
  · exact ⟨_, rfl, rfl, by decide⟩
  · exact ⟨_, rfl, rfl, by decide⟩
theorem qz_r_aald (hC : qz_Cx p s m args meth c z tA D cy k) {i : Int32} {n : qz_N} (hd : decode (qz_b k) pc = .ok (.aaload, 1)) (ht : 4 ≤ qz_at n.1) (hi : qz_xi i (qz_al n.1) = true) (hn : qz_lv M.1 n) (kk : qz_W p l e R s m args below meth c z tA D cy k Q ce sl (pc + 1) ls (.inr (.inl (M.2.2 n i.toNatClampNeg)) :: st) M) : qz_W p l e R s m args below meth c z tA D cy k Q ce sl pc ls (.inl i :: .inr (.inl (some n)) :: st) M := by
  intro H locs lsm hL hP hS hT
  have k1 := kk H locs lsm hL hP hS hT
  show W p l e R s m args below meth c H locs ce sl Q (F0 m pc lsm (.int i :: Value.ref (qz_ad z tA n) :: st.map (qz_tv z tA)))
  have q := qz_atd rfl (by omega) (by omega) hn
  obtain ⟨hv, hx⟩ := qz_dyn hn q
  have h7 := qz_atk n.1 (qz_vl_lt hv) (qz_at0 (by omega))
  have hat := hP.2 n hv hx
  rw [qz_ceq rfl ht] at hat
  rw [qz_adr q]
  obtain ⟨C, hC1, -, -⟩ := qz_ato ht h7
  have hA := (qz_Kt hC.2.2.2.2.2.2.1 (by omega) h7 (qz_at3 n.1 (qz_vl_lt hv))).1
  rw [hC1] at hA
  have hlt : i.toNatClampNeg < qz_al n.1 := Nat.not_le.mp fun q => qz_xi_in hi (Or.inr q)
  exact W.aald (v := va_rf ((M.2.2 n i.toNatClampNeg).map (qz_ad z tA))) (ty := .object C) hC.1 hC.2.1 hat (hA _ (fun j => va_rf ((M.2.2 n j).map (qz_ad z tA)))) rfl (fun q => by cases q) (by show ¬ (i < 0 ∨ (arrV _ _ _).slots.size ≤ _); rw [arrV_size]; exact qz_xi_in hi) (by show (arrV _ _ _).slots[_]? = _; rw [arrV_read _ _ hlt]) rfl rfl hd k1
theorem qz_arr_ur {n : qz_N} {j : Nat} {x : Option qz_N} : (qz_ur M n j x).2.2 n = va_up (M.2.2 n) j x := by
  funext j'
  show (if n = n ∧ j' = j then x else M.2.2 n j') = if j' = j then x else M.2.2 n j'
  simp
theorem qz_r_aast (hC : qz_Cx p s m args meth c z tA D cy k) {i : Int32} {n v : qz_N} (hd : decode (qz_b k) pc = .ok (.aastore, 1)) (ht : 4 ≤ qz_at n.1) (hvk : v.1 = qz_ec (qz_at n.1)) (hi : qz_xi i (qz_al n.1) = true) (hn : qz_lv M.1 n) (hnv : qz_lv M.1 v) (kk : qz_W p l e R s m args below meth c z tA D cy k Q ce sl (pc + 1) ls st (qz_ur M n i.toNatClampNeg (some v))) : qz_W p l e R s m args below meth c z tA D cy k Q ce sl pc ls (.inr (.inl (some v)) :: .inl i :: .inr (.inl (some n)) :: st) M := by
  intro H locs lsm hL hP hS hT
  show W p l e R s m args below meth c H locs ce sl Q (F0 m pc lsm (Value.ref (qz_ad z tA v) :: .int i :: Value.ref (qz_ad z tA n) :: st.map (qz_tv z tA)))
  have q := qz_atd rfl (by omega) (by omega) hn
  obtain ⟨hv, hx⟩ := qz_dyn hn q
  have h7 := qz_atk n.1 (qz_vl_lt hv) (qz_at0 (by omega))
  have hat := hP.2 n hv hx
  rw [qz_ceq rfl ht] at hat
  obtain ⟨C, hC1, hCo, hC7⟩ := qz_ato ht h7
  have qv : v.1 < 6 := by omega
  obtain ⟨hv', hx'⟩ := qz_dyn hnv (by omega)
  have hatv := hP.2 v hv' hx'
  have hev : qz_ce z tA cy M v = .inr (v.1, (List.range (qz_nf v.1)).map (fun j => if qz_rf v.1 j = true then va_rf ((M.2.2 v j).map (qz_ad z tA)) else .int (M.2.1 v j))) := if_pos qv
  rw [hev] at hatv
  obtain ⟨c1, -⟩ := qz_co qv
  rw [qz_adr q, qz_adr (n := v) (by omega)]
  have hA := qz_Kt hC.2.2.2.2.2.2.1 (by omega) h7 (qz_at3 n.1 (qz_vl_lt hv))
  rw [hC1] at hA
  have hK := hC.2.2.2.2.2.2.1.1
  have hlt : i.toNatClampNeg < qz_al n.1 := Nat.not_le.mp fun q => qz_xi_in hi (Or.inr q)
  have h0 : ¬ i < 0 := fun q => qz_xi_in hi (Or.inl q)
  obtain ⟨r', hr', cellV, g1, g2, g3, -⟩ := hatv
  have hcls := (hK.1 v.1 _ c1).2
  obtain ⟨kA, comp, k1, k2, k3, -⟩ := hA.2
  have hcomp : comp = D.1 v.1 := by
    have h9 := hcls.1
    simp only at h9
    rw [hvk, ← hCo] at h9
    rw [hvk]
    exact Option.some.inj (k3.symm.trans h9)
  subst hcomp
  obtain ⟨kC, hkC, -⟩ := hcls.2
  refine W.aast hC.1 hC.2.1 hat (fun q h => by cases h) (fun h => by cases h) k1 k2 rfl hkC ⟨h0, by show _ < (arrV _ _ _).slots.size; rw [arrV_size]; exact hlt⟩ g1 (fun q h => by rw [g3] at h; cases h) (by rw [g2]; exact hkC) (by rw [g2]; exact va_assign hcls) rfl rfl hd fun H1 e1 e2 e3 => ?_
  refine kk H1 _ lsm hL (hP.set hv rfl (fun n' e => qz_ce_ur e) ?_ e2 e3) (hS.put e2 e3 (Nat.le_add_right _ _)) hT
  rw [qz_ceq rfl ht, qz_arr_ur]
  show H1[_]? = some (vp_cell _ _)
  rw [e1, vp_cell_q, vp_cell_q, arrV_store]
  congr 2
  funext q'
  by_cases hq : q' = i.toNatClampNeg
  · subst hq
    simp [updV, va_up, va_rf, qz_ad_dyn (show v.1 < 30 by omega)]
  · simp [updV, va_up, hq]
theorem qz_r_alen (hC : qz_Cx p s m args meth c z tA D cy k) {n : qz_N} (hd : decode (qz_b k) pc = .ok (.arraylength, 1)) (ht : ¬ qz_at n.1 = 0) (hn : qz_lv M.1 n) (kk : qz_W p l e R s m args below meth c z tA D cy k Q ce sl (pc + 1) ls (.inl (Int32.ofNat (qz_ln M.2.1 n)) :: st) M) : qz_W p l e R s m args below meth c z tA D cy k Q ce sl pc ls (.inr (.inl (some n)) :: st) M := by
  intro H locs lsm hL hP hS hT
  have k1 := kk H locs lsm hL hP hS hT
  show W p l e R s m args below meth c H locs ce sl Q (F0 m pc lsm (Value.ref (qz_ad z tA n) :: st.map (qz_tv z tA)))
  rcases Nat.lt_or_ge n.1 30 with q | q
  · obtain ⟨hv, hx⟩ := qz_dyn hn q
    have h7 := qz_atk n.1 (qz_vl_lt hv) (qz_at0 (by omega))
    have hat := hP.2 n hv hx
    rw [qz_adr q]
    rw [qz_lnd q] at k1
    have hts : ∀ t : Nat, 1 ≤ t → t < 7 → ¬ t = 3 → (qz_ts cy)[if t < 3 then t - 1 else t - 2]? = some (cy t, qz_ft t) := by
      intro t h1 h2 h3
      have hc : t = 1 ∨ t = 2 ∨ t = 4 ∨ t = 5 ∨ t = 6 := by omega
      rcases hc with rfl | rfl | rfl | rfl | rfl <;> rfl
    have h3 := qz_at3 n.1 (qz_vl_lt hv)
    rcases Nat.lt_or_ge (qz_at n.1) 4 with h4 | h4
    · rw [qz_cei rfl (by omega) h4] at hat
      exact va_alen (D := D) hC.1 hC.2.1 hC.2.2.2.2.2.2.1.1 (qz_one hat) 0 _ rfl (hts _ (by omega) h7 h3) rfl hd k1
    · rw [qz_ceq rfl h4] at hat
      exact va_alen (D := D) hC.1 hC.2.1 hC.2.2.2.2.2.2.1.1 (qz_one hat) 0 _ rfl (hts _ (by omega) h7 h3) rfl hd k1
  · obtain ⟨h1, h2, e1⟩ := qz_sta hn (by omega)
    have hT1 := hT n.1 h1 h2
    rw [← e1] at hT1
    have e2 : qz_ad z tA n = tA n.1 := if_neg (by omega)
    rw [e2]
    exact va_tlen hC.1 hC.2.1 hT1 hS rfl hd k1
/-! what is made -/
theorem qz_ce_al {n : qz_N} (h : ¬ n = qz_nm' M.1) : qz_ce z tA cy (qz_al' M) n = qz_ce z tA cy M n := by
  have h1 : (qz_al' M).2.1 n = M.2.1 n := by
    funext j
    exact if_neg h
  have h2 : (qz_al' M).2.2 n = M.2.2 n := by
    funext j
    exact if_neg h
  unfold qz_ce
  rw [h1, h2]
theorem qz_P.al {H H1 : Heap} (h : qz_P z tA D cy M H) (hv : qz_vl (qz_nm' M.1) = true) (hi : qz_ix (qz_nm' M.1) = M.1) (he : va_at D vwCl (H.size, qz_ce z tA cy (qz_al' M) (qz_nm' M.1)) H1) (hz : H1.size = H.size + 1) (oq : ∀ q : Nat, q < H.size → H1[q]? = H[q]?) : qz_P z tA D cy (qz_al' M) H1 := by
  refine ⟨by rw [hz, h.1]; rfl, fun n h1 h2 => ?_⟩
  by_cases e : n = qz_nm' M.1
  · subst e
    rw [hi, ← h.1]
    exact he
  · have hlt : qz_ix n < M.1 := by
      have h2 : qz_ix n < M.1 + 1 := h2
      rcases Nat.lt_or_ge (qz_ix n) M.1 with q | q
      · exact q
      · exfalso
        exact e (by rw [← qz_nx n h1, show qz_ix n = M.1 by omega])
    rw [qz_ce_al e]
    exact (h.2 n h1 hlt).kept (oq _ (h.2 n h1 hlt).lt)
theorem qz_St.al {f : qz_M} (h : qz_St z tA f.2.1 s) (hv : qz_vl (qz_nm' f.1) = true) : qz_St z tA (qz_al' f).2.1 s := h.same (fun n hn => (qz_le_al hv).2 n hn)
theorem qz_va_S_al {H H1 : Heap} {locs : List Loc} (hS : va_S (qz_A z) s.heap H locs) (hz : H1.size = H.size + 1) (oq : ∀ q : Nat, q < H.size → H1[q]? = H[q]?) : va_S (qz_A z) s.heap H1 locs := ⟨Nat.le_trans hS.1 (by omega), fun x h1 h2 => (oq x (Nat.lt_of_lt_of_le h1 hS.1)).trans (hS.2.1 x h1 h2), hS.2.2⟩
theorem qz_al_f {n : qz_N} (h : n = qz_nm' M.1) : (qz_al' M).2.1 n = fun _ => 0 := by
  funext j
  exact if_pos h
theorem qz_al_r {n : qz_N} (h : n = qz_nm' M.1) : (qz_al' M).2.2 n = fun _ => none := by
  funext j
  exact if_pos h
theorem qz_r_new (hC : qz_Cx p s m args meth c z tA D cy k) {i : Nat} (hd : decode (qz_b k) pc = .ok (.new i, 3)) (hw : qz_nw (qz_cn k) i = some (qz_nm' M.1).1) (hv : qz_vl (qz_nm' M.1) = true) (hi : qz_ix (qz_nm' M.1) = M.1) (hce : ce + 1 ≤ R.cells) (hsl : sl + qz_sz (qz_nm' M.1).1 ≤ R.slots) (kk : qz_W p l e R s m args below meth c z tA D cy k Q (ce + 1) (sl + qz_sz (qz_nm' M.1).1) (pc + 3) ls (.inr (.inl (some (qz_nm' M.1))) :: st) (qz_al' M)) : qz_W p l e R s m args below meth c z tA D cy k Q ce sl pc ls st M := by
  intro H locs lsm hL hP hS hT
  obtain ⟨h7, hw⟩ := qz_nw_ok hw
  simp only at h7 hw
  obtain ⟨c1, c2, c3, c4, c5, c6, c7⟩ := qz_co h7
  have esz : qz_sz (qz_nm' M.1).1 = qz_nf (qz_nm' M.1).1 := if_pos h7
  rw [esz] at hsl kk
  obtain ⟨hx, hbb, hml, hown, hts, hin2, hK, hz⟩ := hC
  have hKn := hK.1.1 _ _ c1
  have ead : Value.ref H.size = qz_tv z tA (.inr (.inl (some (qz_nm' M.1)))) := by
    show Value.ref H.size = Value.ref (qz_ad z tA (qz_nm' M.1))
    rw [qz_ad_dyn (by omega), hi, hP.1]
  refine W.newcK hx hbb hown (hts _ hw) (hts _ c5) (hts _ c6) rfl hd hce hsl hKn.2.1 rfl fun H1 kC hkC e1 z1 o1 => ?_
  have k1 := kk H1 locs lsm hL (hP.al hv hi ?_ z1 o1) (qz_va_S_al hS z1 o1) (hT.al hv)
  · rw [List.map_cons, ← ead] at k1
    exact k1
  · have he : qz_ce z tA cy (qz_al' M) (qz_nm' M.1) = .inr ((qz_nm' M.1).1, (List.range (qz_nf (qz_nm' M.1).1)).map (fun j => if qz_rf (qz_nm' M.1).1 j = true then Value.null else .int 0)) := by
      unfold qz_ce
      rw [if_pos h7, qz_al_f rfl, qz_al_r rfl]
      rfl
    rw [he]
    refine ⟨_, c1, (u_born (qz_ty (qz_nm' M.1).1) hts c2 hKn hkC e1 c3).to (fun j hj => ?_)⟩
    rw [qz_def _ h7 j hj]
    unfold vp_V
    rw [List.getD_eq_getElem?_getD, List.getElem?_map, List.getElem?_range hj]
    rfl
theorem qz_r_newa (hC : qz_Cx p s m args meth c z tA D cy k) {a : ArrayType} {x : Int32} (hd : decode (qz_b k) pc = .ok (.newarray a, 2)) (hv : qz_vl (qz_nm' M.1) = true) (hi : qz_ix (qz_nm' M.1) = M.1) (hx0 : ¬ x < 0) (hxn : x.toNatClampNeg = qz_al (qz_nm' M.1).1) (ha : (a = .int ∧ qz_at (qz_nm' M.1).1 = 1) ∨ (a = .char ∧ qz_at (qz_nm' M.1).1 = 2)) (hce : ce + 1 ≤ R.cells) (hsl : sl + qz_sz (qz_nm' M.1).1 ≤ R.slots) (kk : qz_W p l e R s m args below meth c z tA D cy k Q (ce + 1) (sl + qz_sz (qz_nm' M.1).1) (pc + 2) ls (.inr (.inl (some (qz_nm' M.1))) :: st) (qz_al' M)) : qz_W p l e R s m args below meth c z tA D cy k Q ce sl pc ls (.inl x :: st) M := by
  intro H locs lsm hL hP hS hT
  have hk7 : 7 ≤ (qz_nm' M.1).1 := qz_at0 (by rcases ha with h | h <;> omega)
  have esz : qz_sz (qz_nm' M.1).1 = qz_al (qz_nm' M.1).1 := if_neg (by omega)
  have hsmall : qz_al (qz_nm' M.1).1 ≤ 1132 := by
    have : ∀ k : Nat, k < 17 → qz_al k ≤ 1132 := by decide
    exact this _ (qz_vl_lt hv)
  rw [esz] at hsl kk
  obtain ⟨hx, hbb, hml, hown, hts, hin2, hK, hz⟩ := hC
  have ead : Value.ref H.size = qz_tv z tA (.inr (.inl (some (qz_nm' M.1)))) := by
    show Value.ref H.size = Value.ref (qz_ad z tA (qz_nm' M.1))
    rw [qz_ad_dyn (by have := qz_vl_lt hv; omega), hi, hP.1]
  have go : ∀ (t : Nat) (ty : FieldType), newarray.typeOf a = ty → qz_ft t = ty → 1 ≤ t → t < 3 → qz_at (qz_nm' M.1).1 = t → defaultValue ty = .int 0 → componentBytes ty ≤ 4 → (Cond.arrayClass ty) ∈ qz_tb → (∀ cA, va_RA s cA ty → s.vm.findClass ("[" ++ ty.toString) = some cA) → W p l e R s m args below meth c H locs ce sl Q (F0 m pc lsm (.int x :: st.map (qz_tv z tA))) := by
    intro t ty e1 e2 h1 h3 hat hdef hcb hwd hRA
    have h4 : t < 4 := by omega
    subst e1
    refine va_newaK hx hbb (hts _ hwd) rfl hd rfl hx0 hxn (Nat.le_trans (Nat.mul_le_mul hsmall hcb) (by decide)) hce hsl rfl fun H1 cA g1 g2 g3 g4 g5 => ?_
    have hcA : cA = cy t := by
      have h9 := (qz_Kt hK (t := t) h1 (by omega) (by omega)).2
      rw [e2] at h9
      exact Option.some.inj (g5.symm.trans (hRA _ h9))
    subst hcA
    have k1 := kk H1 locs lsm hL (hP.al hv hi ?_ g2 g3) (qz_va_S_al hS g2 g3) (hT.al hv)
    · rw [List.map_cons, ← ead] at k1
      exact k1
    · rw [qz_cei hat h1 h4, qz_al_f rfl]
      show H1[_]? = some (vp_cell _ _)
      rw [vp_cell_i, g1, hdef]
  rcases ha with ⟨rfl, h⟩ | ⟨rfl, h⟩
  · exact go 1 .int rfl rfl (by omega) (by omega) h rfl (by decide) qz_ac_int (fun _ h => h)
  · exact go 2 .char rfl rfl (by omega) (by omega) h rfl (by decide) qz_ac_char (fun _ h => h)
theorem qz_r_anew (hC : qz_Cx p s m args meth c z tA D cy k) {i : Nat} {x : Int32} (hd : decode (qz_b k) pc = .ok (.anewarray i, 3)) (hw : qz_nw (qz_cn k) i = some (qz_ec (qz_at (qz_nm' M.1).1))) (hv : qz_vl (qz_nm' M.1) = true) (hi : qz_ix (qz_nm' M.1) = M.1) (hx0 : ¬ x < 0) (hxn : x.toNatClampNeg = qz_al (qz_nm' M.1).1) (h4 : 4 ≤ qz_at (qz_nm' M.1).1) (hce : ce + 1 ≤ R.cells) (hsl : sl + qz_sz (qz_nm' M.1).1 ≤ R.slots) (kk : qz_W p l e R s m args below meth c z tA D cy k Q (ce + 1) (sl + qz_sz (qz_nm' M.1).1) (pc + 3) ls (.inr (.inl (some (qz_nm' M.1))) :: st) (qz_al' M)) : qz_W p l e R s m args below meth c z tA D cy k Q ce sl pc ls (.inl x :: st) M := by
  intro H locs lsm hL hP hS hT
  have hk7 : 7 ≤ (qz_nm' M.1).1 := qz_at0 (by omega)
  have esz : qz_sz (qz_nm' M.1).1 = qz_al (qz_nm' M.1).1 := if_neg (by omega)
  have hsmall : qz_al (qz_nm' M.1).1 ≤ 1132 := by
    have : ∀ k : Nat, k < 17 → qz_al k ≤ 1132 := by decide
    exact this _ (qz_vl_lt hv)
  rw [esz] at hsl kk
  obtain ⟨h7, hw⟩ := qz_nw_ok hw
  simp only at h7 hw
  obtain ⟨hx, hbb, hml, hown, hts, hin2, hK, hz⟩ := hC
  have ead : Value.ref H.size = qz_tv z tA (.inr (.inl (some (qz_nm' M.1)))) := by
    show Value.ref H.size = Value.ref (qz_ad z tA (qz_nm' M.1))
    rw [qz_ad_dyn (by have := qz_vl_lt hv; omega), hi, hP.1]
  have hat7 := qz_atk _ (qz_vl_lt hv) hk7
  obtain ⟨C, hC1, hCo, hC7⟩ := qz_ato h4 hat7
  rw [← hCo] at hw
  have hov : va_AO C s := by
    have hc : qz_at (qz_nm' M.1).1 = 4 ∨ qz_at (qz_nm' M.1).1 = 5 ∨ qz_at (qz_nm' M.1).1 = 6 := by omega
    rcases hc with h | h | h
    · rw [h] at hCo; rw [hCo]; exact hK.2.2.2.2.1
    · rw [h] at hCo; rw [hCo]; exact hK.2.2.2.2.2.1
    · rw [h] at hCo; rw [hCo]; exact hK.2.2.2.2.2.2
  refine W.anew hx hbb hown (hts _ hw) (va_AO.use hov) rfl hd rfl hx0 (by rw [hxn]; exact Nat.le_trans (Nat.mul_le_mul_right 4 hsmall) (by decide)) hce (by rw [hxn]; exact hsl) fun cA kA comp f1 f2 f3 f4 => ?_
  rw [hxn]
  have hcA : cA = cy (qz_at (qz_nm' M.1).1) := by
    have h9 := (qz_Kt hK (t := qz_at (qz_nm' M.1).1) (by omega) hat7 (qz_at3 _ (qz_vl_lt hv))).2
    rw [hC1] at h9
    obtain ⟨_, _, -, -, -, h10⟩ := h9
    exact Option.some.inj (f1.symm.trans h10)
  subst hcA
  generalize hH1 : H.push ({ cls := cy (qz_at (qz_nm' M.1).1), slots := Array.replicate (qz_al (qz_nm' M.1).1) .null, vm := .none } : Cell) = H1
  have z1 : H1.size = H.size + 1 := by rw [← hH1, Array.size_push]
  have e1 : H1[H.size]? = some (arrV (cy (qz_at (qz_nm' M.1).1)) (qz_al (qz_nm' M.1).1) (fun _ => .null)) := by rw [← hH1, Array.getElem?_push_size, ← arrV_new]
  have o1 : ∀ q : Nat, q < H.size → H1[q]? = H[q]? := fun q hq => by rw [← hH1, Array.getElem?_push, if_neg (Nat.ne_of_lt hq)]
  have k1 := kk H1 locs lsm hL (hP.al hv hi ?_ z1 o1) (qz_va_S_al hS z1 o1) (hT.al hv)
  · rw [List.map_cons, ← ead] at k1
    exact k1
  · rw [qz_ceq rfl h4, qz_al_r rfl]
    show H1[_]? = some (vp_cell _ _)
    rw [vp_cell_q, e1]
    rfl
end QZA
