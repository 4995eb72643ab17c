/-! calls, returns, and a whole run -/
section QZC
variable {p : Program} {l : Launch} {e : Env} {R : Room} {s : State} {m : MethodId} {args : Array Value} {below : List Frame} {meth : Method} {c : Code} {Q : State → Prop}
variable {z : Nat} {tA : Nat → Nat} {D : va_G} {cy : Nat → ClassId} {k : Nat}
variable {ce sl pc : Nat} {ls : List (Option qz_V)} {st : List qz_V} {M : qz_M}
def qz_rm (k mc ms : Nat) : Room := { frames := qz_rF k, cells := mc, slots := ms, locals := qz_rL k }
def qz_ws (k : Nat) : List Cond := .code (qz_y k) (qz_b k) (qz_ml k) (qz_rt k) :: qz_tb
def qz_Qc (z : Nat) (tA : Nat → Nat) (D : va_G) (cy : Nat → ClassId) (r : Option qz_V) (M' : qz_M) : Array Value → State → Outcome → State → Prop := fun _ st o t => o = .returned (r.map (qz_tv z tA)) ∧ qz_P z tA D cy M' t.heap ∧ va_F (qz_A z) st t
def qz_Pre (z : Nat) (tA : Nat → Nat) (D : va_G) (cy : Nat → ClassId) (M : qz_M) : State → Prop := fun U => qz_P z tA D cy M U.heap ∧ qz_Kx z tA D cy U ∧ qz_St z tA M.2.1 U
def qz_Mt (l : Launch) (z : Nat) (tA : Nat → Nat) (D : va_G) (cy : Nat → ClassId) (k : Nat) (as : List qz_V) (M : qz_M) (r : Option qz_V) (M' : qz_M) : Prop := Met l (qz_y k) (qz_ws k) (qz_rm k (M'.1 - M.1) (qz_ss M'.1 - qz_ss M.1)) (va_Pc (as.map (qz_tv z tA)) (qz_Pre z tA D cy M)) (qz_Qc z tA D cy r M') (M'.1 - M.1) (qz_ss M'.1 - qz_ss M.1) (qz_A z)
theorem qz_blind {av : List Value} : FrameBlind (va_Pc av (qz_Pre z tA D cy M)) := fun _ _ _ _ q => ⟨q.1, q.2.1, q.2.2.1.same rfl rfl, q.2.2.2.eq rfl rfl⟩
theorem qz_pay {k' : Nat} (hk : k' < qz_nm) (hts : ∀ w ∈ qz_tb, w.before args s = true) : ∀ w ∈ qz_ws k', ∀ (a' : Array Value) (U : State), s.WarmedH U.vm → w.before a' U = true := by
  intro w hw a' U hW
  have hw' : w ∈ qz_tb := (List.mem_cons.mp hw).elim (fun e => e ▸ (qz_mo hk).2.1) id
  exact word_at hW (good_of_word (List.mem_filter.mp hw').2) (hts w hw')
theorem qz_pre (hC : qz_Cx p s m args meth c z tA D cy k) {H : Heap} {locs : List Loc} (hP : qz_P z tA D cy M H) (hS : va_S (qz_A z) s.heap H locs) (hT : qz_St z tA M.2.1 s) {av : List Value} (U : State) (hU : U.heap = H) (hW : s.WarmedH U.vm) : va_Pc av (qz_Pre z tA D cy M) av.toArray U :=
  ⟨rfl, by rw [hU]; exact hP, hC.2.2.2.2.2.2.1.warm hW (by rw [hU]; exact hS), hT.to hW.alike (by rw [hU]; exact hS.2.1)⟩
theorem qz_run {H : Heap} {locs : List Loc} {lsm : Array Slot} {st0 rest : List Value} {mc ms : Nat} {r : Option qz_V} {M' : qz_M} {a : Array Value} (hr : va_Run p l e R s m args below meth c H locs ce sl mc ms (F0 m pc lsm st0) rest (qz_Qc z tA D cy r M' a) (qz_A z)) (hS : va_S (qz_A z) s.heap H locs)
    (kk : ∀ (H1 : Heap) (locs1 : List Loc), qz_P z tA D cy M' H1 → va_S (qz_A z) s.heap H1 locs1 → W p l e R s m args below meth c H1 locs1 (ce + mc) (sl + ms) Q (F0 m (pc + 3) lsm ((r.map (qz_tv z tA)).toList ++ rest))) : W p l e R s m args below meth c H locs ce sl Q (F0 m pc lsm st0) := by
  intro T hT X
  obtain ⟨v, st₀, t, T', L, h0, X', hL, e1, e2, ⟨hv, hp, hz, hk⟩, st⟩ := hr T hT X
  cases hv
  rw [h0] at hz hk
  obtain ⟨t2, a1, b1⟩ := kk T'.heap (locs ++ L) (by rw [e1]; exact hp)
    ⟨Nat.le_trans hS.1 (by rw [e1]; exact hz), fun q h1 h2 => by rw [e1, hk q (Nat.lt_of_lt_of_le h1 hS.1) h2]; exact hS.2.1 q h1 h2, fun q hq => by
      rcases List.mem_append.mp hq with h | h
      · exact hS.2.2 q h
      · exact hL q h⟩ T' rfl X'
  exact ⟨t2, st t2 a1, b1⟩
theorem qz_stk (n : Nat) (st : List qz_V) (f : qz_V → Value) : st.map f = ((qz_ag n st).map f).reverse ++ (st.drop n).map f := by
  unfold qz_ag
  rw [List.map_reverse, List.reverse_reverse, ← List.map_append, List.take_append_drop]
theorem qz_agl {n : Nat} {st : List qz_V} (h : n ≤ st.length) : (qz_ag n st).length = n := by
  unfold qz_ag
  rw [List.length_reverse, List.length_take]
  omega
theorem qz_rml {k' : Nat} (h : qz_co' k k' st = true) : qz_na k' ≤ st.length ∧ qz_wl (st.drop (qz_na k')) ≤ 8 ∧ qz_rF k' + 1 ≤ qz_rF k ∧ 8 + (qz_ml k' + 11) + qz_rL k' ≤ qz_rL k := by
  simp only [qz_co', Bool.and_eq_true, decide_eq_true_eq] at h
  exact ⟨h.1.1.1, h.1.1.2.2, h.1.2, h.2⟩
theorem qz_prm {k' : Nat} (hk : k' < qz_nm) (sig : MethodDescriptor) (h : parseMethodDescriptor (qz_y k').desc = some sig) : qz_na k' - (if qz_sa k' = true then 0 else 1) = sig.parameters.length := by
  have h2 := (qz_mo hk).2.2.2.2.1
  rw [h] at h2
  exact (Option.some.inj h2).symm
theorem qz_r_call (hC : qz_Cx p s m args meth c z tA D cy k) (hRF : qz_rF k ≤ R.frames) (hRL : qz_rL k ≤ R.locals) {ins : Instr} {k' : Nat} {r : Option qz_V} {M' : qz_M} (hd : decode (qz_b k) pc = .ok (ins, 3)) (hk : qz_kl k ins st = some k') (hvs : ∀ v ∈ st, qz_vk M.1 v) (hM : k' < qz_nm → (qz_ag (qz_na k') st).length = qz_na k' → qz_Mt l z tA D cy k' (qz_ag (qz_na k') st) M r M') (hle : qz_le M M') (hce : ce + (M'.1 - M.1) ≤ R.cells) (hsl : sl + (qz_ss M'.1 - qz_ss M.1) ≤ R.slots)
    (kk : qz_W p l e R s m args below meth c z tA D cy k Q (ce + (M'.1 - M.1)) (sl + (qz_ss M'.1 - qz_ss M.1)) (pc + 3) ls (r.toList ++ st.drop (qz_na k')) M') : qz_W p l e R s m args below meth c z tA D cy k Q ce sl pc ls st M := by
  intro H locs lsm hL hP hS hT
  have k1 : ∀ (H1 : Heap) (locs1 : List Loc), qz_P z tA D cy M' H1 → va_S (qz_A z) s.heap H1 locs1 → W p l e R s m args below meth c H1 locs1 (ce + (M'.1 - M.1)) (sl + (qz_ss M'.1 - qz_ss M.1)) Q (F0 m (pc + 3) lsm ((r.map (qz_tv z tA)).toList ++ (st.drop (qz_na k')).map (qz_tv z tA))) := by
    intro H1 locs1 h1 h2
    have := kk H1 locs1 lsm hL h1 h2 (hT.same hle.2)
    rw [List.map_append] at this
    cases r <;> exact this
  have hfix : ∀ w ∈ qz_tb, w.before args s = true := hC.2.2.2.2.1
  have hS' : CallFix p m c (qz_b k) (qz_ml k) s args qz_tb (qz_ow (qz_cn k)) := ⟨hC.1, hC.2.1, hC.2.2.1, hC.2.2.2.1, hfix⟩
  have key : ∀ i, qz_cl (qz_cn k) i = some k' → qz_co' k k' st = true → k' < qz_nm ∧ ((Cond.methodLink (qz_ow (qz_cn k)) i (qz_y k')).before args s = true ∨ va_Nw (.methodLinkNest (qz_ow (qz_cn k)) i (qz_y k') "ShiftBuses") s) := by
    intro i h _
    obtain ⟨h1, h2⟩ : k' < qz_nm ∧ (Cond.methodLink (qz_ow (qz_cn k)) i (qz_y k') ∈ qz_tb ∨ (qz_cn k, i, k') ∈ qz_ne) := qz_cl_ok h
    refine ⟨h1, ?_⟩
    rcases h2 with h2 | h2
    · left
      exact hfix (Cond.methodLink (qz_ow (qz_cn k)) i (qz_y k')) h2
    · right
      have h9 := hC.2.2.2.2.2.2.1.2.2.1 (qz_cn k, i, k') h2
      exact h9
  have roomW : 2 * (F0 m pc lsm (st.map (qz_tv z tA))).monitorRoom + (((st.drop (qz_na k')).map (qz_tv z tA)).map fun v => v.category).sum ≤ 8 ∨ ¬ qz_wl (st.drop (qz_na k')) ≤ 8 := by
    by_cases h : qz_wl (st.drop (qz_na k')) ≤ 8
    · exact Or.inl (lv_room (by rw [qz_tvs]; exact h))
    · exact Or.inr h
  have recv : ∀ (n0 : qz_N) (as : List qz_V), qz_ag (qz_na k') st = .inr (.inl (some n0)) :: as → n0.1 = qz_cn k' → qz_cn k' < 6 → ∃ cellB : Cell, H[qz_ad z tA n0]? = some cellB ∧ cellB.vm.isStatics = false ∧ s.vm.findClass (qz_ow (qz_cn k')) = some cellB.cls := by
    intro n0 as e1 e2 h7
    have hm : (.inr (.inl (some n0)) : qz_V) ∈ st := by
      have : (.inr (.inl (some n0)) : qz_V) ∈ qz_ag (qz_na k') st := by rw [e1]; exact List.mem_cons_self
      exact List.mem_of_mem_take (List.mem_reverse.mp this)
    obtain ⟨hv, hx⟩ := qz_dyn (hvs _ hm n0 rfl) (by omega)
    have hat := hP.2 n0 hv hx
    rw [show qz_ce z tA cy M n0 = .inr (n0.1, (List.range (qz_nf n0.1)).map (fun j => if qz_rf n0.1 j = true then va_rf ((M.2.2 n0 j).map (qz_ad z tA)) else .int (M.2.1 n0 j))) from if_pos (by omega)] at hat
    obtain ⟨c1, -⟩ := qz_co (c := n0.1) (by omega)
    have h9 := va_recv hC.2.2.2.2.2.2.1.1 (qz_one hat) (q0 := 0) c1 rfl
    rw [qz_ad_dyn (by omega), ← e2]
    exact h9
  unfold qz_kl at hk
  split at hk
  · next i =>
    split at hk
    · next k2 hcl =>
      split at hk
      · next hc =>
        cases hk
        obtain ⟨h1, h2, h3, h4⟩ := hc
        obtain ⟨hn, hlk⟩ := key i hcl h1
        obtain ⟨r1, r2, r3, r4⟩ := qz_rml h1
        obtain ⟨m1, m2, m3, m4, m5, m6, m7, m8, m9, m10⟩ := qz_mo hn
        obtain ⟨m7a, m7b, m7c, m7d⟩ := m7 h2
        have hM1 := hM hn (qz_agl r1)
        have hprm := qz_prm hn
        rw [h2] at hprm
        have hal := qz_agl r1
        have hst := qz_stk (qz_na k') st (qz_tv z tA)
        cases hag : qz_ag (qz_na k') st with
        | nil => rw [hag] at h4; cases h4
        | cons v as =>
          rw [hag] at h4 hM1 hst hal
          cases v with
          | inl x => cases h4
          | inr v => cases v with
           | inr x => cases h4
           | inl v => cases v with
            | none => cases h4
            | some n0 =>
              have h4 : n0.1 = qz_cn k' := by simpa [qz_rc] using h4
              have hrc := recv n0 as hag h4 m7c
              have hroom := roomW.resolve_right (fun q => q r2)
              have hsel : Cond.selects (qz_ow (qz_cn k')) (qz_y k') (qz_y k') ∈ qz_tb := m7b.resolve_left (fun q => by rw [h3] at q; cases q)
              have hstk : st.map (qz_tv z tA) = (as.map (qz_tv z tA)).reverse ++ Value.ref (qz_ad z tA n0) :: (st.drop (qz_na k')).map (qz_tv z tA) := by
                rw [hst]
                simp [qz_tv, va_rf]
              have hlen : (as.map (qz_tv z tA)).length = qz_na k' - 1 := by
                rw [List.length_map]
                simp only [List.length_cons] at hal
                omega
              have hb1 : (qz_rm k' (M'.1 - M.1) (qz_ss M'.1 - qz_ss M.1)).frames + 1 ≤ R.frames := Nat.le_trans r3 hRF
              have hb2 : 8 + (qz_ml k' + 11) + (qz_rm k' (M'.1 - M.1) (qz_ss M'.1 - qz_ss M.1)).locals ≤ R.locals := Nat.le_trans r4 hRL
              rcases hlk with hlk | hlk
              · exact qz_run (va_runV (As := as.map (qz_tv z tA)) (rest := (st.drop (qz_na k')).map (qz_tv z tA)) (n := qz_na k' - 1) hS' hM1
                  ⟨⟨rfl, rfl, hb1, hb2, qz_pay hn hfix, List.mem_cons_self, hfix _ m2, hfix _ m3, m4, hprm, hlk⟩, hfix _ m7a, hfix _ hsel⟩
                  ⟨qz_blind, hrc, fun U hU hW => qz_pre hC hP hS hT U hU hW⟩ rfl hlen (by rw [show (F0 m pc lsm (st.map (qz_tv z tA))).locals = lsm from rfl]; exact hL.2.1) hstk hroom hd ⟨hce, hsl⟩) hS k1
              · exact qz_run (va_runVN (As := as.map (qz_tv z tA)) (rest := (st.drop (qz_na k')).map (qz_tv z tA)) (n := qz_na k' - 1) hS' hM1
                  ⟨⟨⟨rfl, rfl, hb1, hb2, qz_pay hn hfix, List.mem_cons_self⟩, hfix _ m2, hfix _ m3, m4, hprm, va_Nw.use rfl hlk⟩, hfix _ m7a, hfix _ hsel⟩
                  ⟨qz_blind, hrc, fun U hU hW => qz_pre hC hP hS hT U hU hW⟩ rfl hlen (by rw [show (F0 m pc lsm (st.map (qz_tv z tA))).locals = lsm from rfl]; exact hL.2.1) hstk hroom hd ⟨hce, hsl⟩) hS k1
      · cases hk
    · cases hk
  · next i =>
    split at hk
    · next k2 hcl =>
      split at hk
      · next hc =>
        cases hk
        obtain ⟨h1, h2, h3, h4⟩ := hc
        obtain ⟨hn, hlk⟩ := key i hcl h1
        obtain ⟨r1, r2, r3, r4⟩ := qz_rml h1
        obtain ⟨m1, m2, m3, m4, m5, m6, m7, m8, m9, m10⟩ := qz_mo hn
        obtain ⟨m7a, m7b, m7c, m7d⟩ := m7 h2
        have hM1 := hM hn (qz_agl r1)
        have hprm := qz_prm hn
        rw [h2] at hprm
        have hal := qz_agl r1
        have hst := qz_stk (qz_na k') st (qz_tv z tA)
        have hnm : (qz_y k').name = "<init>" := by simpa [qz_ini] using h3
        have hrt : qz_rt k' = none := m10 h3
        have hcd : Cond.code (qz_y k') (qz_b k') (qz_ml k') none ∈ qz_ws k' := by rw [← hrt]; exact List.mem_cons_self
        have m2' : (Cond.code (qz_y k') (qz_b k') (qz_ml k') none).before args s = true := by rw [← hrt]; exact hfix _ m2
        cases hag : qz_ag (qz_na k') st with
        | nil => rw [hag] at h4; cases h4
        | cons v as =>
          rw [hag] at h4 hM1 hst hal
          cases v with
          | inl x => cases h4
          | inr v => cases v with
           | inr x => cases h4
           | inl v => cases v with
            | none => cases h4
            | some n0 =>
              have hroom := roomW.resolve_right (fun q => q r2)
              have hstk : st.map (qz_tv z tA) = (as.map (qz_tv z tA)).reverse ++ Value.ref (qz_ad z tA n0) :: (st.drop (qz_na k')).map (qz_tv z tA) := by
                rw [hst]
                simp [qz_tv, va_rf]
              have hlen : (as.map (qz_tv z tA)).length = qz_na k' - 1 := by
                rw [List.length_map]
                simp only [List.length_cons] at hal
                omega
              have hb1 : (qz_rm k' (M'.1 - M.1) (qz_ss M'.1 - qz_ss M.1)).frames + 1 ≤ R.frames := Nat.le_trans r3 hRF
              have hb2 : 8 + (qz_ml k' + 11) + (qz_rm k' (M'.1 - M.1) (qz_ss M'.1 - qz_ss M.1)).locals ≤ R.locals := Nat.le_trans r4 hRL
              rcases hlk with hlk | hlk
              · exact qz_run (va_runI (As := as.map (qz_tv z tA)) (rest := (st.drop (qz_na k')).map (qz_tv z tA)) (n := qz_na k' - 1) hS' hM1
                  ⟨⟨rfl, rfl, hb1, hb2, qz_pay hn hfix, hcd, m2', hfix _ m3, m4, hprm, hlk⟩, hnm, hfix _ m7a⟩
                  ⟨qz_blind, fun U hU hW => qz_pre hC hP hS hT U hU hW⟩ rfl hlen (by rw [show (F0 m pc lsm (st.map (qz_tv z tA))).locals = lsm from rfl]; exact hL.2.1) hstk hroom hd ⟨hce, hsl⟩) hS k1
              · exact qz_run (va_runIN (As := as.map (qz_tv z tA)) (rest := (st.drop (qz_na k')).map (qz_tv z tA)) (n := qz_na k' - 1) hS' hM1
                  ⟨⟨⟨rfl, rfl, hb1, hb2, qz_pay hn hfix, hcd⟩, m2', hfix _ m3, m4, hprm, va_Nw.use rfl hlk⟩, hnm, hfix _ m7a⟩
                  ⟨qz_blind, fun U hU hW => qz_pre hC hP hS hT U hU hW⟩ rfl hlen (by rw [show (F0 m pc lsm (st.map (qz_tv z tA))).locals = lsm from rfl]; exact hL.2.1) hstk hroom hd ⟨hce, hsl⟩) hS k1
      · cases hk
    · cases hk
  · next i =>
    split at hk
    · next k2 hcl =>
      split at hk
      · next hc =>
        cases hk
        obtain ⟨h1, h2⟩ := hc
        obtain ⟨hn, hlk⟩ := key i hcl h1
        obtain ⟨r1, r2, r3, r4⟩ := qz_rml h1
        obtain ⟨m1, m2, m3, m4, m5, m6, m7, m8, m9, m10⟩ := qz_mo hn
        have hM1 := hM hn (qz_agl r1)
        have hprm := qz_prm hn
        rw [h2] at hprm
        have hal := qz_agl r1
        have hst := qz_stk (qz_na k') st (qz_tv z tA)
        have hroom := roomW.resolve_right (fun q => q r2)
        have hlen : ((qz_ag (qz_na k') st).map (qz_tv z tA)).length = qz_na k' - 0 := by
          rw [List.length_map, hal]
          rfl
        have hb1 : (qz_rm k' (M'.1 - M.1) (qz_ss M'.1 - qz_ss M.1)).frames + 1 ≤ R.frames := Nat.le_trans r3 hRF
        have hb2 : 8 + (qz_ml k' + 11) + (qz_rm k' (M'.1 - M.1) (qz_ss M'.1 - qz_ss M.1)).locals ≤ R.locals := Nat.le_trans r4 hRL
        rcases hlk with hlk | hlk
        · exact qz_run (va_runS (As := (qz_ag (qz_na k') st).map (qz_tv z tA)) (rest := (st.drop (qz_na k')).map (qz_tv z tA)) (n := qz_na k' - 0) hS' hM1
            ⟨⟨rfl, rfl, hb1, hb2, qz_pay hn hfix, List.mem_cons_self, hfix _ m2, hfix _ m3, m4, hprm, hlk⟩, hfix _ (m6 h2)⟩
            ⟨qz_blind, fun U hU hW => qz_pre hC hP hS hT U hU hW⟩ rfl hlen (by rw [show (F0 m pc lsm (st.map (qz_tv z tA))).locals = lsm from rfl]; exact hL.2.1) hst hroom hd ⟨hce, hsl⟩) hS k1
        · exact qz_run (va_runSN (As := (qz_ag (qz_na k') st).map (qz_tv z tA)) (rest := (st.drop (qz_na k')).map (qz_tv z tA)) (n := qz_na k' - 0) hS' hM1
            ⟨⟨⟨rfl, rfl, hb1, hb2, qz_pay hn hfix, List.mem_cons_self⟩, hfix _ m2, hfix _ m3, m4, hprm, va_Nw.use rfl hlk⟩, hfix _ (m6 h2), trivial⟩
            ⟨qz_blind, fun U hU hW => qz_pre hC hP hS hT U hU hW⟩ rfl hlen (by rw [show (F0 m pc lsm (st.map (qz_tv z tA))).locals = lsm from rfl]; exact hL.2.1) hst hroom hd ⟨hce, hsl⟩) hS k1
      · cases hk
    · cases hk
  · cases hk
end QZC
