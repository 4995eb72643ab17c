/-! THE CLAIM OUT OF ONE WALK OF THE LAW'S BODY. Your part is whole_start (and what it stands on); all else here is the same for every law, but numbers. -/
def R_law : String := "ShiftBusesLaw"
def lw_P (b : Addr) (xs : List Int32) (args : Array Value) (s : State) : Prop := args = #[.ref b] ∧ s.IntsAt b xs ∧ xs.length ≤ 260 ∧ (Jvm.Cond.and given_1 narrow_1).before args s = true
def lw_Q (_ : Array Value) (s : State) (o : Outcome) (t : State) : Prop := o = .returned (some (.int 1)) ∧ Framed s o t [] 600000 7302250
def lw_Z (below : List Frame) (a : Array Value) (s : State) : State → Prop := fun t => ∃ o, t.status = .running ∧ Ended t below o ∧ lw_Q a s o t
/-- the law's own end, with 1 on the stack, nothing written that was there before, its room as the claim has it -/
theorem lw_ret {p : Program} {l : Launch} {e : Env} {s : State} {m : MethodId} {below : List Frame} {meth : Method} {c : Code} {b : Nat} (hx : p.tables.exec = Jvm.exec) (hb : c.code = code) (hr : meth.sig.returnType = ret) (hlocks : meth.locks = false) {pc : Nat} {H : Heap} {ls : Array Slot} (hdg : decode code pc = .ok (.ireturn, 1)) : W p l e room_1 s m #[Value.ref b] below meth c H [] 600000 7302250 (lw_Z below #[Value.ref b] s) (F0 m pc ls [.int 1]) := by
  intro T hT X
  obtain ⟨fs, hret, hrun, hended, hW, hframe⟩ := X.leave (v := some (.int 1)) (hlocks := hlocks) (fun h => by rw [hr] at h; cases h)
  have hmeth' : T.vm.method? m = some meth := X.method'
  refine ⟨T.setFrames fs, ?_, .returned (some (.int 1)), hrun, hended, rfl, ⟨_, rfl⟩, hW, hframe⟩
  jvm_step X.here [X.here.top, hx, hb, hdg, hmeth', hr, ret, narrow_b1]
  (try refine ⟨rfl, ?_⟩); (try refine ⟨rfl, ?_⟩)
  first | (intro acts; rw [hret _ acts rfl rfl rfl]) | rw [hret _ _ rfl rfl rfl]
  exact Steps.refl _
/-- what holds at the law's entry: the machine, the code, the tables' words (any of lw_tbl by 'hts w (by decide +kernel)'), the script of L ints xs at the cell b, what the Statement gives of the start (any of its parts by flat_of_before) -/
def lw_At (p : Program) (s : State) (m : MethodId) (meth : Method) (c : Code) (b L : Nat) (xs : Nat → Int32) : Prop :=
  p.tables.exec = Jvm.exec ∧ c.code = code ∧ meth.sig.returnType = ret ∧ c.maxLocals = 17 ∧ s.vm.findClass R_law = some m.cls ∧ (∀ w ∈ lw_tbl, w.before #[Value.ref b] s = true) ∧ va_X b L xs s s.heap ∧ b < s.heap.size ∧ meth.locks = false ∧ (Jvm.Cond.and given_1 narrow_1).before #[Value.ref b] s = true
/-! the law's start is the interpreter's -/
def qz_g30 (j : Nat) : Int32 := if j = 0 then 5 else if j = 1 then 6 else if j = 2 then 30 else 90
def qz_g31 (j : Nat) : Int32 := if j = 0 then 1 else if j = 1 then 1 else if j = 2 then 0 else 10
def qz_g32 (j : Nat) : Int32 := if j = 0 then 20 else if j = 1 then 30 else if j = 2 then 120 else 300
def qz_F0 (L : Nat) (xs : Nat → Int32) (n : qz_N) (j : Nat) : Int32 :=
  if n = (30, 0, 0) then qz_g30 j else if n = (31, 0, 0) then qz_g31 j else if n = (32, 0, 0) then qz_g32 j
  else if n = (33, 0, 0) then xs j else if n = (33, 1, 0) then Int32.ofNat L else 0
theorem qz_F30 (L : Nat) (xs : Nat → Int32) : qz_F0 L xs (30, 0, 0) = qz_g30 := by funext j; simp [qz_F0]
theorem qz_F31 (L : Nat) (xs : Nat → Int32) : qz_F0 L xs (31, 0, 0) = qz_g31 := by funext j; simp [qz_F0]
theorem qz_F32 (L : Nat) (xs : Nat → Int32) : qz_F0 L xs (32, 0, 0) = qz_g32 := by funext j; simp [qz_F0]
theorem qz_F33 (L : Nat) (xs : Nat → Int32) : qz_F0 L xs (33, 0, 0) = xs := by funext j; simp [qz_F0]
theorem qz_F331 (L : Nat) (xs : Nat → Int32) : qz_F0 L xs (33, 1, 0) 0 = Int32.ofNat L := by simp [qz_F0]
def qz_M0 (L : Nat) (xs : Nat → Int32) : qz_M := (0, qz_F0 L xs, fun _ _ => none)
abbrev qz_lw : Nat := 75
/-- what is left: the interpreter runs the law to 1 -/
def qz_Pure : Prop := ∀ (L : Nat) (xs : Nat → Int32), L ≤ 260 → ∃ (n : Nat) (M' : qz_M), qz_ex n qz_lw 0 (qz_in0 qz_lw [.inr (.inl (some (33, 0, 0)))]) [] (qz_M0 L xs) = some (some (.inl 1), M') ∧ M'.1 ≤ 600000 ∧ qz_ss M'.1 ≤ 7302250
theorem qz_cyk {s : State} {args : Array Value} (hts : ∀ w ∈ lw_tbl, w.before args s = true) : ∃ cy : Nat → ClassId, ∀ t : Nat, 1 ≤ t → t < 7 → ¬ t = 3 → ArrOfT s (cy t) (qz_ft t) ∧ va_RA s (cy t) (qz_ft t) := by
  have hg : ∀ w ∈ qz_tb, w.before args s = true := fun w hw => hts w (List.mem_filter.mp hw).1
  obtain ⟨c1, k1, m1, a1, b1, d1⟩ := Cond.arrayClass_spec (hg _ qz_ac_int)
  obtain ⟨c2, k2, m2, a2, b2, d2⟩ := Cond.arrayClass_spec (hg _ qz_ac_char)
  obtain ⟨m4, c4, k4, f4, -, b4, d4, a4⟩ := Cond.arrayOver_spec (hts _ (List.mem_of_getElem? qz_ao_Booking))
  obtain ⟨m5, c5, k5, f5, -, b5, d5, a5⟩ := Cond.arrayOver_spec (hts _ (List.mem_of_getElem? qz_ao_Wish))
  obtain ⟨m6, c6, k6, f6, -, b6, d6, a6⟩ := Cond.arrayOver_spec (hts _ (List.mem_of_getElem? qz_ao_Works))
  refine ⟨fun t => if t = 1 then c1 else if t = 2 then c2 else if t = 4 then c4 else if t = 5 then c5 else c6, fun t h1 h7 h3 => ?_⟩
  have hc : t = 1 ∨ t = 2 ∨ t = 4 ∨ t = 5 ∨ t = 6 := by omega
  rcases hc with rfl | rfl | rfl | rfl | rfl
  · exact ⟨fun n z => ⟨fun k h => (by cases h), k1, b1, m1, d1⟩, a1⟩
  · exact ⟨fun n z => ⟨fun k h => (by cases h), k2, b2, m2, d2⟩, a2⟩
  · exact ⟨fun n z => ⟨fun k h => (by cases h), k4, b4, m4, d4⟩, k4, m4, b4, d4, f4, a4⟩
  · exact ⟨fun n z => ⟨fun k h => (by cases h), k5, b5, m5, d5⟩, k5, m5, b5, d5, f5, a5⟩
  · exact ⟨fun n z => ⟨fun k h => (by cases h), k6, b6, m6, d6⟩, k6, m6, b6, d6, f6, a6⟩
theorem qz_dk {s : State} {args : Array Value} (hts : ∀ w ∈ lw_tbl, w.before args s = true) : ∃ D : va_G, ∀ (c : Nat) (q : vw_C), vwCl[c]? = some q → u_Kn s q.1 q.2.1 q.2.2 (D.1 c) (D.2 c) := by
  have hg : ∀ w ∈ qz_tb, w.before args s = true := fun w hw => hts w (List.mem_filter.mp hw).1
  have h : ∀ c : Nat, ∃ (cC : ClassId) (iS : Nat → Nat), c < 6 → u_Kn s (qz_ow c) (qz_T c) (qz_nf c) cC iS := by
    intro c
    by_cases hc : c < 6
    · obtain ⟨c1, c2, c3, c4, c5, c6, c7⟩ := qz_co hc
      obtain ⟨cC, iS, h⟩ := u_known (C := qz_ow c) (T := qz_T c) (N := qz_nf c) hg c2 (hg _ c5)
      exact ⟨cC, iS, fun _ => h⟩
    · exact ⟨0, fun _ => 0, fun h => absurd h hc⟩
  refine ⟨(fun c => Classical.choose (h c), fun c => Classical.choose (Classical.choose_spec (h c))), fun c q hq => ?_⟩
  have hc : c < 6 := (List.getElem?_eq_some_iff.mp hq).1
  have e := (qz_co hc).1.symm.trans hq
  cases e
  exact Classical.choose_spec (Classical.choose_spec (h c)) hc
theorem qz_tab {s : State} {args : Array Value} {nme : String} {A : Nat → Prop} (f : Nat → Int32) (harr : (Cond.arrayOf (.static RX5 nme "[I") .int).before args s = true) (hlen : (Cond.eq (.length (.static RX5 nme "[I")) (.int 4)).before args s = true) (h0 : (Cond.eq (.elem (.static RX5 nme "[I") (.int 0)) (.int (f 0))).before args s = true) (h1 : (Cond.eq (.elem (.static RX5 nme "[I") (.int 1)) (.int (f 1))).before args s = true) (h2 : (Cond.eq (.elem (.static RX5 nme "[I") (.int 2)) (.int (f 2))).before args s = true) (h3 : (Cond.eq (.elem (.static RX5 nme "[I") (.int 3)) (.int (f 3))).before args s = true) (hA : ∀ a : Nat, a < s.heap.size → ¬ A a) : ∃ t : Nat, (Term.static RX5 nme "[I").eval args s none [] s = some (.ref t) ∧ va_T .int t 4 (fun j => .int (f j)) A s s.heap := by
  refine va_Tof (N := 4) (by decide) harr (va_eqt hlen) (fun j hj => ?_) hA
  have hc : j = 0 ∨ j = 1 ∨ j = 2 ∨ j = 3 := by omega
  rcases hc with rfl | rfl | rfl | rfl
  · exact va_eqt h0
  · exact va_eqt h1
  · exact va_eqt h2
  · exact va_eqt h3
theorem qz_law_rv {ins : Instr} {st : List qz_V} {r : Option qz_V} (h : qz_rv qz_lw ins st = some r) (hr : r = some (.inl 1)) : ins = .ireturn ∧ st = [.inl 1] := by
  unfold qz_rv at h
  subst hr
  split at h
  · split at h
    · split at h
      · cases h
        exact ⟨rfl, rfl⟩
      · cases h
    · cases h
  · split at h
    · split at h
      · cases h
      · cases h
    · cases h
  · split at h
    · split at h
      · cases h
      · cases h
    · cases h
  · split at h
    · split at h
      · cases h
      · cases h
    · cases h
  · cases h
theorem qz_whole (hpure : qz_Pure) {p : Program} {e : Env} {s : State} {m : MethodId} {below : List Frame} {meth : Method} {c : Code} (l : Launch) {b L : Nat} {xs : Nat → Int32} (hL : L ≤ 260) (C0 : lw_At p s m meth c b L xs) : W p l e room_1 s m #[Value.ref b] below meth c s.heap [] 0 0 (lw_Z below #[Value.ref b] s) (entryFrame m ([Value.ref b] : List Value).toArray 17) := by
  obtain ⟨hx, hb, hr, hml, hown, hts, hX, hbl, hlocks, hgv⟩ := id C0
  have hg : ∀ w ∈ qz_tb, w.before #[Value.ref b] s = true := fun w hw => hts w (List.mem_filter.mp hw).1
  have hs := flat_of_before _ hgv
  have hA : ∀ a : Nat, a < s.heap.size → ¬ qz_A s.heap.size a := fun a h q => absurd h (Nat.not_lt.mpr q)
  obtain ⟨cy, hcy⟩ := qz_cyk hts
  obtain ⟨D, hD⟩ := qz_dk hts
  obtain ⟨t0, e0, T0⟩ := qz_tab (nme := "FIRST_SETTINGS") (A := qz_A s.heap.size) qz_g30 (hs _ (by decide +kernel)) (hs _ (by decide +kernel)) (hs _ (by decide +kernel)) (hs _ (by decide +kernel)) (hs _ (by decide +kernel)) (hs _ (by decide +kernel)) hA
  obtain ⟨t1, e1, T1⟩ := qz_tab (nme := "LEAST_SETTINGS") (A := qz_A s.heap.size) qz_g31 (hs _ (by decide +kernel)) (hs _ (by decide +kernel)) (hs _ (by decide +kernel)) (hs _ (by decide +kernel)) (hs _ (by decide +kernel)) (hs _ (by decide +kernel)) hA
  obtain ⟨t2, e2, T2⟩ := qz_tab (nme := "MOST_SETTINGS") (A := qz_A s.heap.size) qz_g32 (hs _ (by decide +kernel)) (hs _ (by decide +kernel)) (hs _ (by decide +kernel)) (hs _ (by decide +kernel)) (hs _ (by decide +kernel)) (hs _ (by decide +kernel)) hA
  have hini : (Cond.initialized RX5).before #[Value.ref b] s = true := hg _ qz_co5.2.2.2.2.2.1
  have Z0 := va_Zof (hts _ (List.mem_of_getElem? qz_ls_30)) hini e0 hA
  have Z1 := va_Zof (hts _ (List.mem_of_getElem? qz_ls_31)) hini e1 hA
  have Z2 := va_Zof (hts _ (List.mem_of_getElem? qz_ls_32)) hini e2 hA
  obtain ⟨tA, hA0, hA1, hA2, hA3⟩ : ∃ tA : Nat → Nat, tA 30 = t0 ∧ tA 31 = t1 ∧ tA 32 = t2 ∧ tA 33 = b := ⟨fun k => if k = 30 then t0 else if k = 31 then t1 else if k = 32 then t2 else b, rfl, rfl, rfl, rfl⟩
  have hK : qz_Kx s.heap.size tA D cy s := by
    refine ⟨⟨hD, fun k q hq => ?_⟩, fun k h1 h2 => ?_, fun q hq => ?_, va_Nw.of rfl (hts _ (List.mem_of_getElem? qz_nf_4_22)), va_AO.of (hts _ (List.mem_of_getElem? qz_ao_Booking)), va_AO.of (hts _ (List.mem_of_getElem? qz_ao_Wish)), va_AO.of (hts _ (List.mem_of_getElem? qz_ao_Works))⟩
    · have hk : k < 5 := (List.getElem?_eq_some_iff.mp hq).1
      have hc : k = 0 ∨ k = 1 ∨ k = 2 ∨ k = 3 ∨ k = 4 := by omega
      rcases hc with rfl | rfl | rfl | rfl | rfl <;> cases hq
      · exact hcy 1 (by omega) (by omega) (by omega)
      · exact hcy 2 (by omega) (by omega) (by omega)
      · exact hcy 4 (by omega) (by omega) (by omega)
      · exact hcy 5 (by omega) (by omega) (by omega)
      · exact hcy 6 (by omega) (by omega) (by omega)
    · have hc : k = 30 ∨ k = 31 ∨ k = 32 := by omega
      rcases hc with rfl | rfl | rfl
      · rw [hA0]; exact Z0
      · rw [hA1]; exact Z1
      · rw [hA2]; exact Z2
    · rcases List.mem_cons.mp hq with rfl | hq
      · exact va_Nw.of rfl (hts _ (List.mem_of_getElem? qz_nl_1_28))
      · rcases List.mem_cons.mp hq with rfl | hq
        · exact va_Nw.of rfl (hts _ (List.mem_of_getElem? qz_nl_4_55))
        · rcases List.mem_cons.mp hq with rfl | hq
          · exact va_Nw.of rfl (hts _ (List.mem_of_getElem? qz_nl_4_132))
          · cases hq
  have hC : qz_Cx p s m #[Value.ref b] meth c s.heap.size tA D cy qz_lw := ⟨hx, hb, hml, hown, hg, fun h => absurd h (by decide +kernel), hK, Nat.le_refl _⟩
  have hT : qz_St s.heap.size tA (qz_F0 L xs) s := by
    intro k h1 h2
    have hc : k = 30 ∨ k = 31 ∨ k = 32 ∨ k = 33 := by omega
    rcases hc with rfl | rfl | rfl | rfl
    · rw [hA0, qz_F30]; exact T0
    · rw [hA1, qz_F31]; exact T1
    · rw [hA2, qz_F32]; exact T2
    · rw [hA3, qz_F33]
      obtain ⟨scr, g1, g2, g3, g4, g5⟩ := hX
      have hl : qz_ln (qz_F0 L xs) (33, 0, 0) = L := by
        show (qz_F0 L xs (33, 1, 0) 0).toNatClampNeg = L
        rw [qz_F331]
        exact Int32.toNatClampNeg_ofNat_of_lt (by omega)
      rw [hl]
      exact ⟨scr, g1, g2, g3, by omega, by rw [g4], fun j hj => g5 j hj, hA b hbl⟩
  obtain ⟨n, M', hex, hM1, hM2⟩ := hpure L xs hL
  have hP : qz_P s.heap.size tA D cy (qz_M0 L xs) s.heap := ⟨rfl, fun n _ h => absurd h (Nat.not_lt_zero _)⟩
  have hok : qz_ok (qz_in0 qz_lw [.inr (.inl (some (33, 0, 0)))]) [] (qz_M0 L xs) := by
    have w1 : qz_WM (qz_M0 L xs) := fun n j n' h => by
      have h : (none : Option qz_N) = some n' := h
      cases h
    have w2 : ∀ v : qz_V, some v ∈ qz_in0 qz_lw [.inr (.inl (some (33, 0, 0)))] → qz_vk (qz_M0 L xs).1 v := by
      intro v hv n hn
      subst hn
      refine Or.inr ?_
      unfold qz_in0 at hv
      rcases List.mem_append.mp hv with hv | hv
      · simp at hv
        subst hv
        rfl
      · cases (List.mem_replicate.mp hv).2
    exact ⟨w1, w2, fun v hv => by cases hv⟩
  have hw := qz_walk (R := room_1) (below := below) (l := l) (e := e) (Q := lw_Z below #[Value.ref b] s) (N := n) hC (by decide +kernel) (by decide +kernel) (fun j _ => qz_sim l s.heap.size tA D cy j) n (Nat.le_refl _) 0 _ [] _ 0 0 hex hok (by show 0 + (M'.1 - 0) ≤ 600000; omega) (by show 0 + (qz_ss M'.1 - 0) ≤ 7302250; omega)
    (fun H locs lsm pc ins st hd hv hP' hS' => by
      obtain ⟨h1, h2⟩ := qz_law_rv hv rfl
      subst h1
      subst h2
      refine va_forget (fun q hq => hS'.2.2 q hq) ?_
      refine W.widen (k := 600000) (n := 7302250) (by show 0 + (M'.1 - 0) ≤ 600000; omega) (by show 0 + (qz_ss M'.1 - 0) ≤ 7302250; omega) ?_
      exact lw_ret hx hb hr hlocks hd)
  have hst := qz_L.start (z := s.heap.size) (tA := tA) [.inr (.inl (some (33, 0, 0)))] 17 34 (by decide) (by decide) rfl
  have eb : ([.inr (.inl (some (33, 0, 0)))] : List qz_V).map (qz_tv s.heap.size tA) = [Value.ref b] := by
    show [Value.ref (tA 33)] = _
    rw [hA3]
  rw [eb] at hst
  rw [lg_entry_eq]
  exact hw s.heap [] _ hst hP va_S.rf hT
