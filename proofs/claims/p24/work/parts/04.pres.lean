/-! the interpreter keeps its references well made -/
def qz_sa' (n : qz_N) : Bool := decide (30 ≤ n.1) && (decide (n.1 ≤ 33) && (n.2.1 == 0 && n.2.2 == 0))
def qz_lv (o : Nat) (n : qz_N) : Prop := (n.1 < 30 ∧ qz_vl n = true ∧ qz_ix n < o) ∨ qz_sa' n = true
def qz_vk (o : Nat) (v : qz_V) : Prop := ∀ n, v = .inr (.inl (some n)) → qz_lv o n
def qz_WM (M : qz_M) : Prop := ∀ n j n', M.2.2 n j = some n' → qz_lv M.1 n'
def qz_ok (ls : List (Option qz_V)) (st : List qz_V) (M : qz_M) : Prop := qz_WM M ∧ (∀ v, some v ∈ ls → qz_vk M.1 v) ∧ ∀ v ∈ st, qz_vk M.1 v
def qz_le (M M' : qz_M) : Prop := M.1 ≤ M'.1 ∧ ∀ n : qz_N, 30 ≤ n.1 → M'.2.1 n = M.2.1 n
theorem qz_le.rf {M : qz_M} : qz_le M M := ⟨Nat.le_refl _, fun _ _ => rfl⟩
theorem qz_le.tr {M M' M'' : qz_M} (h : qz_le M M') (h' : qz_le M' M'') : qz_le M M'' := ⟨Nat.le_trans h.1 h'.1, fun n hn => (h'.2 n hn).trans (h.2 n hn)⟩
theorem qz_lv.up {o o' : Nat} {n : qz_N} (h : qz_lv o n) (ho : o ≤ o') : qz_lv o' n := h.elim (fun h => Or.inl ⟨h.1, h.2.1, Nat.lt_of_lt_of_le h.2.2 ho⟩) Or.inr
theorem qz_vk.up {o o' : Nat} {v : qz_V} (h : qz_vk o v) (ho : o ≤ o') : qz_vk o' v := fun n hn => (h n hn).up ho
theorem qz_vki {o : Nat} {x : Int32} : qz_vk o (.inl x) := fun n h => by cases h
theorem qz_vkn {o : Nat} : qz_vk o (.inr (.inl none)) := fun n h => by cases h
theorem qz_vkl {o : Nat} {x : Int64} : qz_vk o (.inr (.inr x)) := fun n h => by cases h
theorem qz_vkr {o : Nat} {r : Option qz_N} (h : ∀ n, r = some n → qz_lv o n) : qz_vk o (.inr (.inl r)) := fun n e => h n (by cases e; rfl)
theorem qz_ok.push {ls : List (Option qz_V)} {st : List qz_V} {M : qz_M} {v : qz_V} (h : qz_ok ls st M) (hv : qz_vk M.1 v) : qz_ok ls (v :: st) M := ⟨h.1, h.2.1, fun w hw => (List.mem_cons.mp hw).elim (fun e => e ▸ hv) (h.2.2 w)⟩
theorem qz_ok.sub {ls : List (Option qz_V)} {st st' : List qz_V} {M : qz_M} (h : qz_ok ls st M) (hs : ∀ v ∈ st', v ∈ st) : qz_ok ls st' M := ⟨h.1, h.2.1, fun w hw => h.2.2 w (hs w hw)⟩
theorem qz_ok.pop {ls : List (Option qz_V)} {st : List qz_V} {M : qz_M} {v : qz_V} (h : qz_ok ls (v :: st) M) : qz_ok ls st M := h.sub (fun _ h => List.mem_cons_of_mem _ h)
theorem qz_ok.hd {ls : List (Option qz_V)} {st : List qz_V} {M : qz_M} {v : qz_V} (h : qz_ok ls (v :: st) M) : qz_vk M.1 v := h.2.2 v List.mem_cons_self
theorem qz_ok.set {ls : List (Option qz_V)} {st : List qz_V} {M : qz_M} {v : qz_V} (h : qz_ok ls st M) (hv : qz_vk M.1 v) (k : Nat) : qz_ok (ls.set k (some v)) st M := ⟨h.1, fun w hw => (List.mem_or_eq_of_mem_set hw).elim (h.2.1 w) (fun e => by cases e; exact hv), h.2.2⟩
theorem qz_ok.sl {ls : List (Option qz_V)} {st : List qz_V} {M : qz_M} {nL : Nat} {x : Int64} (h : qz_ok ls st M) (k : Nat) : qz_ok (qz_sl' nL k ls x) st M := by
  refine ⟨h.1, fun w hw => ?_, h.2.2⟩
  unfold qz_sl' at hw
  rcases List.mem_or_eq_of_mem_set hw with hw | e
  · rcases List.mem_or_eq_of_mem_set hw with hw | e
    · rcases List.mem_or_eq_of_mem_set hw with hw | e
      · exact h.2.1 w hw
      · cases e
    · cases e
  · cases e
    exact qz_vkl
theorem qz_ok.ui {ls : List (Option qz_V)} {st : List qz_V} {M : qz_M} (h : qz_ok ls st M) (n : qz_N) (j : Nat) (x : Int32) : qz_ok ls st (qz_ui M n j x) := h
theorem qz_ok.ur {ls : List (Option qz_V)} {st : List qz_V} {M : qz_M} (h : qz_ok ls st M) (n : qz_N) (j : Nat) {x : Option qz_N} (hx : qz_vk M.1 (.inr (.inl x))) : qz_ok ls st (qz_ur M n j x) := by
  refine ⟨fun n' j' m hm => ?_, h.2⟩
  have hm : (if n' = n ∧ j' = j then x else M.2.2 n' j') = some m := hm
  split at hm
  · exact hx m (by rw [hm])
  · exact h.1 n' j' m hm
theorem qz_ok.al {ls : List (Option qz_V)} {st : List qz_V} {M : qz_M} (h : qz_ok ls st M) (hv : qz_vl (qz_nm' M.1) = true) (hi : qz_ix (qz_nm' M.1) = M.1) : qz_ok ls (.inr (.inl (some (qz_nm' M.1))) :: st) (qz_al' M) := by
  have ho : M.1 ≤ M.1 + 1 := Nat.le_succ _
  refine ⟨fun n' j' m hm => ?_, fun v hw => (h.2.1 v hw).up ho, fun v hw => ?_⟩
  · have hm : (if n' = qz_nm' M.1 then none else M.2.2 n' j') = some m := hm
    split at hm
    · cases hm
    · exact (h.1 n' j' m hm).up ho
  · rcases List.mem_cons.mp hw with rfl | hw
    · intro n e
      cases e
      exact Or.inl ⟨by have := qz_vl_lt hv; omega, hv, by rw [hi]; exact Nat.lt_succ_self _⟩
    · exact (h.2.2 v hw).up ho
theorem qz_le_ui {M : qz_M} {n : qz_N} (hn : n.1 < 30) (j : Nat) (x : Int32) : qz_le M (qz_ui M n j x) := by
  refine ⟨Nat.le_refl _, fun n' hn' => ?_⟩
  funext j'
  show (if n' = n ∧ j' = j then x else M.2.1 n' j') = _
  rw [if_neg]
  rintro ⟨rfl, -⟩
  omega
theorem qz_le_ur {M : qz_M} {n : qz_N} (j : Nat) (x : Option qz_N) : qz_le M (qz_ur M n j x) := ⟨Nat.le_refl _, fun _ _ => rfl⟩
theorem qz_le_al {M : qz_M} (hv : qz_vl (qz_nm' M.1) = true) : qz_le M (qz_al' M) := by
  refine ⟨Nat.le_succ _, fun n' hn' => ?_⟩
  funext j'
  show (if n' = qz_nm' M.1 then 0 else M.2.1 n' j') = _
  rw [if_neg]
  rintro rfl
  have := qz_vl_lt hv
  omega
theorem qz_dyn {o : Nat} {n : qz_N} (h : qz_lv o n) (hn : n.1 < 30) : qz_vl n = true ∧ qz_ix n < o := by
  rcases h with h | h
  · exact h.2
  · simp [qz_sa'] at h
    omega
theorem qz_pk {pc pc' : Nat} {ls ls' : List (Option qz_V)} {st st' : List qz_V} {M M' : qz_M} (h : some (pc, ls, st, M) = some (pc', ls', st', M')) (hk : qz_ok ls st M) {M0 : qz_M} (hl : qz_le M0 M) : qz_ok ls' st' M' ∧ qz_le M0 M' := by
  cases h
  exact ⟨hk, hl⟩
/-- a step -/
theorem qz_sp_ok {c nL : Nat} {ini : Bool} {ins : Instr} {pc pc' : Nat} {ls ls' : List (Option qz_V)} {st st' : List qz_V} {M M' : qz_M} (hs : qz_sp c nL ini ins pc ls st M = some (pc', ls', st', M')) (h : qz_ok ls st M) : qz_ok ls' st' M' ∧ qz_le M M' := by
  have bn : ∀ {f}, qz_bn f pc ls st M = some (pc', ls', st', M') → qz_ok ls' st' M' ∧ qz_le M M' := by
    intro f hs
    unfold qz_bn at hs
    split at hs
    · exact qz_pk hs (h.pop.pop.push qz_vki) .rf
    · cases hs
  have br : ∀ {b off st1}, qz_ok ls st1 M → qz_br b pc off ls st1 M = some (pc', ls', st', M') → qz_ok ls' st' M' ∧ qz_le M M' := by
    intro b off st1 h1 hs
    unfold qz_br at hs
    split at hs
    · split at hs
      · exact qz_pk hs h1 .rf
      · exact qz_pk hs h1 .rf
    · cases hs
  have li : ∀ {k n}, qz_li k n pc ls st M = some (pc', ls', st', M') → qz_ok ls' st' M' ∧ qz_le M M' := by
    intro k n hs
    unfold qz_li at hs
    split at hs
    · exact qz_pk hs (h.push qz_vki) .rf
    · cases hs
  have la : ∀ {k n}, qz_la k n pc ls st M = some (pc', ls', st', M') → qz_ok ls' st' M' ∧ qz_le M M' := by
    intro k n hs
    unfold qz_la at hs
    split at hs
    · next x hx => exact qz_pk hs (h.push (h.2.1 _ (List.mem_of_getElem? hx))) .rf
    · cases hs
  have si : ∀ {k n}, qz_si nL k n pc ls st M = some (pc', ls', st', M') → qz_ok ls' st' M' ∧ qz_le M M' := by
    intro k n hs
    unfold qz_si at hs
    split at hs
    · split at hs
      · exact qz_pk hs (h.pop.set qz_vki k) .rf
      · cases hs
    · cases hs
  have sr : ∀ {k n}, qz_sr nL k n pc ls st M = some (pc', ls', st', M') → qz_ok ls' st' M' ∧ qz_le M M' := by
    intro k n hs
    unfold qz_sr at hs
    split at hs
    · split at hs
      · exact qz_pk hs (h.pop.set h.hd k) .rf
      · cases hs
    · cases hs
  have bl : ∀ {f}, qz_bl' f pc ls st M = some (pc', ls', st', M') → qz_ok ls' st' M' ∧ qz_le M M' := by
    intro f hs
    unfold qz_bl' at hs
    split at hs
    · exact qz_pk hs (h.pop.pop.push qz_vkl) .rf
    · cases hs
  have ll : ∀ {k n}, qz_ll' nL k n pc ls st M = some (pc', ls', st', M') → qz_ok ls' st' M' ∧ qz_le M M' := by
    intro k n hs
    unfold qz_ll' at hs
    split at hs
    · exact qz_pk hs (h.push qz_vkl) .rf
    · cases hs
  have sl : ∀ {k n}, qz_sl nL k n pc ls st M = some (pc', ls', st', M') → qz_ok ls' st' M' ∧ qz_le M M' := by
    intro k n hs
    unfold qz_sl at hs
    split at hs
    · split at hs
      · exact qz_pk hs (h.pop.sl k) .rf
      · cases hs
    · cases hs
  have ld : ∀ {t}, qz_ld t pc ls st M = some (pc', ls', st', M') → qz_ok ls' st' M' ∧ qz_le M M' := by
    intro t hs
    unfold qz_ld at hs
    split at hs
    · split at hs
      · exact qz_pk hs (h.pop.pop.push qz_vki) .rf
      · cases hs
    · cases hs
  have sd : ∀ {t f}, qz_sd t f pc ls st M = some (pc', ls', st', M') → qz_ok ls' st' M' ∧ qz_le M M' := by
    intro t f hs
    unfold qz_sd at hs
    split at hs
    · split at hs
      · next hc => exact qz_pk hs (h.pop.pop.pop.ui _ _ _) (qz_le_ui hc.2.1 _ _)
      · cases hs
    · cases hs
  cases ins with
  | iconst i => exact qz_pk hs (h.push qz_vki) .rf
  | bipush i => exact qz_pk hs (h.push qz_vki) .rf
  | sipush i => exact qz_pk hs (h.push qz_vki) .rf
  | aconst_null => exact qz_pk hs (h.push qz_vkn) .rf
  | iload k => exact li hs
  | iload_n k => exact li hs
  | aload k => exact la hs
  | aload_n k => exact la hs
  | istore k => exact si hs
  | istore_n k => exact si hs
  | astore k => exact sr hs
  | astore_n k => exact sr hs
  | iinc k n =>
    simp only [qz_sp] at hs
    split at hs
    · split at hs
      · exact qz_pk hs (h.set qz_vki _) .rf
      · cases hs
    · cases hs
  | iadd => exact bn hs
  | isub => exact bn hs
  | imul => exact bn hs
  | iand => exact bn hs
  | ishr => exact bn hs
  | ldc i =>
    simp only [qz_sp] at hs
    split at hs
    · exact qz_pk hs (h.push qz_vki) .rf
    · cases hs
  | ldc2_w i =>
    simp only [qz_sp] at hs
    split at hs
    · exact qz_pk hs (h.push qz_vkl) .rf
    · cases hs
  | lload k => exact ll hs
  | lload_n k => exact ll hs
  | lstore k => exact sl hs
  | lstore_n k => exact sl hs
  | ladd => exact bl hs
  | lmul => exact bl hs
  | i2l =>
    simp only [qz_sp] at hs
    split at hs
    · exact qz_pk hs (h.pop.push qz_vkl) .rf
    · cases hs
  | lcmp =>
    simp only [qz_sp] at hs
    split at hs
    · exact qz_pk hs (h.pop.pop.push qz_vki) .rf
    · cases hs
  | idiv =>
    simp only [qz_sp] at hs
    split at hs
    · split at hs
      · cases hs
      · exact qz_pk hs (h.pop.pop.push qz_vki) .rf
    · cases hs
  | irem =>
    simp only [qz_sp] at hs
    split at hs
    · split at hs
      · cases hs
      · exact qz_pk hs (h.pop.pop.push qz_vki) .rf
    · cases hs
  | ineg =>
    simp only [qz_sp] at hs
    split at hs
    · exact qz_pk hs (h.pop.push qz_vki) .rf
    · cases hs
  | i2c =>
    simp only [qz_sp] at hs
    split at hs
    · exact qz_pk hs (h.pop.push qz_vki) .rf
    · cases hs
  | dup =>
    simp only [qz_sp] at hs
    split at hs
    · split at hs
      · exact qz_pk hs (h.push h.hd) .rf
      · cases hs
    · cases hs
  | dup2 =>
    simp only [qz_sp] at hs
    split at hs
    · split at hs
      · exact qz_pk hs ((h.push h.pop.hd).push h.hd) .rf
      · cases hs
    · cases hs
  | pop =>
    simp only [qz_sp] at hs
    split at hs
    · split at hs
      · exact qz_pk hs h.pop .rf
      · cases hs
    · cases hs
  | ifCond cd off =>
    simp only [qz_sp] at hs
    split at hs
    · exact br h.pop hs
    · cases hs
  | if_icmp cd off =>
    simp only [qz_sp] at hs
    split at hs
    · exact br h.pop.pop hs
    · cases hs
  | if_acmp cd off =>
    simp only [qz_sp] at hs
    split at hs
    · split at hs
      · exact br h.pop.pop hs
      · cases hs
    · cases hs
  | ifnull off =>
    simp only [qz_sp] at hs
    split at hs
    · exact br h.pop hs
    · cases hs
  | ifnonnull off =>
    simp only [qz_sp] at hs
    split at hs
    · exact br h.pop hs
    · cases hs
  | goto off =>
    simp only [qz_sp] at hs
    split at hs
    · exact qz_pk hs h .rf
    · cases hs
  | tableswitch d lo hi offs =>
    simp only [qz_sp] at hs
    split at hs
    · split at hs
      · split at hs
        · exact qz_pk hs h.pop .rf
        · cases hs
      · split at hs
        · split at hs
          · exact qz_pk hs h.pop .rf
          · cases hs
        · cases hs
    · cases hs
  | getfield i =>
    simp only [qz_sp] at hs
    split at hs
    · split at hs
      · split at hs
        · refine qz_pk hs (h.pop.push ?_) .rf
          split
          · exact qz_vkr (fun n hn => h.1 _ _ _ hn)
          · exact qz_vki
        · cases hs
      · cases hs
    · cases hs
  | putfield i =>
    simp only [qz_sp] at hs
    split at hs
    · split at hs
      · next hf =>
        split at hs
        · next hc => exact qz_pk hs (h.pop.pop.ui _ _ _) (qz_le_ui (by have := (qz_fl_ok hf).1; have := hc.1; simp only at *; omega) _ _)
        · cases hs
      · cases hs
    · split at hs
      · split at hs
        · exact qz_pk hs (h.pop.pop.ur _ _ h.hd) (qz_le_ur _ _)
        · cases hs
      · cases hs
    · cases hs
  | getstatic i =>
    simp only [qz_sp] at hs
    split at hs
    · next k hk =>
      refine qz_pk hs (h.push (qz_vkr (fun n hn => Or.inr ?_))) .rf
      cases hn
      unfold qz_st at hk
      split at hk <;> first | (cases hk; rfl) | cases hk
    · cases hs
  | iaload => exact ld hs
  | caload => exact ld hs
  | iastore => exact sd hs
  | castore => exact sd hs
  | aaload =>
    simp only [qz_sp] at hs
    split at hs
    · split at hs
      · exact qz_pk hs (h.pop.pop.push (qz_vkr (fun n hn => h.1 _ _ _ hn))) .rf
      · cases hs
    · cases hs
  | aastore =>
    simp only [qz_sp] at hs
    split at hs
    · split at hs
      · exact qz_pk hs (h.pop.pop.pop.ur _ _ h.hd) (qz_le_ur _ _)
      · cases hs
    · cases hs
  | arraylength =>
    simp only [qz_sp] at hs
    split at hs
    · split at hs
      · exact qz_pk hs (h.pop.push qz_vki) .rf
      · cases hs
    · cases hs
  | new i =>
    simp only [qz_sp] at hs
    split at hs
    · split at hs
      · next hc => exact qz_pk hs (h.al hc.2.1 hc.2.2) (qz_le_al hc.2.1)
      · cases hs
    · cases hs
  | newarray a =>
    simp only [qz_sp] at hs
    split at hs
    · split at hs
      · next hc => exact qz_pk hs (h.pop.al hc.1 hc.2.1) (qz_le_al hc.1)
      · cases hs
    · cases hs
  | anewarray i =>
    simp only [qz_sp] at hs
    split at hs
    · split at hs
      · split at hs
        · next hc => exact qz_pk hs (h.pop.al hc.1 hc.2.1) (qz_le_al hc.1)
        · cases hs
      · cases hs
    · cases hs
  | _ => cases hs
theorem qz_bi_ok {k : Nat} {ins : Instr} {pc pc' : Nat} {ls ls' : List (Option qz_V)} {st st' : List qz_V} {M M' : qz_M} (hs : qz_bi k ins pc ls st M = some (pc', ls', st', M')) (h : qz_ok ls st M) : qz_ok ls' st' M' ∧ qz_le M M' := by
  unfold qz_bi at hs
  split at hs
  · split at hs
    · split at hs
      · exact qz_pk hs h.pop .rf
      · cases hs
    · cases hs
  · split at hs
    · split at hs
      · split at hs
        · exact qz_pk hs (h.pop.pop.push qz_vki) .rf
        · cases hs
      · cases hs
    · split at hs
      · split at hs
        · exact qz_pk hs (h.pop.push qz_vki) .rf
        · cases hs
      · cases hs
    · cases hs
  · cases hs
def qz_rk (o : Nat) (r : Option qz_V) : Prop := ∀ v, r = some v → qz_vk o v
theorem qz_rv_ok {k : Nat} {ins : Instr} {ls : List (Option qz_V)} {st : List qz_V} {M : qz_M} {r : Option qz_V} (hs : qz_rv k ins st = some r) (h : qz_ok ls st M) : qz_rk M.1 r := by
  unfold qz_rv at hs
  split at hs
  · split at hs
    · split at hs
      · cases hs
        intro v hv
        cases hv
        exact qz_vki
      · cases hs
    · cases hs
  · split at hs
    · split at hs
      · cases hs
        intro v hv
        cases hv
        exact h.hd
      · cases hs
    · cases hs
  · split at hs
    · split at hs
      · cases hs
        intro v hv
        cases hv
        exact qz_vkl
      · cases hs
    · cases hs
  · split at hs
    · split at hs
      · cases hs
        intro v hv
        cases hv
      · cases hs
    · cases hs
  · cases hs
theorem qz_in0_ok {k n : Nat} {ls : List (Option qz_V)} {st : List qz_V} {M : qz_M} (h : qz_ok ls st M) : qz_ok (qz_in0 k (qz_ag n st)) [] M := by
  refine ⟨h.1, fun v hv => ?_, fun v hv => by cases hv⟩
  unfold qz_in0 qz_ag at hv
  rcases List.mem_append.mp hv with hv | hv
  · obtain ⟨w, hw, e⟩ := List.mem_map.mp hv
    cases e
    exact h.2.2 _ (List.mem_of_mem_take (List.mem_reverse.mp hw))
  · cases (List.mem_replicate.mp hv).2
theorem qz_aft {k : Nat} {ls : List (Option qz_V)} {st : List qz_V} {M M' : qz_M} {r : Option qz_V} (h : qz_ok ls st M) (hl : qz_le M M') (hW : qz_WM M') (hr : qz_rk M'.1 r) : qz_ok ls (r.toList ++ st.drop k) M' := by
  refine ⟨hW, fun v hv => (h.2.1 v hv).up hl.1, fun v hv => ?_⟩
  rcases List.mem_append.mp hv with hv | hv
  · exact hr v (by simpa using hv)
  · exact (h.2.2 v (List.mem_of_mem_drop hv)).up hl.1
/-- a run -/
theorem qz_ex_ok : ∀ (n k pc : Nat) (ls : List (Option qz_V)) (st : List qz_V) (M : qz_M) (r : Option qz_V) (M' : qz_M), qz_ex n k pc ls st M = some (r, M') → qz_ok ls st M → qz_WM M' ∧ qz_rk M'.1 r ∧ qz_le M M' := by
  intro n
  induction n with
  | zero => intro k pc ls st M r M' h; cases h
  | succ n ih =>
    intro k pc ls st M r M' h hk
    unfold qz_ex at h
    split at h
    · split at h
      · split at h
        · next hs =>
          obtain ⟨h1, h2⟩ := qz_sp_ok hs hk
          obtain ⟨h3, h4, h5⟩ := ih _ _ _ _ _ _ _ h h1
          exact ⟨h3, h4, h2.tr h5⟩
        · split at h
          · next hs =>
            cases h
            exact ⟨hk.1, qz_rv_ok hs hk, .rf⟩
          · split at h
            · next hs =>
              obtain ⟨h1, h2⟩ := qz_bi_ok hs hk
              obtain ⟨h3, h4, h5⟩ := ih _ _ _ _ _ _ _ h h1
              exact ⟨h3, h4, h2.tr h5⟩
            · split at h
              · split at h
                · next hs =>
                  obtain ⟨h1, h2, h6⟩ := ih _ _ _ _ _ _ _ hs (qz_in0_ok hk)
                  obtain ⟨h3, h4, h5⟩ := ih _ _ _ _ _ _ _ h (qz_aft hk h6 h1 h2)
                  exact ⟨h3, h4, h6.tr h5⟩
                · cases h
              · cases h
      · cases h
    · cases h
