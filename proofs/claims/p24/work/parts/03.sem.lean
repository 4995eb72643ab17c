/-! the interpreter qz: its heap's layout by names, one step, a run -/
def qz_bs (w : Nat) : Nat := if w = 0 then 1 else 66 + 35 * w
def qz_ix (n : qz_N) : Nat := match n.1 with
  | 0 => qz_bs n.2.1 + 5 + n.2.2
  | 1 => 36
  | 2 => 99
  | 3 => 39 + n.2.2
  | 4 => qz_bs n.2.1
  | 5 => 0
  | 10 => qz_bs n.2.1 + 1
  | 11 => qz_bs n.2.1 + 2
  | 12 => qz_bs n.2.1 + 3
  | 13 => qz_bs n.2.1 + 4
  | 14 => 37
  | 15 => 38
  | 16 => 100
  | k => 1000 + k
def qz_vl (n : qz_N) : Bool := match n.1 with
  | 0 => decide (n.2.1 < 6) && decide (n.2.2 < 30)
  | 3 => n.2.1 == 0 && decide (n.2.2 < 60)
  | 4 => decide (n.2.1 < 6) && n.2.2 == 0
  | 10 => decide (n.2.1 < 6) && n.2.2 == 0
  | 11 => decide (n.2.1 < 6) && n.2.2 == 0
  | 12 => decide (n.2.1 < 6) && n.2.2 == 0
  | 13 => decide (n.2.1 < 6) && n.2.2 == 0
  | 1 => n.2.1 == 0 && n.2.2 == 0
  | 2 => n.2.1 == 0 && n.2.2 == 0
  | 5 => n.2.1 == 0 && n.2.2 == 0
  | 14 => n.2.1 == 0 && n.2.2 == 0
  | 15 => n.2.1 == 0 && n.2.2 == 0
  | 16 => n.2.1 == 0 && n.2.2 == 0
  | _ => false
def qz_pt (w r : Nat) : qz_N := if r = 0 then (4, w, 0) else if r < 5 then (9 + r, w, 0) else (0, w, r - 5)
def qz_nm' (o : Nat) : qz_N :=
  if o = 0 then (5, 0, 0) else if o < 36 then qz_pt 0 (o - 1) else if o = 36 then (1, 0, 0) else if o = 37 then (14, 0, 0) else if o = 38 then (15, 0, 0)
  else if o < 99 then (3, 0, o - 39) else if o = 99 then (2, 0, 0) else if o = 100 then (16, 0, 0) else if o < 276 then qz_pt (1 + (o - 101) / 35) ((o - 101) % 35)
  else (99, 0, 0)
theorem qz_bs_eq (w : Nat) (h : w < 6) : qz_bs w = 1 ∨ (1 ≤ w ∧ qz_bs w = 66 + 35 * w) := by
  unfold qz_bs
  split
  · exact Or.inl rfl
  · exact Or.inr ⟨by omega, rfl⟩
theorem qz_npt (w r : Nat) (hw : w < 6) (hr : r < 35) : qz_nm' (qz_bs w + r) = qz_pt w r := by
  unfold qz_bs
  split
  · next h =>
    subst h
    unfold qz_nm'
    rw [if_neg (by omega), if_pos (by omega)]
    congr 1; omega
  · unfold qz_nm'
    rw [if_neg (by omega), if_neg (by omega), if_neg (by omega), if_neg (by omega), if_neg (by omega), if_neg (by omega), if_neg (by omega), if_neg (by omega), if_pos (by omega)]
    congr 1 <;> omega
/-- a name's place gives the name -/
theorem qz_nx (n : qz_N) (h : qz_vl n = true) : qz_nm' (qz_ix n) = n := by
  obtain ⟨k, w, i⟩ := n
  by_cases hk : k < 17
  · have hc : k = 0 ∨ k = 1 ∨ k = 2 ∨ k = 3 ∨ k = 4 ∨ k = 5 ∨ k = 6 ∨ k = 7 ∨ k = 8 ∨ k = 9 ∨ k = 10 ∨ k = 11 ∨ k = 12 ∨ k = 13 ∨ k = 14 ∨ k = 15 ∨ k = 16 := by omega
    rcases hc with rfl | rfl | rfl | rfl | rfl | rfl | rfl | rfl | rfl | rfl | rfl | rfl | rfl | rfl | rfl | rfl | rfl
    · simp [qz_vl] at h
      show qz_nm' (qz_bs w + 5 + i) = _
      rw [show qz_bs w + 5 + i = qz_bs w + (5 + i) by omega, qz_npt w _ h.1 (by omega), qz_pt, if_neg (by omega), if_neg (by omega)]
      congr 2; omega
    · simp [qz_vl] at h; obtain ⟨rfl, rfl⟩ := h; rfl
    · simp [qz_vl] at h; obtain ⟨rfl, rfl⟩ := h; rfl
    · simp [qz_vl] at h
      obtain ⟨rfl, h⟩ := h
      show qz_nm' (39 + i) = _
      unfold qz_nm'
      rw [if_neg (by omega), if_neg (by omega), if_neg (by omega), if_neg (by omega), if_neg (by omega), if_pos (by omega)]
      congr 2; omega
    · simp [qz_vl] at h
      obtain ⟨h, rfl⟩ := h
      exact qz_npt w 0 h (by omega)
    · simp [qz_vl] at h; obtain ⟨rfl, rfl⟩ := h; rfl
    · simp [qz_vl] at h
    · simp [qz_vl] at h
    · simp [qz_vl] at h
    · simp [qz_vl] at h
    · simp [qz_vl] at h
      obtain ⟨h, rfl⟩ := h
      exact qz_npt w 1 h (by omega)
    · simp [qz_vl] at h
      obtain ⟨h, rfl⟩ := h
      exact qz_npt w 2 h (by omega)
    · simp [qz_vl] at h
      obtain ⟨h, rfl⟩ := h
      exact qz_npt w 3 h (by omega)
    · simp [qz_vl] at h
      obtain ⟨h, rfl⟩ := h
      exact qz_npt w 4 h (by omega)
    all_goals (simp [qz_vl] at h; obtain ⟨rfl, rfl⟩ := h; rfl)
  · exfalso
    unfold qz_vl at h
    split at h <;> first | (simp at hk; done) | (simp at h; done) | (simp at h; omega) | omega
theorem qz_ix_inj {n n' : qz_N} (h : qz_vl n = true) (h' : qz_vl n' = true) (e : qz_ix n = qz_ix n') : n = n' := by rw [← qz_nx n h, ← qz_nx n' h', e]
theorem qz_vl_lt {n : qz_N} (h : qz_vl n = true) : n.1 < 17 := by
  obtain ⟨k, w, i⟩ := n
  unfold qz_vl at h
  split at h <;> first | (simp_all; done) | (simp at h; simp; omega) | (simp_all; omega)
/-- the arrays' types: 1 int, 2 char, 4, 5, 6 references -/
def qz_at (k : Nat) : Nat := match k with
  | 10 => 1
  | 11 => 1
  | 12 => 1
  | 13 => 4
  | 14 => 2
  | 15 => 5
  | 16 => 6
  | 30 => 1
  | 31 => 1
  | 32 => 1
  | 33 => 1
  | _ => 0
def qz_al (k : Nat) : Nat := match k with
  | 10 => 10
  | 11 => 20
  | 12 => 4
  | 13 => 30
  | 14 => 60
  | 15 => 60
  | 16 => 4
  | _ => 4
def qz_ln (f : qz_N → Nat → Int32) (n : qz_N) : Nat := if n.1 = 33 then (f (33, 1, 0) 0).toNatClampNeg else qz_al n.1
def qz_ft (t : Nat) : FieldType := match t with
  | 1 => .int
  | 2 => .char
  | 4 => .object "ShiftBuses$Booking"
  | 5 => .object "ShiftBuses$Wish"
  | _ => .object "ShiftBuses$Works"
def qz_ec (t : Nat) : Nat := match t with
  | 4 => 0
  | 5 => 3
  | _ => 4
def qz_ui (M : qz_M) (n : qz_N) (j : Nat) (x : Int32) : qz_M := (M.1, (fun n' j' => if n' = n ∧ j' = j then x else M.2.1 n' j'), M.2.2)
def qz_ur (M : qz_M) (n : qz_N) (j : Nat) (x : Option qz_N) : qz_M := (M.1, M.2.1, fun n' j' => if n' = n ∧ j' = j then x else M.2.2 n' j')
def qz_al' (M : qz_M) : qz_M := (M.1 + 1, (fun n j => if n = qz_nm' M.1 then 0 else M.2.1 n j), fun n j => if n = qz_nm' M.1 then none else M.2.2 n j)
/-- the size of what is made -/
def qz_sz (k : Nat) : Nat := if k < 6 then qz_nf k else qz_al k
def qz_ss : Nat → Nat
  | 0 => 0
  | o + 1 => qz_ss o + qz_sz (qz_nm' o).1
def qz_xi (i : Int32) (n : Nat) : Bool := !decide (i < 0) && decide (i.toNatClampNeg < n)
def qz_tg (pc : Nat) (off : Int) : Option Nat := if 0 ≤ (pc : Int) + off then some ((pc : Int) + off).toNat else none
def qz_cd (c : ClassFile.Cond) (x y : Int32) : Bool := match c with
  | .eq => decide (x = y)
  | .ne => decide (¬ x = y)
  | .lt => decide (x < y)
  | .ge => decide (y ≤ x)
  | .gt => decide (y < x)
  | .le => decide (x ≤ y)
abbrev qz_R : Type := Nat × List (Option qz_V) × List qz_V × qz_M
def qz_bn (f : Int32 → Int32 → Int32) (pc : Nat) (ls : List (Option qz_V)) (st : List qz_V) (M : qz_M) : Option qz_R := match st with
  | .inl y :: .inl x :: r => some (pc + 1, ls, .inl (f x y) :: r, M)
  | _ => none
def qz_br (b : Bool) (pc : Nat) (off : Int) (ls : List (Option qz_V)) (st : List qz_V) (M : qz_M) : Option qz_R := match qz_tg pc off with
  | some t => if b = true then some (t, ls, st, M) else some (pc + 3, ls, st, M)
  | none => none
def qz_li (k n pc : Nat) (ls : List (Option qz_V)) (st : List qz_V) (M : qz_M) : Option qz_R := match ls[k]? with
  | some (some (.inl x)) => some (pc + n, ls, .inl x :: st, M)
  | _ => none
def qz_la (k n pc : Nat) (ls : List (Option qz_V)) (st : List qz_V) (M : qz_M) : Option qz_R := match ls[k]? with
  | some (some (.inr (.inl x))) => some (pc + n, ls, .inr (.inl x) :: st, M)
  | _ => none
/-- a long value -/
def qz_nl (v : qz_V) : Bool := match v with
  | .inr (.inr _) => false
  | _ => true
def qz_ct (v : qz_V) : Nat := match v with
  | .inr (.inr _) => 2
  | _ => 1
/-- what values weigh on the stack -/
def qz_wl (st : List qz_V) : Nat := (st.map qz_ct).sum
/-- the place j behind the nL locals holds no long -/
def qz_g1 (nL : Nat) (ls : List (Option qz_V)) (j : Nat) : Bool := match ls[nL + j]? with
  | some (some _) => false
  | _ => true
/-- no long lies at k or over it -/
def qz_g3 (nL : Nat) (ls : List (Option qz_V)) (k : Nat) : Bool := match k with
  | 0 => true
  | j + 1 => qz_g1 nL ls j
def qz_g2 (nL : Nat) (ls : List (Option qz_V)) (k : Nat) : Bool := qz_g1 nL ls k && qz_g3 nL ls k
def qz_si (nL k n pc : Nat) (ls : List (Option qz_V)) (st : List qz_V) (M : qz_M) : Option qz_R := match st with
  | .inl x :: r => if k < nL ∧ qz_g2 nL ls k = true then some (pc + n, ls.set k (some (.inl x)), r, M) else none
  | _ => none
def qz_sr (nL k n pc : Nat) (ls : List (Option qz_V)) (st : List qz_V) (M : qz_M) : Option qz_R := match st with
  | .inr (.inl x) :: r => if k < nL ∧ qz_g2 nL ls k = true then some (pc + n, ls.set k (some (.inr (.inl x))), r, M) else none
  | _ => none
def qz_ll' (nL k n pc : Nat) (ls : List (Option qz_V)) (st : List qz_V) (M : qz_M) : Option qz_R := match ls[nL + k]? with
  | some (some (.inr (.inr x))) => some (pc + n, ls, .inr (.inr x) :: st, M)
  | _ => none
/-- a long is laid: its two places are free then, its value lies behind them -/
def qz_sl' (nL k : Nat) (ls : List (Option qz_V)) (x : Int64) : List (Option qz_V) := ((ls.set k none).set (k + 1) none).set (nL + k) (some (.inr (.inr x)))
def qz_sl (nL k n pc : Nat) (ls : List (Option qz_V)) (st : List qz_V) (M : qz_M) : Option qz_R := match st with
  | .inr (.inr x) :: r => if k + 1 < nL ∧ nL + k < ls.length ∧ qz_g1 nL ls (k + 1) = true ∧ qz_g3 nL ls k = true then some (pc + n, qz_sl' nL k ls x, r, M) else none
  | _ => none
def qz_bl' (f : Int64 → Int64 → Int64) (pc : Nat) (ls : List (Option qz_V)) (st : List qz_V) (M : qz_M) : Option qz_R := match st with
  | .inr (.inr y) :: .inr (.inr x) :: r => some (pc + 1, ls, .inr (.inr (f x y)) :: r, M)
  | _ => none
def qz_ld (t pc : Nat) (ls : List (Option qz_V)) (st : List qz_V) (M : qz_M) : Option qz_R := match st with
  | .inl i :: .inr (.inl (some n)) :: r => if qz_at n.1 = t ∧ qz_xi i (qz_ln M.2.1 n) = true then some (pc + 1, ls, .inl (M.2.1 n i.toNatClampNeg) :: r, M) else none
  | _ => none
def qz_sd (t : Nat) (f : Int32 → Int32) (pc : Nat) (ls : List (Option qz_V)) (st : List qz_V) (M : qz_M) : Option qz_R := match st with
  | .inl x :: .inl i :: .inr (.inl (some n)) :: r => if qz_at n.1 = t ∧ n.1 < 30 ∧ qz_xi i (qz_al n.1) = true then some (pc + 1, ls, r, qz_ui M n i.toNatClampNeg (f x)) else none
  | _ => none
/-- no static array -/
def qz_dy (x : Option qz_N) : Bool := match x with
  | none => true
  | some n => decide (n.1 < 30)
/-- one step that is neither a call nor a return: c the number of the class whose code it is, ini whether it is a constructor -/
def qz_sp (c nL : Nat) (ini : Bool) (ins : Instr) (pc : Nat) (ls : List (Option qz_V)) (st : List qz_V) (M : qz_M) : Option qz_R := match ins with
  | .iconst i => some (pc + 1, ls, .inl (Int32.ofInt i) :: st, M)
  | .bipush i => some (pc + 2, ls, .inl (Int8.ofInt i).toInt32 :: st, M)
  | .sipush i => some (pc + 3, ls, .inl (Int16.ofInt i).toInt32 :: st, M)
  | .aconst_null => some (pc + 1, ls, .inr (.inl none) :: st, M)
  | .iload k => qz_li k 2 pc ls st M
  | .iload_n k => qz_li k.val 1 pc ls st M
  | .aload k => qz_la k 2 pc ls st M
  | .aload_n k => qz_la k.val 1 pc ls st M
  | .istore k => qz_si nL k 2 pc ls st M
  | .istore_n k => qz_si nL k.val 1 pc ls st M
  | .astore k => qz_sr nL k 2 pc ls st M
  | .astore_n k => qz_sr nL k.val 1 pc ls st M
  | .iinc k n => (match ls[k]? with
    | some (some (.inl x)) => if k < nL ∧ qz_g2 nL ls k = true then some (pc + 3, ls.set k (some (.inl (x + Int32.ofInt n))), st, M) else none
    | _ => none)
  | .iadd => qz_bn (fun x y => x + y) pc ls st M
  | .isub => qz_bn (fun x y => x - y) pc ls st M
  | .imul => qz_bn (fun x y => x * y) pc ls st M
  | .iand => qz_bn (fun x y => x &&& y) pc ls st M
  | .ishr => qz_bn (fun x y => x >>> (y &&& 31)) pc ls st M
  | .ldc i => (match qz_k4 c i with
    | some v => some (pc + 2, ls, .inl v :: st, M)
    | none => none)
  | .ldc2_w i => (match qz_k8 c i with
    | some v => some (pc + 3, ls, .inr (.inr v) :: st, M)
    | none => none)
  | .lload k => qz_ll' nL k 2 pc ls st M
  | .lload_n k => qz_ll' nL k.val 1 pc ls st M
  | .lstore k => qz_sl nL k 2 pc ls st M
  | .lstore_n k => qz_sl nL k.val 1 pc ls st M
  | .ladd => qz_bl' (fun x y => x + y) pc ls st M
  | .lmul => qz_bl' (fun x y => x * y) pc ls st M
  | .i2l => (match st with
    | .inl x :: r => some (pc + 1, ls, .inr (.inr x.toInt64) :: r, M)
    | _ => none)
  | .lcmp => (match st with
    | .inr (.inr y) :: .inr (.inr x) :: r => some (pc + 1, ls, .inl (lg_cmp x y) :: r, M)
    | _ => none)
  | .idiv => (match st with
    | .inl y :: .inl x :: r => if y = 0 then none else some (pc + 1, ls, .inl (x / y) :: r, M)
    | _ => none)
  | .irem => (match st with
    | .inl y :: .inl x :: r => if y = 0 then none else some (pc + 1, ls, .inl (x - x / y * y) :: r, M)
    | _ => none)
  | .ineg => (match st with
    | .inl x :: r => some (pc + 1, ls, .inl (-x) :: r, M)
    | _ => none)
  | .i2c => (match st with
    | .inl x :: r => some (pc + 1, ls, .inl (x.toUInt32 % 65536).toInt32 :: r, M)
    | _ => none)
  | .dup => (match st with
    | x :: r => if qz_nl x = true then some (pc + 1, ls, x :: x :: r, M) else none
    | _ => none)
  | .dup2 => (match st with
    | x :: y :: r => if qz_nl x = true ∧ qz_nl y = true then some (pc + 1, ls, x :: y :: x :: y :: r, M) else none
    | _ => none)
  | .pop => (match st with
    | x :: r => if qz_nl x = true then some (pc + 1, ls, r, M) else none
    | _ => none)
  | .ifCond cd off => (match st with
    | .inl x :: r => qz_br (qz_cd cd x 0) pc off ls r M
    | _ => none)
  | .if_icmp cd off => (match st with
    | .inl y :: .inl x :: r => qz_br (qz_cd cd x y) pc off ls r M
    | _ => none)
  | .if_acmp cd off => (match cd, st with
    | .eq, .inr (.inl y) :: .inr (.inl x) :: r => if qz_dy x = true ∧ qz_dy y = true then qz_br (decide (x = y)) pc off ls r M else none
    | _, _ => none)
  | .ifnull off => (match st with
    | .inr (.inl x) :: r => qz_br (decide (x = none)) pc off ls r M
    | _ => none)
  | .ifnonnull off => (match st with
    | .inr (.inl x) :: r => qz_br (decide (¬ x = none)) pc off ls r M
    | _ => none)
  | .goto off => (match qz_tg pc off with
    | some t => some (t, ls, st, M)
    | none => none)
  | .tableswitch d lo hi offs => (match st with
    | .inl x :: r => (if x.toInt < lo ∨ hi < x.toInt then (match qz_tg pc d with
        | some t => some (t, ls, r, M)
        | none => none)
      else (match offs[(x.toInt - lo).toNat]? with
        | some off => (match qz_tg pc off with
          | some t => some (t, ls, r, M)
          | none => none)
        | none => none))
    | _ => none)
  | .getfield i => (match st with
    | .inr (.inl (some n)) :: r => (match qz_fl c i with
      | some (ci, k) => if n.1 = ci then some (pc + 3, ls, (if qz_rf ci k = true then .inr (.inl (M.2.2 n k)) else .inl (M.2.1 n k)) :: r, M) else none
      | none => none)
    | _ => none)
  | .putfield i => (match st with
    | .inl x :: .inr (.inl (some n)) :: r => (match qz_fl c i with
      | some (ci, k) => if n.1 = ci ∧ qz_rf ci k = false ∧ (qz_bl ci k = true → x = 0 ∨ x = 1) ∧ qz_fn ci k = false then some (pc + 3, ls, r, qz_ui M n k x) else none
      | none => none)
    | .inr (.inl x) :: .inr (.inl (some n)) :: r => (match qz_fl c i with
      | some (ci, k) => if n.1 = ci ∧ qz_rf ci k = true ∧ qz_fn ci k = true ∧ ini = true ∧ ci = c then some (pc + 3, ls, r, qz_ur M n k x) else none
      | none => none)
    | _ => none)
  | .getstatic i => (match qz_st c i with
    | some k => some (pc + 3, ls, .inr (.inl (some (k, 0, 0))) :: st, M)
    | none => none)
  | .iaload => qz_ld 1 pc ls st M
  | .caload => qz_ld 2 pc ls st M
  | .iastore => qz_sd 1 (fun x => x) pc ls st M
  | .castore => qz_sd 2 (fun x => vp_nar .char x) pc ls st M
  | .aaload => (match st with
    | .inl i :: .inr (.inl (some n)) :: r => if 4 ≤ qz_at n.1 ∧ qz_xi i (qz_al n.1) = true then some (pc + 1, ls, .inr (.inl (M.2.2 n i.toNatClampNeg)) :: r, M) else none
    | _ => none)
  | .aastore => (match st with
    | .inr (.inl (some v)) :: .inl i :: .inr (.inl (some n)) :: r => if 4 ≤ qz_at n.1 ∧ v.1 = qz_ec (qz_at n.1) ∧ qz_xi i (qz_al n.1) = true then some (pc + 1, ls, r, qz_ur M n i.toNatClampNeg (some v)) else none
    | _ => none)
  | .arraylength => (match st with
    | .inr (.inl (some n)) :: r => if ¬ qz_at n.1 = 0 then some (pc + 1, ls, .inl (Int32.ofNat (qz_ln M.2.1 n)) :: r, M) else none
    | _ => none)
  | .new i => (match qz_nw c i with
    | some k => if (qz_nm' M.1).1 = k ∧ qz_vl (qz_nm' M.1) = true ∧ qz_ix (qz_nm' M.1) = M.1 then some (pc + 3, ls, .inr (.inl (some (qz_nm' M.1))) :: st, qz_al' M) else none
    | none => none)
  | .newarray a => (match st with
    | .inl x :: r => if qz_vl (qz_nm' M.1) = true ∧ qz_ix (qz_nm' M.1) = M.1 ∧ ¬ x < 0 ∧ x.toNatClampNeg = qz_al (qz_nm' M.1).1 ∧ ((a = .int ∧ qz_at (qz_nm' M.1).1 = 1) ∨ (a = .char ∧ qz_at (qz_nm' M.1).1 = 2)) then some (pc + 2, ls, .inr (.inl (some (qz_nm' M.1))) :: r, qz_al' M) else none
    | _ => none)
  | .anewarray i => (match st with
    | .inl x :: r => (match qz_nw c i with
      | some k => if qz_vl (qz_nm' M.1) = true ∧ qz_ix (qz_nm' M.1) = M.1 ∧ ¬ x < 0 ∧ x.toNatClampNeg = qz_al (qz_nm' M.1).1 ∧ 4 ≤ qz_at (qz_nm' M.1).1 ∧ qz_ec (qz_at (qz_nm' M.1).1) = k then some (pc + 3, ls, .inr (.inl (some (qz_nm' M.1))) :: r, qz_al' M) else none
      | none => none)
    | _ => none)
  | _ => none
/-- the arguments of a call, off the stack -/
def qz_ag (n : Nat) (st : List qz_V) : List qz_V := (st.take n).reverse
def qz_in0 (k : Nat) (as : List qz_V) : List (Option qz_V) := as.map some ++ List.replicate (qz_ll k - as.length) none
/-- the receiver is an object of the class k -/
def qz_rc (k : Nat) (as : List qz_V) : Bool := match as with
  | .inr (.inl (some n)) :: _ => n.1 == k
  | _ => false
/-- a call of the method k' from the method k is in order -/
def qz_co' (k k' : Nat) (st : List qz_V) : Bool := (decide (qz_na k' ≤ st.length) && ((st.take (qz_na k')).all qz_nl && decide (qz_wl (st.drop (qz_na k')) ≤ 8))) && decide (qz_rF k' + 1 ≤ qz_rF k) && decide (8 + (qz_ml k' + 11) + qz_rL k' ≤ qz_rL k)
/-- what a return answers -/
def qz_rv (k : Nat) (ins : Instr) (st : List qz_V) : Option (Option qz_V) := match ins with
  | .ireturn => (match st with
    | [.inl x] => if qz_rt k = some .int ∨ (qz_rt k = some .boolean ∧ (x = 0 ∨ x = 1)) then some (some (.inl x)) else none
    | _ => none)
  | .areturn => (match st with
    | [.inr (.inl x)] => if qz_rt k = some (.object "ShiftBuses$Booking") then some (some (.inr (.inl x))) else none
    | _ => none)
  | .lreturn => (match st with
    | [.inr (.inr x)] => if qz_rt k = some .long then some (some (.inr (.inr x))) else none
    | _ => none)
  | .return_ => (match st with
    | [] => if qz_rt k = none then some none else none
    | _ => none)
  | _ => none
/-- a call's method: by its instruction, and whether the call is in order -/
def qz_kl (k : Nat) (ins : Instr) (st : List qz_V) : Option Nat := match ins with
  | .invokevirtual i => (match qz_cl (qz_cn k) i with
    | some k' => if qz_co' k k' st = true ∧ qz_sa k' = false ∧ qz_ini k' = false ∧ qz_rc (qz_cn k') (qz_ag (qz_na k') st) = true then some k' else none
    | none => none)
  | .invokespecial i => (match qz_cl (qz_cn k) i with
    | some k' => if qz_co' k k' st = true ∧ qz_sa k' = false ∧ qz_ini k' = true ∧ qz_rc (qz_cn k') (qz_ag (qz_na k') st) = true then some k' else none
    | none => none)
  | .invokestatic i => (match qz_cl (qz_cn k) i with
    | some k' => if qz_co' k k' st = true ∧ qz_sa k' = true then some k' else none
    | none => none)
  | _ => none
/-- Object(), Math.max, Math.abs -/
def qz_bi (k : Nat) (ins : Instr) (pc : Nat) (ls : List (Option qz_V)) (st : List qz_V) (M : qz_M) : Option qz_R := match ins with
  | .invokespecial i => (match st with
    | .inr (.inl (some _)) :: r => if qz_ob (qz_cn k) i = true ∧ qz_wl r ≤ 8 ∧ 1 ≤ qz_rF k ∧ 20 ≤ qz_rL k then some (pc + 3, ls, r, M) else none
    | _ => none)
  | .invokestatic i => (match qz_mt (qz_cn k) i with
    | some 0 => (match st with
      | .inl y :: .inl x :: r => if qz_wl r ≤ 8 ∧ 1 ≤ qz_rF k ∧ 21 ≤ qz_rL k then some (pc + 3, ls, .inl (if x < y then y else x) :: r, M) else none
      | _ => none)
    | some 1 => (match st with
      | .inl x :: r => if qz_wl r ≤ 8 ∧ 1 ≤ qz_rF k ∧ 21 ≤ qz_rL k then some (pc + 3, ls, .inl (if 0 ≤ x then x else 0 - x) :: r, M) else none
      | _ => none)
    | _ => none)
  | _ => none
/-- how long the instruction is; a switch: any -/
def qz_il (ins : Instr) (len : Nat) : Bool := match ins with
  | .iload _ => len == 2
  | .aload _ => len == 2
  | .istore _ => len == 2
  | .astore _ => len == 2
  | .bipush _ => len == 2
  | .ldc _ => len == 2
  | .lload _ => len == 2
  | .lstore _ => len == 2
  | .ldc2_w _ => len == 3
  | .newarray _ => len == 2
  | .sipush _ => len == 3
  | .iinc _ _ => len == 3
  | .ifCond _ _ => len == 3
  | .if_icmp _ _ => len == 3
  | .if_acmp _ _ => len == 3
  | .ifnull _ => len == 3
  | .ifnonnull _ => len == 3
  | .goto _ => len == 3
  | .getfield _ => len == 3
  | .putfield _ => len == 3
  | .getstatic _ => len == 3
  | .new _ => len == 3
  | .anewarray _ => len == 3
  | .invokevirtual _ => len == 3
  | .invokespecial _ => len == 3
  | .invokestatic _ => len == 3
  | .tableswitch _ _ _ _ => true
  | _ => len == 1
/-- a run of the method k from pc: its answer and the heap at its end -/
def qz_ex : Nat → Nat → Nat → List (Option qz_V) → List qz_V → qz_M → Option (Option qz_V × qz_M)
  | 0, _, _, _, _, _ => none
  | n + 1, k, pc, ls, st, M => match decode (qz_b k) pc with
    | .ok (ins, len) => if qz_il ins len = true then (match qz_sp (qz_cn k) (qz_ml k) (qz_ini k) ins pc ls st M with
        | some (pc', ls', st', M') => qz_ex n k pc' ls' st' M'
        | none => (match qz_rv k ins st with
          | some r => some (r, M)
          | none => (match qz_bi k ins pc ls st M with
            | some (pc', ls', st', M') => qz_ex n k pc' ls' st' M'
            | none => (match qz_kl k ins st with
              | some k' => (match qz_ex n k' 0 (qz_in0 k' (qz_ag (qz_na k') st)) [] M with
                | some (r, M') => qz_ex n k (pc + 3) ls (r.toList ++ st.drop (qz_na k')) M'
                | none => none)
              | none => none)))) else none
    | .error _ => none
