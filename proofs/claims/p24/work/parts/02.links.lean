abbrev qz_N : Type := Nat × Nat × Nat
abbrev qz_V : Type := Int32 ⊕ (Option qz_N ⊕ Int64)
abbrev qz_M : Type := Nat × (qz_N → Nat → Int32) × (qz_N → Nat → Option qz_N)
abbrev qz_I : Type := MethodName × ByteArray × Nat × Option FieldType × Nat × Nat × Bool × Nat × Nat
/-- the good words of the tables -/
def qz_tb : List Cond := lw_tbl.filter goodWord
theorem qz_in {w : Cond} (i : Nat) (h : lw_tbl[i]? = some w) (g : goodWord w = true) : w ∈ qz_tb := List.mem_filter.mpr ⟨List.mem_of_getElem? h, g⟩
theorem qz_fm {α : Type} {P : α → Prop} {l : List α} {x : α} (h : ∀ e ∈ l, P e) (hx : x ∈ l) : P x := h x hx
theorem qz_lk {α β : Type} [BEq α] [LawfulBEq α] {l : List (α × β)} {a : α} {b : β} (h : l.lookup a = some b) : (a, b) ∈ l := by
  induction l with
  | nil => simp at h
  | cons x l ih =>
    obtain ⟨x1, x2⟩ := x
    rw [List.lookup_cons] at h
    split at h
    · next hc =>
      have : a = x1 := by simpa using hc
      cases h
      rw [this]
      exact List.mem_cons_self
    · exact List.mem_cons_of_mem _ (ih h)
def qz_ow (c : Nat) : String := match c with
  | 0 => RX0
  | 1 => RX1
  | 2 => RX2
  | 3 => RX3
  | 4 => RX4
  | 5 => RX5
  | 7 => RJ9
  | _ => RL
def qz_T (c : Nat) : u_T := match c with
  | 0 => TX0
  | 1 => TX1
  | 2 => TX2
  | 3 => TX3
  | 4 => TX4
  | _ => TX5
def qz_ty (c : Nat) : Nat → FieldType := match c with
  | 0 => tyX0
  | 1 => tyX1
  | 2 => tyX2
  | 3 => tyX3
  | 4 => tyX4
  | _ => tyX5
def qz_nf (c : Nat) : Nat := match c with
  | 0 => 8
  | 1 => 4
  | 2 => 2
  | 3 => 3
  | 4 => 12
  | _ => 5
def qz_rf (c k : Nat) : Bool := match c with
  | 0 => false
  | 1 => k == 0 || k == 2
  | 2 => k == 0
  | 3 => false
  | 4 => k == 1 || k == 2 || k == 3 || k == 4
  | _ => k == 0 || k == 1 || k == 2 || k == 3
def qz_bl (c k : Nat) : Bool := match c with
  | 0 => k == 4
  | 1 => false
  | 2 => false
  | 3 => false
  | 4 => false
  | _ => k == 4
def qz_fn (c k : Nat) : Bool := match c with
  | 0 => false
  | 1 => k == 0 || k == 2
  | 2 => k == 0
  | 3 => false
  | 4 => k == 1 || k == 2 || k == 3 || k == 4
  | _ => k == 0 || k == 1 || k == 2 || k == 3
def qz_flL : List ((Nat × Nat) × (Nat × Nat)) := [((0, 9), (0, 0)), ((0, 13), (0, 1)), ((0, 16), (0, 2)), ((0, 19), (0, 3)), ((0, 22), (0, 4)), ((0, 26), (0, 5)), ((0, 29), (0, 6)), ((0, 32), (0, 7)), ((1, 9), (1, 0)), ((1, 15), (1, 1)), ((1, 21), (1, 2)), ((1, 25), (1, 3)), ((2, 11), (2, 0)), ((2, 17), (2, 1)), ((3, 7), (3, 0)), ((3, 13), (3, 1)), ((3, 16), (3, 2)), ((4, 9), (4, 0)), ((4, 15), (4, 1)), ((4, 19), (4, 2)), ((4, 25), (4, 3)), ((4, 30), (4, 4)), ((4, 34), (4, 5)), ((4, 37), (4, 6)), ((4, 40), (4, 7)), ((4, 43), (4, 8)), ((4, 46), (4, 9)), ((4, 49), (4, 10)), ((4, 52), (4, 11)), ((4, 79), (0, 0)), ((4, 86), (0, 1)), ((4, 89), (0, 2)), ((4, 92), (0, 3)), ((4, 95), (0, 4)), ((4, 173), (0, 7)), ((4, 174), (0, 5)), ((4, 175), (0, 6)), ((5, 10), (5, 0)), ((5, 19), (5, 1)), ((5, 26), (5, 2)), ((5, 30), (5, 3)), ((5, 33), (5, 4)), ((5, 37), (4, 0)), ((5, 95), (0, 1)), ((5, 98), (0, 4)), ((5, 126), (4, 8)), ((5, 135), (4, 6)), ((5, 138), (1, 1)), ((5, 145), (2, 1)), ((5, 154), (0, 2)), ((5, 157), (0, 3)), ((5, 171), (0, 5)), ((5, 174), (0, 6)), ((5, 175), (0, 7)), ((5, 197), (4, 7)), ((5, 198), (4, 9)), ((5, 199), (4, 10)), ((5, 202), (4, 11)), ((5, 205), (4, 5))]
def qz_fl (c i : Nat) : Option (Nat × Nat) := qz_flL.lookup (c, i)
def qz_FO (e : (Nat × Nat) × (Nat × Nat)) : Prop := e.2.1 < 6 ∧ e.2.2 < qz_nf e.2.1 ∧ Cond.fieldLink (qz_ow e.1.1) e.1.2 (qz_T e.2.1 e.2.2).1 (qz_T e.2.1 e.2.2).2.1 (qz_T e.2.1 e.2.2).2.2.1 ∈ qz_tb
theorem qz_fo0 : qz_FO ((0, 9), (0, 0)) := ⟨by decide, by decide, qz_in 41 (by decide +kernel) (by decide +kernel)⟩
theorem qz_fo1 : qz_FO ((0, 13), (0, 1)) := ⟨by decide, by decide, qz_in 43 (by decide +kernel) (by decide +kernel)⟩
theorem qz_fo2 : qz_FO ((0, 16), (0, 2)) := ⟨by decide, by decide, qz_in 46 (by decide +kernel) (by decide +kernel)⟩
theorem qz_fo3 : qz_FO ((0, 19), (0, 3)) := ⟨by decide, by decide, qz_in 49 (by decide +kernel) (by decide +kernel)⟩
theorem qz_fo4 : qz_FO ((0, 22), (0, 4)) := ⟨by decide, by decide, qz_in 52 (by decide +kernel) (by decide +kernel)⟩
theorem qz_fo5 : qz_FO ((0, 26), (0, 5)) := ⟨by decide, by decide, qz_in 55 (by decide +kernel) (by decide +kernel)⟩
theorem qz_fo6 : qz_FO ((0, 29), (0, 6)) := ⟨by decide, by decide, qz_in 58 (by decide +kernel) (by decide +kernel)⟩
theorem qz_fo7 : qz_FO ((0, 32), (0, 7)) := ⟨by decide, by decide, qz_in 61 (by decide +kernel) (by decide +kernel)⟩
theorem qz_fo8 : qz_FO ((1, 9), (1, 0)) := ⟨by decide, by decide, qz_in 151 (by decide +kernel) (by decide +kernel)⟩
theorem qz_fo9 : qz_FO ((1, 15), (1, 1)) := ⟨by decide, by decide, qz_in 152 (by decide +kernel) (by decide +kernel)⟩
theorem qz_fo10 : qz_FO ((1, 21), (1, 2)) := ⟨by decide, by decide, qz_in 154 (by decide +kernel) (by decide +kernel)⟩
theorem qz_fo11 : qz_FO ((1, 25), (1, 3)) := ⟨by decide, by decide, qz_in 155 (by decide +kernel) (by decide +kernel)⟩
theorem qz_fo12 : qz_FO ((2, 11), (2, 0)) := ⟨by decide, by decide, qz_in 174 (by decide +kernel) (by decide +kernel)⟩
theorem qz_fo13 : qz_FO ((2, 17), (2, 1)) := ⟨by decide, by decide, qz_in 175 (by decide +kernel) (by decide +kernel)⟩
theorem qz_fo14 : qz_FO ((3, 7), (3, 0)) := ⟨by decide, by decide, qz_in 140 (by decide +kernel) (by decide +kernel)⟩
theorem qz_fo15 : qz_FO ((3, 13), (3, 1)) := ⟨by decide, by decide, qz_in 141 (by decide +kernel) (by decide +kernel)⟩
theorem qz_fo16 : qz_FO ((3, 16), (3, 2)) := ⟨by decide, by decide, qz_in 142 (by decide +kernel) (by decide +kernel)⟩
theorem qz_fo17 : qz_FO ((4, 9), (4, 0)) := ⟨by decide, by decide, qz_in 82 (by decide +kernel) (by decide +kernel)⟩
theorem qz_fo18 : qz_FO ((4, 15), (4, 1)) := ⟨by decide, by decide, qz_in 84 (by decide +kernel) (by decide +kernel)⟩
theorem qz_fo19 : qz_FO ((4, 19), (4, 2)) := ⟨by decide, by decide, qz_in 85 (by decide +kernel) (by decide +kernel)⟩
theorem qz_fo20 : qz_FO ((4, 25), (4, 3)) := ⟨by decide, by decide, qz_in 86 (by decide +kernel) (by decide +kernel)⟩
theorem qz_fo21 : qz_FO ((4, 30), (4, 4)) := ⟨by decide, by decide, qz_in 87 (by decide +kernel) (by decide +kernel)⟩
theorem qz_fo22 : qz_FO ((4, 34), (4, 5)) := ⟨by decide, by decide, qz_in 88 (by decide +kernel) (by decide +kernel)⟩
theorem qz_fo23 : qz_FO ((4, 37), (4, 6)) := ⟨by decide, by decide, qz_in 90 (by decide +kernel) (by decide +kernel)⟩
theorem qz_fo24 : qz_FO ((4, 40), (4, 7)) := ⟨by decide, by decide, qz_in 92 (by decide +kernel) (by decide +kernel)⟩
theorem qz_fo25 : qz_FO ((4, 43), (4, 8)) := ⟨by decide, by decide, qz_in 94 (by decide +kernel) (by decide +kernel)⟩
theorem qz_fo26 : qz_FO ((4, 46), (4, 9)) := ⟨by decide, by decide, qz_in 96 (by decide +kernel) (by decide +kernel)⟩
theorem qz_fo27 : qz_FO ((4, 49), (4, 10)) := ⟨by decide, by decide, qz_in 98 (by decide +kernel) (by decide +kernel)⟩
theorem qz_fo28 : qz_FO ((4, 52), (4, 11)) := ⟨by decide, by decide, qz_in 100 (by decide +kernel) (by decide +kernel)⟩
theorem qz_fo29 : qz_FO ((4, 79), (0, 0)) := ⟨by decide, by decide, qz_in 42 (by decide +kernel) (by decide +kernel)⟩
theorem qz_fo30 : qz_FO ((4, 86), (0, 1)) := ⟨by decide, by decide, qz_in 45 (by decide +kernel) (by decide +kernel)⟩
theorem qz_fo31 : qz_FO ((4, 89), (0, 2)) := ⟨by decide, by decide, qz_in 47 (by decide +kernel) (by decide +kernel)⟩
theorem qz_fo32 : qz_FO ((4, 92), (0, 3)) := ⟨by decide, by decide, qz_in 50 (by decide +kernel) (by decide +kernel)⟩
theorem qz_fo33 : qz_FO ((4, 95), (0, 4)) := ⟨by decide, by decide, qz_in 54 (by decide +kernel) (by decide +kernel)⟩
theorem qz_fo34 : qz_FO ((4, 173), (0, 7)) := ⟨by decide, by decide, qz_in 63 (by decide +kernel) (by decide +kernel)⟩
theorem qz_fo35 : qz_FO ((4, 174), (0, 5)) := ⟨by decide, by decide, qz_in 57 (by decide +kernel) (by decide +kernel)⟩
theorem qz_fo36 : qz_FO ((4, 175), (0, 6)) := ⟨by decide, by decide, qz_in 60 (by decide +kernel) (by decide +kernel)⟩
theorem qz_fo37 : qz_FO ((5, 10), (5, 0)) := ⟨by decide, by decide, qz_in 182 (by decide +kernel) (by decide +kernel)⟩
theorem qz_fo38 : qz_FO ((5, 19), (5, 1)) := ⟨by decide, by decide, qz_in 183 (by decide +kernel) (by decide +kernel)⟩
theorem qz_fo39 : qz_FO ((5, 26), (5, 2)) := ⟨by decide, by decide, qz_in 184 (by decide +kernel) (by decide +kernel)⟩
theorem qz_fo40 : qz_FO ((5, 30), (5, 3)) := ⟨by decide, by decide, qz_in 185 (by decide +kernel) (by decide +kernel)⟩
theorem qz_fo41 : qz_FO ((5, 33), (5, 4)) := ⟨by decide, by decide, qz_in 186 (by decide +kernel) (by decide +kernel)⟩
theorem qz_fo42 : qz_FO ((5, 37), (4, 0)) := ⟨by decide, by decide, qz_in 83 (by decide +kernel) (by decide +kernel)⟩
theorem qz_fo43 : qz_FO ((5, 95), (0, 1)) := ⟨by decide, by decide, qz_in 44 (by decide +kernel) (by decide +kernel)⟩
theorem qz_fo44 : qz_FO ((5, 98), (0, 4)) := ⟨by decide, by decide, qz_in 53 (by decide +kernel) (by decide +kernel)⟩
theorem qz_fo45 : qz_FO ((5, 126), (4, 8)) := ⟨by decide, by decide, qz_in 95 (by decide +kernel) (by decide +kernel)⟩
theorem qz_fo46 : qz_FO ((5, 135), (4, 6)) := ⟨by decide, by decide, qz_in 91 (by decide +kernel) (by decide +kernel)⟩
theorem qz_fo47 : qz_FO ((5, 138), (1, 1)) := ⟨by decide, by decide, qz_in 153 (by decide +kernel) (by decide +kernel)⟩
theorem qz_fo48 : qz_FO ((5, 145), (2, 1)) := ⟨by decide, by decide, qz_in 176 (by decide +kernel) (by decide +kernel)⟩
theorem qz_fo49 : qz_FO ((5, 154), (0, 2)) := ⟨by decide, by decide, qz_in 48 (by decide +kernel) (by decide +kernel)⟩
theorem qz_fo50 : qz_FO ((5, 157), (0, 3)) := ⟨by decide, by decide, qz_in 51 (by decide +kernel) (by decide +kernel)⟩
theorem qz_fo51 : qz_FO ((5, 171), (0, 5)) := ⟨by decide, by decide, qz_in 56 (by decide +kernel) (by decide +kernel)⟩
theorem qz_fo52 : qz_FO ((5, 174), (0, 6)) := ⟨by decide, by decide, qz_in 59 (by decide +kernel) (by decide +kernel)⟩
theorem qz_fo53 : qz_FO ((5, 175), (0, 7)) := ⟨by decide, by decide, qz_in 62 (by decide +kernel) (by decide +kernel)⟩
theorem qz_fo54 : qz_FO ((5, 197), (4, 7)) := ⟨by decide, by decide, qz_in 93 (by decide +kernel) (by decide +kernel)⟩
theorem qz_fo55 : qz_FO ((5, 198), (4, 9)) := ⟨by decide, by decide, qz_in 97 (by decide +kernel) (by decide +kernel)⟩
theorem qz_fo56 : qz_FO ((5, 199), (4, 10)) := ⟨by decide, by decide, qz_in 99 (by decide +kernel) (by decide +kernel)⟩
theorem qz_fo57 : qz_FO ((5, 202), (4, 11)) := ⟨by decide, by decide, qz_in 101 (by decide +kernel) (by decide +kernel)⟩
theorem qz_fo58 : qz_FO ((5, 205), (4, 5)) := ⟨by decide, by decide, qz_in 89 (by decide +kernel) (by decide +kernel)⟩
set_option maxRecDepth 20000 in
theorem qz_flL_ok : ∀ e ∈ qz_flL, qz_FO e := List.forall_mem_cons.mpr ⟨qz_fo0, List.forall_mem_cons.mpr ⟨qz_fo1, List.forall_mem_cons.mpr ⟨qz_fo2, List.forall_mem_cons.mpr ⟨qz_fo3, List.forall_mem_cons.mpr ⟨qz_fo4, List.forall_mem_cons.mpr ⟨qz_fo5, List.forall_mem_cons.mpr ⟨qz_fo6, List.forall_mem_cons.mpr ⟨qz_fo7, List.forall_mem_cons.mpr ⟨qz_fo8, List.forall_mem_cons.mpr ⟨qz_fo9, List.forall_mem_cons.mpr ⟨qz_fo10, List.forall_mem_cons.mpr ⟨qz_fo11, List.forall_mem_cons.mpr ⟨qz_fo12, List.forall_mem_cons.mpr ⟨qz_fo13, List.forall_mem_cons.mpr ⟨qz_fo14, List.forall_mem_cons.mpr ⟨qz_fo15, List.forall_mem_cons.mpr ⟨qz_fo16, List.forall_mem_cons.mpr ⟨qz_fo17, List.forall_mem_cons.mpr ⟨qz_fo18, List.forall_mem_cons.mpr ⟨qz_fo19, List.forall_mem_cons.mpr ⟨qz_fo20, List.forall_mem_cons.mpr ⟨qz_fo21, List.forall_mem_cons.mpr ⟨qz_fo22, List.forall_mem_cons.mpr ⟨qz_fo23, List.forall_mem_cons.mpr ⟨qz_fo24, List.forall_mem_cons.mpr ⟨qz_fo25, List.forall_mem_cons.mpr ⟨qz_fo26, List.forall_mem_cons.mpr ⟨qz_fo27, List.forall_mem_cons.mpr ⟨qz_fo28, List.forall_mem_cons.mpr ⟨qz_fo29, List.forall_mem_cons.mpr ⟨qz_fo30, List.forall_mem_cons.mpr ⟨qz_fo31, List.forall_mem_cons.mpr ⟨qz_fo32, List.forall_mem_cons.mpr ⟨qz_fo33, List.forall_mem_cons.mpr ⟨qz_fo34, List.forall_mem_cons.mpr ⟨qz_fo35, List.forall_mem_cons.mpr ⟨qz_fo36, List.forall_mem_cons.mpr ⟨qz_fo37, List.forall_mem_cons.mpr ⟨qz_fo38, List.forall_mem_cons.mpr ⟨qz_fo39, List.forall_mem_cons.mpr ⟨qz_fo40, List.forall_mem_cons.mpr ⟨qz_fo41, List.forall_mem_cons.mpr ⟨qz_fo42, List.forall_mem_cons.mpr ⟨qz_fo43, List.forall_mem_cons.mpr ⟨qz_fo44, List.forall_mem_cons.mpr ⟨qz_fo45, List.forall_mem_cons.mpr ⟨qz_fo46, List.forall_mem_cons.mpr ⟨qz_fo47, List.forall_mem_cons.mpr ⟨qz_fo48, List.forall_mem_cons.mpr ⟨qz_fo49, List.forall_mem_cons.mpr ⟨qz_fo50, List.forall_mem_cons.mpr ⟨qz_fo51, List.forall_mem_cons.mpr ⟨qz_fo52, List.forall_mem_cons.mpr ⟨qz_fo53, List.forall_mem_cons.mpr ⟨qz_fo54, List.forall_mem_cons.mpr ⟨qz_fo55, List.forall_mem_cons.mpr ⟨qz_fo56, List.forall_mem_cons.mpr ⟨qz_fo57, List.forall_mem_cons.mpr ⟨qz_fo58, fun _ h => absurd h List.not_mem_nil⟩⟩⟩⟩⟩⟩⟩⟩⟩⟩⟩⟩⟩⟩⟩⟩⟩⟩⟩⟩⟩⟩⟩⟩⟩⟩⟩⟩⟩⟩⟩⟩⟩⟩⟩⟩⟩⟩⟩⟩⟩⟩⟩⟩⟩⟩⟩⟩⟩⟩⟩⟩⟩⟩⟩⟩⟩⟩⟩
theorem qz_fl_ok {c i x y : Nat} (h : qz_fl c i = some (x, y)) : qz_FO ((c, i), (x, y)) := qz_fm qz_flL_ok (qz_lk h)
theorem qz_f_0_9 : qz_fl 0 9 = some (0, 0) := by decide +kernel
theorem qz_f_0_13 : qz_fl 0 13 = some (0, 1) := by decide +kernel
theorem qz_f_0_16 : qz_fl 0 16 = some (0, 2) := by decide +kernel
theorem qz_f_0_19 : qz_fl 0 19 = some (0, 3) := by decide +kernel
theorem qz_f_0_22 : qz_fl 0 22 = some (0, 4) := by decide +kernel
theorem qz_f_0_26 : qz_fl 0 26 = some (0, 5) := by decide +kernel
theorem qz_f_0_29 : qz_fl 0 29 = some (0, 6) := by decide +kernel
theorem qz_f_0_32 : qz_fl 0 32 = some (0, 7) := by decide +kernel
theorem qz_f_1_9 : qz_fl 1 9 = some (1, 0) := by decide +kernel
theorem qz_f_1_15 : qz_fl 1 15 = some (1, 1) := by decide +kernel
theorem qz_f_1_21 : qz_fl 1 21 = some (1, 2) := by decide +kernel
theorem qz_f_1_25 : qz_fl 1 25 = some (1, 3) := by decide +kernel
theorem qz_f_2_11 : qz_fl 2 11 = some (2, 0) := by decide +kernel
theorem qz_f_2_17 : qz_fl 2 17 = some (2, 1) := by decide +kernel
theorem qz_f_3_7 : qz_fl 3 7 = some (3, 0) := by decide +kernel
theorem qz_f_3_13 : qz_fl 3 13 = some (3, 1) := by decide +kernel
theorem qz_f_3_16 : qz_fl 3 16 = some (3, 2) := by decide +kernel
theorem qz_f_4_9 : qz_fl 4 9 = some (4, 0) := by decide +kernel
theorem qz_f_4_15 : qz_fl 4 15 = some (4, 1) := by decide +kernel
theorem qz_f_4_19 : qz_fl 4 19 = some (4, 2) := by decide +kernel
theorem qz_f_4_25 : qz_fl 4 25 = some (4, 3) := by decide +kernel
theorem qz_f_4_30 : qz_fl 4 30 = some (4, 4) := by decide +kernel
theorem qz_f_4_34 : qz_fl 4 34 = some (4, 5) := by decide +kernel
theorem qz_f_4_37 : qz_fl 4 37 = some (4, 6) := by decide +kernel
theorem qz_f_4_40 : qz_fl 4 40 = some (4, 7) := by decide +kernel
theorem qz_f_4_43 : qz_fl 4 43 = some (4, 8) := by decide +kernel
theorem qz_f_4_46 : qz_fl 4 46 = some (4, 9) := by decide +kernel
theorem qz_f_4_49 : qz_fl 4 49 = some (4, 10) := by decide +kernel
theorem qz_f_4_52 : qz_fl 4 52 = some (4, 11) := by decide +kernel
theorem qz_f_4_79 : qz_fl 4 79 = some (0, 0) := by decide +kernel
theorem qz_f_4_86 : qz_fl 4 86 = some (0, 1) := by decide +kernel
theorem qz_f_4_89 : qz_fl 4 89 = some (0, 2) := by decide +kernel
theorem qz_f_4_92 : qz_fl 4 92 = some (0, 3) := by decide +kernel
theorem qz_f_4_95 : qz_fl 4 95 = some (0, 4) := by decide +kernel
theorem qz_f_4_173 : qz_fl 4 173 = some (0, 7) := by decide +kernel
theorem qz_f_4_174 : qz_fl 4 174 = some (0, 5) := by decide +kernel
theorem qz_f_4_175 : qz_fl 4 175 = some (0, 6) := by decide +kernel
theorem qz_f_5_10 : qz_fl 5 10 = some (5, 0) := by decide +kernel
theorem qz_f_5_19 : qz_fl 5 19 = some (5, 1) := by decide +kernel
theorem qz_f_5_26 : qz_fl 5 26 = some (5, 2) := by decide +kernel
theorem qz_f_5_30 : qz_fl 5 30 = some (5, 3) := by decide +kernel
theorem qz_f_5_33 : qz_fl 5 33 = some (5, 4) := by decide +kernel
theorem qz_f_5_37 : qz_fl 5 37 = some (4, 0) := by decide +kernel
theorem qz_f_5_95 : qz_fl 5 95 = some (0, 1) := by decide +kernel
theorem qz_f_5_98 : qz_fl 5 98 = some (0, 4) := by decide +kernel
theorem qz_f_5_126 : qz_fl 5 126 = some (4, 8) := by decide +kernel
theorem qz_f_5_135 : qz_fl 5 135 = some (4, 6) := by decide +kernel
theorem qz_f_5_138 : qz_fl 5 138 = some (1, 1) := by decide +kernel
theorem qz_f_5_145 : qz_fl 5 145 = some (2, 1) := by decide +kernel
theorem qz_f_5_154 : qz_fl 5 154 = some (0, 2) := by decide +kernel
theorem qz_f_5_157 : qz_fl 5 157 = some (0, 3) := by decide +kernel
theorem qz_f_5_171 : qz_fl 5 171 = some (0, 5) := by decide +kernel
theorem qz_f_5_174 : qz_fl 5 174 = some (0, 6) := by decide +kernel
theorem qz_f_5_175 : qz_fl 5 175 = some (0, 7) := by decide +kernel
theorem qz_f_5_197 : qz_fl 5 197 = some (4, 7) := by decide +kernel
theorem qz_f_5_198 : qz_fl 5 198 = some (4, 9) := by decide +kernel
theorem qz_f_5_199 : qz_fl 5 199 = some (4, 10) := by decide +kernel
theorem qz_f_5_202 : qz_fl 5 202 = some (4, 11) := by decide +kernel
theorem qz_f_5_205 : qz_fl 5 205 = some (4, 5) := by decide +kernel
def qz_sn (k : Nat) : String := match k with
  | 30 => "FIRST_SETTINGS"
  | 31 => "LEAST_SETTINGS"
  | _ => "MOST_SETTINGS"
def qz_st (c i : Nat) : Option Nat := match c, i with
  | 4, 22 => some 30
  | 5, 208 => some 31
  | 5, 212 => some 32
  | _, _ => none
def qz_nwL : List ((Nat × Nat) × Nat) := [((8, 13), 5), ((5, 7), 4), ((4, 28), 0), ((5, 16), 1), ((1, 19), 3), ((5, 23), 2), ((2, 9), 4)]
def qz_nw (c i : Nat) : Option Nat := qz_nwL.lookup (c, i)
def qz_NO (e : (Nat × Nat) × Nat) : Prop := e.2 < 6 ∧ Cond.classLink (qz_ow e.1.1) e.1.2 (qz_ow e.2) ∈ qz_tb
theorem qz_no0 : qz_NO ((8, 13), 5) := ⟨by decide, qz_in 18 (by decide +kernel) (by decide +kernel)⟩
theorem qz_no1 : qz_NO ((5, 7), 4) := ⟨by decide, qz_in 26 (by decide +kernel) (by decide +kernel)⟩
theorem qz_no2 : qz_NO ((4, 28), 0) := ⟨by decide, qz_in 34 (by decide +kernel) (by decide +kernel)⟩
theorem qz_no3 : qz_NO ((5, 16), 1) := ⟨by decide, qz_in 127 (by decide +kernel) (by decide +kernel)⟩
theorem qz_no4 : qz_NO ((1, 19), 3) := ⟨by decide, qz_in 133 (by decide +kernel) (by decide +kernel)⟩
theorem qz_no5 : qz_NO ((5, 23), 2) := ⟨by decide, qz_in 165 (by decide +kernel) (by decide +kernel)⟩
theorem qz_no6 : qz_NO ((2, 9), 4) := ⟨by decide, qz_in 171 (by decide +kernel) (by decide +kernel)⟩
set_option maxRecDepth 20000 in
theorem qz_nwL_ok : ∀ e ∈ qz_nwL, qz_NO e := List.forall_mem_cons.mpr ⟨qz_no0, List.forall_mem_cons.mpr ⟨qz_no1, List.forall_mem_cons.mpr ⟨qz_no2, List.forall_mem_cons.mpr ⟨qz_no3, List.forall_mem_cons.mpr ⟨qz_no4, List.forall_mem_cons.mpr ⟨qz_no5, List.forall_mem_cons.mpr ⟨qz_no6, fun _ h => absurd h List.not_mem_nil⟩⟩⟩⟩⟩⟩⟩
theorem qz_nw_ok {c i x : Nat} (h : qz_nw c i = some x) : qz_NO ((c, i), x) := qz_fm qz_nwL_ok (qz_lk h)
theorem qz_n_8_13 : qz_nw 8 13 = some 5 := by decide +kernel
theorem qz_n_5_7 : qz_nw 5 7 = some 4 := by decide +kernel
theorem qz_n_4_28 : qz_nw 4 28 = some 0 := by decide +kernel
theorem qz_n_5_16 : qz_nw 5 16 = some 1 := by decide +kernel
theorem qz_n_1_19 : qz_nw 1 19 = some 3 := by decide +kernel
theorem qz_n_5_23 : qz_nw 5 23 = some 2 := by decide +kernel
theorem qz_n_2_9 : qz_nw 2 9 = some 4 := by decide +kernel
def qz_CO (c : Nat) : Prop := vwCl[c]? = some (qz_ow c, qz_T c, qz_nf c) ∧ (∀ w ∈ u_ws (qz_ow c) (qz_T c) (qz_nf c), w ∈ qz_tb) ∧ (∀ k, k < qz_nf c → parseFieldDescriptor (qz_T c k).2.2.1 = some (qz_ty c k)) ∧ (∀ a, a < qz_nf c → ∀ b, b < qz_nf c → a ≠ b → (qz_T c a).2.1 ≠ (qz_T c b).2.1) ∧ Cond.instantiable (qz_ow c) (qz_nf c) ∈ qz_tb ∧ Cond.initialized (qz_ow c) ∈ qz_tb ∧ (∀ k, k < qz_nf c → (qz_T c k).1 = qz_ow c ∧ (qz_T c k).2.2.2 = qz_fn c k)
theorem qz_uw {C : String} {T : u_T} {N : Nat} (f : Nat → Nat) (h : ∀ k, k < N → lw_tbl[f k]? = some (u_lay C T k)) (g : ∀ k, k < N → goodWord (u_lay C T k) = true) : ∀ w ∈ u_ws C T N, w ∈ qz_tb := by
  intro w hw
  obtain ⟨k, hk, rfl⟩ := List.mem_map.mp hw
  have hk := List.mem_range.mp hk
  exact qz_in _ (h k hk) (g k hk)
def qz_wp0 (k : Nat) : Nat := ([64, 66, 68, 70, 72, 74, 76, 78] : List Nat).getD k 0
set_option maxRecDepth 20000 in
theorem qz_co0 : qz_CO 0 := ⟨rfl, qz_uw qz_wp0 (by decide +kernel) (by decide +kernel), tyX0_ok, nmX0, qz_in 36 (by decide +kernel) (by decide +kernel), qz_in 13 (by decide +kernel) (by decide +kernel), by decide +kernel⟩
def qz_wp1 (k : Nat) : Nat := ([156, 158, 160, 162] : List Nat).getD k 0
set_option maxRecDepth 20000 in
theorem qz_co1 : qz_CO 1 := ⟨rfl, qz_uw qz_wp1 (by decide +kernel) (by decide +kernel), tyX1_ok, nmX1, qz_in 128 (by decide +kernel) (by decide +kernel), qz_in 14 (by decide +kernel) (by decide +kernel), by decide +kernel⟩
def qz_wp2 (k : Nat) : Nat := ([177, 179] : List Nat).getD k 0
set_option maxRecDepth 20000 in
theorem qz_co2 : qz_CO 2 := ⟨rfl, qz_uw qz_wp2 (by decide +kernel) (by decide +kernel), tyX2_ok, nmX2, qz_in 166 (by decide +kernel) (by decide +kernel), qz_in 16 (by decide +kernel) (by decide +kernel), by decide +kernel⟩
def qz_wp3 (k : Nat) : Nat := ([143, 145, 147] : List Nat).getD k 0
set_option maxRecDepth 20000 in
theorem qz_co3 : qz_CO 3 := ⟨rfl, qz_uw qz_wp3 (by decide +kernel) (by decide +kernel), tyX3_ok, nmX3, qz_in 135 (by decide +kernel) (by decide +kernel), qz_in 15 (by decide +kernel) (by decide +kernel), by decide +kernel⟩
def qz_wp4 (k : Nat) : Nat := ([102, 104, 106, 108, 110, 112, 114, 116, 118, 120, 122, 124] : List Nat).getD k 0
set_option maxRecDepth 20000 in
theorem qz_co4 : qz_CO 4 := ⟨rfl, qz_uw qz_wp4 (by decide +kernel) (by decide +kernel), tyX4_ok, nmX4, qz_in 27 (by decide +kernel) (by decide +kernel), qz_in 12 (by decide +kernel) (by decide +kernel), by decide +kernel⟩
def qz_wp5 (k : Nat) : Nat := ([187, 189, 191, 193, 195] : List Nat).getD k 0
set_option maxRecDepth 20000 in
theorem qz_co5 : qz_CO 5 := ⟨rfl, qz_uw qz_wp5 (by decide +kernel) (by decide +kernel), tyX5_ok, nmX5, qz_in 19 (by decide +kernel) (by decide +kernel), qz_in 11 (by decide +kernel) (by decide +kernel), by decide +kernel⟩
theorem qz_co {c : Nat} (h : c < 6) : qz_CO c := by
  match c, h with
  | 0, _ => exact qz_co0
  | 1, _ => exact qz_co1
  | 2, _ => exact qz_co2
  | 3, _ => exact qz_co3
  | 4, _ => exact qz_co4
  | 5, _ => exact qz_co5
  | k + 6, h => exact absurd h (by omega)
def qz_infL : List qz_I := [
  (yX0_init, cX0_init, 1, none, 0, 1, false, 1, 20),
  (yX0_isLive, cX0_isLive, 1, some FieldType.boolean, 0, 1, false, 0, 0),
  (yX0_isWaiting, cX0_isWaiting, 1, some FieldType.boolean, 0, 1, false, 1, 20),
  (yX0_isRider, cX0_isRider, 1, some FieldType.boolean, 0, 1, false, 1, 20),
  (yX0_isOfBus, cX0_isOfBus, 4, some FieldType.boolean, 0, 4, false, 1, 20),
  (yX0_getsSeatAheadOf, cX0_getsSeatAheadOf, 2, some FieldType.boolean, 0, 2, false, 0, 0),
  (yX0_clear, cX0_clear, 1, none, 0, 1, false, 0, 0),
  (yX0_copyFrom, cX0_copyFrom, 2, none, 0, 2, false, 0, 0),
  (yX1_init, cX1_init, 2, none, 1, 1, false, 2, 40),
  (yX2_init, cX2_init, 2, none, 2, 1, false, 3, 61),
  (yX2_remember, cX2_remember, 2, none, 2, 2, false, 2, 44),
  (yX2_dropOldest, cX2_dropOldest, 3, none, 2, 1, false, 0, 0),
  (yX2_takeLatestInto, cX2_takeLatestInto, 3, none, 2, 2, false, 2, 44),
  (yX3_init, cX3_init, 1, none, 3, 1, false, 1, 20),
  (yX4_init, cX4_init, 2, none, 4, 1, false, 2, 40),
  (yX4_copyFrom, cX4_copyFrom, 3, none, 4, 2, false, 1, 22),
  (yX4_copyRow, cX4_copyRow, 3, none, 4, 2, true, 0, 0),
  (yX4_setting, cX4_setting, 2, some FieldType.int, 4, 2, false, 0, 0),
  (yX4_changeSetting, cX4_changeSetting, 3, none, 4, 3, false, 0, 0),
  (yX4_hasEnd, cX4_hasEnd, 2, some FieldType.boolean, 4, 2, false, 0, 0),
  (yX4_openEnd, cX4_openEnd, 3, some FieldType.int, 4, 2, false, 0, 0),
  (yX4_minuteOf, cX4_minuteOf, 2, some FieldType.int, 4, 2, false, 0, 0),
  (yX4_isEarlier, cX4_isEarlier, 4, some FieldType.boolean, 4, 3, false, 1, 21),
  (yX4_bookingOf, cX4_bookingOf, 6, some (FieldType.object "ShiftBuses$Booking"), 4, 2, false, 1, 20),
  (yX4_enter, cX4_enter, 9, some FieldType.int, 4, 4, false, 4, 98),
  (yX4_workerCount, cX4_workerCount, 6, some FieldType.int, 4, 1, false, 1, 20),
  (yX4_waitingCount, cX4_waitingCount, 6, some FieldType.int, 4, 1, false, 2, 40),
  (yX4_reason, cX4_reason, 6, some FieldType.int, 4, 5, false, 3, 73),
  (yX4_lookAtWaiting, cX4_lookAtWaiting, 4, none, 4, 1, false, 4, 98),
  (yX4_nextWaiting, cX4_nextWaiting, 7, some (FieldType.object "ShiftBuses$Booking"), 4, 2, false, 3, 66),
  (yX4_isLookedAtAheadOf, cX4_isLookedAtAheadOf, 3, some FieldType.boolean, 4, 3, false, 2, 44),
  (yX4_busIndex, cX4_busIndex, 2, some FieldType.int, 4, 2, true, 1, 20),
  (yX4_partnerOf, cX4_partnerOf, 4, some FieldType.int, 4, 3, false, 2, 41),
  (yX4_tie, cX4_tie, 5, none, 4, 4, false, 2, 41),
  (yX4_pairCount, cX4_pairCount, 6, some FieldType.int, 4, 1, false, 0, 0),
  (yX4_startOf, cX4_startOf, 3, some FieldType.int, 4, 3, false, 1, 21),
  (yX4_startOfBusOf, cX4_startOfBusOf, 2, some FieldType.int, 4, 2, false, 3, 64),
  (yX4_minutesBehind, cX4_minutesBehind, 4, some FieldType.int, 4, 4, false, 1, 21),
  (yX4_isInTime, cX4_isInTime, 4, some FieldType.boolean, 4, 4, false, 2, 44),
  (yX4_takenSeats, cX4_takenSeats, 11, some FieldType.int, 4, 6, false, 2, 43),
  (yX4_waitingFor, cX4_waitingFor, 9, some FieldType.int, 4, 4, false, 2, 43),
  (yX4_farthestPromised, cX4_farthestPromised, 9, some FieldType.int, 4, 4, false, 2, 43),
  (yX4_canMerge, cX4_canMerge, 4, some FieldType.boolean, 4, 4, false, 4, 95),
  (yX4_isInTimeForAll, cX4_isInTimeForAll, 9, some FieldType.boolean, 4, 4, false, 3, 67),
  (yX4_canRide, cX4_canRide, 10, some FieldType.boolean, 4, 4, false, 3, 67),
  (yX4_costToday, cX4_costToday, 9, some FieldType.int, 4, 4, false, 4, 96),
  (yX4_runBuses, cX4_runBuses, 5, none, 4, 1, false, 5, 124),
  (yX4_bringHome, cX4_bringHome, 5, none, 4, 1, false, 5, 117),
  (yX4_bringRiderHome, cX4_bringRiderHome, 2, none, 4, 2, false, 4, 96),
  (yX5_init, cX5_init, 1, none, 5, 1, false, 4, 82),
  (yX5_addEnd, cX5_addEnd, 2, some FieldType.int, 5, 2, false, 3, 65),
  (yX5_book, cX5_book, 4, some FieldType.int, 5, 4, false, 5, 126),
  (yX5_takeBack, cX5_takeBack, 3, some FieldType.int, 5, 2, false, 5, 121),
  (yX5_stay, cX5_stay, 4, some FieldType.int, 5, 3, false, 5, 121),
  (yX5_merge, cX5_merge, 5, some FieldType.int, 5, 4, false, 6, 141),
  (yX5_part, cX5_part, 4, some FieldType.int, 5, 3, false, 5, 121),
  (yX5_set, cX5_set, 4, some FieldType.int, 5, 3, false, 5, 121),
  (yX5_passDay, cX5_passDay, 2, some FieldType.int, 5, 1, false, 6, 148),
  (yX5_undo, cX5_undo, 1, some FieldType.int, 5, 1, false, 3, 66),
  (yX5_keep, cX5_keep, 1, some FieldType.int, 5, 1, false, 2, 45),
  (yX5_restore, cX5_restore, 1, some FieldType.int, 5, 1, false, 3, 65),
  (yX5_worker, cX5_worker, 4, some FieldType.int, 5, 3, false, 4, 98),
  (yX5_bus, cX5_bus, 5, some FieldType.int, 5, 4, false, 5, 124),
  (yX5_taken, cX5_taken, 4, some FieldType.int, 5, 4, false, 3, 73),
  (yX5_why, cX5_why, 4, some FieldType.int, 5, 4, false, 4, 98),
  (yX5_count, cX5_count, 2, some FieldType.int, 5, 2, false, 3, 65),
  (yX5_isLine, cX5_isLine, 1, some FieldType.boolean, 5, 1, true, 0, 0),
  (yX5_isStop, cX5_isStop, 1, some FieldType.boolean, 5, 1, true, 0, 0),
  (yX5_isSettingValue, cX5_isSettingValue, 2, some FieldType.boolean, 5, 2, true, 0, 0),
  (yX5_mergingError, cX5_mergingError, 4, some FieldType.int, 5, 4, false, 5, 118),
  (yL_cell, cL_cell, 2, some FieldType.int, 8, 2, true, 0, 0),
  (yL_low, cL_low, 2, some FieldType.int, 8, 2, true, 0, 0),
  (yL_told, cL_told, 5, some FieldType.long, 8, 1, true, 6, 148),
  (yL_act, cL_act, 6, some FieldType.int, 8, 3, true, 7, 169),
  (yL_holds, cL_holds, 16, some FieldType.boolean, 8, 1, true, 6, 148),
  (yL_law, cL_law, 17, some .boolean, 8, 1, true, 10, 388)]
def qz_inf (k : Nat) : qz_I := qz_infL.getD k (yL_law, cL_law, 17, some .boolean, 8, 1, true, 10, 388)
def qz_y (k : Nat) : MethodName := (qz_inf k).1
def qz_b (k : Nat) : ByteArray := (qz_inf k).2.1
def qz_ml (k : Nat) : Nat := (qz_inf k).2.2.1
def qz_rt (k : Nat) : Option FieldType := (qz_inf k).2.2.2.1
def qz_cn (k : Nat) : Nat := (qz_inf k).2.2.2.2.1
def qz_na (k : Nat) : Nat := (qz_inf k).2.2.2.2.2.1
def qz_sa (k : Nat) : Bool := (qz_inf k).2.2.2.2.2.2.1
def qz_rF (k : Nat) : Nat := (qz_inf k).2.2.2.2.2.2.2.1
def qz_rL (k : Nat) : Nat := (qz_inf k).2.2.2.2.2.2.2.2
def qz_ini (k : Nat) : Bool := (qz_y k).name == "<init>"
/-- the methods that have longs among their locals -/
def qz_lm (k : Nat) : Bool := k == 72 || k == 75
def qz_ll (k : Nat) : Nat := if qz_lm k = true then 2 * qz_ml k else qz_ml k
def qz_k4L : List ((Nat × Nat) × Int32) := [((8, 7), (2147483647 : Int32))]
def qz_k4 (c i : Nat) : Option Int32 := qz_k4L.lookup (c, i)
def qz_k4O (e : (Nat × Nat) × Int32) : Prop := Cond.constant (qz_ow e.1.1) e.1.2 e.2 ∈ qz_tb
theorem qz_k4o0 : qz_k4O ((8, 7), (2147483647 : Int32)) := qz_in 369 (by decide +kernel) (by decide +kernel)
set_option maxRecDepth 20000 in
theorem qz_k4L_ok : ∀ e ∈ qz_k4L, qz_k4O e := List.forall_mem_cons.mpr ⟨qz_k4o0, fun _ h => absurd h List.not_mem_nil⟩
theorem qz_k4_ok {c i : Nat} {x : Int32} (h : qz_k4 c i = some x) : qz_k4O ((c, i), x) := qz_fm qz_k4L_ok (qz_lk h)
def qz_k8L : List ((Nat × Nat) × Int64) := [((8, 8), (3 : Int64)), ((8, 10), (31 : Int64))]
def qz_k8 (c i : Nat) : Option Int64 := qz_k8L.lookup (c, i)
def qz_k8O (e : (Nat × Nat) × Int64) : Prop := Cond.constantLong (qz_ow e.1.1) e.1.2 e.2 ∈ qz_tb
theorem qz_k8o0 : qz_k8O ((8, 8), (3 : Int64)) := qz_in 269 (by decide +kernel) (by decide +kernel)
theorem qz_k8o1 : qz_k8O ((8, 10), (31 : Int64)) := qz_in 270 (by decide +kernel) (by decide +kernel)
set_option maxRecDepth 20000 in
theorem qz_k8L_ok : ∀ e ∈ qz_k8L, qz_k8O e := List.forall_mem_cons.mpr ⟨qz_k8o0, List.forall_mem_cons.mpr ⟨qz_k8o1, fun _ h => absurd h List.not_mem_nil⟩⟩
theorem qz_k8_ok {c i : Nat} {x : Int64} (h : qz_k8 c i = some x) : qz_k8O ((c, i), x) := qz_fm qz_k8L_ok (qz_lk h)
abbrev qz_nm : Nat := 75
/-- a method that may be called -/
def qz_MO (k : Nat) : Prop := plainName (qz_y k).cls = true ∧ Cond.code (qz_y k) (qz_b k) (qz_ml k) (qz_rt k) ∈ qz_tb ∧ Cond.initialized (qz_y k).cls ∈ qz_tb ∧ ((qz_y k).cls ≠ "java/lang/invoke/MethodHandle" ∧ (qz_y k).cls ≠ "java/lang/invoke/VarHandle") ∧ (parseMethodDescriptor (qz_y k).desc).map (fun d => d.parameters.length) = some (qz_na k - (if qz_sa k = true then 0 else 1)) ∧ (qz_sa k = true → Cond.static (qz_y k) ∈ qz_tb) ∧ (qz_sa k = false → Cond.instanceMethod (qz_y k) ∈ qz_tb ∧ (qz_ini k = true ∨ Cond.selects (qz_ow (qz_cn k)) (qz_y k) (qz_y k) ∈ qz_tb) ∧ qz_cn k < 6 ∧ 1 ≤ qz_na k) ∧ (qz_y k).cls = qz_ow (qz_cn k) ∧ qz_na k ≤ qz_ml k ∧ (qz_ini k = true → qz_rt k = none)
set_option maxRecDepth 20000 in
theorem qz_mo0 : qz_MO 0 := ⟨by decide +kernel, qz_in 39 (by decide +kernel) (by decide +kernel), qz_in 13 (by decide +kernel) (by decide +kernel), ⟨by decide +kernel, by decide +kernel⟩, by decide +kernel, fun h => absurd h (by decide +kernel), fun _ => ⟨qz_in 38 (by decide +kernel) (by decide +kernel), Or.inl (by decide +kernel), by decide +kernel, by decide +kernel⟩, by decide +kernel, by decide +kernel, by decide +kernel⟩
set_option maxRecDepth 20000 in
theorem qz_mo1 : qz_MO 1 := ⟨by decide +kernel, qz_in 229 (by decide +kernel) (by decide +kernel), qz_in 13 (by decide +kernel) (by decide +kernel), ⟨by decide +kernel, by decide +kernel⟩, by decide +kernel, fun h => absurd h (by decide +kernel), fun _ => ⟨qz_in 227 (by decide +kernel) (by decide +kernel), Or.inr (qz_in 228 (by decide +kernel) (by decide +kernel)), by decide +kernel, by decide +kernel⟩, by decide +kernel, by decide +kernel, by decide +kernel⟩
set_option maxRecDepth 20000 in
theorem qz_mo2 : qz_MO 2 := ⟨by decide +kernel, qz_in 253 (by decide +kernel) (by decide +kernel), qz_in 13 (by decide +kernel) (by decide +kernel), ⟨by decide +kernel, by decide +kernel⟩, by decide +kernel, fun h => absurd h (by decide +kernel), fun _ => ⟨qz_in 251 (by decide +kernel) (by decide +kernel), Or.inr (qz_in 252 (by decide +kernel) (by decide +kernel)), by decide +kernel, by decide +kernel⟩, by decide +kernel, by decide +kernel, by decide +kernel⟩
set_option maxRecDepth 20000 in
theorem qz_mo3 : qz_MO 3 := ⟨by decide +kernel, qz_in 324 (by decide +kernel) (by decide +kernel), qz_in 13 (by decide +kernel) (by decide +kernel), ⟨by decide +kernel, by decide +kernel⟩, by decide +kernel, fun h => absurd h (by decide +kernel), fun _ => ⟨qz_in 322 (by decide +kernel) (by decide +kernel), Or.inr (qz_in 323 (by decide +kernel) (by decide +kernel)), by decide +kernel, by decide +kernel⟩, by decide +kernel, by decide +kernel, by decide +kernel⟩
set_option maxRecDepth 20000 in
theorem qz_mo4 : qz_MO 4 := ⟨by decide +kernel, qz_in 328 (by decide +kernel) (by decide +kernel), qz_in 13 (by decide +kernel) (by decide +kernel), ⟨by decide +kernel, by decide +kernel⟩, by decide +kernel, fun h => absurd h (by decide +kernel), fun _ => ⟨qz_in 326 (by decide +kernel) (by decide +kernel), Or.inr (qz_in 327 (by decide +kernel) (by decide +kernel)), by decide +kernel, by decide +kernel⟩, by decide +kernel, by decide +kernel, by decide +kernel⟩
set_option maxRecDepth 20000 in
theorem qz_mo5 : qz_MO 5 := ⟨by decide +kernel, qz_in 362 (by decide +kernel) (by decide +kernel), qz_in 13 (by decide +kernel) (by decide +kernel), ⟨by decide +kernel, by decide +kernel⟩, by decide +kernel, fun h => absurd h (by decide +kernel), fun _ => ⟨qz_in 360 (by decide +kernel) (by decide +kernel), Or.inr (qz_in 361 (by decide +kernel) (by decide +kernel)), by decide +kernel, by decide +kernel⟩, by decide +kernel, by decide +kernel, by decide +kernel⟩
set_option maxRecDepth 20000 in
theorem qz_mo6 : qz_MO 6 := ⟨by decide +kernel, qz_in 461 (by decide +kernel) (by decide +kernel), qz_in 13 (by decide +kernel) (by decide +kernel), ⟨by decide +kernel, by decide +kernel⟩, by decide +kernel, fun h => absurd h (by decide +kernel), fun _ => ⟨qz_in 459 (by decide +kernel) (by decide +kernel), Or.inr (qz_in 460 (by decide +kernel) (by decide +kernel)), by decide +kernel, by decide +kernel⟩, by decide +kernel, by decide +kernel, by decide +kernel⟩
set_option maxRecDepth 20000 in
theorem qz_mo7 : qz_MO 7 := ⟨by decide +kernel, qz_in 216 (by decide +kernel) (by decide +kernel), qz_in 13 (by decide +kernel) (by decide +kernel), ⟨by decide +kernel, by decide +kernel⟩, by decide +kernel, fun h => absurd h (by decide +kernel), fun _ => ⟨qz_in 214 (by decide +kernel) (by decide +kernel), Or.inr (qz_in 215 (by decide +kernel) (by decide +kernel)), by decide +kernel, by decide +kernel⟩, by decide +kernel, by decide +kernel, by decide +kernel⟩
set_option maxRecDepth 20000 in
theorem qz_mo8 : qz_MO 8 := ⟨by decide +kernel, qz_in 131 (by decide +kernel) (by decide +kernel), qz_in 14 (by decide +kernel) (by decide +kernel), ⟨by decide +kernel, by decide +kernel⟩, by decide +kernel, fun h => absurd h (by decide +kernel), fun _ => ⟨qz_in 130 (by decide +kernel) (by decide +kernel), Or.inl (by decide +kernel), by decide +kernel, by decide +kernel⟩, by decide +kernel, by decide +kernel, by decide +kernel⟩
set_option maxRecDepth 20000 in
theorem qz_mo9 : qz_MO 9 := ⟨by decide +kernel, qz_in 169 (by decide +kernel) (by decide +kernel), qz_in 16 (by decide +kernel) (by decide +kernel), ⟨by decide +kernel, by decide +kernel⟩, by decide +kernel, fun h => absurd h (by decide +kernel), fun _ => ⟨qz_in 168 (by decide +kernel) (by decide +kernel), Or.inl (by decide +kernel), by decide +kernel, by decide +kernel⟩, by decide +kernel, by decide +kernel, by decide +kernel⟩
set_option maxRecDepth 20000 in
theorem qz_mo10 : qz_MO 10 := ⟨by decide +kernel, qz_in 237 (by decide +kernel) (by decide +kernel), qz_in 16 (by decide +kernel) (by decide +kernel), ⟨by decide +kernel, by decide +kernel⟩, by decide +kernel, fun h => absurd h (by decide +kernel), fun _ => ⟨qz_in 235 (by decide +kernel) (by decide +kernel), Or.inr (qz_in 236 (by decide +kernel) (by decide +kernel)), by decide +kernel, by decide +kernel⟩, by decide +kernel, by decide +kernel, by decide +kernel⟩
set_option maxRecDepth 20000 in
theorem qz_mo11 : qz_MO 11 := ⟨by decide +kernel, qz_in 241 (by decide +kernel) (by decide +kernel), qz_in 16 (by decide +kernel) (by decide +kernel), ⟨by decide +kernel, by decide +kernel⟩, by decide +kernel, fun h => absurd h (by decide +kernel), fun _ => ⟨qz_in 240 (by decide +kernel) (by decide +kernel), Or.inr (qz_in 0 (by decide +kernel) (by decide +kernel)), by decide +kernel, by decide +kernel⟩, by decide +kernel, by decide +kernel, by decide +kernel⟩
set_option maxRecDepth 20000 in
theorem qz_mo12 : qz_MO 12 := ⟨by decide +kernel, qz_in 205 (by decide +kernel) (by decide +kernel), qz_in 16 (by decide +kernel) (by decide +kernel), ⟨by decide +kernel, by decide +kernel⟩, by decide +kernel, fun h => absurd h (by decide +kernel), fun _ => ⟨qz_in 203 (by decide +kernel) (by decide +kernel), Or.inr (qz_in 204 (by decide +kernel) (by decide +kernel)), by decide +kernel, by decide +kernel⟩, by decide +kernel, by decide +kernel, by decide +kernel⟩
set_option maxRecDepth 20000 in
theorem qz_mo13 : qz_MO 13 := ⟨by decide +kernel, qz_in 138 (by decide +kernel) (by decide +kernel), qz_in 15 (by decide +kernel) (by decide +kernel), ⟨by decide +kernel, by decide +kernel⟩, by decide +kernel, fun h => absurd h (by decide +kernel), fun _ => ⟨qz_in 137 (by decide +kernel) (by decide +kernel), Or.inl (by decide +kernel), by decide +kernel, by decide +kernel⟩, by decide +kernel, by decide +kernel, by decide +kernel⟩
set_option maxRecDepth 20000 in
theorem qz_mo14 : qz_MO 14 := ⟨by decide +kernel, qz_in 30 (by decide +kernel) (by decide +kernel), qz_in 12 (by decide +kernel) (by decide +kernel), ⟨by decide +kernel, by decide +kernel⟩, by decide +kernel, fun h => absurd h (by decide +kernel), fun _ => ⟨qz_in 29 (by decide +kernel) (by decide +kernel), Or.inl (by decide +kernel), by decide +kernel, by decide +kernel⟩, by decide +kernel, by decide +kernel, by decide +kernel⟩
set_option maxRecDepth 20000 in
theorem qz_mo15 : qz_MO 15 := ⟨by decide +kernel, qz_in 209 (by decide +kernel) (by decide +kernel), qz_in 12 (by decide +kernel) (by decide +kernel), ⟨by decide +kernel, by decide +kernel⟩, by decide +kernel, fun h => absurd h (by decide +kernel), fun _ => ⟨qz_in 207 (by decide +kernel) (by decide +kernel), Or.inr (qz_in 208 (by decide +kernel) (by decide +kernel)), by decide +kernel, by decide +kernel⟩, by decide +kernel, by decide +kernel, by decide +kernel⟩
set_option maxRecDepth 20000 in
theorem qz_mo16 : qz_MO 16 := ⟨by decide +kernel, qz_in 212 (by decide +kernel) (by decide +kernel), qz_in 12 (by decide +kernel) (by decide +kernel), ⟨by decide +kernel, by decide +kernel⟩, by decide +kernel, fun _ => qz_in 211 (by decide +kernel) (by decide +kernel), fun h => absurd h (by decide +kernel), by decide +kernel, by decide +kernel, by decide +kernel⟩
set_option maxRecDepth 20000 in
theorem qz_mo17 : qz_MO 17 := ⟨by decide +kernel, qz_in 262 (by decide +kernel) (by decide +kernel), qz_in 12 (by decide +kernel) (by decide +kernel), ⟨by decide +kernel, by decide +kernel⟩, by decide +kernel, fun h => absurd h (by decide +kernel), fun _ => ⟨qz_in 260 (by decide +kernel) (by decide +kernel), Or.inr (qz_in 261 (by decide +kernel) (by decide +kernel)), by decide +kernel, by decide +kernel⟩, by decide +kernel, by decide +kernel, by decide +kernel⟩
set_option maxRecDepth 20000 in
theorem qz_mo18 : qz_MO 18 := ⟨by decide +kernel, qz_in 392 (by decide +kernel) (by decide +kernel), qz_in 12 (by decide +kernel) (by decide +kernel), ⟨by decide +kernel, by decide +kernel⟩, by decide +kernel, fun h => absurd h (by decide +kernel), fun _ => ⟨qz_in 390 (by decide +kernel) (by decide +kernel), Or.inr (qz_in 391 (by decide +kernel) (by decide +kernel)), by decide +kernel, by decide +kernel⟩, by decide +kernel, by decide +kernel, by decide +kernel⟩
set_option maxRecDepth 20000 in
theorem qz_mo19 : qz_MO 19 := ⟨by decide +kernel, qz_in 300 (by decide +kernel) (by decide +kernel), qz_in 12 (by decide +kernel) (by decide +kernel), ⟨by decide +kernel, by decide +kernel⟩, by decide +kernel, fun h => absurd h (by decide +kernel), fun _ => ⟨qz_in 298 (by decide +kernel) (by decide +kernel), Or.inr (qz_in 299 (by decide +kernel) (by decide +kernel)), by decide +kernel, by decide +kernel⟩, by decide +kernel, by decide +kernel, by decide +kernel⟩
set_option maxRecDepth 20000 in
theorem qz_mo20 : qz_MO 20 := ⟨by decide +kernel, qz_in 377 (by decide +kernel) (by decide +kernel), qz_in 12 (by decide +kernel) (by decide +kernel), ⟨by decide +kernel, by decide +kernel⟩, by decide +kernel, fun h => absurd h (by decide +kernel), fun _ => ⟨qz_in 375 (by decide +kernel) (by decide +kernel), Or.inr (qz_in 376 (by decide +kernel) (by decide +kernel)), by decide +kernel, by decide +kernel⟩, by decide +kernel, by decide +kernel, by decide +kernel⟩
set_option maxRecDepth 20000 in
theorem qz_mo21 : qz_MO 21 := ⟨by decide +kernel, qz_in 304 (by decide +kernel) (by decide +kernel), qz_in 12 (by decide +kernel) (by decide +kernel), ⟨by decide +kernel, by decide +kernel⟩, by decide +kernel, fun h => absurd h (by decide +kernel), fun _ => ⟨qz_in 303 (by decide +kernel) (by decide +kernel), Or.inr (qz_in 1 (by decide +kernel) (by decide +kernel)), by decide +kernel, by decide +kernel⟩, by decide +kernel, by decide +kernel, by decide +kernel⟩
set_option maxRecDepth 20000 in
theorem qz_mo22 : qz_MO 22 := ⟨by decide +kernel, qz_in 408 (by decide +kernel) (by decide +kernel), qz_in 12 (by decide +kernel) (by decide +kernel), ⟨by decide +kernel, by decide +kernel⟩, by decide +kernel, fun h => absurd h (by decide +kernel), fun _ => ⟨qz_in 407 (by decide +kernel) (by decide +kernel), Or.inr (qz_in 6 (by decide +kernel) (by decide +kernel)), by decide +kernel, by decide +kernel⟩, by decide +kernel, by decide +kernel, by decide +kernel⟩
set_option maxRecDepth 20000 in
theorem qz_mo23 : qz_MO 23 := ⟨by decide +kernel, qz_in 278 (by decide +kernel) (by decide +kernel), qz_in 12 (by decide +kernel) (by decide +kernel), ⟨by decide +kernel, by decide +kernel⟩, by decide +kernel, fun h => absurd h (by decide +kernel), fun _ => ⟨qz_in 276 (by decide +kernel) (by decide +kernel), Or.inr (qz_in 277 (by decide +kernel) (by decide +kernel)), by decide +kernel, by decide +kernel⟩, by decide +kernel, by decide +kernel, by decide +kernel⟩
set_option maxRecDepth 20000 in
theorem qz_mo24 : qz_MO 24 := ⟨by decide +kernel, qz_in 476 (by decide +kernel) (by decide +kernel), qz_in 12 (by decide +kernel) (by decide +kernel), ⟨by decide +kernel, by decide +kernel⟩, by decide +kernel, fun h => absurd h (by decide +kernel), fun _ => ⟨qz_in 474 (by decide +kernel) (by decide +kernel), Or.inr (qz_in 475 (by decide +kernel) (by decide +kernel)), by decide +kernel, by decide +kernel⟩, by decide +kernel, by decide +kernel, by decide +kernel⟩
set_option maxRecDepth 20000 in
theorem qz_mo25 : qz_MO 25 := ⟨by decide +kernel, qz_in 225 (by decide +kernel) (by decide +kernel), qz_in 12 (by decide +kernel) (by decide +kernel), ⟨by decide +kernel, by decide +kernel⟩, by decide +kernel, fun h => absurd h (by decide +kernel), fun _ => ⟨qz_in 223 (by decide +kernel) (by decide +kernel), Or.inr (qz_in 224 (by decide +kernel) (by decide +kernel)), by decide +kernel, by decide +kernel⟩, by decide +kernel, by decide +kernel, by decide +kernel⟩
set_option maxRecDepth 20000 in
theorem qz_mo26 : qz_MO 26 := ⟨by decide +kernel, qz_in 249 (by decide +kernel) (by decide +kernel), qz_in 12 (by decide +kernel) (by decide +kernel), ⟨by decide +kernel, by decide +kernel⟩, by decide +kernel, fun h => absurd h (by decide +kernel), fun _ => ⟨qz_in 247 (by decide +kernel) (by decide +kernel), Or.inr (qz_in 248 (by decide +kernel) (by decide +kernel)), by decide +kernel, by decide +kernel⟩, by decide +kernel, by decide +kernel, by decide +kernel⟩
set_option maxRecDepth 20000 in
theorem qz_mo27 : qz_MO 27 := ⟨by decide +kernel, qz_in 316 (by decide +kernel) (by decide +kernel), qz_in 12 (by decide +kernel) (by decide +kernel), ⟨by decide +kernel, by decide +kernel⟩, by decide +kernel, fun h => absurd h (by decide +kernel), fun _ => ⟨qz_in 314 (by decide +kernel) (by decide +kernel), Or.inr (qz_in 315 (by decide +kernel) (by decide +kernel)), by decide +kernel, by decide +kernel⟩, by decide +kernel, by decide +kernel, by decide +kernel⟩
set_option maxRecDepth 20000 in
theorem qz_mo28 : qz_MO 28 := ⟨by decide +kernel, qz_in 396 (by decide +kernel) (by decide +kernel), qz_in 12 (by decide +kernel) (by decide +kernel), ⟨by decide +kernel, by decide +kernel⟩, by decide +kernel, fun h => absurd h (by decide +kernel), fun _ => ⟨qz_in 394 (by decide +kernel) (by decide +kernel), Or.inr (qz_in 395 (by decide +kernel) (by decide +kernel)), by decide +kernel, by decide +kernel⟩, by decide +kernel, by decide +kernel, by decide +kernel⟩
set_option maxRecDepth 20000 in
theorem qz_mo29 : qz_MO 29 := ⟨by decide +kernel, qz_in 400 (by decide +kernel) (by decide +kernel), qz_in 12 (by decide +kernel) (by decide +kernel), ⟨by decide +kernel, by decide +kernel⟩, by decide +kernel, fun h => absurd h (by decide +kernel), fun _ => ⟨qz_in 399 (by decide +kernel) (by decide +kernel), Or.inr (qz_in 4 (by decide +kernel) (by decide +kernel)), by decide +kernel, by decide +kernel⟩, by decide +kernel, by decide +kernel, by decide +kernel⟩
set_option maxRecDepth 20000 in
theorem qz_mo30 : qz_MO 30 := ⟨by decide +kernel, qz_in 404 (by decide +kernel) (by decide +kernel), qz_in 12 (by decide +kernel) (by decide +kernel), ⟨by decide +kernel, by decide +kernel⟩, by decide +kernel, fun h => absurd h (by decide +kernel), fun _ => ⟨qz_in 403 (by decide +kernel) (by decide +kernel), Or.inr (qz_in 5 (by decide +kernel) (by decide +kernel)), by decide +kernel, by decide +kernel⟩, by decide +kernel, by decide +kernel, by decide +kernel⟩
set_option maxRecDepth 20000 in
theorem qz_mo31 : qz_MO 31 := ⟨by decide +kernel, qz_in 289 (by decide +kernel) (by decide +kernel), qz_in 12 (by decide +kernel) (by decide +kernel), ⟨by decide +kernel, by decide +kernel⟩, by decide +kernel, fun _ => qz_in 288 (by decide +kernel) (by decide +kernel), fun h => absurd h (by decide +kernel), by decide +kernel, by decide +kernel, by decide +kernel⟩
set_option maxRecDepth 20000 in
theorem qz_mo32 : qz_MO 32 := ⟨by decide +kernel, qz_in 286 (by decide +kernel) (by decide +kernel), qz_in 12 (by decide +kernel) (by decide +kernel), ⟨by decide +kernel, by decide +kernel⟩, by decide +kernel, fun h => absurd h (by decide +kernel), fun _ => ⟨qz_in 284 (by decide +kernel) (by decide +kernel), Or.inr (qz_in 285 (by decide +kernel) (by decide +kernel)), by decide +kernel, by decide +kernel⟩, by decide +kernel, by decide +kernel, by decide +kernel⟩
set_option maxRecDepth 20000 in
theorem qz_mo33 : qz_MO 33 := ⟨by decide +kernel, qz_in 432 (by decide +kernel) (by decide +kernel), qz_in 12 (by decide +kernel) (by decide +kernel), ⟨by decide +kernel, by decide +kernel⟩, by decide +kernel, fun h => absurd h (by decide +kernel), fun _ => ⟨qz_in 430 (by decide +kernel) (by decide +kernel), Or.inr (qz_in 431 (by decide +kernel) (by decide +kernel)), by decide +kernel, by decide +kernel⟩, by decide +kernel, by decide +kernel, by decide +kernel⟩
set_option maxRecDepth 20000 in
theorem qz_mo34 : qz_MO 34 := ⟨by decide +kernel, qz_in 258 (by decide +kernel) (by decide +kernel), qz_in 12 (by decide +kernel) (by decide +kernel), ⟨by decide +kernel, by decide +kernel⟩, by decide +kernel, fun h => absurd h (by decide +kernel), fun _ => ⟨qz_in 256 (by decide +kernel) (by decide +kernel), Or.inr (qz_in 257 (by decide +kernel) (by decide +kernel)), by decide +kernel, by decide +kernel⟩, by decide +kernel, by decide +kernel, by decide +kernel⟩
set_option maxRecDepth 20000 in
theorem qz_mo35 : qz_MO 35 := ⟨by decide +kernel, qz_in 296 (by decide +kernel) (by decide +kernel), qz_in 12 (by decide +kernel) (by decide +kernel), ⟨by decide +kernel, by decide +kernel⟩, by decide +kernel, fun h => absurd h (by decide +kernel), fun _ => ⟨qz_in 294 (by decide +kernel) (by decide +kernel), Or.inr (qz_in 295 (by decide +kernel) (by decide +kernel)), by decide +kernel, by decide +kernel⟩, by decide +kernel, by decide +kernel, by decide +kernel⟩
set_option maxRecDepth 20000 in
theorem qz_mo36 : qz_MO 36 := ⟨by decide +kernel, qz_in 282 (by decide +kernel) (by decide +kernel), qz_in 12 (by decide +kernel) (by decide +kernel), ⟨by decide +kernel, by decide +kernel⟩, by decide +kernel, fun h => absurd h (by decide +kernel), fun _ => ⟨qz_in 280 (by decide +kernel) (by decide +kernel), Or.inr (qz_in 281 (by decide +kernel) (by decide +kernel)), by decide +kernel, by decide +kernel⟩, by decide +kernel, by decide +kernel, by decide +kernel⟩
set_option maxRecDepth 20000 in
theorem qz_mo37 : qz_MO 37 := ⟨by decide +kernel, qz_in 311 (by decide +kernel) (by decide +kernel), qz_in 12 (by decide +kernel) (by decide +kernel), ⟨by decide +kernel, by decide +kernel⟩, by decide +kernel, fun h => absurd h (by decide +kernel), fun _ => ⟨qz_in 309 (by decide +kernel) (by decide +kernel), Or.inr (qz_in 310 (by decide +kernel) (by decide +kernel)), by decide +kernel, by decide +kernel⟩, by decide +kernel, by decide +kernel, by decide +kernel⟩
set_option maxRecDepth 20000 in
theorem qz_mo38 : qz_MO 38 := ⟨by decide +kernel, qz_in 332 (by decide +kernel) (by decide +kernel), qz_in 12 (by decide +kernel) (by decide +kernel), ⟨by decide +kernel, by decide +kernel⟩, by decide +kernel, fun h => absurd h (by decide +kernel), fun _ => ⟨qz_in 331 (by decide +kernel) (by decide +kernel), Or.inr (qz_in 2 (by decide +kernel) (by decide +kernel)), by decide +kernel, by decide +kernel⟩, by decide +kernel, by decide +kernel, by decide +kernel⟩
set_option maxRecDepth 20000 in
theorem qz_mo39 : qz_MO 39 := ⟨by decide +kernel, qz_in 320 (by decide +kernel) (by decide +kernel), qz_in 12 (by decide +kernel) (by decide +kernel), ⟨by decide +kernel, by decide +kernel⟩, by decide +kernel, fun h => absurd h (by decide +kernel), fun _ => ⟨qz_in 318 (by decide +kernel) (by decide +kernel), Or.inr (qz_in 319 (by decide +kernel) (by decide +kernel)), by decide +kernel, by decide +kernel⟩, by decide +kernel, by decide +kernel, by decide +kernel⟩
set_option maxRecDepth 20000 in
theorem qz_mo40 : qz_MO 40 := ⟨by decide +kernel, qz_in 346 (by decide +kernel) (by decide +kernel), qz_in 12 (by decide +kernel) (by decide +kernel), ⟨by decide +kernel, by decide +kernel⟩, by decide +kernel, fun h => absurd h (by decide +kernel), fun _ => ⟨qz_in 344 (by decide +kernel) (by decide +kernel), Or.inr (qz_in 345 (by decide +kernel) (by decide +kernel)), by decide +kernel, by decide +kernel⟩, by decide +kernel, by decide +kernel, by decide +kernel⟩
set_option maxRecDepth 20000 in
theorem qz_mo41 : qz_MO 41 := ⟨by decide +kernel, qz_in 350 (by decide +kernel) (by decide +kernel), qz_in 12 (by decide +kernel) (by decide +kernel), ⟨by decide +kernel, by decide +kernel⟩, by decide +kernel, fun h => absurd h (by decide +kernel), fun _ => ⟨qz_in 348 (by decide +kernel) (by decide +kernel), Or.inr (qz_in 349 (by decide +kernel) (by decide +kernel)), by decide +kernel, by decide +kernel⟩, by decide +kernel, by decide +kernel, by decide +kernel⟩
set_option maxRecDepth 20000 in
theorem qz_mo42 : qz_MO 42 := ⟨by decide +kernel, qz_in 421 (by decide +kernel) (by decide +kernel), qz_in 12 (by decide +kernel) (by decide +kernel), ⟨by decide +kernel, by decide +kernel⟩, by decide +kernel, fun h => absurd h (by decide +kernel), fun _ => ⟨qz_in 419 (by decide +kernel) (by decide +kernel), Or.inr (qz_in 420 (by decide +kernel) (by decide +kernel)), by decide +kernel, by decide +kernel⟩, by decide +kernel, by decide +kernel, by decide +kernel⟩
set_option maxRecDepth 20000 in
theorem qz_mo43 : qz_MO 43 := ⟨by decide +kernel, qz_in 428 (by decide +kernel) (by decide +kernel), qz_in 12 (by decide +kernel) (by decide +kernel), ⟨by decide +kernel, by decide +kernel⟩, by decide +kernel, fun h => absurd h (by decide +kernel), fun _ => ⟨qz_in 427 (by decide +kernel) (by decide +kernel), Or.inr (qz_in 8 (by decide +kernel) (by decide +kernel)), by decide +kernel, by decide +kernel⟩, by decide +kernel, by decide +kernel, by decide +kernel⟩
set_option maxRecDepth 20000 in
theorem qz_mo44 : qz_MO 44 := ⟨by decide +kernel, qz_in 358 (by decide +kernel) (by decide +kernel), qz_in 12 (by decide +kernel) (by decide +kernel), ⟨by decide +kernel, by decide +kernel⟩, by decide +kernel, fun h => absurd h (by decide +kernel), fun _ => ⟨qz_in 357 (by decide +kernel) (by decide +kernel), Or.inr (qz_in 3 (by decide +kernel) (by decide +kernel)), by decide +kernel, by decide +kernel⟩, by decide +kernel, by decide +kernel, by decide +kernel⟩
set_option maxRecDepth 20000 in
theorem qz_mo45 : qz_MO 45 := ⟨by decide +kernel, qz_in 354 (by decide +kernel) (by decide +kernel), qz_in 12 (by decide +kernel) (by decide +kernel), ⟨by decide +kernel, by decide +kernel⟩, by decide +kernel, fun h => absurd h (by decide +kernel), fun _ => ⟨qz_in 352 (by decide +kernel) (by decide +kernel), Or.inr (qz_in 353 (by decide +kernel) (by decide +kernel)), by decide +kernel, by decide +kernel⟩, by decide +kernel, by decide +kernel, by decide +kernel⟩
set_option maxRecDepth 20000 in
theorem qz_mo46 : qz_MO 46 := ⟨by decide +kernel, qz_in 444 (by decide +kernel) (by decide +kernel), qz_in 12 (by decide +kernel) (by decide +kernel), ⟨by decide +kernel, by decide +kernel⟩, by decide +kernel, fun h => absurd h (by decide +kernel), fun _ => ⟨qz_in 442 (by decide +kernel) (by decide +kernel), Or.inr (qz_in 443 (by decide +kernel) (by decide +kernel)), by decide +kernel, by decide +kernel⟩, by decide +kernel, by decide +kernel, by decide +kernel⟩
set_option maxRecDepth 20000 in
theorem qz_mo47 : qz_MO 47 := ⟨by decide +kernel, qz_in 449 (by decide +kernel) (by decide +kernel), qz_in 12 (by decide +kernel) (by decide +kernel), ⟨by decide +kernel, by decide +kernel⟩, by decide +kernel, fun h => absurd h (by decide +kernel), fun _ => ⟨qz_in 447 (by decide +kernel) (by decide +kernel), Or.inr (qz_in 448 (by decide +kernel) (by decide +kernel)), by decide +kernel, by decide +kernel⟩, by decide +kernel, by decide +kernel, by decide +kernel⟩
set_option maxRecDepth 20000 in
theorem qz_mo48 : qz_MO 48 := ⟨by decide +kernel, qz_in 453 (by decide +kernel) (by decide +kernel), qz_in 12 (by decide +kernel) (by decide +kernel), ⟨by decide +kernel, by decide +kernel⟩, by decide +kernel, fun h => absurd h (by decide +kernel), fun _ => ⟨qz_in 452 (by decide +kernel) (by decide +kernel), Or.inr (qz_in 9 (by decide +kernel) (by decide +kernel)), by decide +kernel, by decide +kernel⟩, by decide +kernel, by decide +kernel, by decide +kernel⟩
set_option maxRecDepth 20000 in
theorem qz_mo49 : qz_MO 49 := ⟨by decide +kernel, qz_in 22 (by decide +kernel) (by decide +kernel), qz_in 11 (by decide +kernel) (by decide +kernel), ⟨by decide +kernel, by decide +kernel⟩, by decide +kernel, fun h => absurd h (by decide +kernel), fun _ => ⟨qz_in 21 (by decide +kernel) (by decide +kernel), Or.inl (by decide +kernel), by decide +kernel, by decide +kernel⟩, by decide +kernel, by decide +kernel, by decide +kernel⟩
set_option maxRecDepth 20000 in
theorem qz_mo50 : qz_MO 50 := ⟨by decide +kernel, qz_in 373 (by decide +kernel) (by decide +kernel), qz_in 11 (by decide +kernel) (by decide +kernel), ⟨by decide +kernel, by decide +kernel⟩, by decide +kernel, fun h => absurd h (by decide +kernel), fun _ => ⟨qz_in 371 (by decide +kernel) (by decide +kernel), Or.inr (qz_in 372 (by decide +kernel) (by decide +kernel)), by decide +kernel, by decide +kernel⟩, by decide +kernel, by decide +kernel, by decide +kernel⟩
set_option maxRecDepth 20000 in
theorem qz_mo51 : qz_MO 51 := ⟨by decide +kernel, qz_in 469 (by decide +kernel) (by decide +kernel), qz_in 11 (by decide +kernel) (by decide +kernel), ⟨by decide +kernel, by decide +kernel⟩, by decide +kernel, fun h => absurd h (by decide +kernel), fun _ => ⟨qz_in 467 (by decide +kernel) (by decide +kernel), Or.inr (qz_in 468 (by decide +kernel) (by decide +kernel)), by decide +kernel, by decide +kernel⟩, by decide +kernel, by decide +kernel, by decide +kernel⟩
set_option maxRecDepth 20000 in
theorem qz_mo52 : qz_MO 52 := ⟨by decide +kernel, qz_in 457 (by decide +kernel) (by decide +kernel), qz_in 11 (by decide +kernel) (by decide +kernel), ⟨by decide +kernel, by decide +kernel⟩, by decide +kernel, fun h => absurd h (by decide +kernel), fun _ => ⟨qz_in 455 (by decide +kernel) (by decide +kernel), Or.inr (qz_in 456 (by decide +kernel) (by decide +kernel)), by decide +kernel, by decide +kernel⟩, by decide +kernel, by decide +kernel, by decide +kernel⟩
set_option maxRecDepth 20000 in
theorem qz_mo53 : qz_MO 53 := ⟨by decide +kernel, qz_in 465 (by decide +kernel) (by decide +kernel), qz_in 11 (by decide +kernel) (by decide +kernel), ⟨by decide +kernel, by decide +kernel⟩, by decide +kernel, fun h => absurd h (by decide +kernel), fun _ => ⟨qz_in 463 (by decide +kernel) (by decide +kernel), Or.inr (qz_in 464 (by decide +kernel) (by decide +kernel)), by decide +kernel, by decide +kernel⟩, by decide +kernel, by decide +kernel, by decide +kernel⟩
set_option maxRecDepth 20000 in
theorem qz_mo54 : qz_MO 54 := ⟨by decide +kernel, qz_in 413 (by decide +kernel) (by decide +kernel), qz_in 11 (by decide +kernel) (by decide +kernel), ⟨by decide +kernel, by decide +kernel⟩, by decide +kernel, fun h => absurd h (by decide +kernel), fun _ => ⟨qz_in 411 (by decide +kernel) (by decide +kernel), Or.inr (qz_in 412 (by decide +kernel) (by decide +kernel)), by decide +kernel, by decide +kernel⟩, by decide +kernel, by decide +kernel, by decide +kernel⟩
set_option maxRecDepth 20000 in
theorem qz_mo55 : qz_MO 55 := ⟨by decide +kernel, qz_in 436 (by decide +kernel) (by decide +kernel), qz_in 11 (by decide +kernel) (by decide +kernel), ⟨by decide +kernel, by decide +kernel⟩, by decide +kernel, fun h => absurd h (by decide +kernel), fun _ => ⟨qz_in 434 (by decide +kernel) (by decide +kernel), Or.inr (qz_in 435 (by decide +kernel) (by decide +kernel)), by decide +kernel, by decide +kernel⟩, by decide +kernel, by decide +kernel, by decide +kernel⟩
set_option maxRecDepth 20000 in
theorem qz_mo56 : qz_MO 56 := ⟨by decide +kernel, qz_in 381 (by decide +kernel) (by decide +kernel), qz_in 11 (by decide +kernel) (by decide +kernel), ⟨by decide +kernel, by decide +kernel⟩, by decide +kernel, fun h => absurd h (by decide +kernel), fun _ => ⟨qz_in 379 (by decide +kernel) (by decide +kernel), Or.inr (qz_in 380 (by decide +kernel) (by decide +kernel)), by decide +kernel, by decide +kernel⟩, by decide +kernel, by decide +kernel, by decide +kernel⟩
set_option maxRecDepth 20000 in
theorem qz_mo57 : qz_MO 57 := ⟨by decide +kernel, qz_in 440 (by decide +kernel) (by decide +kernel), qz_in 11 (by decide +kernel) (by decide +kernel), ⟨by decide +kernel, by decide +kernel⟩, by decide +kernel, fun h => absurd h (by decide +kernel), fun _ => ⟨qz_in 438 (by decide +kernel) (by decide +kernel), Or.inr (qz_in 439 (by decide +kernel) (by decide +kernel)), by decide +kernel, by decide +kernel⟩, by decide +kernel, by decide +kernel, by decide +kernel⟩
set_option maxRecDepth 20000 in
theorem qz_mo58 : qz_MO 58 := ⟨by decide +kernel, qz_in 201 (by decide +kernel) (by decide +kernel), qz_in 11 (by decide +kernel) (by decide +kernel), ⟨by decide +kernel, by decide +kernel⟩, by decide +kernel, fun h => absurd h (by decide +kernel), fun _ => ⟨qz_in 199 (by decide +kernel) (by decide +kernel), Or.inr (qz_in 200 (by decide +kernel) (by decide +kernel)), by decide +kernel, by decide +kernel⟩, by decide +kernel, by decide +kernel, by decide +kernel⟩
set_option maxRecDepth 20000 in
theorem qz_mo59 : qz_MO 59 := ⟨by decide +kernel, qz_in 220 (by decide +kernel) (by decide +kernel), qz_in 11 (by decide +kernel) (by decide +kernel), ⟨by decide +kernel, by decide +kernel⟩, by decide +kernel, fun h => absurd h (by decide +kernel), fun _ => ⟨qz_in 218 (by decide +kernel) (by decide +kernel), Or.inr (qz_in 219 (by decide +kernel) (by decide +kernel)), by decide +kernel, by decide +kernel⟩, by decide +kernel, by decide +kernel, by decide +kernel⟩
set_option maxRecDepth 20000 in
theorem qz_mo60 : qz_MO 60 := ⟨by decide +kernel, qz_in 233 (by decide +kernel) (by decide +kernel), qz_in 11 (by decide +kernel) (by decide +kernel), ⟨by decide +kernel, by decide +kernel⟩, by decide +kernel, fun h => absurd h (by decide +kernel), fun _ => ⟨qz_in 231 (by decide +kernel) (by decide +kernel), Or.inr (qz_in 232 (by decide +kernel) (by decide +kernel)), by decide +kernel, by decide +kernel⟩, by decide +kernel, by decide +kernel, by decide +kernel⟩
set_option maxRecDepth 20000 in
theorem qz_mo61 : qz_MO 61 := ⟨by decide +kernel, qz_in 274 (by decide +kernel) (by decide +kernel), qz_in 11 (by decide +kernel) (by decide +kernel), ⟨by decide +kernel, by decide +kernel⟩, by decide +kernel, fun h => absurd h (by decide +kernel), fun _ => ⟨qz_in 272 (by decide +kernel) (by decide +kernel), Or.inr (qz_in 273 (by decide +kernel) (by decide +kernel)), by decide +kernel, by decide +kernel⟩, by decide +kernel, by decide +kernel, by decide +kernel⟩
set_option maxRecDepth 20000 in
theorem qz_mo62 : qz_MO 62 := ⟨by decide +kernel, qz_in 337 (by decide +kernel) (by decide +kernel), qz_in 11 (by decide +kernel) (by decide +kernel), ⟨by decide +kernel, by decide +kernel⟩, by decide +kernel, fun h => absurd h (by decide +kernel), fun _ => ⟨qz_in 335 (by decide +kernel) (by decide +kernel), Or.inr (qz_in 336 (by decide +kernel) (by decide +kernel)), by decide +kernel, by decide +kernel⟩, by decide +kernel, by decide +kernel, by decide +kernel⟩
set_option maxRecDepth 20000 in
theorem qz_mo63 : qz_MO 63 := ⟨by decide +kernel, qz_in 483 (by decide +kernel) (by decide +kernel), qz_in 11 (by decide +kernel) (by decide +kernel), ⟨by decide +kernel, by decide +kernel⟩, by decide +kernel, fun h => absurd h (by decide +kernel), fun _ => ⟨qz_in 481 (by decide +kernel) (by decide +kernel), Or.inr (qz_in 482 (by decide +kernel) (by decide +kernel)), by decide +kernel, by decide +kernel⟩, by decide +kernel, by decide +kernel, by decide +kernel⟩
set_option maxRecDepth 20000 in
theorem qz_mo64 : qz_MO 64 := ⟨by decide +kernel, qz_in 487 (by decide +kernel) (by decide +kernel), qz_in 11 (by decide +kernel) (by decide +kernel), ⟨by decide +kernel, by decide +kernel⟩, by decide +kernel, fun h => absurd h (by decide +kernel), fun _ => ⟨qz_in 485 (by decide +kernel) (by decide +kernel), Or.inr (qz_in 486 (by decide +kernel) (by decide +kernel)), by decide +kernel, by decide +kernel⟩, by decide +kernel, by decide +kernel, by decide +kernel⟩
set_option maxRecDepth 20000 in
theorem qz_mo65 : qz_MO 65 := ⟨by decide +kernel, qz_in 245 (by decide +kernel) (by decide +kernel), qz_in 11 (by decide +kernel) (by decide +kernel), ⟨by decide +kernel, by decide +kernel⟩, by decide +kernel, fun h => absurd h (by decide +kernel), fun _ => ⟨qz_in 243 (by decide +kernel) (by decide +kernel), Or.inr (qz_in 244 (by decide +kernel) (by decide +kernel)), by decide +kernel, by decide +kernel⟩, by decide +kernel, by decide +kernel, by decide +kernel⟩
set_option maxRecDepth 20000 in
theorem qz_mo66 : qz_MO 66 := ⟨by decide +kernel, qz_in 292 (by decide +kernel) (by decide +kernel), qz_in 11 (by decide +kernel) (by decide +kernel), ⟨by decide +kernel, by decide +kernel⟩, by decide +kernel, fun _ => qz_in 291 (by decide +kernel) (by decide +kernel), fun h => absurd h (by decide +kernel), by decide +kernel, by decide +kernel, by decide +kernel⟩
set_option maxRecDepth 20000 in
theorem qz_mo67 : qz_MO 67 := ⟨by decide +kernel, qz_in 472 (by decide +kernel) (by decide +kernel), qz_in 11 (by decide +kernel) (by decide +kernel), ⟨by decide +kernel, by decide +kernel⟩, by decide +kernel, fun _ => qz_in 471 (by decide +kernel) (by decide +kernel), fun h => absurd h (by decide +kernel), by decide +kernel, by decide +kernel, by decide +kernel⟩
set_option maxRecDepth 20000 in
theorem qz_mo68 : qz_MO 68 := ⟨by decide +kernel, qz_in 384 (by decide +kernel) (by decide +kernel), qz_in 11 (by decide +kernel) (by decide +kernel), ⟨by decide +kernel, by decide +kernel⟩, by decide +kernel, fun _ => qz_in 383 (by decide +kernel) (by decide +kernel), fun h => absurd h (by decide +kernel), by decide +kernel, by decide +kernel, by decide +kernel⟩
set_option maxRecDepth 20000 in
theorem qz_mo69 : qz_MO 69 := ⟨by decide +kernel, qz_in 417 (by decide +kernel) (by decide +kernel), qz_in 11 (by decide +kernel) (by decide +kernel), ⟨by decide +kernel, by decide +kernel⟩, by decide +kernel, fun h => absurd h (by decide +kernel), fun _ => ⟨qz_in 416 (by decide +kernel) (by decide +kernel), Or.inr (qz_in 7 (by decide +kernel) (by decide +kernel)), by decide +kernel, by decide +kernel⟩, by decide +kernel, by decide +kernel, by decide +kernel⟩
set_option maxRecDepth 20000 in
theorem qz_mo70 : qz_MO 70 := ⟨by decide +kernel, qz_in 265 (by decide +kernel) (by decide +kernel), qz_in 10 (by decide +kernel) (by decide +kernel), ⟨by decide +kernel, by decide +kernel⟩, by decide +kernel, fun _ => qz_in 264 (by decide +kernel) (by decide +kernel), fun h => absurd h (by decide +kernel), by decide +kernel, by decide +kernel, by decide +kernel⟩
set_option maxRecDepth 20000 in
theorem qz_mo71 : qz_MO 71 := ⟨by decide +kernel, qz_in 368 (by decide +kernel) (by decide +kernel), qz_in 10 (by decide +kernel) (by decide +kernel), ⟨by decide +kernel, by decide +kernel⟩, by decide +kernel, fun _ => qz_in 367 (by decide +kernel) (by decide +kernel), fun h => absurd h (by decide +kernel), by decide +kernel, by decide +kernel, by decide +kernel⟩
set_option maxRecDepth 20000 in
theorem qz_mo72 : qz_MO 72 := ⟨by decide +kernel, qz_in 268 (by decide +kernel) (by decide +kernel), qz_in 10 (by decide +kernel) (by decide +kernel), ⟨by decide +kernel, by decide +kernel⟩, by decide +kernel, fun _ => qz_in 267 (by decide +kernel) (by decide +kernel), fun h => absurd h (by decide +kernel), by decide +kernel, by decide +kernel, by decide +kernel⟩
set_option maxRecDepth 20000 in
theorem qz_mo73 : qz_MO 73 := ⟨by decide +kernel, qz_in 365 (by decide +kernel) (by decide +kernel), qz_in 10 (by decide +kernel) (by decide +kernel), ⟨by decide +kernel, by decide +kernel⟩, by decide +kernel, fun _ => qz_in 364 (by decide +kernel) (by decide +kernel), fun h => absurd h (by decide +kernel), by decide +kernel, by decide +kernel, by decide +kernel⟩
set_option maxRecDepth 20000 in
theorem qz_mo74 : qz_MO 74 := ⟨by decide +kernel, qz_in 479 (by decide +kernel) (by decide +kernel), qz_in 10 (by decide +kernel) (by decide +kernel), ⟨by decide +kernel, by decide +kernel⟩, by decide +kernel, fun _ => qz_in 478 (by decide +kernel) (by decide +kernel), fun h => absurd h (by decide +kernel), by decide +kernel, by decide +kernel, by decide +kernel⟩
theorem qz_mo {k : Nat} (h : k < qz_nm) : qz_MO k := by
  have h : k < 75 := h
  have h0 : 0 ≤ k := Nat.zero_le k
  rcases Nat.lt_or_ge k 37 with h0_75 | h0_75
  · rcases Nat.lt_or_ge k 18 with h0_37 | h0_37
    · rcases Nat.lt_or_ge k 9 with h0_18 | h0_18
      · rcases Nat.lt_or_ge k 4 with h0_9 | h0_9
        · rcases Nat.lt_or_ge k 2 with h0_4 | h0_4
          · rcases Nat.lt_or_ge k 1 with h0_2 | h0_2
            · exact (show k = 0 by omega) ▸ qz_mo0
            · exact (show k = 1 by omega) ▸ qz_mo1
          · rcases Nat.lt_or_ge k 3 with h2_4 | h2_4
            · exact (show k = 2 by omega) ▸ qz_mo2
            · exact (show k = 3 by omega) ▸ qz_mo3
        · rcases Nat.lt_or_ge k 6 with h4_9 | h4_9
          · rcases Nat.lt_or_ge k 5 with h4_6 | h4_6
            · exact (show k = 4 by omega) ▸ qz_mo4
            · exact (show k = 5 by omega) ▸ qz_mo5
          · rcases Nat.lt_or_ge k 7 with h6_9 | h6_9
            · exact (show k = 6 by omega) ▸ qz_mo6
            · rcases Nat.lt_or_ge k 8 with h7_9 | h7_9
              · exact (show k = 7 by omega) ▸ qz_mo7
              · exact (show k = 8 by omega) ▸ qz_mo8
      · rcases Nat.lt_or_ge k 13 with h9_18 | h9_18
        · rcases Nat.lt_or_ge k 11 with h9_13 | h9_13
          · rcases Nat.lt_or_ge k 10 with h9_11 | h9_11
            · exact (show k = 9 by omega) ▸ qz_mo9
            · exact (show k = 10 by omega) ▸ qz_mo10
          · rcases Nat.lt_or_ge k 12 with h11_13 | h11_13
            · exact (show k = 11 by omega) ▸ qz_mo11
            · exact (show k = 12 by omega) ▸ qz_mo12
        · rcases Nat.lt_or_ge k 15 with h13_18 | h13_18
          · rcases Nat.lt_or_ge k 14 with h13_15 | h13_15
            · exact (show k = 13 by omega) ▸ qz_mo13
            · exact (show k = 14 by omega) ▸ qz_mo14
          · rcases Nat.lt_or_ge k 16 with h15_18 | h15_18
            · exact (show k = 15 by omega) ▸ qz_mo15
            · rcases Nat.lt_or_ge k 17 with h16_18 | h16_18
              · exact (show k = 16 by omega) ▸ qz_mo16
              · exact (show k = 17 by omega) ▸ qz_mo17
    · rcases Nat.lt_or_ge k 27 with h18_37 | h18_37
      · rcases Nat.lt_or_ge k 22 with h18_27 | h18_27
        · rcases Nat.lt_or_ge k 20 with h18_22 | h18_22
          · rcases Nat.lt_or_ge k 19 with h18_20 | h18_20
            · exact (show k = 18 by omega) ▸ qz_mo18
            · exact (show k = 19 by omega) ▸ qz_mo19
          · rcases Nat.lt_or_ge k 21 with h20_22 | h20_22
            · exact (show k = 20 by omega) ▸ qz_mo20
            · exact (show k = 21 by omega) ▸ qz_mo21
        · rcases Nat.lt_or_ge k 24 with h22_27 | h22_27
          · rcases Nat.lt_or_ge k 23 with h22_24 | h22_24
            · exact (show k = 22 by omega) ▸ qz_mo22
            · exact (show k = 23 by omega) ▸ qz_mo23
          · rcases Nat.lt_or_ge k 25 with h24_27 | h24_27
            · exact (show k = 24 by omega) ▸ qz_mo24
            · rcases Nat.lt_or_ge k 26 with h25_27 | h25_27
              · exact (show k = 25 by omega) ▸ qz_mo25
              · exact (show k = 26 by omega) ▸ qz_mo26
      · rcases Nat.lt_or_ge k 32 with h27_37 | h27_37
        · rcases Nat.lt_or_ge k 29 with h27_32 | h27_32
          · rcases Nat.lt_or_ge k 28 with h27_29 | h27_29
            · exact (show k = 27 by omega) ▸ qz_mo27
            · exact (show k = 28 by omega) ▸ qz_mo28
          · rcases Nat.lt_or_ge k 30 with h29_32 | h29_32
            · exact (show k = 29 by omega) ▸ qz_mo29
            · rcases Nat.lt_or_ge k 31 with h30_32 | h30_32
              · exact (show k = 30 by omega) ▸ qz_mo30
              · exact (show k = 31 by omega) ▸ qz_mo31
        · rcases Nat.lt_or_ge k 34 with h32_37 | h32_37
          · rcases Nat.lt_or_ge k 33 with h32_34 | h32_34
            · exact (show k = 32 by omega) ▸ qz_mo32
            · exact (show k = 33 by omega) ▸ qz_mo33
          · rcases Nat.lt_or_ge k 35 with h34_37 | h34_37
            · exact (show k = 34 by omega) ▸ qz_mo34
            · rcases Nat.lt_or_ge k 36 with h35_37 | h35_37
              · exact (show k = 35 by omega) ▸ qz_mo35
              · exact (show k = 36 by omega) ▸ qz_mo36
  · rcases Nat.lt_or_ge k 56 with h37_75 | h37_75
    · rcases Nat.lt_or_ge k 46 with h37_56 | h37_56
      · rcases Nat.lt_or_ge k 41 with h37_46 | h37_46
        · rcases Nat.lt_or_ge k 39 with h37_41 | h37_41
          · rcases Nat.lt_or_ge k 38 with h37_39 | h37_39
            · exact (show k = 37 by omega) ▸ qz_mo37
            · exact (show k = 38 by omega) ▸ qz_mo38
          · rcases Nat.lt_or_ge k 40 with h39_41 | h39_41
            · exact (show k = 39 by omega) ▸ qz_mo39
            · exact (show k = 40 by omega) ▸ qz_mo40
        · rcases Nat.lt_or_ge k 43 with h41_46 | h41_46
          · rcases Nat.lt_or_ge k 42 with h41_43 | h41_43
            · exact (show k = 41 by omega) ▸ qz_mo41
            · exact (show k = 42 by omega) ▸ qz_mo42
          · rcases Nat.lt_or_ge k 44 with h43_46 | h43_46
            · exact (show k = 43 by omega) ▸ qz_mo43
            · rcases Nat.lt_or_ge k 45 with h44_46 | h44_46
              · exact (show k = 44 by omega) ▸ qz_mo44
              · exact (show k = 45 by omega) ▸ qz_mo45
      · rcases Nat.lt_or_ge k 51 with h46_56 | h46_56
        · rcases Nat.lt_or_ge k 48 with h46_51 | h46_51
          · rcases Nat.lt_or_ge k 47 with h46_48 | h46_48
            · exact (show k = 46 by omega) ▸ qz_mo46
            · exact (show k = 47 by omega) ▸ qz_mo47
          · rcases Nat.lt_or_ge k 49 with h48_51 | h48_51
            · exact (show k = 48 by omega) ▸ qz_mo48
            · rcases Nat.lt_or_ge k 50 with h49_51 | h49_51
              · exact (show k = 49 by omega) ▸ qz_mo49
              · exact (show k = 50 by omega) ▸ qz_mo50
        · rcases Nat.lt_or_ge k 53 with h51_56 | h51_56
          · rcases Nat.lt_or_ge k 52 with h51_53 | h51_53
            · exact (show k = 51 by omega) ▸ qz_mo51
            · exact (show k = 52 by omega) ▸ qz_mo52
          · rcases Nat.lt_or_ge k 54 with h53_56 | h53_56
            · exact (show k = 53 by omega) ▸ qz_mo53
            · rcases Nat.lt_or_ge k 55 with h54_56 | h54_56
              · exact (show k = 54 by omega) ▸ qz_mo54
              · exact (show k = 55 by omega) ▸ qz_mo55
    · rcases Nat.lt_or_ge k 65 with h56_75 | h56_75
      · rcases Nat.lt_or_ge k 60 with h56_65 | h56_65
        · rcases Nat.lt_or_ge k 58 with h56_60 | h56_60
          · rcases Nat.lt_or_ge k 57 with h56_58 | h56_58
            · exact (show k = 56 by omega) ▸ qz_mo56
            · exact (show k = 57 by omega) ▸ qz_mo57
          · rcases Nat.lt_or_ge k 59 with h58_60 | h58_60
            · exact (show k = 58 by omega) ▸ qz_mo58
            · exact (show k = 59 by omega) ▸ qz_mo59
        · rcases Nat.lt_or_ge k 62 with h60_65 | h60_65
          · rcases Nat.lt_or_ge k 61 with h60_62 | h60_62
            · exact (show k = 60 by omega) ▸ qz_mo60
            · exact (show k = 61 by omega) ▸ qz_mo61
          · rcases Nat.lt_or_ge k 63 with h62_65 | h62_65
            · exact (show k = 62 by omega) ▸ qz_mo62
            · rcases Nat.lt_or_ge k 64 with h63_65 | h63_65
              · exact (show k = 63 by omega) ▸ qz_mo63
              · exact (show k = 64 by omega) ▸ qz_mo64
      · rcases Nat.lt_or_ge k 70 with h65_75 | h65_75
        · rcases Nat.lt_or_ge k 67 with h65_70 | h65_70
          · rcases Nat.lt_or_ge k 66 with h65_67 | h65_67
            · exact (show k = 65 by omega) ▸ qz_mo65
            · exact (show k = 66 by omega) ▸ qz_mo66
          · rcases Nat.lt_or_ge k 68 with h67_70 | h67_70
            · exact (show k = 67 by omega) ▸ qz_mo67
            · rcases Nat.lt_or_ge k 69 with h68_70 | h68_70
              · exact (show k = 68 by omega) ▸ qz_mo68
              · exact (show k = 69 by omega) ▸ qz_mo69
        · rcases Nat.lt_or_ge k 72 with h70_75 | h70_75
          · rcases Nat.lt_or_ge k 71 with h70_72 | h70_72
            · exact (show k = 70 by omega) ▸ qz_mo70
            · exact (show k = 71 by omega) ▸ qz_mo71
          · rcases Nat.lt_or_ge k 73 with h72_75 | h72_75
            · exact (show k = 72 by omega) ▸ qz_mo72
            · rcases Nat.lt_or_ge k 74 with h73_75 | h73_75
              · exact (show k = 73 by omega) ▸ qz_mo73
              · exact (show k = 74 by omega) ▸ qz_mo74
def qz_clL : List ((Nat × Nat) × Nat) := [((0, 35), 1), ((1, 28), 13), ((2, 21), 14), ((2, 22), 11), ((2, 25), 15), ((4, 55), 0), ((4, 56), 16), ((4, 60), 7), ((4, 64), 21), ((4, 71), 22), ((4, 75), 1), ((4, 82), 27), ((4, 99), 2), ((4, 102), 19), ((4, 106), 32), ((4, 110), 39), ((4, 114), 17), ((4, 117), 35), ((4, 120), 38), ((4, 124), 29), ((4, 128), 30), ((4, 132), 66), ((4, 135), 31), ((4, 143), 37), ((4, 147), 3), ((4, 150), 4), ((4, 156), 43), ((4, 159), 5), ((4, 163), 44), ((4, 167), 45), ((4, 170), 48), ((5, 9), 14), ((5, 18), 8), ((5, 25), 9), ((5, 41), 10), ((5, 45), 20), ((5, 49), 19), ((5, 53), 66), ((5, 56), 67), ((5, 59), 25), ((5, 63), 24), ((5, 80), 23), ((5, 84), 6), ((5, 89), 28), ((5, 92), 26), ((5, 101), 69), ((5, 104), 33), ((5, 108), 35), ((5, 112), 32), ((5, 115), 68), ((5, 119), 17), ((5, 122), 18), ((5, 129), 46), ((5, 132), 47), ((5, 148), 12), ((5, 151), 15), ((5, 160), 36), ((5, 164), 37), ((5, 167), 27), ((5, 178), 39), ((5, 182), 40), ((5, 185), 41), ((5, 188), 45), ((5, 194), 34), ((5, 215), 42), ((8, 12), 65), ((8, 18), 61), ((8, 22), 62), ((8, 26), 71), ((8, 31), 50), ((8, 34), 56), ((8, 37), 54), ((8, 40), 55), ((8, 43), 57), ((8, 47), 52), ((8, 50), 60), ((8, 53), 53), ((8, 56), 51), ((8, 59), 63), ((8, 62), 64), ((8, 65), 49), ((8, 66), 58), ((8, 69), 59), ((8, 72), 72), ((8, 76), 70), ((8, 80), 73), ((8, 84), 74)]
def qz_cl (c i : Nat) : Option Nat := qz_clL.lookup (c, i)
/-- the links to nest mates -/
def qz_ne : List (Nat × Nat × Nat) := [(1, 28, 13), (4, 55, 0), (4, 132, 66)]
def qz_KO (e : (Nat × Nat) × Nat) : Prop := e.2 < qz_nm ∧ (Cond.methodLink (qz_ow e.1.1) e.1.2 (qz_y e.2) ∈ qz_tb ∨ (e.1.1, e.1.2, e.2) ∈ qz_ne)
theorem qz_ko0 : qz_KO ((0, 35), 1) := ⟨by decide, Or.inl (qz_in 254 (by decide +kernel) (by decide +kernel))⟩
theorem qz_ko1 : qz_KO ((1, 28), 13) := ⟨by decide, Or.inr (by decide)⟩
theorem qz_ko2 : qz_KO ((2, 21), 14) := ⟨by decide, Or.inl (qz_in 173 (by decide +kernel) (by decide +kernel))⟩
theorem qz_ko3 : qz_KO ((2, 22), 11) := ⟨by decide, Or.inl (qz_in 238 (by decide +kernel) (by decide +kernel))⟩
theorem qz_ko4 : qz_KO ((2, 25), 15) := ⟨by decide, Or.inl (qz_in 206 (by decide +kernel) (by decide +kernel))⟩
theorem qz_ko5 : qz_KO ((4, 55), 0) := ⟨by decide, Or.inr (by decide)⟩
theorem qz_ko6 : qz_KO ((4, 56), 16) := ⟨by decide, Or.inl (qz_in 210 (by decide +kernel) (by decide +kernel))⟩
theorem qz_ko7 : qz_KO ((4, 60), 7) := ⟨by decide, Or.inl (qz_in 213 (by decide +kernel) (by decide +kernel))⟩
theorem qz_ko8 : qz_KO ((4, 64), 21) := ⟨by decide, Or.inl (qz_in 301 (by decide +kernel) (by decide +kernel))⟩
theorem qz_ko9 : qz_KO ((4, 71), 22) := ⟨by decide, Or.inl (qz_in 405 (by decide +kernel) (by decide +kernel))⟩
theorem qz_ko10 : qz_KO ((4, 75), 1) := ⟨by decide, Or.inl (qz_in 226 (by decide +kernel) (by decide +kernel))⟩
theorem qz_ko11 : qz_KO ((4, 82), 27) := ⟨by decide, Or.inl (qz_in 409 (by decide +kernel) (by decide +kernel))⟩
theorem qz_ko12 : qz_KO ((4, 99), 2) := ⟨by decide, Or.inl (qz_in 250 (by decide +kernel) (by decide +kernel))⟩
theorem qz_ko13 : qz_KO ((4, 102), 19) := ⟨by decide, Or.inl (qz_in 297 (by decide +kernel) (by decide +kernel))⟩
theorem qz_ko14 : qz_KO ((4, 106), 32) := ⟨by decide, Or.inl (qz_in 283 (by decide +kernel) (by decide +kernel))⟩
theorem qz_ko15 : qz_KO ((4, 110), 39) := ⟨by decide, Or.inl (qz_in 317 (by decide +kernel) (by decide +kernel))⟩
theorem qz_ko16 : qz_KO ((4, 114), 17) := ⟨by decide, Or.inl (qz_in 312 (by decide +kernel) (by decide +kernel))⟩
theorem qz_ko17 : qz_KO ((4, 117), 35) := ⟨by decide, Or.inl (qz_in 293 (by decide +kernel) (by decide +kernel))⟩
theorem qz_ko18 : qz_KO ((4, 120), 38) := ⟨by decide, Or.inl (qz_in 329 (by decide +kernel) (by decide +kernel))⟩
theorem qz_ko19 : qz_KO ((4, 124), 29) := ⟨by decide, Or.inl (qz_in 397 (by decide +kernel) (by decide +kernel))⟩
theorem qz_ko20 : qz_KO ((4, 128), 30) := ⟨by decide, Or.inl (qz_in 401 (by decide +kernel) (by decide +kernel))⟩
theorem qz_ko21 : qz_KO ((4, 132), 66) := ⟨by decide, Or.inr (by decide)⟩
theorem qz_ko22 : qz_KO ((4, 135), 31) := ⟨by decide, Or.inl (qz_in 287 (by decide +kernel) (by decide +kernel))⟩
theorem qz_ko23 : qz_KO ((4, 143), 37) := ⟨by decide, Or.inl (qz_in 333 (by decide +kernel) (by decide +kernel))⟩
theorem qz_ko24 : qz_KO ((4, 147), 3) := ⟨by decide, Or.inl (qz_in 321 (by decide +kernel) (by decide +kernel))⟩
theorem qz_ko25 : qz_KO ((4, 150), 4) := ⟨by decide, Or.inl (qz_in 325 (by decide +kernel) (by decide +kernel))⟩
theorem qz_ko26 : qz_KO ((4, 156), 43) := ⟨by decide, Or.inl (qz_in 425 (by decide +kernel) (by decide +kernel))⟩
theorem qz_ko27 : qz_KO ((4, 159), 5) := ⟨by decide, Or.inl (qz_in 359 (by decide +kernel) (by decide +kernel))⟩
theorem qz_ko28 : qz_KO ((4, 163), 44) := ⟨by decide, Or.inl (qz_in 355 (by decide +kernel) (by decide +kernel))⟩
theorem qz_ko29 : qz_KO ((4, 167), 45) := ⟨by decide, Or.inl (qz_in 445 (by decide +kernel) (by decide +kernel))⟩
theorem qz_ko30 : qz_KO ((4, 170), 48) := ⟨by decide, Or.inl (qz_in 450 (by decide +kernel) (by decide +kernel))⟩
theorem qz_ko31 : qz_KO ((5, 9), 14) := ⟨by decide, Or.inl (qz_in 28 (by decide +kernel) (by decide +kernel))⟩
theorem qz_ko32 : qz_KO ((5, 18), 8) := ⟨by decide, Or.inl (qz_in 129 (by decide +kernel) (by decide +kernel))⟩
theorem qz_ko33 : qz_KO ((5, 25), 9) := ⟨by decide, Or.inl (qz_in 167 (by decide +kernel) (by decide +kernel))⟩
theorem qz_ko34 : qz_KO ((5, 41), 10) := ⟨by decide, Or.inl (qz_in 234 (by decide +kernel) (by decide +kernel))⟩
theorem qz_ko35 : qz_KO ((5, 45), 20) := ⟨by decide, Or.inl (qz_in 374 (by decide +kernel) (by decide +kernel))⟩
theorem qz_ko36 : qz_KO ((5, 49), 19) := ⟨by decide, Or.inl (qz_in 339 (by decide +kernel) (by decide +kernel))⟩
theorem qz_ko37 : qz_KO ((5, 53), 66) := ⟨by decide, Or.inl (qz_in 338 (by decide +kernel) (by decide +kernel))⟩
theorem qz_ko38 : qz_KO ((5, 56), 67) := ⟨by decide, Or.inl (qz_in 470 (by decide +kernel) (by decide +kernel))⟩
theorem qz_ko39 : qz_KO ((5, 59), 25) := ⟨by decide, Or.inl (qz_in 222 (by decide +kernel) (by decide +kernel))⟩
theorem qz_ko40 : qz_KO ((5, 63), 24) := ⟨by decide, Or.inl (qz_in 473 (by decide +kernel) (by decide +kernel))⟩
theorem qz_ko41 : qz_KO ((5, 80), 23) := ⟨by decide, Or.inl (qz_in 275 (by decide +kernel) (by decide +kernel))⟩
theorem qz_ko42 : qz_KO ((5, 84), 6) := ⟨by decide, Or.inl (qz_in 458 (by decide +kernel) (by decide +kernel))⟩
theorem qz_ko43 : qz_KO ((5, 89), 28) := ⟨by decide, Or.inl (qz_in 393 (by decide +kernel) (by decide +kernel))⟩
theorem qz_ko44 : qz_KO ((5, 92), 26) := ⟨by decide, Or.inl (qz_in 246 (by decide +kernel) (by decide +kernel))⟩
theorem qz_ko45 : qz_KO ((5, 101), 69) := ⟨by decide, Or.inl (qz_in 414 (by decide +kernel) (by decide +kernel))⟩
theorem qz_ko46 : qz_KO ((5, 104), 33) := ⟨by decide, Or.inl (qz_in 429 (by decide +kernel) (by decide +kernel))⟩
theorem qz_ko47 : qz_KO ((5, 108), 35) := ⟨by decide, Or.inl (qz_in 341 (by decide +kernel) (by decide +kernel))⟩
theorem qz_ko48 : qz_KO ((5, 112), 32) := ⟨by decide, Or.inl (qz_in 340 (by decide +kernel) (by decide +kernel))⟩
theorem qz_ko49 : qz_KO ((5, 115), 68) := ⟨by decide, Or.inl (qz_in 382 (by decide +kernel) (by decide +kernel))⟩
theorem qz_ko50 : qz_KO ((5, 119), 17) := ⟨by decide, Or.inl (qz_in 259 (by decide +kernel) (by decide +kernel))⟩
theorem qz_ko51 : qz_KO ((5, 122), 18) := ⟨by decide, Or.inl (qz_in 389 (by decide +kernel) (by decide +kernel))⟩
theorem qz_ko52 : qz_KO ((5, 129), 46) := ⟨by decide, Or.inl (qz_in 441 (by decide +kernel) (by decide +kernel))⟩
theorem qz_ko53 : qz_KO ((5, 132), 47) := ⟨by decide, Or.inl (qz_in 446 (by decide +kernel) (by decide +kernel))⟩
theorem qz_ko54 : qz_KO ((5, 148), 12) := ⟨by decide, Or.inl (qz_in 202 (by decide +kernel) (by decide +kernel))⟩
theorem qz_ko55 : qz_KO ((5, 151), 15) := ⟨by decide, Or.inl (qz_in 221 (by decide +kernel) (by decide +kernel))⟩
theorem qz_ko56 : qz_KO ((5, 160), 36) := ⟨by decide, Or.inl (qz_in 279 (by decide +kernel) (by decide +kernel))⟩
theorem qz_ko57 : qz_KO ((5, 164), 37) := ⟨by decide, Or.inl (qz_in 308 (by decide +kernel) (by decide +kernel))⟩
theorem qz_ko58 : qz_KO ((5, 167), 27) := ⟨by decide, Or.inl (qz_in 313 (by decide +kernel) (by decide +kernel))⟩
theorem qz_ko59 : qz_KO ((5, 178), 39) := ⟨by decide, Or.inl (qz_in 342 (by decide +kernel) (by decide +kernel))⟩
theorem qz_ko60 : qz_KO ((5, 182), 40) := ⟨by decide, Or.inl (qz_in 343 (by decide +kernel) (by decide +kernel))⟩
theorem qz_ko61 : qz_KO ((5, 185), 41) := ⟨by decide, Or.inl (qz_in 347 (by decide +kernel) (by decide +kernel))⟩
theorem qz_ko62 : qz_KO ((5, 188), 45) := ⟨by decide, Or.inl (qz_in 351 (by decide +kernel) (by decide +kernel))⟩
theorem qz_ko63 : qz_KO ((5, 194), 34) := ⟨by decide, Or.inl (qz_in 255 (by decide +kernel) (by decide +kernel))⟩
theorem qz_ko64 : qz_KO ((5, 215), 42) := ⟨by decide, Or.inl (qz_in 418 (by decide +kernel) (by decide +kernel))⟩
theorem qz_ko65 : qz_KO ((8, 12), 65) := ⟨by decide, Or.inl (qz_in 242 (by decide +kernel) (by decide +kernel))⟩
theorem qz_ko66 : qz_KO ((8, 18), 61) := ⟨by decide, Or.inl (qz_in 271 (by decide +kernel) (by decide +kernel))⟩
theorem qz_ko67 : qz_KO ((8, 22), 62) := ⟨by decide, Or.inl (qz_in 334 (by decide +kernel) (by decide +kernel))⟩
theorem qz_ko68 : qz_KO ((8, 26), 71) := ⟨by decide, Or.inl (qz_in 366 (by decide +kernel) (by decide +kernel))⟩
theorem qz_ko69 : qz_KO ((8, 31), 50) := ⟨by decide, Or.inl (qz_in 370 (by decide +kernel) (by decide +kernel))⟩
theorem qz_ko70 : qz_KO ((8, 34), 56) := ⟨by decide, Or.inl (qz_in 378 (by decide +kernel) (by decide +kernel))⟩
theorem qz_ko71 : qz_KO ((8, 37), 54) := ⟨by decide, Or.inl (qz_in 410 (by decide +kernel) (by decide +kernel))⟩
theorem qz_ko72 : qz_KO ((8, 40), 55) := ⟨by decide, Or.inl (qz_in 433 (by decide +kernel) (by decide +kernel))⟩
theorem qz_ko73 : qz_KO ((8, 43), 57) := ⟨by decide, Or.inl (qz_in 437 (by decide +kernel) (by decide +kernel))⟩
theorem qz_ko74 : qz_KO ((8, 47), 52) := ⟨by decide, Or.inl (qz_in 454 (by decide +kernel) (by decide +kernel))⟩
theorem qz_ko75 : qz_KO ((8, 50), 60) := ⟨by decide, Or.inl (qz_in 230 (by decide +kernel) (by decide +kernel))⟩
theorem qz_ko76 : qz_KO ((8, 53), 53) := ⟨by decide, Or.inl (qz_in 462 (by decide +kernel) (by decide +kernel))⟩
theorem qz_ko77 : qz_KO ((8, 56), 51) := ⟨by decide, Or.inl (qz_in 466 (by decide +kernel) (by decide +kernel))⟩
theorem qz_ko78 : qz_KO ((8, 59), 63) := ⟨by decide, Or.inl (qz_in 480 (by decide +kernel) (by decide +kernel))⟩
theorem qz_ko79 : qz_KO ((8, 62), 64) := ⟨by decide, Or.inl (qz_in 484 (by decide +kernel) (by decide +kernel))⟩
theorem qz_ko80 : qz_KO ((8, 65), 49) := ⟨by decide, Or.inl (qz_in 20 (by decide +kernel) (by decide +kernel))⟩
theorem qz_ko81 : qz_KO ((8, 66), 58) := ⟨by decide, Or.inl (qz_in 198 (by decide +kernel) (by decide +kernel))⟩
theorem qz_ko82 : qz_KO ((8, 69), 59) := ⟨by decide, Or.inl (qz_in 217 (by decide +kernel) (by decide +kernel))⟩
theorem qz_ko83 : qz_KO ((8, 72), 72) := ⟨by decide, Or.inl (qz_in 266 (by decide +kernel) (by decide +kernel))⟩
theorem qz_ko84 : qz_KO ((8, 76), 70) := ⟨by decide, Or.inl (qz_in 263 (by decide +kernel) (by decide +kernel))⟩
theorem qz_ko85 : qz_KO ((8, 80), 73) := ⟨by decide, Or.inl (qz_in 363 (by decide +kernel) (by decide +kernel))⟩
theorem qz_ko86 : qz_KO ((8, 84), 74) := ⟨by decide, Or.inl (qz_in 477 (by decide +kernel) (by decide +kernel))⟩
set_option maxRecDepth 20000 in
theorem qz_clL_ok : ∀ e ∈ qz_clL, qz_KO e := List.forall_mem_cons.mpr ⟨qz_ko0, List.forall_mem_cons.mpr ⟨qz_ko1, List.forall_mem_cons.mpr ⟨qz_ko2, List.forall_mem_cons.mpr ⟨qz_ko3, List.forall_mem_cons.mpr ⟨qz_ko4, List.forall_mem_cons.mpr ⟨qz_ko5, List.forall_mem_cons.mpr ⟨qz_ko6, List.forall_mem_cons.mpr ⟨qz_ko7, List.forall_mem_cons.mpr ⟨qz_ko8, List.forall_mem_cons.mpr ⟨qz_ko9, List.forall_mem_cons.mpr ⟨qz_ko10, List.forall_mem_cons.mpr ⟨qz_ko11, List.forall_mem_cons.mpr ⟨qz_ko12, List.forall_mem_cons.mpr ⟨qz_ko13, List.forall_mem_cons.mpr ⟨qz_ko14, List.forall_mem_cons.mpr ⟨qz_ko15, List.forall_mem_cons.mpr ⟨qz_ko16, List.forall_mem_cons.mpr ⟨qz_ko17, List.forall_mem_cons.mpr ⟨qz_ko18, List.forall_mem_cons.mpr ⟨qz_ko19, List.forall_mem_cons.mpr ⟨qz_ko20, List.forall_mem_cons.mpr ⟨qz_ko21, List.forall_mem_cons.mpr ⟨qz_ko22, List.forall_mem_cons.mpr ⟨qz_ko23, List.forall_mem_cons.mpr ⟨qz_ko24, List.forall_mem_cons.mpr ⟨qz_ko25, List.forall_mem_cons.mpr ⟨qz_ko26, List.forall_mem_cons.mpr ⟨qz_ko27, List.forall_mem_cons.mpr ⟨qz_ko28, List.forall_mem_cons.mpr ⟨qz_ko29, List.forall_mem_cons.mpr ⟨qz_ko30, List.forall_mem_cons.mpr ⟨qz_ko31, List.forall_mem_cons.mpr ⟨qz_ko32, List.forall_mem_cons.mpr ⟨qz_ko33, List.forall_mem_cons.mpr ⟨qz_ko34, List.forall_mem_cons.mpr ⟨qz_ko35, List.forall_mem_cons.mpr ⟨qz_ko36, List.forall_mem_cons.mpr ⟨qz_ko37, List.forall_mem_cons.mpr ⟨qz_ko38, List.forall_mem_cons.mpr ⟨qz_ko39, List.forall_mem_cons.mpr ⟨qz_ko40, List.forall_mem_cons.mpr ⟨qz_ko41, List.forall_mem_cons.mpr ⟨qz_ko42, List.forall_mem_cons.mpr ⟨qz_ko43, List.forall_mem_cons.mpr ⟨qz_ko44, List.forall_mem_cons.mpr ⟨qz_ko45, List.forall_mem_cons.mpr ⟨qz_ko46, List.forall_mem_cons.mpr ⟨qz_ko47, List.forall_mem_cons.mpr ⟨qz_ko48, List.forall_mem_cons.mpr ⟨qz_ko49, List.forall_mem_cons.mpr ⟨qz_ko50, List.forall_mem_cons.mpr ⟨qz_ko51, List.forall_mem_cons.mpr ⟨qz_ko52, List.forall_mem_cons.mpr ⟨qz_ko53, List.forall_mem_cons.mpr ⟨qz_ko54, List.forall_mem_cons.mpr ⟨qz_ko55, List.forall_mem_cons.mpr ⟨qz_ko56, List.forall_mem_cons.mpr ⟨qz_ko57, List.forall_mem_cons.mpr ⟨qz_ko58, List.forall_mem_cons.mpr ⟨qz_ko59, List.forall_mem_cons.mpr ⟨qz_ko60, List.forall_mem_cons.mpr ⟨qz_ko61, List.forall_mem_cons.mpr ⟨qz_ko62, List.forall_mem_cons.mpr ⟨qz_ko63, List.forall_mem_cons.mpr ⟨qz_ko64, List.forall_mem_cons.mpr ⟨qz_ko65, List.forall_mem_cons.mpr ⟨qz_ko66, List.forall_mem_cons.mpr ⟨qz_ko67, List.forall_mem_cons.mpr ⟨qz_ko68, List.forall_mem_cons.mpr ⟨qz_ko69, List.forall_mem_cons.mpr ⟨qz_ko70, List.forall_mem_cons.mpr ⟨qz_ko71, List.forall_mem_cons.mpr ⟨qz_ko72, List.forall_mem_cons.mpr ⟨qz_ko73, List.forall_mem_cons.mpr ⟨qz_ko74, List.forall_mem_cons.mpr ⟨qz_ko75, List.forall_mem_cons.mpr ⟨qz_ko76, List.forall_mem_cons.mpr ⟨qz_ko77, List.forall_mem_cons.mpr ⟨qz_ko78, List.forall_mem_cons.mpr ⟨qz_ko79, List.forall_mem_cons.mpr ⟨qz_ko80, List.forall_mem_cons.mpr ⟨qz_ko81, List.forall_mem_cons.mpr ⟨qz_ko82, List.forall_mem_cons.mpr ⟨qz_ko83, List.forall_mem_cons.mpr ⟨qz_ko84, List.forall_mem_cons.mpr ⟨qz_ko85, List.forall_mem_cons.mpr ⟨qz_ko86, fun _ h => absurd h List.not_mem_nil⟩⟩⟩⟩⟩⟩⟩⟩⟩⟩⟩⟩⟩⟩⟩⟩⟩⟩⟩⟩⟩⟩⟩⟩⟩⟩⟩⟩⟩⟩⟩⟩⟩⟩⟩⟩⟩⟩⟩⟩⟩⟩⟩⟩⟩⟩⟩⟩⟩⟩⟩⟩⟩⟩⟩⟩⟩⟩⟩⟩⟩⟩⟩⟩⟩⟩⟩⟩⟩⟩⟩⟩⟩⟩⟩⟩⟩⟩⟩⟩⟩⟩⟩⟩⟩⟩⟩
theorem qz_cl_ok {c i x : Nat} (h : qz_cl c i = some x) : qz_KO ((c, i), x) := qz_fm qz_clL_ok (qz_lk h)
theorem qz_c_0_35 : qz_cl 0 35 = some 1 := by decide +kernel
theorem qz_c_1_28 : qz_cl 1 28 = some 13 := by decide +kernel
theorem qz_c_2_21 : qz_cl 2 21 = some 14 := by decide +kernel
theorem qz_c_2_22 : qz_cl 2 22 = some 11 := by decide +kernel
theorem qz_c_2_25 : qz_cl 2 25 = some 15 := by decide +kernel
theorem qz_c_4_55 : qz_cl 4 55 = some 0 := by decide +kernel
theorem qz_c_4_56 : qz_cl 4 56 = some 16 := by decide +kernel
theorem qz_c_4_60 : qz_cl 4 60 = some 7 := by decide +kernel
theorem qz_c_4_64 : qz_cl 4 64 = some 21 := by decide +kernel
theorem qz_c_4_71 : qz_cl 4 71 = some 22 := by decide +kernel
theorem qz_c_4_75 : qz_cl 4 75 = some 1 := by decide +kernel
theorem qz_c_4_82 : qz_cl 4 82 = some 27 := by decide +kernel
theorem qz_c_4_99 : qz_cl 4 99 = some 2 := by decide +kernel
theorem qz_c_4_102 : qz_cl 4 102 = some 19 := by decide +kernel
theorem qz_c_4_106 : qz_cl 4 106 = some 32 := by decide +kernel
theorem qz_c_4_110 : qz_cl 4 110 = some 39 := by decide +kernel
theorem qz_c_4_114 : qz_cl 4 114 = some 17 := by decide +kernel
theorem qz_c_4_117 : qz_cl 4 117 = some 35 := by decide +kernel
theorem qz_c_4_120 : qz_cl 4 120 = some 38 := by decide +kernel
theorem qz_c_4_124 : qz_cl 4 124 = some 29 := by decide +kernel
theorem qz_c_4_128 : qz_cl 4 128 = some 30 := by decide +kernel
theorem qz_c_4_132 : qz_cl 4 132 = some 66 := by decide +kernel
theorem qz_c_4_135 : qz_cl 4 135 = some 31 := by decide +kernel
theorem qz_c_4_143 : qz_cl 4 143 = some 37 := by decide +kernel
theorem qz_c_4_147 : qz_cl 4 147 = some 3 := by decide +kernel
theorem qz_c_4_150 : qz_cl 4 150 = some 4 := by decide +kernel
theorem qz_c_4_156 : qz_cl 4 156 = some 43 := by decide +kernel
theorem qz_c_4_159 : qz_cl 4 159 = some 5 := by decide +kernel
theorem qz_c_4_163 : qz_cl 4 163 = some 44 := by decide +kernel
theorem qz_c_4_167 : qz_cl 4 167 = some 45 := by decide +kernel
theorem qz_c_4_170 : qz_cl 4 170 = some 48 := by decide +kernel
theorem qz_c_5_9 : qz_cl 5 9 = some 14 := by decide +kernel
theorem qz_c_5_18 : qz_cl 5 18 = some 8 := by decide +kernel
theorem qz_c_5_25 : qz_cl 5 25 = some 9 := by decide +kernel
theorem qz_c_5_41 : qz_cl 5 41 = some 10 := by decide +kernel
theorem qz_c_5_45 : qz_cl 5 45 = some 20 := by decide +kernel
theorem qz_c_5_49 : qz_cl 5 49 = some 19 := by decide +kernel
theorem qz_c_5_53 : qz_cl 5 53 = some 66 := by decide +kernel
theorem qz_c_5_56 : qz_cl 5 56 = some 67 := by decide +kernel
theorem qz_c_5_59 : qz_cl 5 59 = some 25 := by decide +kernel
theorem qz_c_5_63 : qz_cl 5 63 = some 24 := by decide +kernel
theorem qz_c_5_80 : qz_cl 5 80 = some 23 := by decide +kernel
theorem qz_c_5_84 : qz_cl 5 84 = some 6 := by decide +kernel
theorem qz_c_5_89 : qz_cl 5 89 = some 28 := by decide +kernel
theorem qz_c_5_92 : qz_cl 5 92 = some 26 := by decide +kernel
theorem qz_c_5_101 : qz_cl 5 101 = some 69 := by decide +kernel
theorem qz_c_5_104 : qz_cl 5 104 = some 33 := by decide +kernel
theorem qz_c_5_108 : qz_cl 5 108 = some 35 := by decide +kernel
theorem qz_c_5_112 : qz_cl 5 112 = some 32 := by decide +kernel
theorem qz_c_5_115 : qz_cl 5 115 = some 68 := by decide +kernel
theorem qz_c_5_119 : qz_cl 5 119 = some 17 := by decide +kernel
theorem qz_c_5_122 : qz_cl 5 122 = some 18 := by decide +kernel
theorem qz_c_5_129 : qz_cl 5 129 = some 46 := by decide +kernel
theorem qz_c_5_132 : qz_cl 5 132 = some 47 := by decide +kernel
theorem qz_c_5_148 : qz_cl 5 148 = some 12 := by decide +kernel
theorem qz_c_5_151 : qz_cl 5 151 = some 15 := by decide +kernel
theorem qz_c_5_160 : qz_cl 5 160 = some 36 := by decide +kernel
theorem qz_c_5_164 : qz_cl 5 164 = some 37 := by decide +kernel
theorem qz_c_5_167 : qz_cl 5 167 = some 27 := by decide +kernel
theorem qz_c_5_178 : qz_cl 5 178 = some 39 := by decide +kernel
theorem qz_c_5_182 : qz_cl 5 182 = some 40 := by decide +kernel
theorem qz_c_5_185 : qz_cl 5 185 = some 41 := by decide +kernel
theorem qz_c_5_188 : qz_cl 5 188 = some 45 := by decide +kernel
theorem qz_c_5_194 : qz_cl 5 194 = some 34 := by decide +kernel
theorem qz_c_5_215 : qz_cl 5 215 = some 42 := by decide +kernel
theorem qz_c_8_12 : qz_cl 8 12 = some 65 := by decide +kernel
theorem qz_c_8_18 : qz_cl 8 18 = some 61 := by decide +kernel
theorem qz_c_8_22 : qz_cl 8 22 = some 62 := by decide +kernel
theorem qz_c_8_26 : qz_cl 8 26 = some 71 := by decide +kernel
theorem qz_c_8_31 : qz_cl 8 31 = some 50 := by decide +kernel
theorem qz_c_8_34 : qz_cl 8 34 = some 56 := by decide +kernel
theorem qz_c_8_37 : qz_cl 8 37 = some 54 := by decide +kernel
theorem qz_c_8_40 : qz_cl 8 40 = some 55 := by decide +kernel
theorem qz_c_8_43 : qz_cl 8 43 = some 57 := by decide +kernel
theorem qz_c_8_47 : qz_cl 8 47 = some 52 := by decide +kernel
theorem qz_c_8_50 : qz_cl 8 50 = some 60 := by decide +kernel
theorem qz_c_8_53 : qz_cl 8 53 = some 53 := by decide +kernel
theorem qz_c_8_56 : qz_cl 8 56 = some 51 := by decide +kernel
theorem qz_c_8_59 : qz_cl 8 59 = some 63 := by decide +kernel
theorem qz_c_8_62 : qz_cl 8 62 = some 64 := by decide +kernel
theorem qz_c_8_65 : qz_cl 8 65 = some 49 := by decide +kernel
theorem qz_c_8_66 : qz_cl 8 66 = some 58 := by decide +kernel
theorem qz_c_8_69 : qz_cl 8 69 = some 59 := by decide +kernel
theorem qz_c_8_72 : qz_cl 8 72 = some 72 := by decide +kernel
theorem qz_c_8_76 : qz_cl 8 76 = some 70 := by decide +kernel
theorem qz_c_8_80 : qz_cl 8 80 = some 73 := by decide +kernel
theorem qz_c_8_84 : qz_cl 8 84 = some 74 := by decide +kernel
/-- the links to Object() -/
def qz_obL : List (Nat × Nat) := [(0, 1), (1, 3), (2, 3), (3, 1), (4, 3), (5, 1)]
def qz_ob (c i : Nat) : Bool := qz_obL.contains (c, i)
def qz_BO (e : Nat × Nat) : Prop := Cond.methodLink (qz_ow e.1) e.2 objectInit ∈ qz_tb
theorem qz_bo0 : qz_BO (0, 1) := qz_in 40 (by decide +kernel) (by decide +kernel)
theorem qz_bo1 : qz_BO (1, 3) := qz_in 132 (by decide +kernel) (by decide +kernel)
theorem qz_bo2 : qz_BO (2, 3) := qz_in 170 (by decide +kernel) (by decide +kernel)
theorem qz_bo3 : qz_BO (3, 1) := qz_in 139 (by decide +kernel) (by decide +kernel)
theorem qz_bo4 : qz_BO (4, 3) := qz_in 31 (by decide +kernel) (by decide +kernel)
theorem qz_bo5 : qz_BO (5, 1) := qz_in 23 (by decide +kernel) (by decide +kernel)
set_option maxRecDepth 20000 in
theorem qz_obL_ok : ∀ e ∈ qz_obL, qz_BO e := List.forall_mem_cons.mpr ⟨qz_bo0, List.forall_mem_cons.mpr ⟨qz_bo1, List.forall_mem_cons.mpr ⟨qz_bo2, List.forall_mem_cons.mpr ⟨qz_bo3, List.forall_mem_cons.mpr ⟨qz_bo4, List.forall_mem_cons.mpr ⟨qz_bo5, fun _ h => absurd h List.not_mem_nil⟩⟩⟩⟩⟩⟩
theorem qz_ob_ok {c i : Nat} (h : qz_ob c i = true) : qz_BO (c, i) := qz_fm qz_obL_ok (by simpa [qz_ob, List.contains_iff_mem] using h)
def qz_mtL : List ((Nat × Nat) × Nat) := [((4, 138), 0), ((4, 153), 1)]
def qz_mt (c i : Nat) : Option Nat := qz_mtL.lookup (c, i)
def qz_TO (e : (Nat × Nat) × Nat) : Prop := (e.2 = 0 ∧ Cond.methodLink (qz_ow e.1.1) e.1.2 Lib.Math.max.name ∈ qz_tb) ∨ (e.2 = 1 ∧ Cond.methodLink (qz_ow e.1.1) e.1.2 Lib.Math.abs.name ∈ qz_tb)
theorem qz_to0 : qz_TO ((4, 138), 0) := Or.inl ⟨rfl, qz_in 305 (by decide +kernel) (by decide +kernel)⟩
theorem qz_to1 : qz_TO ((4, 153), 1) := Or.inr ⟨rfl, qz_in 422 (by decide +kernel) (by decide +kernel)⟩
set_option maxRecDepth 20000 in
theorem qz_mtL_ok : ∀ e ∈ qz_mtL, qz_TO e := List.forall_mem_cons.mpr ⟨qz_to0, List.forall_mem_cons.mpr ⟨qz_to1, fun _ h => absurd h List.not_mem_nil⟩⟩
theorem qz_mt_ok {c i x : Nat} (h : qz_mt c i = some x) : qz_TO ((c, i), x) := qz_fm qz_mtL_ok (qz_lk h)
theorem qz_m_4_138 : qz_mt 4 138 = some 0 := by decide +kernel
theorem qz_m_4_153 : qz_mt 4 153 = some 1 := by decide +kernel
theorem qz_mw_max : Cond.static Lib.Math.max.name ∈ qz_tb ∧ Cond.initialized "java/lang/Math" ∈ qz_tb ∧ Cond.code Lib.Math.max.name Lib.Math.max.code 2 (some .int) ∈ qz_tb := ⟨qz_in 306 (by decide +kernel) (by decide +kernel), qz_in 17 (by decide +kernel) (by decide +kernel), qz_in 307 (by decide +kernel) (by decide +kernel)⟩
theorem qz_mw_abs : Cond.static Lib.Math.abs.name ∈ qz_tb ∧ Cond.initialized "java/lang/Math" ∈ qz_tb ∧ Cond.code Lib.Math.abs.name Lib.Math.abs.code 1 (some .int) ∈ qz_tb := ⟨qz_in 423 (by decide +kernel) (by decide +kernel), qz_in 17 (by decide +kernel) (by decide +kernel), qz_in 424 (by decide +kernel) (by decide +kernel)⟩
theorem qz_oi : Cond.instanceMethod objectInit ∈ qz_tb := qz_in 24 (by decide +kernel) (by decide +kernel)
theorem qz_oc : Cond.code objectInit ⟨#[0xb1]⟩ 1 none ∈ qz_tb := qz_in 25 (by decide +kernel) (by decide +kernel)
theorem qz_ac_int : Cond.arrayClass .int ∈ qz_tb := qz_in 81 (by decide +kernel) (by decide +kernel)
theorem qz_ac_char : Cond.arrayClass .char ∈ qz_tb := qz_in 150 (by decide +kernel) (by decide +kernel)
theorem qz_ao_Booking : lw_tbl[35]? = some (Cond.arrayOver (.object "ShiftBuses$Booking")) := by decide +kernel
theorem qz_ao_Wish : lw_tbl[134]? = some (Cond.arrayOver (.object "ShiftBuses$Wish")) := by decide +kernel
theorem qz_ao_Works : lw_tbl[172]? = some (Cond.arrayOver (.object "ShiftBuses$Works")) := by decide +kernel
theorem qz_nl_1_28 : lw_tbl[136]? = some (Cond.methodLinkNest (qz_ow 1) 28 (qz_y 13) "ShiftBuses") := by decide +kernel
theorem qz_nl_4_55 : lw_tbl[37]? = some (Cond.methodLinkNest (qz_ow 4) 55 (qz_y 0) "ShiftBuses") := by decide +kernel
theorem qz_nl_4_132 : lw_tbl[290]? = some (Cond.methodLinkNest (qz_ow 4) 132 (qz_y 66) "ShiftBuses") := by decide +kernel
theorem qz_nf_4_22 : lw_tbl[32]? = some (Cond.fieldLinkNest (qz_ow 4) 22 RX5 (qz_sn 30) "[I" "ShiftBuses") := by decide +kernel
theorem qz_sf_5_208 : Cond.fieldLink (qz_ow 5) 208 RX5 (qz_sn 31) "[I" ∈ qz_tb := qz_in 385 (by decide +kernel) (by decide +kernel)
theorem qz_sf_5_212 : Cond.fieldLink (qz_ow 5) 212 RX5 (qz_sn 32) "[I" ∈ qz_tb := qz_in 387 (by decide +kernel) (by decide +kernel)
theorem qz_ls_30 : lw_tbl[33]? = some (Cond.laysStatic RX5 (qz_sn 30) "[I") := by decide +kernel
theorem qz_ls_31 : lw_tbl[386]? = some (Cond.laysStatic RX5 (qz_sn 31) "[I") := by decide +kernel
theorem qz_ls_32 : lw_tbl[388]? = some (Cond.laysStatic RX5 (qz_sn 32) "[I") := by decide +kernel
