abbrev qz_N : Type := Nat × Nat × Nat
abbrev qz_V : Type := Int32 ⊕ Option qz_N
abbrev qz_M : Type := Nat × (qz_N → Nat → Int32) × (qz_N → Nat → Option qz_N)
abbrev qz_I : Type := MethodName × ByteArray × Nat × Option FieldType × Nat × Nat × Bool × Nat × Nat
/-- the good words of the tables -/
def qz_tb : List Cond := lw_tbl.filter goodWord
theorem qz_in {w : Cond} (i : Nat) (h : lw_tbl[i]? = some w) (g : goodWord w = true) : w ∈ qz_tb := List.mem_filter.mpr ⟨List.mem_of_getElem? h, g⟩
theorem qz_fm {α : Type} {P : α → Prop} {l : List α} {x : α} (h : ∀ e ∈ l, P e) (hx : x ∈ l) : P x := h x hx
theorem qz_lk {α β : Type} [BEq α] [LawfulBEq α] {l : List (α × β)} {a : α} {b : β} (h : l.lookup a = some b) : (a, b) ∈ l := by
  induction l with
  | nil => simp at h
  | cons x l ih =>
    obtain ⟨x1, x2⟩ := x
    rw [List.lookup_cons] at h
    split at h
    · next hc =>
      have : a = x1 := by simpa using hc
      cases h
      rw [this]
      exact List.mem_cons_self
    · exact List.mem_cons_of_mem _ (ih h)
def qz_ow (c : Nat) : String := match c with
  | 0 => RX0
  | 1 => RX1
  | 2 => RX2
  | 3 => RX3
  | 4 => RX4
  | 5 => RX5
  | 6 => RX6
  | 7 => RJ9
  | _ => RL
def qz_T (c : Nat) : u_T := match c with
  | 0 => TX0
  | 1 => TX1
  | 2 => TX2
  | 3 => TX3
  | 4 => TX4
  | 5 => TX5
  | _ => TX6
def qz_ty (c : Nat) : Nat → FieldType := match c with
  | 0 => tyX0
  | 1 => tyX1
  | 2 => tyX2
  | 3 => tyX3
  | 4 => tyX4
  | 5 => tyX5
  | _ => tyX6
def qz_nf (c : Nat) : Nat := match c with
  | 0 => 8
  | 1 => 4
  | 2 => 2
  | 3 => 3
  | 4 => 12
  | 5 => 5
  | _ => 15
def qz_rf (c k : Nat) : Bool := match c with
  | 0 => false
  | 1 => k == 0 || k == 2
  | 2 => k == 0
  | 3 => false
  | 4 => k == 1 || k == 2 || k == 3 || k == 4
  | 5 => k == 0 || k == 1 || k == 2 || k == 3
  | _ => k == 1 || k == 2 || k == 4 || k == 6 || k == 8 || k == 9 || k == 13
def qz_bl (c k : Nat) : Bool := match c with
  | 0 => k == 4
  | 1 => false
  | 2 => false
  | 3 => false
  | 4 => false
  | 5 => k == 4
  | _ => k == 5 || k == 12
def qz_fn (c k : Nat) : Bool := match c with
  | 0 => false
  | 1 => k == 0 || k == 2
  | 2 => k == 0
  | 3 => false
  | 4 => k == 1 || k == 2 || k == 3 || k == 4
  | 5 => k == 0 || k == 1 || k == 2 || k == 3
  | _ => k == 1 || k == 2 || k == 4 || k == 6 || k == 8 || k == 9 || k == 13
def qz_flL : List ((Nat × Nat) × (Nat × Nat)) := [((0, 9), (0, 0)), ((0, 13), (0, 1)), ((0, 16), (0, 2)), ((0, 19), (0, 3)), ((0, 22), (0, 4)), ((0, 26), (0, 5)), ((0, 29), (0, 6)), ((0, 32), (0, 7)), ((1, 9), (1, 0)), ((1, 15), (1, 1)), ((1, 21), (1, 2)), ((1, 25), (1, 3)), ((1, 37), (3, 0)), ((1, 40), (3, 1)), ((1, 43), (3, 2)), ((2, 11), (2, 0)), ((2, 17), (2, 1)), ((3, 7), (3, 0)), ((3, 13), (3, 1)), ((3, 16), (3, 2)), ((4, 9), (4, 0)), ((4, 15), (4, 1)), ((4, 19), (4, 2)), ((4, 25), (4, 3)), ((4, 30), (4, 4)), ((4, 34), (4, 5)), ((4, 37), (4, 6)), ((4, 40), (4, 7)), ((4, 43), (4, 8)), ((4, 46), (4, 9)), ((4, 49), (4, 10)), ((4, 52), (4, 11)), ((4, 79), (0, 0)), ((4, 86), (0, 1)), ((4, 89), (0, 2)), ((4, 92), (0, 3)), ((4, 95), (0, 4)), ((4, 173), (0, 7)), ((4, 174), (0, 5)), ((4, 175), (0, 6)), ((5, 10), (5, 0)), ((5, 19), (5, 1)), ((5, 26), (5, 2)), ((5, 30), (5, 3)), ((5, 33), (5, 4)), ((5, 37), (4, 0)), ((5, 74), (1, 3)), ((5, 95), (0, 1)), ((5, 98), (0, 4)), ((5, 126), (4, 8)), ((5, 135), (4, 6)), ((5, 138), (1, 1)), ((5, 145), (2, 1)), ((5, 154), (0, 2)), ((5, 157), (0, 3)), ((5, 171), (0, 5)), ((5, 174), (0, 6)), ((5, 175), (0, 7)), ((5, 197), (4, 7)), ((5, 198), (4, 9)), ((5, 199), (4, 10)), ((5, 202), (4, 11)), ((5, 205), (4, 5)), ((5, 219), (1, 2)), ((5, 223), (3, 0)), ((5, 226), (3, 1)), ((5, 227), (3, 2)), ((6, 7), (6, 1)), ((6, 13), (6, 2)), ((6, 16), (6, 4)), ((6, 19), (6, 6)), ((6, 22), (6, 8)), ((6, 25), (6, 9)), ((6, 29), (6, 13)), ((6, 32), (6, 0)), ((6, 44), (6, 3)), ((6, 95), (6, 10)), ((6, 124), (6, 14)), ((6, 152), (6, 7)), ((6, 155), (6, 11)), ((6, 161), (6, 12)), ((6, 172), (6, 5))]
def qz_fl (c i : Nat) : Option (Nat × Nat) := qz_flL.lookup (c, i)
def qz_FO (e : (Nat × Nat) × (Nat × Nat)) : Prop := e.2.1 < 7 ∧ e.2.2 < qz_nf e.2.1 ∧ Cond.fieldLink (qz_ow e.1.1) e.1.2 (qz_T e.2.1 e.2.2).1 (qz_T e.2.1 e.2.2).2.1 (qz_T e.2.1 e.2.2).2.2.1 ∈ qz_tb
theorem qz_fo0 : qz_FO ((0, 9), (0, 0)) := ⟨by decide, by decide, qz_in 78 (by decide +kernel) (by decide +kernel)⟩
theorem qz_fo1 : qz_FO ((0, 13), (0, 1)) := ⟨by decide, by decide, qz_in 80 (by decide +kernel) (by decide +kernel)⟩
theorem qz_fo2 : qz_FO ((0, 16), (0, 2)) := ⟨by decide, by decide, qz_in 83 (by decide +kernel) (by decide +kernel)⟩
theorem qz_fo3 : qz_FO ((0, 19), (0, 3)) := ⟨by decide, by decide, qz_in 86 (by decide +kernel) (by decide +kernel)⟩
theorem qz_fo4 : qz_FO ((0, 22), (0, 4)) := ⟨by decide, by decide, qz_in 89 (by decide +kernel) (by decide +kernel)⟩
theorem qz_fo5 : qz_FO ((0, 26), (0, 5)) := ⟨by decide, by decide, qz_in 92 (by decide +kernel) (by decide +kernel)⟩
theorem qz_fo6 : qz_FO ((0, 29), (0, 6)) := ⟨by decide, by decide, qz_in 95 (by decide +kernel) (by decide +kernel)⟩
theorem qz_fo7 : qz_FO ((0, 32), (0, 7)) := ⟨by decide, by decide, qz_in 98 (by decide +kernel) (by decide +kernel)⟩
theorem qz_fo8 : qz_FO ((1, 9), (1, 0)) := ⟨by decide, by decide, qz_in 194 (by decide +kernel) (by decide +kernel)⟩
theorem qz_fo9 : qz_FO ((1, 15), (1, 1)) := ⟨by decide, by decide, qz_in 195 (by decide +kernel) (by decide +kernel)⟩
theorem qz_fo10 : qz_FO ((1, 21), (1, 2)) := ⟨by decide, by decide, qz_in 197 (by decide +kernel) (by decide +kernel)⟩
theorem qz_fo11 : qz_FO ((1, 25), (1, 3)) := ⟨by decide, by decide, qz_in 199 (by decide +kernel) (by decide +kernel)⟩
theorem qz_fo12 : qz_FO ((1, 37), (3, 0)) := ⟨by decide, by decide, qz_in 178 (by decide +kernel) (by decide +kernel)⟩
theorem qz_fo13 : qz_FO ((1, 40), (3, 1)) := ⟨by decide, by decide, qz_in 181 (by decide +kernel) (by decide +kernel)⟩
theorem qz_fo14 : qz_FO ((1, 43), (3, 2)) := ⟨by decide, by decide, qz_in 184 (by decide +kernel) (by decide +kernel)⟩
theorem qz_fo15 : qz_FO ((2, 11), (2, 0)) := ⟨by decide, by decide, qz_in 219 (by decide +kernel) (by decide +kernel)⟩
theorem qz_fo16 : qz_FO ((2, 17), (2, 1)) := ⟨by decide, by decide, qz_in 220 (by decide +kernel) (by decide +kernel)⟩
theorem qz_fo17 : qz_FO ((3, 7), (3, 0)) := ⟨by decide, by decide, qz_in 177 (by decide +kernel) (by decide +kernel)⟩
theorem qz_fo18 : qz_FO ((3, 13), (3, 1)) := ⟨by decide, by decide, qz_in 180 (by decide +kernel) (by decide +kernel)⟩
theorem qz_fo19 : qz_FO ((3, 16), (3, 2)) := ⟨by decide, by decide, qz_in 183 (by decide +kernel) (by decide +kernel)⟩
theorem qz_fo20 : qz_FO ((4, 9), (4, 0)) := ⟨by decide, by decide, qz_in 119 (by decide +kernel) (by decide +kernel)⟩
theorem qz_fo21 : qz_FO ((4, 15), (4, 1)) := ⟨by decide, by decide, qz_in 121 (by decide +kernel) (by decide +kernel)⟩
theorem qz_fo22 : qz_FO ((4, 19), (4, 2)) := ⟨by decide, by decide, qz_in 122 (by decide +kernel) (by decide +kernel)⟩
theorem qz_fo23 : qz_FO ((4, 25), (4, 3)) := ⟨by decide, by decide, qz_in 123 (by decide +kernel) (by decide +kernel)⟩
theorem qz_fo24 : qz_FO ((4, 30), (4, 4)) := ⟨by decide, by decide, qz_in 124 (by decide +kernel) (by decide +kernel)⟩
theorem qz_fo25 : qz_FO ((4, 34), (4, 5)) := ⟨by decide, by decide, qz_in 125 (by decide +kernel) (by decide +kernel)⟩
theorem qz_fo26 : qz_FO ((4, 37), (4, 6)) := ⟨by decide, by decide, qz_in 127 (by decide +kernel) (by decide +kernel)⟩
theorem qz_fo27 : qz_FO ((4, 40), (4, 7)) := ⟨by decide, by decide, qz_in 129 (by decide +kernel) (by decide +kernel)⟩
theorem qz_fo28 : qz_FO ((4, 43), (4, 8)) := ⟨by decide, by decide, qz_in 131 (by decide +kernel) (by decide +kernel)⟩
theorem qz_fo29 : qz_FO ((4, 46), (4, 9)) := ⟨by decide, by decide, qz_in 133 (by decide +kernel) (by decide +kernel)⟩
theorem qz_fo30 : qz_FO ((4, 49), (4, 10)) := ⟨by decide, by decide, qz_in 135 (by decide +kernel) (by decide +kernel)⟩
theorem qz_fo31 : qz_FO ((4, 52), (4, 11)) := ⟨by decide, by decide, qz_in 137 (by decide +kernel) (by decide +kernel)⟩
theorem qz_fo32 : qz_FO ((4, 79), (0, 0)) := ⟨by decide, by decide, qz_in 79 (by decide +kernel) (by decide +kernel)⟩
theorem qz_fo33 : qz_FO ((4, 86), (0, 1)) := ⟨by decide, by decide, qz_in 82 (by decide +kernel) (by decide +kernel)⟩
theorem qz_fo34 : qz_FO ((4, 89), (0, 2)) := ⟨by decide, by decide, qz_in 84 (by decide +kernel) (by decide +kernel)⟩
theorem qz_fo35 : qz_FO ((4, 92), (0, 3)) := ⟨by decide, by decide, qz_in 87 (by decide +kernel) (by decide +kernel)⟩
theorem qz_fo36 : qz_FO ((4, 95), (0, 4)) := ⟨by decide, by decide, qz_in 91 (by decide +kernel) (by decide +kernel)⟩
theorem qz_fo37 : qz_FO ((4, 173), (0, 7)) := ⟨by decide, by decide, qz_in 100 (by decide +kernel) (by decide +kernel)⟩
theorem qz_fo38 : qz_FO ((4, 174), (0, 5)) := ⟨by decide, by decide, qz_in 94 (by decide +kernel) (by decide +kernel)⟩
theorem qz_fo39 : qz_FO ((4, 175), (0, 6)) := ⟨by decide, by decide, qz_in 97 (by decide +kernel) (by decide +kernel)⟩
theorem qz_fo40 : qz_FO ((5, 10), (5, 0)) := ⟨by decide, by decide, qz_in 227 (by decide +kernel) (by decide +kernel)⟩
theorem qz_fo41 : qz_FO ((5, 19), (5, 1)) := ⟨by decide, by decide, qz_in 228 (by decide +kernel) (by decide +kernel)⟩
theorem qz_fo42 : qz_FO ((5, 26), (5, 2)) := ⟨by decide, by decide, qz_in 229 (by decide +kernel) (by decide +kernel)⟩
theorem qz_fo43 : qz_FO ((5, 30), (5, 3)) := ⟨by decide, by decide, qz_in 230 (by decide +kernel) (by decide +kernel)⟩
theorem qz_fo44 : qz_FO ((5, 33), (5, 4)) := ⟨by decide, by decide, qz_in 231 (by decide +kernel) (by decide +kernel)⟩
theorem qz_fo45 : qz_FO ((5, 37), (4, 0)) := ⟨by decide, by decide, qz_in 120 (by decide +kernel) (by decide +kernel)⟩
theorem qz_fo46 : qz_FO ((5, 74), (1, 3)) := ⟨by decide, by decide, qz_in 200 (by decide +kernel) (by decide +kernel)⟩
theorem qz_fo47 : qz_FO ((5, 95), (0, 1)) := ⟨by decide, by decide, qz_in 81 (by decide +kernel) (by decide +kernel)⟩
theorem qz_fo48 : qz_FO ((5, 98), (0, 4)) := ⟨by decide, by decide, qz_in 90 (by decide +kernel) (by decide +kernel)⟩
theorem qz_fo49 : qz_FO ((5, 126), (4, 8)) := ⟨by decide, by decide, qz_in 132 (by decide +kernel) (by decide +kernel)⟩
theorem qz_fo50 : qz_FO ((5, 135), (4, 6)) := ⟨by decide, by decide, qz_in 128 (by decide +kernel) (by decide +kernel)⟩
theorem qz_fo51 : qz_FO ((5, 138), (1, 1)) := ⟨by decide, by decide, qz_in 196 (by decide +kernel) (by decide +kernel)⟩
theorem qz_fo52 : qz_FO ((5, 145), (2, 1)) := ⟨by decide, by decide, qz_in 221 (by decide +kernel) (by decide +kernel)⟩
theorem qz_fo53 : qz_FO ((5, 154), (0, 2)) := ⟨by decide, by decide, qz_in 85 (by decide +kernel) (by decide +kernel)⟩
theorem qz_fo54 : qz_FO ((5, 157), (0, 3)) := ⟨by decide, by decide, qz_in 88 (by decide +kernel) (by decide +kernel)⟩
theorem qz_fo55 : qz_FO ((5, 171), (0, 5)) := ⟨by decide, by decide, qz_in 93 (by decide +kernel) (by decide +kernel)⟩
theorem qz_fo56 : qz_FO ((5, 174), (0, 6)) := ⟨by decide, by decide, qz_in 96 (by decide +kernel) (by decide +kernel)⟩
theorem qz_fo57 : qz_FO ((5, 175), (0, 7)) := ⟨by decide, by decide, qz_in 99 (by decide +kernel) (by decide +kernel)⟩
theorem qz_fo58 : qz_FO ((5, 197), (4, 7)) := ⟨by decide, by decide, qz_in 130 (by decide +kernel) (by decide +kernel)⟩
theorem qz_fo59 : qz_FO ((5, 198), (4, 9)) := ⟨by decide, by decide, qz_in 134 (by decide +kernel) (by decide +kernel)⟩
theorem qz_fo60 : qz_FO ((5, 199), (4, 10)) := ⟨by decide, by decide, qz_in 136 (by decide +kernel) (by decide +kernel)⟩
theorem qz_fo61 : qz_FO ((5, 202), (4, 11)) := ⟨by decide, by decide, qz_in 138 (by decide +kernel) (by decide +kernel)⟩
theorem qz_fo62 : qz_FO ((5, 205), (4, 5)) := ⟨by decide, by decide, qz_in 126 (by decide +kernel) (by decide +kernel)⟩
theorem qz_fo63 : qz_FO ((5, 219), (1, 2)) := ⟨by decide, by decide, qz_in 198 (by decide +kernel) (by decide +kernel)⟩
theorem qz_fo64 : qz_FO ((5, 223), (3, 0)) := ⟨by decide, by decide, qz_in 179 (by decide +kernel) (by decide +kernel)⟩
theorem qz_fo65 : qz_FO ((5, 226), (3, 1)) := ⟨by decide, by decide, qz_in 182 (by decide +kernel) (by decide +kernel)⟩
theorem qz_fo66 : qz_FO ((5, 227), (3, 2)) := ⟨by decide, by decide, qz_in 185 (by decide +kernel) (by decide +kernel)⟩
theorem qz_fo67 : qz_FO ((6, 7), (6, 1)) := ⟨by decide, by decide, qz_in 573 (by decide +kernel) (by decide +kernel)⟩
theorem qz_fo68 : qz_FO ((6, 13), (6, 2)) := ⟨by decide, by decide, qz_in 574 (by decide +kernel) (by decide +kernel)⟩
theorem qz_fo69 : qz_FO ((6, 16), (6, 4)) := ⟨by decide, by decide, qz_in 576 (by decide +kernel) (by decide +kernel)⟩
theorem qz_fo70 : qz_FO ((6, 19), (6, 6)) := ⟨by decide, by decide, qz_in 578 (by decide +kernel) (by decide +kernel)⟩
theorem qz_fo71 : qz_FO ((6, 22), (6, 8)) := ⟨by decide, by decide, qz_in 580 (by decide +kernel) (by decide +kernel)⟩
theorem qz_fo72 : qz_FO ((6, 25), (6, 9)) := ⟨by decide, by decide, qz_in 581 (by decide +kernel) (by decide +kernel)⟩
theorem qz_fo73 : qz_FO ((6, 29), (6, 13)) := ⟨by decide, by decide, qz_in 585 (by decide +kernel) (by decide +kernel)⟩
theorem qz_fo74 : qz_FO ((6, 32), (6, 0)) := ⟨by decide, by decide, qz_in 572 (by decide +kernel) (by decide +kernel)⟩
theorem qz_fo75 : qz_FO ((6, 44), (6, 3)) := ⟨by decide, by decide, qz_in 575 (by decide +kernel) (by decide +kernel)⟩
theorem qz_fo76 : qz_FO ((6, 95), (6, 10)) := ⟨by decide, by decide, qz_in 582 (by decide +kernel) (by decide +kernel)⟩
theorem qz_fo77 : qz_FO ((6, 124), (6, 14)) := ⟨by decide, by decide, qz_in 586 (by decide +kernel) (by decide +kernel)⟩
theorem qz_fo78 : qz_FO ((6, 152), (6, 7)) := ⟨by decide, by decide, qz_in 579 (by decide +kernel) (by decide +kernel)⟩
theorem qz_fo79 : qz_FO ((6, 155), (6, 11)) := ⟨by decide, by decide, qz_in 583 (by decide +kernel) (by decide +kernel)⟩
theorem qz_fo80 : qz_FO ((6, 161), (6, 12)) := ⟨by decide, by decide, qz_in 584 (by decide +kernel) (by decide +kernel)⟩
theorem qz_fo81 : qz_FO ((6, 172), (6, 5)) := ⟨by decide, by decide, qz_in 577 (by decide +kernel) (by decide +kernel)⟩
set_option maxRecDepth 20000 in
theorem qz_flL_ok : ∀ e ∈ qz_flL, qz_FO e := List.forall_mem_cons.mpr ⟨qz_fo0, List.forall_mem_cons.mpr ⟨qz_fo1, List.forall_mem_cons.mpr ⟨qz_fo2, List.forall_mem_cons.mpr ⟨qz_fo3, List.forall_mem_cons.mpr ⟨qz_fo4, List.forall_mem_cons.mpr ⟨qz_fo5, List.forall_mem_cons.mpr ⟨qz_fo6, List.forall_mem_cons.mpr ⟨qz_fo7, List.forall_mem_cons.mpr ⟨qz_fo8, List.forall_mem_cons.mpr ⟨qz_fo9, List.forall_mem_cons.mpr ⟨qz_fo10, List.forall_mem_cons.mpr ⟨qz_fo11, List.forall_mem_cons.mpr ⟨qz_fo12, List.forall_mem_cons.mpr ⟨qz_fo13, List.forall_mem_cons.mpr ⟨qz_fo14, List.forall_mem_cons.mpr ⟨qz_fo15, List.forall_mem_cons.mpr ⟨qz_fo16, List.forall_mem_cons.mpr ⟨qz_fo17, List.forall_mem_cons.mpr ⟨qz_fo18, List.forall_mem_cons.mpr ⟨qz_fo19, List.forall_mem_cons.mpr ⟨qz_fo20, List.forall_mem_cons.mpr ⟨qz_fo21, List.forall_mem_cons.mpr ⟨qz_fo22, List.forall_mem_cons.mpr ⟨qz_fo23, List.forall_mem_cons.mpr ⟨qz_fo24, List.forall_mem_cons.mpr ⟨qz_fo25, List.forall_mem_cons.mpr ⟨qz_fo26, List.forall_mem_cons.mpr ⟨qz_fo27, List.forall_mem_cons.mpr ⟨qz_fo28, List.forall_mem_cons.mpr ⟨qz_fo29, List.forall_mem_cons.mpr ⟨qz_fo30, List.forall_mem_cons.mpr ⟨qz_fo31, List.forall_mem_cons.mpr ⟨qz_fo32, List.forall_mem_cons.mpr ⟨qz_fo33, List.forall_mem_cons.mpr ⟨qz_fo34, List.forall_mem_cons.mpr ⟨qz_fo35, List.forall_mem_cons.mpr ⟨qz_fo36, List.forall_mem_cons.mpr ⟨qz_fo37, List.forall_mem_cons.mpr ⟨qz_fo38, List.forall_mem_cons.mpr ⟨qz_fo39, List.forall_mem_cons.mpr ⟨qz_fo40, List.forall_mem_cons.mpr ⟨qz_fo41, List.forall_mem_cons.mpr ⟨qz_fo42, List.forall_mem_cons.mpr ⟨qz_fo43, List.forall_mem_cons.mpr ⟨qz_fo44, List.forall_mem_cons.mpr ⟨qz_fo45, List.forall_mem_cons.mpr ⟨qz_fo46, List.forall_mem_cons.mpr ⟨qz_fo47, List.forall_mem_cons.mpr ⟨qz_fo48, List.forall_mem_cons.mpr ⟨qz_fo49, List.forall_mem_cons.mpr ⟨qz_fo50, List.forall_mem_cons.mpr ⟨qz_fo51, List.forall_mem_cons.mpr ⟨qz_fo52, List.forall_mem_cons.mpr ⟨qz_fo53, List.forall_mem_cons.mpr ⟨qz_fo54, List.forall_mem_cons.mpr ⟨qz_fo55, List.forall_mem_cons.mpr ⟨qz_fo56, List.forall_mem_cons.mpr ⟨qz_fo57, List.forall_mem_cons.mpr ⟨qz_fo58, List.forall_mem_cons.mpr ⟨qz_fo59, List.forall_mem_cons.mpr ⟨qz_fo60, List.forall_mem_cons.mpr ⟨qz_fo61, List.forall_mem_cons.mpr ⟨qz_fo62, List.forall_mem_cons.mpr ⟨qz_fo63, List.forall_mem_cons.mpr ⟨qz_fo64, List.forall_mem_cons.mpr ⟨qz_fo65, List.forall_mem_cons.mpr ⟨qz_fo66, List.forall_mem_cons.mpr ⟨qz_fo67, List.forall_mem_cons.mpr ⟨qz_fo68, List.forall_mem_cons.mpr ⟨qz_fo69, List.forall_mem_cons.mpr ⟨qz_fo70, List.forall_mem_cons.mpr ⟨qz_fo71, List.forall_mem_cons.mpr ⟨qz_fo72, List.forall_mem_cons.mpr ⟨qz_fo73, List.forall_mem_cons.mpr ⟨qz_fo74, List.forall_mem_cons.mpr ⟨qz_fo75, List.forall_mem_cons.mpr ⟨qz_fo76, List.forall_mem_cons.mpr ⟨qz_fo77, List.forall_mem_cons.mpr ⟨qz_fo78, List.forall_mem_cons.mpr ⟨qz_fo79, List.forall_mem_cons.mpr ⟨qz_fo80, List.forall_mem_cons.mpr ⟨qz_fo81, fun _ h => absurd h List.not_mem_nil⟩⟩⟩⟩⟩⟩⟩⟩⟩⟩⟩⟩⟩⟩⟩⟩⟩⟩⟩⟩⟩⟩⟩⟩⟩⟩⟩⟩⟩⟩⟩⟩⟩⟩⟩⟩⟩⟩⟩⟩⟩⟩⟩⟩⟩⟩⟩⟩⟩⟩⟩⟩⟩⟩⟩⟩⟩⟩⟩⟩⟩⟩⟩⟩⟩⟩⟩⟩⟩⟩⟩⟩⟩⟩⟩⟩⟩⟩⟩⟩⟩⟩
theorem qz_fl_ok {c i x y : Nat} (h : qz_fl c i = some (x, y)) : qz_FO ((c, i), (x, y)) := qz_fm qz_flL_ok (qz_lk h)
theorem qz_f_0_9 : qz_fl 0 9 = some (0, 0) := by decide +kernel
theorem qz_f_0_13 : qz_fl 0 13 = some (0, 1) := by decide +kernel
theorem qz_f_0_16 : qz_fl 0 16 = some (0, 2) := by decide +kernel
theorem qz_f_0_19 : qz_fl 0 19 = some (0, 3) := by decide +kernel
theorem qz_f_0_22 : qz_fl 0 22 = some (0, 4) := by decide +kernel
theorem qz_f_0_26 : qz_fl 0 26 = some (0, 5) := by decide +kernel
theorem qz_f_0_29 : qz_fl 0 29 = some (0, 6) := by decide +kernel
theorem qz_f_0_32 : qz_fl 0 32 = some (0, 7) := by decide +kernel
theorem qz_f_1_9 : qz_fl 1 9 = some (1, 0) := by decide +kernel
theorem qz_f_1_15 : qz_fl 1 15 = some (1, 1) := by decide +kernel
theorem qz_f_1_21 : qz_fl 1 21 = some (1, 2) := by decide +kernel
theorem qz_f_1_25 : qz_fl 1 25 = some (1, 3) := by decide +kernel
theorem qz_f_1_37 : qz_fl 1 37 = some (3, 0) := by decide +kernel
theorem qz_f_1_40 : qz_fl 1 40 = some (3, 1) := by decide +kernel
theorem qz_f_1_43 : qz_fl 1 43 = some (3, 2) := by decide +kernel
theorem qz_f_2_11 : qz_fl 2 11 = some (2, 0) := by decide +kernel
theorem qz_f_2_17 : qz_fl 2 17 = some (2, 1) := by decide +kernel
theorem qz_f_3_7 : qz_fl 3 7 = some (3, 0) := by decide +kernel
theorem qz_f_3_13 : qz_fl 3 13 = some (3, 1) := by decide +kernel
theorem qz_f_3_16 : qz_fl 3 16 = some (3, 2) := by decide +kernel
theorem qz_f_4_9 : qz_fl 4 9 = some (4, 0) := by decide +kernel
theorem qz_f_4_15 : qz_fl 4 15 = some (4, 1) := by decide +kernel
theorem qz_f_4_19 : qz_fl 4 19 = some (4, 2) := by decide +kernel
theorem qz_f_4_25 : qz_fl 4 25 = some (4, 3) := by decide +kernel
theorem qz_f_4_30 : qz_fl 4 30 = some (4, 4) := by decide +kernel
theorem qz_f_4_34 : qz_fl 4 34 = some (4, 5) := by decide +kernel
theorem qz_f_4_37 : qz_fl 4 37 = some (4, 6) := by decide +kernel
theorem qz_f_4_40 : qz_fl 4 40 = some (4, 7) := by decide +kernel
theorem qz_f_4_43 : qz_fl 4 43 = some (4, 8) := by decide +kernel
theorem qz_f_4_46 : qz_fl 4 46 = some (4, 9) := by decide +kernel
theorem qz_f_4_49 : qz_fl 4 49 = some (4, 10) := by decide +kernel
theorem qz_f_4_52 : qz_fl 4 52 = some (4, 11) := by decide +kernel
theorem qz_f_4_79 : qz_fl 4 79 = some (0, 0) := by decide +kernel
theorem qz_f_4_86 : qz_fl 4 86 = some (0, 1) := by decide +kernel
theorem qz_f_4_89 : qz_fl 4 89 = some (0, 2) := by decide +kernel
theorem qz_f_4_92 : qz_fl 4 92 = some (0, 3) := by decide +kernel
theorem qz_f_4_95 : qz_fl 4 95 = some (0, 4) := by decide +kernel
theorem qz_f_4_173 : qz_fl 4 173 = some (0, 7) := by decide +kernel
theorem qz_f_4_174 : qz_fl 4 174 = some (0, 5) := by decide +kernel
theorem qz_f_4_175 : qz_fl 4 175 = some (0, 6) := by decide +kernel
theorem qz_f_5_10 : qz_fl 5 10 = some (5, 0) := by decide +kernel
theorem qz_f_5_19 : qz_fl 5 19 = some (5, 1) := by decide +kernel
theorem qz_f_5_26 : qz_fl 5 26 = some (5, 2) := by decide +kernel
theorem qz_f_5_30 : qz_fl 5 30 = some (5, 3) := by decide +kernel
theorem qz_f_5_33 : qz_fl 5 33 = some (5, 4) := by decide +kernel
theorem qz_f_5_37 : qz_fl 5 37 = some (4, 0) := by decide +kernel
theorem qz_f_5_74 : qz_fl 5 74 = some (1, 3) := by decide +kernel
theorem qz_f_5_95 : qz_fl 5 95 = some (0, 1) := by decide +kernel
theorem qz_f_5_98 : qz_fl 5 98 = some (0, 4) := by decide +kernel
theorem qz_f_5_126 : qz_fl 5 126 = some (4, 8) := by decide +kernel
theorem qz_f_5_135 : qz_fl 5 135 = some (4, 6) := by decide +kernel
theorem qz_f_5_138 : qz_fl 5 138 = some (1, 1) := by decide +kernel
theorem qz_f_5_145 : qz_fl 5 145 = some (2, 1) := by decide +kernel
theorem qz_f_5_154 : qz_fl 5 154 = some (0, 2) := by decide +kernel
theorem qz_f_5_157 : qz_fl 5 157 = some (0, 3) := by decide +kernel
theorem qz_f_5_171 : qz_fl 5 171 = some (0, 5) := by decide +kernel
theorem qz_f_5_174 : qz_fl 5 174 = some (0, 6) := by decide +kernel
theorem qz_f_5_175 : qz_fl 5 175 = some (0, 7) := by decide +kernel
theorem qz_f_5_197 : qz_fl 5 197 = some (4, 7) := by decide +kernel
theorem qz_f_5_198 : qz_fl 5 198 = some (4, 9) := by decide +kernel
theorem qz_f_5_199 : qz_fl 5 199 = some (4, 10) := by decide +kernel
theorem qz_f_5_202 : qz_fl 5 202 = some (4, 11) := by decide +kernel
theorem qz_f_5_205 : qz_fl 5 205 = some (4, 5) := by decide +kernel
theorem qz_f_5_219 : qz_fl 5 219 = some (1, 2) := by decide +kernel
theorem qz_f_5_223 : qz_fl 5 223 = some (3, 0) := by decide +kernel
theorem qz_f_5_226 : qz_fl 5 226 = some (3, 1) := by decide +kernel
theorem qz_f_5_227 : qz_fl 5 227 = some (3, 2) := by decide +kernel
theorem qz_f_6_7 : qz_fl 6 7 = some (6, 1) := by decide +kernel
theorem qz_f_6_13 : qz_fl 6 13 = some (6, 2) := by decide +kernel
theorem qz_f_6_16 : qz_fl 6 16 = some (6, 4) := by decide +kernel
theorem qz_f_6_19 : qz_fl 6 19 = some (6, 6) := by decide +kernel
theorem qz_f_6_22 : qz_fl 6 22 = some (6, 8) := by decide +kernel
theorem qz_f_6_25 : qz_fl 6 25 = some (6, 9) := by decide +kernel
theorem qz_f_6_29 : qz_fl 6 29 = some (6, 13) := by decide +kernel
theorem qz_f_6_32 : qz_fl 6 32 = some (6, 0) := by decide +kernel
theorem qz_f_6_44 : qz_fl 6 44 = some (6, 3) := by decide +kernel
theorem qz_f_6_95 : qz_fl 6 95 = some (6, 10) := by decide +kernel
theorem qz_f_6_124 : qz_fl 6 124 = some (6, 14) := by decide +kernel
theorem qz_f_6_152 : qz_fl 6 152 = some (6, 7) := by decide +kernel
theorem qz_f_6_155 : qz_fl 6 155 = some (6, 11) := by decide +kernel
theorem qz_f_6_161 : qz_fl 6 161 = some (6, 12) := by decide +kernel
theorem qz_f_6_172 : qz_fl 6 172 = some (6, 5) := by decide +kernel
def qz_sn (k : Nat) : String := match k with
  | 30 => "FIRST_SETTINGS"
  | 31 => "LEAST_SETTINGS"
  | _ => "MOST_SETTINGS"
def qz_st (c i : Nat) : Option Nat := match c, i with
  | 4, 22 => some 30
  | 5, 208 => some 31
  | 5, 212 => some 32
  | _, _ => none
def qz_nwL : List ((Nat × Nat) × Nat) := [((8, 7), 5), ((5, 7), 4), ((4, 28), 0), ((5, 16), 1), ((1, 19), 3), ((5, 23), 2), ((2, 9), 4), ((8, 10), 6)]
def qz_nw (c i : Nat) : Option Nat := qz_nwL.lookup (c, i)
def qz_NO (e : (Nat × Nat) × Nat) : Prop := e.2 < 7 ∧ Cond.classLink (qz_ow e.1.1) e.1.2 (qz_ow e.2) ∈ qz_tb
theorem qz_no0 : qz_NO ((8, 7), 5) := ⟨by decide, qz_in 55 (by decide +kernel) (by decide +kernel)⟩
theorem qz_no1 : qz_NO ((5, 7), 4) := ⟨by decide, qz_in 63 (by decide +kernel) (by decide +kernel)⟩
theorem qz_no2 : qz_NO ((4, 28), 0) := ⟨by decide, qz_in 71 (by decide +kernel) (by decide +kernel)⟩
theorem qz_no3 : qz_NO ((5, 16), 1) := ⟨by decide, qz_in 164 (by decide +kernel) (by decide +kernel)⟩
theorem qz_no4 : qz_NO ((1, 19), 3) := ⟨by decide, qz_in 170 (by decide +kernel) (by decide +kernel)⟩
theorem qz_no5 : qz_NO ((5, 23), 2) := ⟨by decide, qz_in 210 (by decide +kernel) (by decide +kernel)⟩
theorem qz_no6 : qz_NO ((2, 9), 4) := ⟨by decide, qz_in 216 (by decide +kernel) (by decide +kernel)⟩
theorem qz_no7 : qz_NO ((8, 10), 6) := ⟨by decide, qz_in 566 (by decide +kernel) (by decide +kernel)⟩
set_option maxRecDepth 20000 in
theorem qz_nwL_ok : ∀ e ∈ qz_nwL, qz_NO e := List.forall_mem_cons.mpr ⟨qz_no0, List.forall_mem_cons.mpr ⟨qz_no1, List.forall_mem_cons.mpr ⟨qz_no2, List.forall_mem_cons.mpr ⟨qz_no3, List.forall_mem_cons.mpr ⟨qz_no4, List.forall_mem_cons.mpr ⟨qz_no5, List.forall_mem_cons.mpr ⟨qz_no6, List.forall_mem_cons.mpr ⟨qz_no7, fun _ h => absurd h List.not_mem_nil⟩⟩⟩⟩⟩⟩⟩⟩
theorem qz_nw_ok {c i x : Nat} (h : qz_nw c i = some x) : qz_NO ((c, i), x) := qz_fm qz_nwL_ok (qz_lk h)
theorem qz_n_8_7 : qz_nw 8 7 = some 5 := by decide +kernel
theorem qz_n_5_7 : qz_nw 5 7 = some 4 := by decide +kernel
theorem qz_n_4_28 : qz_nw 4 28 = some 0 := by decide +kernel
theorem qz_n_5_16 : qz_nw 5 16 = some 1 := by decide +kernel
theorem qz_n_1_19 : qz_nw 1 19 = some 3 := by decide +kernel
theorem qz_n_5_23 : qz_nw 5 23 = some 2 := by decide +kernel
theorem qz_n_2_9 : qz_nw 2 9 = some 4 := by decide +kernel
theorem qz_n_8_10 : qz_nw 8 10 = some 6 := by decide +kernel
def qz_CO (c : Nat) : Prop := vwCl[c]? = some (qz_ow c, qz_T c, qz_nf c) ∧ (∀ w ∈ u_ws (qz_ow c) (qz_T c) (qz_nf c), w ∈ qz_tb) ∧ (∀ k, k < qz_nf c → parseFieldDescriptor (qz_T c k).2.2.1 = some (qz_ty c k)) ∧ (∀ a, a < qz_nf c → ∀ b, b < qz_nf c → a ≠ b → (qz_T c a).2.1 ≠ (qz_T c b).2.1) ∧ Cond.instantiable (qz_ow c) (qz_nf c) ∈ qz_tb ∧ Cond.initialized (qz_ow c) ∈ qz_tb ∧ (∀ k, k < qz_nf c → (qz_T c k).1 = qz_ow c ∧ (qz_T c k).2.2.2 = qz_fn c k)
theorem qz_uw {C : String} {T : u_T} {N : Nat} (f : Nat → Nat) (h : ∀ k, k < N → lw_tbl[f k]? = some (u_lay C T k)) (g : ∀ k, k < N → goodWord (u_lay C T k) = true) : ∀ w ∈ u_ws C T N, w ∈ qz_tb := by
  intro w hw
  obtain ⟨k, hk, rfl⟩ := List.mem_map.mp hw
  have hk := List.mem_range.mp hk
  exact qz_in _ (h k hk) (g k hk)
def qz_wp0 (k : Nat) : Nat := ([101, 103, 105, 107, 109, 111, 113, 115] : List Nat).getD k 0
set_option maxRecDepth 20000 in
theorem qz_co0 : qz_CO 0 := ⟨rfl, qz_uw qz_wp0 (by decide +kernel) (by decide +kernel), tyX0_ok, nmX0, qz_in 73 (by decide +kernel) (by decide +kernel), qz_in 49 (by decide +kernel) (by decide +kernel), by decide +kernel⟩
def qz_wp1 (k : Nat) : Nat := ([201, 203, 205, 207] : List Nat).getD k 0
set_option maxRecDepth 20000 in
theorem qz_co1 : qz_CO 1 := ⟨rfl, qz_uw qz_wp1 (by decide +kernel) (by decide +kernel), tyX1_ok, nmX1, qz_in 165 (by decide +kernel) (by decide +kernel), qz_in 50 (by decide +kernel) (by decide +kernel), by decide +kernel⟩
def qz_wp2 (k : Nat) : Nat := ([222, 224] : List Nat).getD k 0
set_option maxRecDepth 20000 in
theorem qz_co2 : qz_CO 2 := ⟨rfl, qz_uw qz_wp2 (by decide +kernel) (by decide +kernel), tyX2_ok, nmX2, qz_in 211 (by decide +kernel) (by decide +kernel), qz_in 52 (by decide +kernel) (by decide +kernel), by decide +kernel⟩
def qz_wp3 (k : Nat) : Nat := ([186, 188, 190] : List Nat).getD k 0
set_option maxRecDepth 20000 in
theorem qz_co3 : qz_CO 3 := ⟨rfl, qz_uw qz_wp3 (by decide +kernel) (by decide +kernel), tyX3_ok, nmX3, qz_in 172 (by decide +kernel) (by decide +kernel), qz_in 51 (by decide +kernel) (by decide +kernel), by decide +kernel⟩
def qz_wp4 (k : Nat) : Nat := ([139, 141, 143, 145, 147, 149, 151, 153, 155, 157, 159, 161] : List Nat).getD k 0
set_option maxRecDepth 20000 in
theorem qz_co4 : qz_CO 4 := ⟨rfl, qz_uw qz_wp4 (by decide +kernel) (by decide +kernel), tyX4_ok, nmX4, qz_in 64 (by decide +kernel) (by decide +kernel), qz_in 48 (by decide +kernel) (by decide +kernel), by decide +kernel⟩
def qz_wp5 (k : Nat) : Nat := ([232, 234, 236, 238, 240] : List Nat).getD k 0
set_option maxRecDepth 20000 in
theorem qz_co5 : qz_CO 5 := ⟨rfl, qz_uw qz_wp5 (by decide +kernel) (by decide +kernel), tyX5_ok, nmX5, qz_in 56 (by decide +kernel) (by decide +kernel), qz_in 47 (by decide +kernel) (by decide +kernel), by decide +kernel⟩
def qz_wp6 (k : Nat) : Nat := ([587, 589, 591, 593, 595, 597, 599, 601, 603, 605, 607, 609, 611, 613, 615] : List Nat).getD k 0
set_option maxRecDepth 20000 in
theorem qz_co6 : qz_CO 6 := ⟨rfl, qz_uw qz_wp6 (by decide +kernel) (by decide +kernel), tyX6_ok, nmX6, qz_in 567 (by decide +kernel) (by decide +kernel), qz_in 53 (by decide +kernel) (by decide +kernel), by decide +kernel⟩
theorem qz_co {c : Nat} (h : c < 7) : qz_CO c := by
  match c, h with
  | 0, _ => exact qz_co0
  | 1, _ => exact qz_co1
  | 2, _ => exact qz_co2
  | 3, _ => exact qz_co3
  | 4, _ => exact qz_co4
  | 5, _ => exact qz_co5
  | 6, _ => exact qz_co6
  | k + 7, h => exact absurd h (by omega)
def qz_infL : List qz_I := [
  (yX0_init, cX0_init, 1, none, 0, 1, false, 1, 20),
  (yX0_isLive, cX0_isLive, 1, some FieldType.boolean, 0, 1, false, 0, 0),
  (yX0_isWaiting, cX0_isWaiting, 1, some FieldType.boolean, 0, 1, false, 1, 20),
  (yX0_isRider, cX0_isRider, 1, some FieldType.boolean, 0, 1, false, 1, 20),
  (yX0_isOfBus, cX0_isOfBus, 4, some FieldType.boolean, 0, 4, false, 1, 20),
  (yX0_getsSeatAheadOf, cX0_getsSeatAheadOf, 2, some FieldType.boolean, 0, 2, false, 0, 0),
  (yX0_clear, cX0_clear, 1, none, 0, 1, false, 0, 0),
  (yX0_copyFrom, cX0_copyFrom, 2, none, 0, 2, false, 0, 0),
  (yX1_init, cX1_init, 2, none, 1, 1, false, 2, 40),
  (yX1_append, cX1_append, 2, none, 1, 2, false, 0, 0),
  (yX1_read, cX1_read, 6, some FieldType.int, 1, 1, false, 1, 23),
  (yX1_isAllowed, cX1_isAllowed, 3, some FieldType.boolean, 1, 2, true, 0, 0),
  (yX1_wish, cX1_wish, 4, none, 1, 4, false, 0, 0),
  (yX2_init, cX2_init, 2, none, 2, 1, false, 3, 61),
  (yX2_remember, cX2_remember, 2, none, 2, 2, false, 2, 44),
  (yX2_dropOldest, cX2_dropOldest, 3, none, 2, 1, false, 0, 0),
  (yX2_takeLatestInto, cX2_takeLatestInto, 3, none, 2, 2, false, 2, 44),
  (yX3_init, cX3_init, 1, none, 3, 1, false, 1, 20),
  (yX4_init, cX4_init, 2, none, 4, 1, false, 2, 40),
  (yX4_copyFrom, cX4_copyFrom, 3, none, 4, 2, false, 1, 22),
  (yX4_copyRow, cX4_copyRow, 3, none, 4, 2, true, 0, 0),
  (yX4_setting, cX4_setting, 2, some FieldType.int, 4, 2, false, 0, 0),
  (yX4_changeSetting, cX4_changeSetting, 3, none, 4, 3, false, 0, 0),
  (yX4_hasEnd, cX4_hasEnd, 2, some FieldType.boolean, 4, 2, false, 0, 0),
  (yX4_openEnd, cX4_openEnd, 3, some FieldType.int, 4, 2, false, 0, 0),
  (yX4_minuteOf, cX4_minuteOf, 2, some FieldType.int, 4, 2, false, 0, 0),
  (yX4_isEarlier, cX4_isEarlier, 4, some FieldType.boolean, 4, 3, false, 1, 21),
  (yX4_endOfRank, cX4_endOfRank, 3, some FieldType.int, 4, 2, false, 3, 67),
  (yX4_rankOf, cX4_rankOf, 4, some FieldType.int, 4, 2, false, 2, 44),
  (yX4_bookingOf, cX4_bookingOf, 6, some (FieldType.object "ShiftBuses$Booking"), 4, 2, false, 1, 20),
  (yX4_enter, cX4_enter, 9, some FieldType.int, 4, 4, false, 4, 98),
  (yX4_workerCount, cX4_workerCount, 6, some FieldType.int, 4, 1, false, 1, 20),
  (yX4_waitingCount, cX4_waitingCount, 6, some FieldType.int, 4, 1, false, 2, 40),
  (yX4_reason, cX4_reason, 6, some FieldType.int, 4, 5, false, 3, 73),
  (yX4_lookAtWaiting, cX4_lookAtWaiting, 4, none, 4, 1, false, 4, 98),
  (yX4_nextWaiting, cX4_nextWaiting, 7, some (FieldType.object "ShiftBuses$Booking"), 4, 2, false, 3, 66),
  (yX4_isLookedAtAheadOf, cX4_isLookedAtAheadOf, 3, some FieldType.boolean, 4, 3, false, 2, 44),
  (yX4_busIndex, cX4_busIndex, 2, some FieldType.int, 4, 2, true, 1, 20),
  (yX4_partnerOf, cX4_partnerOf, 4, some FieldType.int, 4, 3, false, 2, 41),
  (yX4_tie, cX4_tie, 5, none, 4, 4, false, 2, 41),
  (yX4_pairCount, cX4_pairCount, 6, some FieldType.int, 4, 1, false, 0, 0),
  (yX4_startOf, cX4_startOf, 3, some FieldType.int, 4, 3, false, 1, 21),
  (yX4_startOfBusOf, cX4_startOfBusOf, 2, some FieldType.int, 4, 2, false, 3, 64),
  (yX4_minutesBehind, cX4_minutesBehind, 4, some FieldType.int, 4, 4, false, 1, 21),
  (yX4_isInTime, cX4_isInTime, 4, some FieldType.boolean, 4, 4, false, 2, 44),
  (yX4_takenSeats, cX4_takenSeats, 11, some FieldType.int, 4, 6, false, 2, 43),
  (yX4_waitingFor, cX4_waitingFor, 9, some FieldType.int, 4, 4, false, 2, 43),
  (yX4_farthestPromised, cX4_farthestPromised, 9, some FieldType.int, 4, 4, false, 2, 43),
  (yX4_canMerge, cX4_canMerge, 4, some FieldType.boolean, 4, 4, false, 4, 95),
  (yX4_isInTimeForAll, cX4_isInTimeForAll, 9, some FieldType.boolean, 4, 4, false, 3, 67),
  (yX4_canRide, cX4_canRide, 10, some FieldType.boolean, 4, 4, false, 3, 67),
  (yX4_costToday, cX4_costToday, 9, some FieldType.int, 4, 4, false, 4, 96),
  (yX4_runBuses, cX4_runBuses, 5, none, 4, 1, false, 5, 124),
  (yX4_bringHome, cX4_bringHome, 5, none, 4, 1, false, 5, 117),
  (yX4_bringRiderHome, cX4_bringRiderHome, 2, none, 4, 2, false, 4, 96),
  (yX5_init, cX5_init, 1, none, 5, 1, false, 4, 82),
  (yX5_addEnd, cX5_addEnd, 2, some FieldType.int, 5, 2, false, 3, 65),
  (yX5_book, cX5_book, 4, some FieldType.int, 5, 4, false, 5, 126),
  (yX5_bookAll, cX5_bookAll, 2, some FieldType.int, 5, 1, false, 6, 148),
  (yX5_takeBack, cX5_takeBack, 3, some FieldType.int, 5, 2, false, 5, 121),
  (yX5_stay, cX5_stay, 4, some FieldType.int, 5, 3, false, 5, 121),
  (yX5_merge, cX5_merge, 5, some FieldType.int, 5, 4, false, 6, 141),
  (yX5_part, cX5_part, 4, some FieldType.int, 5, 3, false, 5, 121),
  (yX5_set, cX5_set, 4, some FieldType.int, 5, 3, false, 5, 121),
  (yX5_passDay, cX5_passDay, 2, some FieldType.int, 5, 1, false, 6, 148),
  (yX5_type, cX5_type, 2, some FieldType.int, 5, 2, false, 1, 21),
  (yX5_clearText, cX5_clearText, 2, some FieldType.int, 5, 1, false, 0, 0),
  (yX5_undo, cX5_undo, 1, some FieldType.int, 5, 1, false, 3, 66),
  (yX5_keep, cX5_keep, 1, some FieldType.int, 5, 1, false, 2, 45),
  (yX5_restore, cX5_restore, 1, some FieldType.int, 5, 1, false, 3, 65),
  (yX5_worker, cX5_worker, 4, some FieldType.int, 5, 3, false, 4, 98),
  (yX5_bus, cX5_bus, 5, some FieldType.int, 5, 4, false, 5, 124),
  (yX5_taken, cX5_taken, 4, some FieldType.int, 5, 4, false, 3, 73),
  (yX5_why, cX5_why, 4, some FieldType.int, 5, 4, false, 4, 98),
  (yX5_spares, cX5_spares, 6, some FieldType.int, 5, 4, false, 6, 141),
  (yX5_byMinute, cX5_byMinute, 2, some FieldType.int, 5, 2, false, 4, 89),
  (yX5_count, cX5_count, 2, some FieldType.int, 5, 2, false, 3, 65),
  (yX5_isLine, cX5_isLine, 1, some FieldType.boolean, 5, 1, true, 0, 0),
  (yX5_isStop, cX5_isStop, 1, some FieldType.boolean, 5, 1, true, 0, 0),
  (yX5_isSettingValue, cX5_isSettingValue, 2, some FieldType.boolean, 5, 2, true, 0, 0),
  (yX5_mergingError, cX5_mergingError, 4, some FieldType.int, 5, 4, false, 5, 118),
  (yX5_hasAllEnds, cX5_hasAllEnds, 2, some FieldType.boolean, 5, 1, false, 1, 21),
  (yX5_enterAll, cX5_enterAll, 3, none, 5, 1, false, 5, 126),
  (yX6_init, cX6_init, 1, none, 6, 1, false, 1, 20),
  (yX6_in, cX6_in, 3, some FieldType.boolean, 6, 3, true, 0, 0),
  (yX6_of, cX6_of, 3, some FieldType.int, 6, 3, false, 0, 0),
  (yX6_lay, cX6_lay, 4, none, 6, 4, false, 0, 0),
  (yX6_isEnd, cX6_isEnd, 2, some FieldType.boolean, 6, 2, false, 1, 22),
  (yX6_isLine, cX6_isLine, 1, some FieldType.boolean, 6, 1, true, 1, 22),
  (yX6_isStop, cX6_isStop, 1, some FieldType.boolean, 6, 1, true, 1, 22),
  (yX6_minute, cX6_minute, 2, some FieldType.int, 6, 2, false, 0, 0),
  (yX6_partner, cX6_partner, 4, some FieldType.int, 6, 3, false, 0, 0),
  (yX6_placeOf, cX6_placeOf, 3, some FieldType.int, 6, 2, false, 1, 22),
  (yX6_records, cX6_records, 2, none, 6, 1, false, 0, 0),
  (yX6_later, cX6_later, 2, some FieldType.int, 6, 2, true, 0, 0),
  (yX6_startOf, cX6_startOf, 4, some FieldType.int, 6, 3, false, 1, 23),
  (yX6_isOn, cX6_isOn, 4, some FieldType.boolean, 6, 4, false, 1, 23),
  (yX6_takenBut, cX6_takenBut, 7, some FieldType.int, 6, 5, false, 2, 46),
  (yX6_behind, cX6_behind, 4, some FieldType.int, 6, 4, false, 1, 21),
  (yX6_reasonBut, cX6_reasonBut, 6, some FieldType.int, 6, 5, false, 3, 72),
  (yX6_ranks, cX6_ranks, 3, none, 6, 1, false, 1, 21),
  (yX6_waitsAt, cX6_waitsAt, 5, some FieldType.boolean, 6, 5, false, 1, 22),
  (yX6_looksAt, cX6_looksAt, 5, none, 6, 4, false, 4, 97),
  (yX6_looksAtAll, cX6_looksAtAll, 3, none, 6, 1, false, 5, 121),
  (yX6_waiting, cX6_waiting, 3, some FieldType.int, 6, 1, false, 1, 22),
  (yX6_isOf, cX6_isOf, 5, some FieldType.boolean, 6, 5, false, 1, 22),
  (yX6_canMerge, cX6_canMerge, 9, some FieldType.boolean, 6, 4, false, 2, 46),
  (yX6_laysRides, cX6_laysRides, 9, none, 6, 5, false, 2, 46),
  (yX6_cost, cX6_cost, 1, some FieldType.int, 6, 1, false, 0, 0),
  (yX6_costOf, cX6_costOf, 4, some FieldType.int, 6, 3, false, 3, 74),
  (yX6_isAway, cX6_isAway, 4, some FieldType.boolean, 6, 3, false, 1, 23),
  (yX6_bringsHome, cX6_bringsHome, 6, some FieldType.int, 6, 3, false, 4, 97),
  (yX6_addEnd, cX6_addEnd, 2, some FieldType.int, 6, 2, false, 1, 22),
  (yX6_books, cX6_books, 7, some FieldType.int, 6, 4, false, 4, 97),
  (yX6_book, cX6_book, 4, some FieldType.int, 6, 4, false, 5, 123),
  (yX6_bookAll, cX6_bookAll, 3, some FieldType.int, 6, 1, false, 5, 123),
  (yX6_takeBack, cX6_takeBack, 4, some FieldType.int, 6, 2, false, 6, 143),
  (yX6_stay, cX6_stay, 4, some FieldType.int, 6, 3, false, 6, 143),
  (yX6_layMerged, cX6_layMerged, 4, none, 6, 4, false, 0, 0),
  (yX6_merge, cX6_merge, 4, some FieldType.int, 6, 4, false, 6, 143),
  (yX6_part, cX6_part, 4, some FieldType.int, 6, 3, false, 6, 143),
  (yX6_isSetting, cX6_isSetting, 2, some FieldType.boolean, 6, 2, true, 1, 22),
  (yX6_set, cX6_set, 4, some FieldType.int, 6, 3, false, 6, 143),
  (yX6_passDay, cX6_passDay, 3, some FieldType.int, 6, 1, false, 5, 122),
  (yX6_type, cX6_type, 2, some FieldType.int, 6, 2, false, 0, 0),
  (yX6_clearText, cX6_clearText, 2, some FieldType.int, 6, 1, false, 0, 0),
  (yX6_sign, cX6_sign, 1, some FieldType.int, 6, 1, false, 0, 0),
  (yX6_readsStop, cX6_readsStop, 3, none, 6, 3, false, 1, 20),
  (yX6_readsBooking, cX6_readsBooking, 3, none, 6, 1, false, 2, 42),
  (yX6_reads, cX6_reads, 1, some FieldType.int, 6, 1, false, 3, 64),
  (yX6_undo, cX6_undo, 2, some FieldType.int, 6, 1, false, 0, 0),
  (yX6_keep, cX6_keep, 2, some FieldType.int, 6, 1, false, 0, 0),
  (yX6_restore, cX6_restore, 2, some FieldType.int, 6, 1, false, 1, 21),
  (yX6_worker, cX6_worker, 6, some FieldType.int, 6, 3, false, 4, 97),
  (yX6_overRiders, cX6_overRiders, 8, some FieldType.int, 6, 4, false, 2, 46),
  (yX6_bus, cX6_bus, 4, some FieldType.int, 6, 4, false, 4, 97),
  (yX6_taken, cX6_taken, 4, some FieldType.int, 6, 4, false, 3, 72),
  (yX6_why, cX6_why, 4, some FieldType.int, 6, 4, false, 4, 97),
  (yX6_spares, cX6_spares, 5, some FieldType.int, 6, 4, false, 4, 97),
  (yX6_byMinute, cX6_byMinute, 2, some FieldType.int, 6, 2, false, 2, 43),
  (yX6_pairs, cX6_pairs, 3, some FieldType.int, 6, 1, false, 0, 0),
  (yX6_count, cX6_count, 2, some FieldType.int, 6, 2, false, 2, 44),
  (yL_law, cL_law, 4, some .boolean, 8, 1, true, 9, 338)]
def qz_inf (k : Nat) : qz_I := qz_infL.getD k (yL_law, cL_law, 4, some .boolean, 8, 1, true, 10, 364)
def qz_y (k : Nat) : MethodName := (qz_inf k).1
def qz_b (k : Nat) : ByteArray := (qz_inf k).2.1
def qz_ml (k : Nat) : Nat := (qz_inf k).2.2.1
def qz_rt (k : Nat) : Option FieldType := (qz_inf k).2.2.2.1
def qz_cn (k : Nat) : Nat := (qz_inf k).2.2.2.2.1
def qz_na (k : Nat) : Nat := (qz_inf k).2.2.2.2.2.1
def qz_sa (k : Nat) : Bool := (qz_inf k).2.2.2.2.2.2.1
def qz_rF (k : Nat) : Nat := (qz_inf k).2.2.2.2.2.2.2.1
def qz_rL (k : Nat) : Nat := (qz_inf k).2.2.2.2.2.2.2.2
def qz_ini (k : Nat) : Bool := (qz_y k).name == "<init>"
abbrev qz_nm : Nat := 142
/-- a method that may be called -/
def qz_MO (k : Nat) : Prop := plainName (qz_y k).cls = true ∧ Cond.code (qz_y k) (qz_b k) (qz_ml k) (qz_rt k) ∈ qz_tb ∧ Cond.initialized (qz_y k).cls ∈ qz_tb ∧ ((qz_y k).cls ≠ "java/lang/invoke/MethodHandle" ∧ (qz_y k).cls ≠ "java/lang/invoke/VarHandle") ∧ (parseMethodDescriptor (qz_y k).desc).map (fun d => d.parameters.length) = some (qz_na k - (if qz_sa k = true then 0 else 1)) ∧ (qz_sa k = true → Cond.static (qz_y k) ∈ qz_tb) ∧ (qz_sa k = false → Cond.instanceMethod (qz_y k) ∈ qz_tb ∧ (qz_ini k = true ∨ Cond.selects (qz_ow (qz_cn k)) (qz_y k) (qz_y k) ∈ qz_tb) ∧ qz_cn k < 7 ∧ 1 ≤ qz_na k) ∧ (qz_y k).cls = qz_ow (qz_cn k) ∧ qz_na k ≤ qz_ml k ∧ (qz_ini k = true → qz_rt k = none)
set_option maxRecDepth 20000 in
theorem qz_mo0 : qz_MO 0 := ⟨by decide +kernel, qz_in 76 (by decide +kernel) (by decide +kernel), qz_in 49 (by decide +kernel) (by decide +kernel), ⟨by decide +kernel, by decide +kernel⟩, by decide +kernel, fun h => absurd h (by decide +kernel), fun _ => ⟨qz_in 75 (by decide +kernel) (by decide +kernel), Or.inl (by decide +kernel), by decide +kernel, by decide +kernel⟩, by decide +kernel, by decide +kernel, by decide +kernel⟩
set_option maxRecDepth 20000 in
theorem qz_mo1 : qz_MO 1 := ⟨by decide +kernel, qz_in 291 (by decide +kernel) (by decide +kernel), qz_in 49 (by decide +kernel) (by decide +kernel), ⟨by decide +kernel, by decide +kernel⟩, by decide +kernel, fun h => absurd h (by decide +kernel), fun _ => ⟨qz_in 289 (by decide +kernel) (by decide +kernel), Or.inr (qz_in 290 (by decide +kernel) (by decide +kernel)), by decide +kernel, by decide +kernel⟩, by decide +kernel, by decide +kernel, by decide +kernel⟩
set_option maxRecDepth 20000 in
theorem qz_mo2 : qz_MO 2 := ⟨by decide +kernel, qz_in 391 (by decide +kernel) (by decide +kernel), qz_in 49 (by decide +kernel) (by decide +kernel), ⟨by decide +kernel, by decide +kernel⟩, by decide +kernel, fun h => absurd h (by decide +kernel), fun _ => ⟨qz_in 389 (by decide +kernel) (by decide +kernel), Or.inr (qz_in 390 (by decide +kernel) (by decide +kernel)), by decide +kernel, by decide +kernel⟩, by decide +kernel, by decide +kernel, by decide +kernel⟩
set_option maxRecDepth 20000 in
theorem qz_mo3 : qz_MO 3 := ⟨by decide +kernel, qz_in 316 (by decide +kernel) (by decide +kernel), qz_in 49 (by decide +kernel) (by decide +kernel), ⟨by decide +kernel, by decide +kernel⟩, by decide +kernel, fun h => absurd h (by decide +kernel), fun _ => ⟨qz_in 314 (by decide +kernel) (by decide +kernel), Or.inr (qz_in 315 (by decide +kernel) (by decide +kernel)), by decide +kernel, by decide +kernel⟩, by decide +kernel, by decide +kernel, by decide +kernel⟩
set_option maxRecDepth 20000 in
theorem qz_mo4 : qz_MO 4 := ⟨by decide +kernel, qz_in 321 (by decide +kernel) (by decide +kernel), qz_in 49 (by decide +kernel) (by decide +kernel), ⟨by decide +kernel, by decide +kernel⟩, by decide +kernel, fun h => absurd h (by decide +kernel), fun _ => ⟨qz_in 319 (by decide +kernel) (by decide +kernel), Or.inr (qz_in 320 (by decide +kernel) (by decide +kernel)), by decide +kernel, by decide +kernel⟩, by decide +kernel, by decide +kernel, by decide +kernel⟩
set_option maxRecDepth 20000 in
theorem qz_mo5 : qz_MO 5 := ⟨by decide +kernel, qz_in 472 (by decide +kernel) (by decide +kernel), qz_in 49 (by decide +kernel) (by decide +kernel), ⟨by decide +kernel, by decide +kernel⟩, by decide +kernel, fun h => absurd h (by decide +kernel), fun _ => ⟨qz_in 470 (by decide +kernel) (by decide +kernel), Or.inr (qz_in 471 (by decide +kernel) (by decide +kernel)), by decide +kernel, by decide +kernel⟩, by decide +kernel, by decide +kernel, by decide +kernel⟩
set_option maxRecDepth 20000 in
theorem qz_mo6 : qz_MO 6 := ⟨by decide +kernel, qz_in 379 (by decide +kernel) (by decide +kernel), qz_in 49 (by decide +kernel) (by decide +kernel), ⟨by decide +kernel, by decide +kernel⟩, by decide +kernel, fun h => absurd h (by decide +kernel), fun _ => ⟨qz_in 377 (by decide +kernel) (by decide +kernel), Or.inr (qz_in 378 (by decide +kernel) (by decide +kernel)), by decide +kernel, by decide +kernel⟩, by decide +kernel, by decide +kernel, by decide +kernel⟩
set_option maxRecDepth 20000 in
theorem qz_mo7 : qz_MO 7 := ⟨by decide +kernel, qz_in 265 (by decide +kernel) (by decide +kernel), qz_in 49 (by decide +kernel) (by decide +kernel), ⟨by decide +kernel, by decide +kernel⟩, by decide +kernel, fun h => absurd h (by decide +kernel), fun _ => ⟨qz_in 263 (by decide +kernel) (by decide +kernel), Or.inr (qz_in 264 (by decide +kernel) (by decide +kernel)), by decide +kernel, by decide +kernel⟩, by decide +kernel, by decide +kernel, by decide +kernel⟩
set_option maxRecDepth 20000 in
theorem qz_mo8 : qz_MO 8 := ⟨by decide +kernel, qz_in 168 (by decide +kernel) (by decide +kernel), qz_in 50 (by decide +kernel) (by decide +kernel), ⟨by decide +kernel, by decide +kernel⟩, by decide +kernel, fun h => absurd h (by decide +kernel), fun _ => ⟨qz_in 167 (by decide +kernel) (by decide +kernel), Or.inl (by decide +kernel), by decide +kernel, by decide +kernel⟩, by decide +kernel, by decide +kernel, by decide +kernel⟩
set_option maxRecDepth 20000 in
theorem qz_mo9 : qz_MO 9 := ⟨by decide +kernel, qz_in 488 (by decide +kernel) (by decide +kernel), qz_in 50 (by decide +kernel) (by decide +kernel), ⟨by decide +kernel, by decide +kernel⟩, by decide +kernel, fun h => absurd h (by decide +kernel), fun _ => ⟨qz_in 486 (by decide +kernel) (by decide +kernel), Or.inr (qz_in 487 (by decide +kernel) (by decide +kernel)), by decide +kernel, by decide +kernel⟩, by decide +kernel, by decide +kernel, by decide +kernel⟩
set_option maxRecDepth 20000 in
theorem qz_mo10 : qz_MO 10 := ⟨by decide +kernel, qz_in 352 (by decide +kernel) (by decide +kernel), qz_in 50 (by decide +kernel) (by decide +kernel), ⟨by decide +kernel, by decide +kernel⟩, by decide +kernel, fun h => absurd h (by decide +kernel), fun _ => ⟨qz_in 350 (by decide +kernel) (by decide +kernel), Or.inr (qz_in 351 (by decide +kernel) (by decide +kernel)), by decide +kernel, by decide +kernel⟩, by decide +kernel, by decide +kernel, by decide +kernel⟩
set_option maxRecDepth 20000 in
theorem qz_mo11 : qz_MO 11 := ⟨by decide +kernel, qz_in 355 (by decide +kernel) (by decide +kernel), qz_in 50 (by decide +kernel) (by decide +kernel), ⟨by decide +kernel, by decide +kernel⟩, by decide +kernel, fun _ => qz_in 354 (by decide +kernel) (by decide +kernel), fun h => absurd h (by decide +kernel), by decide +kernel, by decide +kernel, by decide +kernel⟩
set_option maxRecDepth 20000 in
theorem qz_mo12 : qz_MO 12 := ⟨by decide +kernel, qz_in 359 (by decide +kernel) (by decide +kernel), qz_in 50 (by decide +kernel) (by decide +kernel), ⟨by decide +kernel, by decide +kernel⟩, by decide +kernel, fun h => absurd h (by decide +kernel), fun _ => ⟨qz_in 358 (by decide +kernel) (by decide +kernel), Or.inr (qz_in 3 (by decide +kernel) (by decide +kernel)), by decide +kernel, by decide +kernel⟩, by decide +kernel, by decide +kernel, by decide +kernel⟩
set_option maxRecDepth 20000 in
theorem qz_mo13 : qz_MO 13 := ⟨by decide +kernel, qz_in 214 (by decide +kernel) (by decide +kernel), qz_in 52 (by decide +kernel) (by decide +kernel), ⟨by decide +kernel, by decide +kernel⟩, by decide +kernel, fun h => absurd h (by decide +kernel), fun _ => ⟨qz_in 213 (by decide +kernel) (by decide +kernel), Or.inl (by decide +kernel), by decide +kernel, by decide +kernel⟩, by decide +kernel, by decide +kernel, by decide +kernel⟩
set_option maxRecDepth 20000 in
theorem qz_mo14 : qz_MO 14 := ⟨by decide +kernel, qz_in 250 (by decide +kernel) (by decide +kernel), qz_in 52 (by decide +kernel) (by decide +kernel), ⟨by decide +kernel, by decide +kernel⟩, by decide +kernel, fun h => absurd h (by decide +kernel), fun _ => ⟨qz_in 248 (by decide +kernel) (by decide +kernel), Or.inr (qz_in 249 (by decide +kernel) (by decide +kernel)), by decide +kernel, by decide +kernel⟩, by decide +kernel, by decide +kernel, by decide +kernel⟩
set_option maxRecDepth 20000 in
theorem qz_mo15 : qz_MO 15 := ⟨by decide +kernel, qz_in 254 (by decide +kernel) (by decide +kernel), qz_in 52 (by decide +kernel) (by decide +kernel), ⟨by decide +kernel, by decide +kernel⟩, by decide +kernel, fun h => absurd h (by decide +kernel), fun _ => ⟨qz_in 253 (by decide +kernel) (by decide +kernel), Or.inr (qz_in 0 (by decide +kernel) (by decide +kernel)), by decide +kernel, by decide +kernel⟩, by decide +kernel, by decide +kernel, by decide +kernel⟩
set_option maxRecDepth 20000 in
theorem qz_mo16 : qz_MO 16 := ⟨by decide +kernel, qz_in 500 (by decide +kernel) (by decide +kernel), qz_in 52 (by decide +kernel) (by decide +kernel), ⟨by decide +kernel, by decide +kernel⟩, by decide +kernel, fun h => absurd h (by decide +kernel), fun _ => ⟨qz_in 498 (by decide +kernel) (by decide +kernel), Or.inr (qz_in 499 (by decide +kernel) (by decide +kernel)), by decide +kernel, by decide +kernel⟩, by decide +kernel, by decide +kernel, by decide +kernel⟩
set_option maxRecDepth 20000 in
theorem qz_mo17 : qz_MO 17 := ⟨by decide +kernel, qz_in 175 (by decide +kernel) (by decide +kernel), qz_in 51 (by decide +kernel) (by decide +kernel), ⟨by decide +kernel, by decide +kernel⟩, by decide +kernel, fun h => absurd h (by decide +kernel), fun _ => ⟨qz_in 174 (by decide +kernel) (by decide +kernel), Or.inl (by decide +kernel), by decide +kernel, by decide +kernel⟩, by decide +kernel, by decide +kernel, by decide +kernel⟩
set_option maxRecDepth 20000 in
theorem qz_mo18 : qz_MO 18 := ⟨by decide +kernel, qz_in 67 (by decide +kernel) (by decide +kernel), qz_in 48 (by decide +kernel) (by decide +kernel), ⟨by decide +kernel, by decide +kernel⟩, by decide +kernel, fun h => absurd h (by decide +kernel), fun _ => ⟨qz_in 66 (by decide +kernel) (by decide +kernel), Or.inl (by decide +kernel), by decide +kernel, by decide +kernel⟩, by decide +kernel, by decide +kernel, by decide +kernel⟩
set_option maxRecDepth 20000 in
theorem qz_mo19 : qz_MO 19 := ⟨by decide +kernel, qz_in 258 (by decide +kernel) (by decide +kernel), qz_in 48 (by decide +kernel) (by decide +kernel), ⟨by decide +kernel, by decide +kernel⟩, by decide +kernel, fun h => absurd h (by decide +kernel), fun _ => ⟨qz_in 256 (by decide +kernel) (by decide +kernel), Or.inr (qz_in 257 (by decide +kernel) (by decide +kernel)), by decide +kernel, by decide +kernel⟩, by decide +kernel, by decide +kernel, by decide +kernel⟩
set_option maxRecDepth 20000 in
theorem qz_mo20 : qz_MO 20 := ⟨by decide +kernel, qz_in 261 (by decide +kernel) (by decide +kernel), qz_in 48 (by decide +kernel) (by decide +kernel), ⟨by decide +kernel, by decide +kernel⟩, by decide +kernel, fun _ => qz_in 260 (by decide +kernel) (by decide +kernel), fun h => absurd h (by decide +kernel), by decide +kernel, by decide +kernel, by decide +kernel⟩
set_option maxRecDepth 20000 in
theorem qz_mo21 : qz_MO 21 := ⟨by decide +kernel, qz_in 325 (by decide +kernel) (by decide +kernel), qz_in 48 (by decide +kernel) (by decide +kernel), ⟨by decide +kernel, by decide +kernel⟩, by decide +kernel, fun h => absurd h (by decide +kernel), fun _ => ⟨qz_in 323 (by decide +kernel) (by decide +kernel), Or.inr (qz_in 324 (by decide +kernel) (by decide +kernel)), by decide +kernel, by decide +kernel⟩, by decide +kernel, by decide +kernel, by decide +kernel⟩
set_option maxRecDepth 20000 in
theorem qz_mo22 : qz_MO 22 := ⟨by decide +kernel, qz_in 452 (by decide +kernel) (by decide +kernel), qz_in 48 (by decide +kernel) (by decide +kernel), ⟨by decide +kernel, by decide +kernel⟩, by decide +kernel, fun h => absurd h (by decide +kernel), fun _ => ⟨qz_in 450 (by decide +kernel) (by decide +kernel), Or.inr (qz_in 451 (by decide +kernel) (by decide +kernel)), by decide +kernel, by decide +kernel⟩, by decide +kernel, by decide +kernel, by decide +kernel⟩
set_option maxRecDepth 20000 in
theorem qz_mo23 : qz_MO 23 := ⟨by decide +kernel, qz_in 277 (by decide +kernel) (by decide +kernel), qz_in 48 (by decide +kernel) (by decide +kernel), ⟨by decide +kernel, by decide +kernel⟩, by decide +kernel, fun h => absurd h (by decide +kernel), fun _ => ⟨qz_in 275 (by decide +kernel) (by decide +kernel), Or.inr (qz_in 276 (by decide +kernel) (by decide +kernel)), by decide +kernel, by decide +kernel⟩, by decide +kernel, by decide +kernel, by decide +kernel⟩
set_option maxRecDepth 20000 in
theorem qz_mo24 : qz_MO 24 := ⟨by decide +kernel, qz_in 269 (by decide +kernel) (by decide +kernel), qz_in 48 (by decide +kernel) (by decide +kernel), ⟨by decide +kernel, by decide +kernel⟩, by decide +kernel, fun h => absurd h (by decide +kernel), fun _ => ⟨qz_in 267 (by decide +kernel) (by decide +kernel), Or.inr (qz_in 268 (by decide +kernel) (by decide +kernel)), by decide +kernel, by decide +kernel⟩, by decide +kernel, by decide +kernel, by decide +kernel⟩
set_option maxRecDepth 20000 in
theorem qz_mo25 : qz_MO 25 := ⟨by decide +kernel, qz_in 333 (by decide +kernel) (by decide +kernel), qz_in 48 (by decide +kernel) (by decide +kernel), ⟨by decide +kernel, by decide +kernel⟩, by decide +kernel, fun h => absurd h (by decide +kernel), fun _ => ⟨qz_in 332 (by decide +kernel) (by decide +kernel), Or.inr (qz_in 1 (by decide +kernel) (by decide +kernel)), by decide +kernel, by decide +kernel⟩, by decide +kernel, by decide +kernel, by decide +kernel⟩
set_option maxRecDepth 20000 in
theorem qz_mo26 : qz_MO 26 := ⟨by decide +kernel, qz_in 399 (by decide +kernel) (by decide +kernel), qz_in 48 (by decide +kernel) (by decide +kernel), ⟨by decide +kernel, by decide +kernel⟩, by decide +kernel, fun h => absurd h (by decide +kernel), fun _ => ⟨qz_in 398 (by decide +kernel) (by decide +kernel), Or.inr (qz_in 8 (by decide +kernel) (by decide +kernel)), by decide +kernel, by decide +kernel⟩, by decide +kernel, by decide +kernel, by decide +kernel⟩
set_option maxRecDepth 20000 in
theorem qz_mo27 : qz_MO 27 := ⟨by decide +kernel, qz_in 553 (by decide +kernel) (by decide +kernel), qz_in 48 (by decide +kernel) (by decide +kernel), ⟨by decide +kernel, by decide +kernel⟩, by decide +kernel, fun h => absurd h (by decide +kernel), fun _ => ⟨qz_in 551 (by decide +kernel) (by decide +kernel), Or.inr (qz_in 552 (by decide +kernel) (by decide +kernel)), by decide +kernel, by decide +kernel⟩, by decide +kernel, by decide +kernel, by decide +kernel⟩
set_option maxRecDepth 20000 in
theorem qz_mo28 : qz_MO 28 := ⟨by decide +kernel, qz_in 557 (by decide +kernel) (by decide +kernel), qz_in 48 (by decide +kernel) (by decide +kernel), ⟨by decide +kernel, by decide +kernel⟩, by decide +kernel, fun h => absurd h (by decide +kernel), fun _ => ⟨qz_in 556 (by decide +kernel) (by decide +kernel), Or.inr (qz_in 13 (by decide +kernel) (by decide +kernel)), by decide +kernel, by decide +kernel⟩, by decide +kernel, by decide +kernel, by decide +kernel⟩
set_option maxRecDepth 20000 in
theorem qz_mo29 : qz_MO 29 := ⟨by decide +kernel, qz_in 375 (by decide +kernel) (by decide +kernel), qz_in 48 (by decide +kernel) (by decide +kernel), ⟨by decide +kernel, by decide +kernel⟩, by decide +kernel, fun h => absurd h (by decide +kernel), fun _ => ⟨qz_in 373 (by decide +kernel) (by decide +kernel), Or.inr (qz_in 374 (by decide +kernel) (by decide +kernel)), by decide +kernel, by decide +kernel⟩, by decide +kernel, by decide +kernel, by decide +kernel⟩
set_option maxRecDepth 20000 in
theorem qz_mo30 : qz_MO 30 := ⟨by decide +kernel, qz_in 295 (by decide +kernel) (by decide +kernel), qz_in 48 (by decide +kernel) (by decide +kernel), ⟨by decide +kernel, by decide +kernel⟩, by decide +kernel, fun h => absurd h (by decide +kernel), fun _ => ⟨qz_in 293 (by decide +kernel) (by decide +kernel), Or.inr (qz_in 294 (by decide +kernel) (by decide +kernel)), by decide +kernel, by decide +kernel⟩, by decide +kernel, by decide +kernel, by decide +kernel⟩
set_option maxRecDepth 20000 in
theorem qz_mo31 : qz_MO 31 := ⟨by decide +kernel, qz_in 287 (by decide +kernel) (by decide +kernel), qz_in 48 (by decide +kernel) (by decide +kernel), ⟨by decide +kernel, by decide +kernel⟩, by decide +kernel, fun h => absurd h (by decide +kernel), fun _ => ⟨qz_in 285 (by decide +kernel) (by decide +kernel), Or.inr (qz_in 286 (by decide +kernel) (by decide +kernel)), by decide +kernel, by decide +kernel⟩, by decide +kernel, by decide +kernel, by decide +kernel⟩
set_option maxRecDepth 20000 in
theorem qz_mo32 : qz_MO 32 := ⟨by decide +kernel, qz_in 403 (by decide +kernel) (by decide +kernel), qz_in 48 (by decide +kernel) (by decide +kernel), ⟨by decide +kernel, by decide +kernel⟩, by decide +kernel, fun h => absurd h (by decide +kernel), fun _ => ⟨qz_in 401 (by decide +kernel) (by decide +kernel), Or.inr (qz_in 402 (by decide +kernel) (by decide +kernel)), by decide +kernel, by decide +kernel⟩, by decide +kernel, by decide +kernel, by decide +kernel⟩
set_option maxRecDepth 20000 in
theorem qz_mo33 : qz_MO 33 := ⟨by decide +kernel, qz_in 299 (by decide +kernel) (by decide +kernel), qz_in 48 (by decide +kernel) (by decide +kernel), ⟨by decide +kernel, by decide +kernel⟩, by decide +kernel, fun h => absurd h (by decide +kernel), fun _ => ⟨qz_in 297 (by decide +kernel) (by decide +kernel), Or.inr (qz_in 298 (by decide +kernel) (by decide +kernel)), by decide +kernel, by decide +kernel⟩, by decide +kernel, by decide +kernel, by decide +kernel⟩
set_option maxRecDepth 20000 in
theorem qz_mo34 : qz_MO 34 := ⟨by decide +kernel, qz_in 383 (by decide +kernel) (by decide +kernel), qz_in 48 (by decide +kernel) (by decide +kernel), ⟨by decide +kernel, by decide +kernel⟩, by decide +kernel, fun h => absurd h (by decide +kernel), fun _ => ⟨qz_in 381 (by decide +kernel) (by decide +kernel), Or.inr (qz_in 382 (by decide +kernel) (by decide +kernel)), by decide +kernel, by decide +kernel⟩, by decide +kernel, by decide +kernel, by decide +kernel⟩
set_option maxRecDepth 20000 in
theorem qz_mo35 : qz_MO 35 := ⟨by decide +kernel, qz_in 387 (by decide +kernel) (by decide +kernel), qz_in 48 (by decide +kernel) (by decide +kernel), ⟨by decide +kernel, by decide +kernel⟩, by decide +kernel, fun h => absurd h (by decide +kernel), fun _ => ⟨qz_in 386 (by decide +kernel) (by decide +kernel), Or.inr (qz_in 6 (by decide +kernel) (by decide +kernel)), by decide +kernel, by decide +kernel⟩, by decide +kernel, by decide +kernel, by decide +kernel⟩
set_option maxRecDepth 20000 in
theorem qz_mo36 : qz_MO 36 := ⟨by decide +kernel, qz_in 395 (by decide +kernel) (by decide +kernel), qz_in 48 (by decide +kernel) (by decide +kernel), ⟨by decide +kernel, by decide +kernel⟩, by decide +kernel, fun h => absurd h (by decide +kernel), fun _ => ⟨qz_in 394 (by decide +kernel) (by decide +kernel), Or.inr (qz_in 7 (by decide +kernel) (by decide +kernel)), by decide +kernel, by decide +kernel⟩, by decide +kernel, by decide +kernel, by decide +kernel⟩
set_option maxRecDepth 20000 in
theorem qz_mo37 : qz_MO 37 := ⟨by decide +kernel, qz_in 307 (by decide +kernel) (by decide +kernel), qz_in 48 (by decide +kernel) (by decide +kernel), ⟨by decide +kernel, by decide +kernel⟩, by decide +kernel, fun _ => qz_in 306 (by decide +kernel) (by decide +kernel), fun h => absurd h (by decide +kernel), by decide +kernel, by decide +kernel, by decide +kernel⟩
set_option maxRecDepth 20000 in
theorem qz_mo38 : qz_MO 38 := ⟨by decide +kernel, qz_in 304 (by decide +kernel) (by decide +kernel), qz_in 48 (by decide +kernel) (by decide +kernel), ⟨by decide +kernel, by decide +kernel⟩, by decide +kernel, fun h => absurd h (by decide +kernel), fun _ => ⟨qz_in 302 (by decide +kernel) (by decide +kernel), Or.inr (qz_in 303 (by decide +kernel) (by decide +kernel)), by decide +kernel, by decide +kernel⟩, by decide +kernel, by decide +kernel, by decide +kernel⟩
set_option maxRecDepth 20000 in
theorem qz_mo39 : qz_MO 39 := ⟨by decide +kernel, qz_in 430 (by decide +kernel) (by decide +kernel), qz_in 48 (by decide +kernel) (by decide +kernel), ⟨by decide +kernel, by decide +kernel⟩, by decide +kernel, fun h => absurd h (by decide +kernel), fun _ => ⟨qz_in 428 (by decide +kernel) (by decide +kernel), Or.inr (qz_in 429 (by decide +kernel) (by decide +kernel)), by decide +kernel, by decide +kernel⟩, by decide +kernel, by decide +kernel, by decide +kernel⟩
set_option maxRecDepth 20000 in
theorem qz_mo40 : qz_MO 40 := ⟨by decide +kernel, qz_in 565 (by decide +kernel) (by decide +kernel), qz_in 48 (by decide +kernel) (by decide +kernel), ⟨by decide +kernel, by decide +kernel⟩, by decide +kernel, fun h => absurd h (by decide +kernel), fun _ => ⟨qz_in 563 (by decide +kernel) (by decide +kernel), Or.inr (qz_in 564 (by decide +kernel) (by decide +kernel)), by decide +kernel, by decide +kernel⟩, by decide +kernel, by decide +kernel, by decide +kernel⟩
set_option maxRecDepth 20000 in
theorem qz_mo41 : qz_MO 41 := ⟨by decide +kernel, qz_in 329 (by decide +kernel) (by decide +kernel), qz_in 48 (by decide +kernel) (by decide +kernel), ⟨by decide +kernel, by decide +kernel⟩, by decide +kernel, fun h => absurd h (by decide +kernel), fun _ => ⟨qz_in 327 (by decide +kernel) (by decide +kernel), Or.inr (qz_in 328 (by decide +kernel) (by decide +kernel)), by decide +kernel, by decide +kernel⟩, by decide +kernel, by decide +kernel, by decide +kernel⟩
set_option maxRecDepth 20000 in
theorem qz_mo42 : qz_MO 42 := ⟨by decide +kernel, qz_in 517 (by decide +kernel) (by decide +kernel), qz_in 48 (by decide +kernel) (by decide +kernel), ⟨by decide +kernel, by decide +kernel⟩, by decide +kernel, fun h => absurd h (by decide +kernel), fun _ => ⟨qz_in 515 (by decide +kernel) (by decide +kernel), Or.inr (qz_in 516 (by decide +kernel) (by decide +kernel)), by decide +kernel, by decide +kernel⟩, by decide +kernel, by decide +kernel, by decide +kernel⟩
set_option maxRecDepth 20000 in
theorem qz_mo43 : qz_MO 43 := ⟨by decide +kernel, qz_in 344 (by decide +kernel) (by decide +kernel), qz_in 48 (by decide +kernel) (by decide +kernel), ⟨by decide +kernel, by decide +kernel⟩, by decide +kernel, fun h => absurd h (by decide +kernel), fun _ => ⟨qz_in 342 (by decide +kernel) (by decide +kernel), Or.inr (qz_in 343 (by decide +kernel) (by decide +kernel)), by decide +kernel, by decide +kernel⟩, by decide +kernel, by decide +kernel, by decide +kernel⟩
set_option maxRecDepth 20000 in
theorem qz_mo44 : qz_MO 44 := ⟨by decide +kernel, qz_in 340 (by decide +kernel) (by decide +kernel), qz_in 48 (by decide +kernel) (by decide +kernel), ⟨by decide +kernel, by decide +kernel⟩, by decide +kernel, fun h => absurd h (by decide +kernel), fun _ => ⟨qz_in 339 (by decide +kernel) (by decide +kernel), Or.inr (qz_in 2 (by decide +kernel) (by decide +kernel)), by decide +kernel, by decide +kernel⟩, by decide +kernel, by decide +kernel, by decide +kernel⟩
set_option maxRecDepth 20000 in
theorem qz_mo45 : qz_MO 45 := ⟨by decide +kernel, qz_in 312 (by decide +kernel) (by decide +kernel), qz_in 48 (by decide +kernel) (by decide +kernel), ⟨by decide +kernel, by decide +kernel⟩, by decide +kernel, fun h => absurd h (by decide +kernel), fun _ => ⟨qz_in 310 (by decide +kernel) (by decide +kernel), Or.inr (qz_in 311 (by decide +kernel) (by decide +kernel)), by decide +kernel, by decide +kernel⟩, by decide +kernel, by decide +kernel, by decide +kernel⟩
set_option maxRecDepth 20000 in
theorem qz_mo46 : qz_MO 46 := ⟨by decide +kernel, qz_in 528 (by decide +kernel) (by decide +kernel), qz_in 48 (by decide +kernel) (by decide +kernel), ⟨by decide +kernel, by decide +kernel⟩, by decide +kernel, fun h => absurd h (by decide +kernel), fun _ => ⟨qz_in 526 (by decide +kernel) (by decide +kernel), Or.inr (qz_in 527 (by decide +kernel) (by decide +kernel)), by decide +kernel, by decide +kernel⟩, by decide +kernel, by decide +kernel, by decide +kernel⟩
set_option maxRecDepth 20000 in
theorem qz_mo47 : qz_MO 47 := ⟨by decide +kernel, qz_in 532 (by decide +kernel) (by decide +kernel), qz_in 48 (by decide +kernel) (by decide +kernel), ⟨by decide +kernel, by decide +kernel⟩, by decide +kernel, fun h => absurd h (by decide +kernel), fun _ => ⟨qz_in 530 (by decide +kernel) (by decide +kernel), Or.inr (qz_in 531 (by decide +kernel) (by decide +kernel)), by decide +kernel, by decide +kernel⟩, by decide +kernel, by decide +kernel, by decide +kernel⟩
set_option maxRecDepth 20000 in
theorem qz_mo48 : qz_MO 48 := ⟨by decide +kernel, qz_in 419 (by decide +kernel) (by decide +kernel), qz_in 48 (by decide +kernel) (by decide +kernel), ⟨by decide +kernel, by decide +kernel⟩, by decide +kernel, fun h => absurd h (by decide +kernel), fun _ => ⟨qz_in 417 (by decide +kernel) (by decide +kernel), Or.inr (qz_in 418 (by decide +kernel) (by decide +kernel)), by decide +kernel, by decide +kernel⟩, by decide +kernel, by decide +kernel, by decide +kernel⟩
set_option maxRecDepth 20000 in
theorem qz_mo49 : qz_MO 49 := ⟨by decide +kernel, qz_in 426 (by decide +kernel) (by decide +kernel), qz_in 48 (by decide +kernel) (by decide +kernel), ⟨by decide +kernel, by decide +kernel⟩, by decide +kernel, fun h => absurd h (by decide +kernel), fun _ => ⟨qz_in 425 (by decide +kernel) (by decide +kernel), Or.inr (qz_in 10 (by decide +kernel) (by decide +kernel)), by decide +kernel, by decide +kernel⟩, by decide +kernel, by decide +kernel, by decide +kernel⟩
set_option maxRecDepth 20000 in
theorem qz_mo50 : qz_MO 50 := ⟨by decide +kernel, qz_in 468 (by decide +kernel) (by decide +kernel), qz_in 48 (by decide +kernel) (by decide +kernel), ⟨by decide +kernel, by decide +kernel⟩, by decide +kernel, fun h => absurd h (by decide +kernel), fun _ => ⟨qz_in 467 (by decide +kernel) (by decide +kernel), Or.inr (qz_in 11 (by decide +kernel) (by decide +kernel)), by decide +kernel, by decide +kernel⟩, by decide +kernel, by decide +kernel, by decide +kernel⟩
set_option maxRecDepth 20000 in
theorem qz_mo51 : qz_MO 51 := ⟨by decide +kernel, qz_in 464 (by decide +kernel) (by decide +kernel), qz_in 48 (by decide +kernel) (by decide +kernel), ⟨by decide +kernel, by decide +kernel⟩, by decide +kernel, fun h => absurd h (by decide +kernel), fun _ => ⟨qz_in 462 (by decide +kernel) (by decide +kernel), Or.inr (qz_in 463 (by decide +kernel) (by decide +kernel)), by decide +kernel, by decide +kernel⟩, by decide +kernel, by decide +kernel, by decide +kernel⟩
set_option maxRecDepth 20000 in
theorem qz_mo52 : qz_MO 52 := ⟨by decide +kernel, qz_in 460 (by decide +kernel) (by decide +kernel), qz_in 48 (by decide +kernel) (by decide +kernel), ⟨by decide +kernel, by decide +kernel⟩, by decide +kernel, fun h => absurd h (by decide +kernel), fun _ => ⟨qz_in 458 (by decide +kernel) (by decide +kernel), Or.inr (qz_in 459 (by decide +kernel) (by decide +kernel)), by decide +kernel, by decide +kernel⟩, by decide +kernel, by decide +kernel, by decide +kernel⟩
set_option maxRecDepth 20000 in
theorem qz_mo53 : qz_MO 53 := ⟨by decide +kernel, qz_in 476 (by decide +kernel) (by decide +kernel), qz_in 48 (by decide +kernel) (by decide +kernel), ⟨by decide +kernel, by decide +kernel⟩, by decide +kernel, fun h => absurd h (by decide +kernel), fun _ => ⟨qz_in 474 (by decide +kernel) (by decide +kernel), Or.inr (qz_in 475 (by decide +kernel) (by decide +kernel)), by decide +kernel, by decide +kernel⟩, by decide +kernel, by decide +kernel, by decide +kernel⟩
set_option maxRecDepth 20000 in
theorem qz_mo54 : qz_MO 54 := ⟨by decide +kernel, qz_in 480 (by decide +kernel) (by decide +kernel), qz_in 48 (by decide +kernel) (by decide +kernel), ⟨by decide +kernel, by decide +kernel⟩, by decide +kernel, fun h => absurd h (by decide +kernel), fun _ => ⟨qz_in 479 (by decide +kernel) (by decide +kernel), Or.inr (qz_in 12 (by decide +kernel) (by decide +kernel)), by decide +kernel, by decide +kernel⟩, by decide +kernel, by decide +kernel, by decide +kernel⟩
set_option maxRecDepth 20000 in
theorem qz_mo55 : qz_MO 55 := ⟨by decide +kernel, qz_in 59 (by decide +kernel) (by decide +kernel), qz_in 47 (by decide +kernel) (by decide +kernel), ⟨by decide +kernel, by decide +kernel⟩, by decide +kernel, fun h => absurd h (by decide +kernel), fun _ => ⟨qz_in 58 (by decide +kernel) (by decide +kernel), Or.inl (by decide +kernel), by decide +kernel, by decide +kernel⟩, by decide +kernel, by decide +kernel, by decide +kernel⟩
set_option maxRecDepth 20000 in
theorem qz_mo56 : qz_MO 56 := ⟨by decide +kernel, qz_in 246 (by decide +kernel) (by decide +kernel), qz_in 47 (by decide +kernel) (by decide +kernel), ⟨by decide +kernel, by decide +kernel⟩, by decide +kernel, fun h => absurd h (by decide +kernel), fun _ => ⟨qz_in 244 (by decide +kernel) (by decide +kernel), Or.inr (qz_in 245 (by decide +kernel) (by decide +kernel)), by decide +kernel, by decide +kernel⟩, by decide +kernel, by decide +kernel, by decide +kernel⟩
set_option maxRecDepth 20000 in
theorem qz_mo57 : qz_MO 57 := ⟨by decide +kernel, qz_in 273 (by decide +kernel) (by decide +kernel), qz_in 47 (by decide +kernel) (by decide +kernel), ⟨by decide +kernel, by decide +kernel⟩, by decide +kernel, fun h => absurd h (by decide +kernel), fun _ => ⟨qz_in 271 (by decide +kernel) (by decide +kernel), Or.inr (qz_in 272 (by decide +kernel) (by decide +kernel)), by decide +kernel, by decide +kernel⟩, by decide +kernel, by decide +kernel, by decide +kernel⟩
set_option maxRecDepth 20000 in
theorem qz_mo58 : qz_MO 58 := ⟨by decide +kernel, qz_in 348 (by decide +kernel) (by decide +kernel), qz_in 47 (by decide +kernel) (by decide +kernel), ⟨by decide +kernel, by decide +kernel⟩, by decide +kernel, fun h => absurd h (by decide +kernel), fun _ => ⟨qz_in 346 (by decide +kernel) (by decide +kernel), Or.inr (qz_in 347 (by decide +kernel) (by decide +kernel)), by decide +kernel, by decide +kernel⟩, by decide +kernel, by decide +kernel, by decide +kernel⟩
set_option maxRecDepth 20000 in
theorem qz_mo59 : qz_MO 59 := ⟨by decide +kernel, qz_in 371 (by decide +kernel) (by decide +kernel), qz_in 47 (by decide +kernel) (by decide +kernel), ⟨by decide +kernel, by decide +kernel⟩, by decide +kernel, fun h => absurd h (by decide +kernel), fun _ => ⟨qz_in 369 (by decide +kernel) (by decide +kernel), Or.inr (qz_in 370 (by decide +kernel) (by decide +kernel)), by decide +kernel, by decide +kernel⟩, by decide +kernel, by decide +kernel, by decide +kernel⟩
set_option maxRecDepth 20000 in
theorem qz_mo60 : qz_MO 60 := ⟨by decide +kernel, qz_in 407 (by decide +kernel) (by decide +kernel), qz_in 47 (by decide +kernel) (by decide +kernel), ⟨by decide +kernel, by decide +kernel⟩, by decide +kernel, fun h => absurd h (by decide +kernel), fun _ => ⟨qz_in 405 (by decide +kernel) (by decide +kernel), Or.inr (qz_in 406 (by decide +kernel) (by decide +kernel)), by decide +kernel, by decide +kernel⟩, by decide +kernel, by decide +kernel, by decide +kernel⟩
set_option maxRecDepth 20000 in
theorem qz_mo61 : qz_MO 61 := ⟨by decide +kernel, qz_in 411 (by decide +kernel) (by decide +kernel), qz_in 47 (by decide +kernel) (by decide +kernel), ⟨by decide +kernel, by decide +kernel⟩, by decide +kernel, fun h => absurd h (by decide +kernel), fun _ => ⟨qz_in 409 (by decide +kernel) (by decide +kernel), Or.inr (qz_in 410 (by decide +kernel) (by decide +kernel)), by decide +kernel, by decide +kernel⟩, by decide +kernel, by decide +kernel, by decide +kernel⟩
set_option maxRecDepth 20000 in
theorem qz_mo62 : qz_MO 62 := ⟨by decide +kernel, qz_in 435 (by decide +kernel) (by decide +kernel), qz_in 47 (by decide +kernel) (by decide +kernel), ⟨by decide +kernel, by decide +kernel⟩, by decide +kernel, fun h => absurd h (by decide +kernel), fun _ => ⟨qz_in 433 (by decide +kernel) (by decide +kernel), Or.inr (qz_in 434 (by decide +kernel) (by decide +kernel)), by decide +kernel, by decide +kernel⟩, by decide +kernel, by decide +kernel, by decide +kernel⟩
set_option maxRecDepth 20000 in
theorem qz_mo63 : qz_MO 63 := ⟨by decide +kernel, qz_in 440 (by decide +kernel) (by decide +kernel), qz_in 47 (by decide +kernel) (by decide +kernel), ⟨by decide +kernel, by decide +kernel⟩, by decide +kernel, fun h => absurd h (by decide +kernel), fun _ => ⟨qz_in 438 (by decide +kernel) (by decide +kernel), Or.inr (qz_in 439 (by decide +kernel) (by decide +kernel)), by decide +kernel, by decide +kernel⟩, by decide +kernel, by decide +kernel, by decide +kernel⟩
set_option maxRecDepth 20000 in
theorem qz_mo64 : qz_MO 64 := ⟨by decide +kernel, qz_in 456 (by decide +kernel) (by decide +kernel), qz_in 47 (by decide +kernel) (by decide +kernel), ⟨by decide +kernel, by decide +kernel⟩, by decide +kernel, fun h => absurd h (by decide +kernel), fun _ => ⟨qz_in 454 (by decide +kernel) (by decide +kernel), Or.inr (qz_in 455 (by decide +kernel) (by decide +kernel)), by decide +kernel, by decide +kernel⟩, by decide +kernel, by decide +kernel, by decide +kernel⟩
set_option maxRecDepth 20000 in
theorem qz_mo65 : qz_MO 65 := ⟨by decide +kernel, qz_in 484 (by decide +kernel) (by decide +kernel), qz_in 47 (by decide +kernel) (by decide +kernel), ⟨by decide +kernel, by decide +kernel⟩, by decide +kernel, fun h => absurd h (by decide +kernel), fun _ => ⟨qz_in 482 (by decide +kernel) (by decide +kernel), Or.inr (qz_in 483 (by decide +kernel) (by decide +kernel)), by decide +kernel, by decide +kernel⟩, by decide +kernel, by decide +kernel, by decide +kernel⟩
set_option maxRecDepth 20000 in
theorem qz_mo66 : qz_MO 66 := ⟨by decide +kernel, qz_in 492 (by decide +kernel) (by decide +kernel), qz_in 47 (by decide +kernel) (by decide +kernel), ⟨by decide +kernel, by decide +kernel⟩, by decide +kernel, fun h => absurd h (by decide +kernel), fun _ => ⟨qz_in 490 (by decide +kernel) (by decide +kernel), Or.inr (qz_in 491 (by decide +kernel) (by decide +kernel)), by decide +kernel, by decide +kernel⟩, by decide +kernel, by decide +kernel, by decide +kernel⟩
set_option maxRecDepth 20000 in
theorem qz_mo67 : qz_MO 67 := ⟨by decide +kernel, qz_in 496 (by decide +kernel) (by decide +kernel), qz_in 47 (by decide +kernel) (by decide +kernel), ⟨by decide +kernel, by decide +kernel⟩, by decide +kernel, fun h => absurd h (by decide +kernel), fun _ => ⟨qz_in 494 (by decide +kernel) (by decide +kernel), Or.inr (qz_in 495 (by decide +kernel) (by decide +kernel)), by decide +kernel, by decide +kernel⟩, by decide +kernel, by decide +kernel, by decide +kernel⟩
set_option maxRecDepth 20000 in
theorem qz_mo68 : qz_MO 68 := ⟨by decide +kernel, qz_in 504 (by decide +kernel) (by decide +kernel), qz_in 47 (by decide +kernel) (by decide +kernel), ⟨by decide +kernel, by decide +kernel⟩, by decide +kernel, fun h => absurd h (by decide +kernel), fun _ => ⟨qz_in 502 (by decide +kernel) (by decide +kernel), Or.inr (qz_in 503 (by decide +kernel) (by decide +kernel)), by decide +kernel, by decide +kernel⟩, by decide +kernel, by decide +kernel, by decide +kernel⟩
set_option maxRecDepth 20000 in
theorem qz_mo69 : qz_MO 69 := ⟨by decide +kernel, qz_in 509 (by decide +kernel) (by decide +kernel), qz_in 47 (by decide +kernel) (by decide +kernel), ⟨by decide +kernel, by decide +kernel⟩, by decide +kernel, fun h => absurd h (by decide +kernel), fun _ => ⟨qz_in 507 (by decide +kernel) (by decide +kernel), Or.inr (qz_in 508 (by decide +kernel) (by decide +kernel)), by decide +kernel, by decide +kernel⟩, by decide +kernel, by decide +kernel, by decide +kernel⟩
set_option maxRecDepth 20000 in
theorem qz_mo70 : qz_MO 70 := ⟨by decide +kernel, qz_in 513 (by decide +kernel) (by decide +kernel), qz_in 47 (by decide +kernel) (by decide +kernel), ⟨by decide +kernel, by decide +kernel⟩, by decide +kernel, fun h => absurd h (by decide +kernel), fun _ => ⟨qz_in 511 (by decide +kernel) (by decide +kernel), Or.inr (qz_in 512 (by decide +kernel) (by decide +kernel)), by decide +kernel, by decide +kernel⟩, by decide +kernel, by decide +kernel, by decide +kernel⟩
set_option maxRecDepth 20000 in
theorem qz_mo71 : qz_MO 71 := ⟨by decide +kernel, qz_in 523 (by decide +kernel) (by decide +kernel), qz_in 47 (by decide +kernel) (by decide +kernel), ⟨by decide +kernel, by decide +kernel⟩, by decide +kernel, fun h => absurd h (by decide +kernel), fun _ => ⟨qz_in 521 (by decide +kernel) (by decide +kernel), Or.inr (qz_in 522 (by decide +kernel) (by decide +kernel)), by decide +kernel, by decide +kernel⟩, by decide +kernel, by decide +kernel, by decide +kernel⟩
set_option maxRecDepth 20000 in
theorem qz_mo72 : qz_MO 72 := ⟨by decide +kernel, qz_in 537 (by decide +kernel) (by decide +kernel), qz_in 47 (by decide +kernel) (by decide +kernel), ⟨by decide +kernel, by decide +kernel⟩, by decide +kernel, fun h => absurd h (by decide +kernel), fun _ => ⟨qz_in 535 (by decide +kernel) (by decide +kernel), Or.inr (qz_in 536 (by decide +kernel) (by decide +kernel)), by decide +kernel, by decide +kernel⟩, by decide +kernel, by decide +kernel, by decide +kernel⟩
set_option maxRecDepth 20000 in
theorem qz_mo73 : qz_MO 73 := ⟨by decide +kernel, qz_in 541 (by decide +kernel) (by decide +kernel), qz_in 47 (by decide +kernel) (by decide +kernel), ⟨by decide +kernel, by decide +kernel⟩, by decide +kernel, fun h => absurd h (by decide +kernel), fun _ => ⟨qz_in 539 (by decide +kernel) (by decide +kernel), Or.inr (qz_in 540 (by decide +kernel) (by decide +kernel)), by decide +kernel, by decide +kernel⟩, by decide +kernel, by decide +kernel, by decide +kernel⟩
set_option maxRecDepth 20000 in
theorem qz_mo74 : qz_MO 74 := ⟨by decide +kernel, qz_in 545 (by decide +kernel) (by decide +kernel), qz_in 47 (by decide +kernel) (by decide +kernel), ⟨by decide +kernel, by decide +kernel⟩, by decide +kernel, fun h => absurd h (by decide +kernel), fun _ => ⟨qz_in 543 (by decide +kernel) (by decide +kernel), Or.inr (qz_in 544 (by decide +kernel) (by decide +kernel)), by decide +kernel, by decide +kernel⟩, by decide +kernel, by decide +kernel, by decide +kernel⟩
set_option maxRecDepth 20000 in
theorem qz_mo75 : qz_MO 75 := ⟨by decide +kernel, qz_in 549 (by decide +kernel) (by decide +kernel), qz_in 47 (by decide +kernel) (by decide +kernel), ⟨by decide +kernel, by decide +kernel⟩, by decide +kernel, fun h => absurd h (by decide +kernel), fun _ => ⟨qz_in 547 (by decide +kernel) (by decide +kernel), Or.inr (qz_in 548 (by decide +kernel) (by decide +kernel)), by decide +kernel, by decide +kernel⟩, by decide +kernel, by decide +kernel, by decide +kernel⟩
set_option maxRecDepth 20000 in
theorem qz_mo76 : qz_MO 76 := ⟨by decide +kernel, qz_in 561 (by decide +kernel) (by decide +kernel), qz_in 47 (by decide +kernel) (by decide +kernel), ⟨by decide +kernel, by decide +kernel⟩, by decide +kernel, fun h => absurd h (by decide +kernel), fun _ => ⟨qz_in 559 (by decide +kernel) (by decide +kernel), Or.inr (qz_in 560 (by decide +kernel) (by decide +kernel)), by decide +kernel, by decide +kernel⟩, by decide +kernel, by decide +kernel, by decide +kernel⟩
set_option maxRecDepth 20000 in
theorem qz_mo77 : qz_MO 77 := ⟨by decide +kernel, qz_in 280 (by decide +kernel) (by decide +kernel), qz_in 47 (by decide +kernel) (by decide +kernel), ⟨by decide +kernel, by decide +kernel⟩, by decide +kernel, fun _ => qz_in 279 (by decide +kernel) (by decide +kernel), fun h => absurd h (by decide +kernel), by decide +kernel, by decide +kernel, by decide +kernel⟩
set_option maxRecDepth 20000 in
theorem qz_mo78 : qz_MO 78 := ⟨by decide +kernel, qz_in 283 (by decide +kernel) (by decide +kernel), qz_in 47 (by decide +kernel) (by decide +kernel), ⟨by decide +kernel, by decide +kernel⟩, by decide +kernel, fun _ => qz_in 282 (by decide +kernel) (by decide +kernel), fun h => absurd h (by decide +kernel), by decide +kernel, by decide +kernel, by decide +kernel⟩
set_option maxRecDepth 20000 in
theorem qz_mo79 : qz_MO 79 := ⟨by decide +kernel, qz_in 443 (by decide +kernel) (by decide +kernel), qz_in 47 (by decide +kernel) (by decide +kernel), ⟨by decide +kernel, by decide +kernel⟩, by decide +kernel, fun _ => qz_in 442 (by decide +kernel) (by decide +kernel), fun h => absurd h (by decide +kernel), by decide +kernel, by decide +kernel, by decide +kernel⟩
set_option maxRecDepth 20000 in
theorem qz_mo80 : qz_MO 80 := ⟨by decide +kernel, qz_in 415 (by decide +kernel) (by decide +kernel), qz_in 47 (by decide +kernel) (by decide +kernel), ⟨by decide +kernel, by decide +kernel⟩, by decide +kernel, fun h => absurd h (by decide +kernel), fun _ => ⟨qz_in 414 (by decide +kernel) (by decide +kernel), Or.inr (qz_in 9 (by decide +kernel) (by decide +kernel)), by decide +kernel, by decide +kernel⟩, by decide +kernel, by decide +kernel, by decide +kernel⟩
set_option maxRecDepth 20000 in
theorem qz_mo81 : qz_MO 81 := ⟨by decide +kernel, qz_in 363 (by decide +kernel) (by decide +kernel), qz_in 47 (by decide +kernel) (by decide +kernel), ⟨by decide +kernel, by decide +kernel⟩, by decide +kernel, fun h => absurd h (by decide +kernel), fun _ => ⟨qz_in 362 (by decide +kernel) (by decide +kernel), Or.inr (qz_in 4 (by decide +kernel) (by decide +kernel)), by decide +kernel, by decide +kernel⟩, by decide +kernel, by decide +kernel, by decide +kernel⟩
set_option maxRecDepth 20000 in
theorem qz_mo82 : qz_MO 82 := ⟨by decide +kernel, qz_in 367 (by decide +kernel) (by decide +kernel), qz_in 47 (by decide +kernel) (by decide +kernel), ⟨by decide +kernel, by decide +kernel⟩, by decide +kernel, fun h => absurd h (by decide +kernel), fun _ => ⟨qz_in 366 (by decide +kernel) (by decide +kernel), Or.inr (qz_in 5 (by decide +kernel) (by decide +kernel)), by decide +kernel, by decide +kernel⟩, by decide +kernel, by decide +kernel, by decide +kernel⟩
set_option maxRecDepth 20000 in
theorem qz_mo83 : qz_MO 83 := ⟨by decide +kernel, qz_in 570 (by decide +kernel) (by decide +kernel), qz_in 53 (by decide +kernel) (by decide +kernel), ⟨by decide +kernel, by decide +kernel⟩, by decide +kernel, fun h => absurd h (by decide +kernel), fun _ => ⟨qz_in 569 (by decide +kernel) (by decide +kernel), Or.inl (by decide +kernel), by decide +kernel, by decide +kernel⟩, by decide +kernel, by decide +kernel, by decide +kernel⟩
set_option maxRecDepth 20000 in
theorem qz_mo84 : qz_MO 84 := ⟨by decide +kernel, qz_in 625 (by decide +kernel) (by decide +kernel), qz_in 53 (by decide +kernel) (by decide +kernel), ⟨by decide +kernel, by decide +kernel⟩, by decide +kernel, fun _ => qz_in 624 (by decide +kernel) (by decide +kernel), fun h => absurd h (by decide +kernel), by decide +kernel, by decide +kernel, by decide +kernel⟩
set_option maxRecDepth 20000 in
theorem qz_mo85 : qz_MO 85 := ⟨by decide +kernel, qz_in 659 (by decide +kernel) (by decide +kernel), qz_in 53 (by decide +kernel) (by decide +kernel), ⟨by decide +kernel, by decide +kernel⟩, by decide +kernel, fun h => absurd h (by decide +kernel), fun _ => ⟨qz_in 658 (by decide +kernel) (by decide +kernel), Or.inr (qz_in 19 (by decide +kernel) (by decide +kernel)), by decide +kernel, by decide +kernel⟩, by decide +kernel, by decide +kernel, by decide +kernel⟩
set_option maxRecDepth 20000 in
theorem qz_mo86 : qz_MO 86 := ⟨by decide +kernel, qz_in 686 (by decide +kernel) (by decide +kernel), qz_in 53 (by decide +kernel) (by decide +kernel), ⟨by decide +kernel, by decide +kernel⟩, by decide +kernel, fun h => absurd h (by decide +kernel), fun _ => ⟨qz_in 685 (by decide +kernel) (by decide +kernel), Or.inr (qz_in 25 (by decide +kernel) (by decide +kernel)), by decide +kernel, by decide +kernel⟩, by decide +kernel, by decide +kernel, by decide +kernel⟩
set_option maxRecDepth 20000 in
theorem qz_mo87 : qz_MO 87 := ⟨by decide +kernel, qz_in 637 (by decide +kernel) (by decide +kernel), qz_in 53 (by decide +kernel) (by decide +kernel), ⟨by decide +kernel, by decide +kernel⟩, by decide +kernel, fun h => absurd h (by decide +kernel), fun _ => ⟨qz_in 636 (by decide +kernel) (by decide +kernel), Or.inr (qz_in 15 (by decide +kernel) (by decide +kernel)), by decide +kernel, by decide +kernel⟩, by decide +kernel, by decide +kernel, by decide +kernel⟩
set_option maxRecDepth 20000 in
theorem qz_mo88 : qz_MO 88 := ⟨by decide +kernel, qz_in 640 (by decide +kernel) (by decide +kernel), qz_in 53 (by decide +kernel) (by decide +kernel), ⟨by decide +kernel, by decide +kernel⟩, by decide +kernel, fun _ => qz_in 639 (by decide +kernel) (by decide +kernel), fun h => absurd h (by decide +kernel), by decide +kernel, by decide +kernel, by decide +kernel⟩
set_option maxRecDepth 20000 in
theorem qz_mo89 : qz_MO 89 := ⟨by decide +kernel, qz_in 643 (by decide +kernel) (by decide +kernel), qz_in 53 (by decide +kernel) (by decide +kernel), ⟨by decide +kernel, by decide +kernel⟩, by decide +kernel, fun _ => qz_in 642 (by decide +kernel) (by decide +kernel), fun h => absurd h (by decide +kernel), by decide +kernel, by decide +kernel, by decide +kernel⟩
set_option maxRecDepth 20000 in
theorem qz_mo90 : qz_MO 90 := ⟨by decide +kernel, qz_in 675 (by decide +kernel) (by decide +kernel), qz_in 53 (by decide +kernel) (by decide +kernel), ⟨by decide +kernel, by decide +kernel⟩, by decide +kernel, fun h => absurd h (by decide +kernel), fun _ => ⟨qz_in 674 (by decide +kernel) (by decide +kernel), Or.inr (qz_in 23 (by decide +kernel) (by decide +kernel)), by decide +kernel, by decide +kernel⟩, by decide +kernel, by decide +kernel, by decide +kernel⟩
set_option maxRecDepth 20000 in
theorem qz_mo91 : qz_MO 91 := ⟨by decide +kernel, qz_in 667 (by decide +kernel) (by decide +kernel), qz_in 53 (by decide +kernel) (by decide +kernel), ⟨by decide +kernel, by decide +kernel⟩, by decide +kernel, fun h => absurd h (by decide +kernel), fun _ => ⟨qz_in 666 (by decide +kernel) (by decide +kernel), Or.inr (qz_in 21 (by decide +kernel) (by decide +kernel)), by decide +kernel, by decide +kernel⟩, by decide +kernel, by decide +kernel, by decide +kernel⟩
set_option maxRecDepth 20000 in
theorem qz_mo92 : qz_MO 92 := ⟨by decide +kernel, qz_in 714 (by decide +kernel) (by decide +kernel), qz_in 53 (by decide +kernel) (by decide +kernel), ⟨by decide +kernel, by decide +kernel⟩, by decide +kernel, fun h => absurd h (by decide +kernel), fun _ => ⟨qz_in 713 (by decide +kernel) (by decide +kernel), Or.inr (qz_in 30 (by decide +kernel) (by decide +kernel)), by decide +kernel, by decide +kernel⟩, by decide +kernel, by decide +kernel, by decide +kernel⟩
set_option maxRecDepth 20000 in
theorem qz_mo93 : qz_MO 93 := ⟨by decide +kernel, qz_in 629 (by decide +kernel) (by decide +kernel), qz_in 53 (by decide +kernel) (by decide +kernel), ⟨by decide +kernel, by decide +kernel⟩, by decide +kernel, fun h => absurd h (by decide +kernel), fun _ => ⟨qz_in 628 (by decide +kernel) (by decide +kernel), Or.inr (qz_in 14 (by decide +kernel) (by decide +kernel)), by decide +kernel, by decide +kernel⟩, by decide +kernel, by decide +kernel, by decide +kernel⟩
set_option maxRecDepth 20000 in
theorem qz_mo94 : qz_MO 94 := ⟨by decide +kernel, qz_in 678 (by decide +kernel) (by decide +kernel), qz_in 53 (by decide +kernel) (by decide +kernel), ⟨by decide +kernel, by decide +kernel⟩, by decide +kernel, fun _ => qz_in 677 (by decide +kernel) (by decide +kernel), fun h => absurd h (by decide +kernel), by decide +kernel, by decide +kernel, by decide +kernel⟩
set_option maxRecDepth 20000 in
theorem qz_mo95 : qz_MO 95 := ⟨by decide +kernel, qz_in 671 (by decide +kernel) (by decide +kernel), qz_in 53 (by decide +kernel) (by decide +kernel), ⟨by decide +kernel, by decide +kernel⟩, by decide +kernel, fun h => absurd h (by decide +kernel), fun _ => ⟨qz_in 670 (by decide +kernel) (by decide +kernel), Or.inr (qz_in 22 (by decide +kernel) (by decide +kernel)), by decide +kernel, by decide +kernel⟩, by decide +kernel, by decide +kernel, by decide +kernel⟩
set_option maxRecDepth 20000 in
theorem qz_mo96 : qz_MO 96 := ⟨by decide +kernel, qz_in 663 (by decide +kernel) (by decide +kernel), qz_in 53 (by decide +kernel) (by decide +kernel), ⟨by decide +kernel, by decide +kernel⟩, by decide +kernel, fun h => absurd h (by decide +kernel), fun _ => ⟨qz_in 662 (by decide +kernel) (by decide +kernel), Or.inr (qz_in 20 (by decide +kernel) (by decide +kernel)), by decide +kernel, by decide +kernel⟩, by decide +kernel, by decide +kernel, by decide +kernel⟩
set_option maxRecDepth 20000 in
theorem qz_mo97 : qz_MO 97 := ⟨by decide +kernel, qz_in 655 (by decide +kernel) (by decide +kernel), qz_in 53 (by decide +kernel) (by decide +kernel), ⟨by decide +kernel, by decide +kernel⟩, by decide +kernel, fun h => absurd h (by decide +kernel), fun _ => ⟨qz_in 654 (by decide +kernel) (by decide +kernel), Or.inr (qz_in 18 (by decide +kernel) (by decide +kernel)), by decide +kernel, by decide +kernel⟩, by decide +kernel, by decide +kernel, by decide +kernel⟩
set_option maxRecDepth 20000 in
theorem qz_mo98 : qz_MO 98 := ⟨by decide +kernel, qz_in 682 (by decide +kernel) (by decide +kernel), qz_in 53 (by decide +kernel) (by decide +kernel), ⟨by decide +kernel, by decide +kernel⟩, by decide +kernel, fun h => absurd h (by decide +kernel), fun _ => ⟨qz_in 681 (by decide +kernel) (by decide +kernel), Or.inr (qz_in 24 (by decide +kernel) (by decide +kernel)), by decide +kernel, by decide +kernel⟩, by decide +kernel, by decide +kernel, by decide +kernel⟩
set_option maxRecDepth 20000 in
theorem qz_mo99 : qz_MO 99 := ⟨by decide +kernel, qz_in 651 (by decide +kernel) (by decide +kernel), qz_in 53 (by decide +kernel) (by decide +kernel), ⟨by decide +kernel, by decide +kernel⟩, by decide +kernel, fun h => absurd h (by decide +kernel), fun _ => ⟨qz_in 650 (by decide +kernel) (by decide +kernel), Or.inr (qz_in 17 (by decide +kernel) (by decide +kernel)), by decide +kernel, by decide +kernel⟩, by decide +kernel, by decide +kernel, by decide +kernel⟩
set_option maxRecDepth 20000 in
theorem qz_mo100 : qz_MO 100 := ⟨by decide +kernel, qz_in 722 (by decide +kernel) (by decide +kernel), qz_in 53 (by decide +kernel) (by decide +kernel), ⟨by decide +kernel, by decide +kernel⟩, by decide +kernel, fun h => absurd h (by decide +kernel), fun _ => ⟨qz_in 721 (by decide +kernel) (by decide +kernel), Or.inr (qz_in 32 (by decide +kernel) (by decide +kernel)), by decide +kernel, by decide +kernel⟩, by decide +kernel, by decide +kernel, by decide +kernel⟩
set_option maxRecDepth 20000 in
theorem qz_mo101 : qz_MO 101 := ⟨by decide +kernel, qz_in 730 (by decide +kernel) (by decide +kernel), qz_in 53 (by decide +kernel) (by decide +kernel), ⟨by decide +kernel, by decide +kernel⟩, by decide +kernel, fun h => absurd h (by decide +kernel), fun _ => ⟨qz_in 729 (by decide +kernel) (by decide +kernel), Or.inr (qz_in 34 (by decide +kernel) (by decide +kernel)), by decide +kernel, by decide +kernel⟩, by decide +kernel, by decide +kernel, by decide +kernel⟩
set_option maxRecDepth 20000 in
theorem qz_mo102 : qz_MO 102 := ⟨by decide +kernel, qz_in 726 (by decide +kernel) (by decide +kernel), qz_in 53 (by decide +kernel) (by decide +kernel), ⟨by decide +kernel, by decide +kernel⟩, by decide +kernel, fun h => absurd h (by decide +kernel), fun _ => ⟨qz_in 725 (by decide +kernel) (by decide +kernel), Or.inr (qz_in 33 (by decide +kernel) (by decide +kernel)), by decide +kernel, by decide +kernel⟩, by decide +kernel, by decide +kernel, by decide +kernel⟩
set_option maxRecDepth 20000 in
theorem qz_mo103 : qz_MO 103 := ⟨by decide +kernel, qz_in 718 (by decide +kernel) (by decide +kernel), qz_in 53 (by decide +kernel) (by decide +kernel), ⟨by decide +kernel, by decide +kernel⟩, by decide +kernel, fun h => absurd h (by decide +kernel), fun _ => ⟨qz_in 717 (by decide +kernel) (by decide +kernel), Or.inr (qz_in 31 (by decide +kernel) (by decide +kernel)), by decide +kernel, by decide +kernel⟩, by decide +kernel, by decide +kernel, by decide +kernel⟩
set_option maxRecDepth 20000 in
theorem qz_mo104 : qz_MO 104 := ⟨by decide +kernel, qz_in 734 (by decide +kernel) (by decide +kernel), qz_in 53 (by decide +kernel) (by decide +kernel), ⟨by decide +kernel, by decide +kernel⟩, by decide +kernel, fun h => absurd h (by decide +kernel), fun _ => ⟨qz_in 733 (by decide +kernel) (by decide +kernel), Or.inr (qz_in 35 (by decide +kernel) (by decide +kernel)), by decide +kernel, by decide +kernel⟩, by decide +kernel, by decide +kernel, by decide +kernel⟩
set_option maxRecDepth 20000 in
theorem qz_mo105 : qz_MO 105 := ⟨by decide +kernel, qz_in 750 (by decide +kernel) (by decide +kernel), qz_in 53 (by decide +kernel) (by decide +kernel), ⟨by decide +kernel, by decide +kernel⟩, by decide +kernel, fun h => absurd h (by decide +kernel), fun _ => ⟨qz_in 749 (by decide +kernel) (by decide +kernel), Or.inr (qz_in 37 (by decide +kernel) (by decide +kernel)), by decide +kernel, by decide +kernel⟩, by decide +kernel, by decide +kernel, by decide +kernel⟩
set_option maxRecDepth 20000 in
theorem qz_mo106 : qz_MO 106 := ⟨by decide +kernel, qz_in 746 (by decide +kernel) (by decide +kernel), qz_in 53 (by decide +kernel) (by decide +kernel), ⟨by decide +kernel, by decide +kernel⟩, by decide +kernel, fun h => absurd h (by decide +kernel), fun _ => ⟨qz_in 745 (by decide +kernel) (by decide +kernel), Or.inr (qz_in 36 (by decide +kernel) (by decide +kernel)), by decide +kernel, by decide +kernel⟩, by decide +kernel, by decide +kernel, by decide +kernel⟩
set_option maxRecDepth 20000 in
theorem qz_mo107 : qz_MO 107 := ⟨by decide +kernel, qz_in 785 (by decide +kernel) (by decide +kernel), qz_in 53 (by decide +kernel) (by decide +kernel), ⟨by decide +kernel, by decide +kernel⟩, by decide +kernel, fun h => absurd h (by decide +kernel), fun _ => ⟨qz_in 784 (by decide +kernel) (by decide +kernel), Or.inr (qz_in 42 (by decide +kernel) (by decide +kernel)), by decide +kernel, by decide +kernel⟩, by decide +kernel, by decide +kernel, by decide +kernel⟩
set_option maxRecDepth 20000 in
theorem qz_mo108 : qz_MO 108 := ⟨by decide +kernel, qz_in 789 (by decide +kernel) (by decide +kernel), qz_in 53 (by decide +kernel) (by decide +kernel), ⟨by decide +kernel, by decide +kernel⟩, by decide +kernel, fun h => absurd h (by decide +kernel), fun _ => ⟨qz_in 788 (by decide +kernel) (by decide +kernel), Or.inr (qz_in 43 (by decide +kernel) (by decide +kernel)), by decide +kernel, by decide +kernel⟩, by decide +kernel, by decide +kernel, by decide +kernel⟩
set_option maxRecDepth 20000 in
theorem qz_mo109 : qz_MO 109 := ⟨by decide +kernel, qz_in 781 (by decide +kernel) (by decide +kernel), qz_in 53 (by decide +kernel) (by decide +kernel), ⟨by decide +kernel, by decide +kernel⟩, by decide +kernel, fun h => absurd h (by decide +kernel), fun _ => ⟨qz_in 780 (by decide +kernel) (by decide +kernel), Or.inr (qz_in 41 (by decide +kernel) (by decide +kernel)), by decide +kernel, by decide +kernel⟩, by decide +kernel, by decide +kernel, by decide +kernel⟩
set_option maxRecDepth 20000 in
theorem qz_mo110 : qz_MO 110 := ⟨by decide +kernel, qz_in 773 (by decide +kernel) (by decide +kernel), qz_in 53 (by decide +kernel) (by decide +kernel), ⟨by decide +kernel, by decide +kernel⟩, by decide +kernel, fun h => absurd h (by decide +kernel), fun _ => ⟨qz_in 772 (by decide +kernel) (by decide +kernel), Or.inr (qz_in 39 (by decide +kernel) (by decide +kernel)), by decide +kernel, by decide +kernel⟩, by decide +kernel, by decide +kernel, by decide +kernel⟩
set_option maxRecDepth 20000 in
theorem qz_mo111 : qz_MO 111 := ⟨by decide +kernel, qz_in 777 (by decide +kernel) (by decide +kernel), qz_in 53 (by decide +kernel) (by decide +kernel), ⟨by decide +kernel, by decide +kernel⟩, by decide +kernel, fun h => absurd h (by decide +kernel), fun _ => ⟨qz_in 776 (by decide +kernel) (by decide +kernel), Or.inr (qz_in 40 (by decide +kernel) (by decide +kernel)), by decide +kernel, by decide +kernel⟩, by decide +kernel, by decide +kernel, by decide +kernel⟩
set_option maxRecDepth 20000 in
theorem qz_mo112 : qz_MO 112 := ⟨by decide +kernel, qz_in 622 (by decide +kernel) (by decide +kernel), qz_in 53 (by decide +kernel) (by decide +kernel), ⟨by decide +kernel, by decide +kernel⟩, by decide +kernel, fun h => absurd h (by decide +kernel), fun _ => ⟨qz_in 620 (by decide +kernel) (by decide +kernel), Or.inr (qz_in 621 (by decide +kernel) (by decide +kernel)), by decide +kernel, by decide +kernel⟩, by decide +kernel, by decide +kernel, by decide +kernel⟩
set_option maxRecDepth 20000 in
theorem qz_mo113 : qz_MO 113 := ⟨by decide +kernel, qz_in 647 (by decide +kernel) (by decide +kernel), qz_in 53 (by decide +kernel) (by decide +kernel), ⟨by decide +kernel, by decide +kernel⟩, by decide +kernel, fun h => absurd h (by decide +kernel), fun _ => ⟨qz_in 646 (by decide +kernel) (by decide +kernel), Or.inr (qz_in 16 (by decide +kernel) (by decide +kernel)), by decide +kernel, by decide +kernel⟩, by decide +kernel, by decide +kernel, by decide +kernel⟩
set_option maxRecDepth 20000 in
theorem qz_mo114 : qz_MO 114 := ⟨by decide +kernel, qz_in 633 (by decide +kernel) (by decide +kernel), qz_in 53 (by decide +kernel) (by decide +kernel), ⟨by decide +kernel, by decide +kernel⟩, by decide +kernel, fun h => absurd h (by decide +kernel), fun _ => ⟨qz_in 631 (by decide +kernel) (by decide +kernel), Or.inr (qz_in 632 (by decide +kernel) (by decide +kernel)), by decide +kernel, by decide +kernel⟩, by decide +kernel, by decide +kernel, by decide +kernel⟩
set_option maxRecDepth 20000 in
theorem qz_mo115 : qz_MO 115 := ⟨by decide +kernel, qz_in 690 (by decide +kernel) (by decide +kernel), qz_in 53 (by decide +kernel) (by decide +kernel), ⟨by decide +kernel, by decide +kernel⟩, by decide +kernel, fun h => absurd h (by decide +kernel), fun _ => ⟨qz_in 688 (by decide +kernel) (by decide +kernel), Or.inr (qz_in 689 (by decide +kernel) (by decide +kernel)), by decide +kernel, by decide +kernel⟩, by decide +kernel, by decide +kernel, by decide +kernel⟩
set_option maxRecDepth 20000 in
theorem qz_mo116 : qz_MO 116 := ⟨by decide +kernel, qz_in 710 (by decide +kernel) (by decide +kernel), qz_in 53 (by decide +kernel) (by decide +kernel), ⟨by decide +kernel, by decide +kernel⟩, by decide +kernel, fun h => absurd h (by decide +kernel), fun _ => ⟨qz_in 708 (by decide +kernel) (by decide +kernel), Or.inr (qz_in 709 (by decide +kernel) (by decide +kernel)), by decide +kernel, by decide +kernel⟩, by decide +kernel, by decide +kernel, by decide +kernel⟩
set_option maxRecDepth 20000 in
theorem qz_mo117 : qz_MO 117 := ⟨by decide +kernel, qz_in 738 (by decide +kernel) (by decide +kernel), qz_in 53 (by decide +kernel) (by decide +kernel), ⟨by decide +kernel, by decide +kernel⟩, by decide +kernel, fun h => absurd h (by decide +kernel), fun _ => ⟨qz_in 736 (by decide +kernel) (by decide +kernel), Or.inr (qz_in 737 (by decide +kernel) (by decide +kernel)), by decide +kernel, by decide +kernel⟩, by decide +kernel, by decide +kernel, by decide +kernel⟩
set_option maxRecDepth 20000 in
theorem qz_mo118 : qz_MO 118 := ⟨by decide +kernel, qz_in 754 (by decide +kernel) (by decide +kernel), qz_in 53 (by decide +kernel) (by decide +kernel), ⟨by decide +kernel, by decide +kernel⟩, by decide +kernel, fun h => absurd h (by decide +kernel), fun _ => ⟨qz_in 753 (by decide +kernel) (by decide +kernel), Or.inr (qz_in 38 (by decide +kernel) (by decide +kernel)), by decide +kernel, by decide +kernel⟩, by decide +kernel, by decide +kernel, by decide +kernel⟩
set_option maxRecDepth 20000 in
theorem qz_mo119 : qz_MO 119 := ⟨by decide +kernel, qz_in 742 (by decide +kernel) (by decide +kernel), qz_in 53 (by decide +kernel) (by decide +kernel), ⟨by decide +kernel, by decide +kernel⟩, by decide +kernel, fun h => absurd h (by decide +kernel), fun _ => ⟨qz_in 740 (by decide +kernel) (by decide +kernel), Or.inr (qz_in 741 (by decide +kernel) (by decide +kernel)), by decide +kernel, by decide +kernel⟩, by decide +kernel, by decide +kernel, by decide +kernel⟩
set_option maxRecDepth 20000 in
theorem qz_mo120 : qz_MO 120 := ⟨by decide +kernel, qz_in 758 (by decide +kernel) (by decide +kernel), qz_in 53 (by decide +kernel) (by decide +kernel), ⟨by decide +kernel, by decide +kernel⟩, by decide +kernel, fun h => absurd h (by decide +kernel), fun _ => ⟨qz_in 756 (by decide +kernel) (by decide +kernel), Or.inr (qz_in 757 (by decide +kernel) (by decide +kernel)), by decide +kernel, by decide +kernel⟩, by decide +kernel, by decide +kernel, by decide +kernel⟩
set_option maxRecDepth 20000 in
theorem qz_mo121 : qz_MO 121 := ⟨by decide +kernel, qz_in 765 (by decide +kernel) (by decide +kernel), qz_in 53 (by decide +kernel) (by decide +kernel), ⟨by decide +kernel, by decide +kernel⟩, by decide +kernel, fun _ => qz_in 764 (by decide +kernel) (by decide +kernel), fun h => absurd h (by decide +kernel), by decide +kernel, by decide +kernel, by decide +kernel⟩
set_option maxRecDepth 20000 in
theorem qz_mo122 : qz_MO 122 := ⟨by decide +kernel, qz_in 762 (by decide +kernel) (by decide +kernel), qz_in 53 (by decide +kernel) (by decide +kernel), ⟨by decide +kernel, by decide +kernel⟩, by decide +kernel, fun h => absurd h (by decide +kernel), fun _ => ⟨qz_in 760 (by decide +kernel) (by decide +kernel), Or.inr (qz_in 761 (by decide +kernel) (by decide +kernel)), by decide +kernel, by decide +kernel⟩, by decide +kernel, by decide +kernel, by decide +kernel⟩
set_option maxRecDepth 20000 in
theorem qz_mo123 : qz_MO 123 := ⟨by decide +kernel, qz_in 769 (by decide +kernel) (by decide +kernel), qz_in 53 (by decide +kernel) (by decide +kernel), ⟨by decide +kernel, by decide +kernel⟩, by decide +kernel, fun h => absurd h (by decide +kernel), fun _ => ⟨qz_in 767 (by decide +kernel) (by decide +kernel), Or.inr (qz_in 768 (by decide +kernel) (by decide +kernel)), by decide +kernel, by decide +kernel⟩, by decide +kernel, by decide +kernel, by decide +kernel⟩
set_option maxRecDepth 20000 in
theorem qz_mo124 : qz_MO 124 := ⟨by decide +kernel, qz_in 793 (by decide +kernel) (by decide +kernel), qz_in 53 (by decide +kernel) (by decide +kernel), ⟨by decide +kernel, by decide +kernel⟩, by decide +kernel, fun h => absurd h (by decide +kernel), fun _ => ⟨qz_in 791 (by decide +kernel) (by decide +kernel), Or.inr (qz_in 792 (by decide +kernel) (by decide +kernel)), by decide +kernel, by decide +kernel⟩, by decide +kernel, by decide +kernel, by decide +kernel⟩
set_option maxRecDepth 20000 in
theorem qz_mo125 : qz_MO 125 := ⟨by decide +kernel, qz_in 797 (by decide +kernel) (by decide +kernel), qz_in 53 (by decide +kernel) (by decide +kernel), ⟨by decide +kernel, by decide +kernel⟩, by decide +kernel, fun h => absurd h (by decide +kernel), fun _ => ⟨qz_in 795 (by decide +kernel) (by decide +kernel), Or.inr (qz_in 796 (by decide +kernel) (by decide +kernel)), by decide +kernel, by decide +kernel⟩, by decide +kernel, by decide +kernel, by decide +kernel⟩
set_option maxRecDepth 20000 in
theorem qz_mo126 : qz_MO 126 := ⟨by decide +kernel, qz_in 702 (by decide +kernel) (by decide +kernel), qz_in 53 (by decide +kernel) (by decide +kernel), ⟨by decide +kernel, by decide +kernel⟩, by decide +kernel, fun h => absurd h (by decide +kernel), fun _ => ⟨qz_in 701 (by decide +kernel) (by decide +kernel), Or.inr (qz_in 28 (by decide +kernel) (by decide +kernel)), by decide +kernel, by decide +kernel⟩, by decide +kernel, by decide +kernel, by decide +kernel⟩
set_option maxRecDepth 20000 in
theorem qz_mo127 : qz_MO 127 := ⟨by decide +kernel, qz_in 706 (by decide +kernel) (by decide +kernel), qz_in 53 (by decide +kernel) (by decide +kernel), ⟨by decide +kernel, by decide +kernel⟩, by decide +kernel, fun h => absurd h (by decide +kernel), fun _ => ⟨qz_in 705 (by decide +kernel) (by decide +kernel), Or.inr (qz_in 29 (by decide +kernel) (by decide +kernel)), by decide +kernel, by decide +kernel⟩, by decide +kernel, by decide +kernel, by decide +kernel⟩
set_option maxRecDepth 20000 in
theorem qz_mo128 : qz_MO 128 := ⟨by decide +kernel, qz_in 698 (by decide +kernel) (by decide +kernel), qz_in 53 (by decide +kernel) (by decide +kernel), ⟨by decide +kernel, by decide +kernel⟩, by decide +kernel, fun h => absurd h (by decide +kernel), fun _ => ⟨qz_in 697 (by decide +kernel) (by decide +kernel), Or.inr (qz_in 27 (by decide +kernel) (by decide +kernel)), by decide +kernel, by decide +kernel⟩, by decide +kernel, by decide +kernel, by decide +kernel⟩
set_option maxRecDepth 20000 in
theorem qz_mo129 : qz_MO 129 := ⟨by decide +kernel, qz_in 694 (by decide +kernel) (by decide +kernel), qz_in 53 (by decide +kernel) (by decide +kernel), ⟨by decide +kernel, by decide +kernel⟩, by decide +kernel, fun h => absurd h (by decide +kernel), fun _ => ⟨qz_in 693 (by decide +kernel) (by decide +kernel), Or.inr (qz_in 26 (by decide +kernel) (by decide +kernel)), by decide +kernel, by decide +kernel⟩, by decide +kernel, by decide +kernel, by decide +kernel⟩
set_option maxRecDepth 20000 in
theorem qz_mo130 : qz_MO 130 := ⟨by decide +kernel, qz_in 801 (by decide +kernel) (by decide +kernel), qz_in 53 (by decide +kernel) (by decide +kernel), ⟨by decide +kernel, by decide +kernel⟩, by decide +kernel, fun h => absurd h (by decide +kernel), fun _ => ⟨qz_in 799 (by decide +kernel) (by decide +kernel), Or.inr (qz_in 800 (by decide +kernel) (by decide +kernel)), by decide +kernel, by decide +kernel⟩, by decide +kernel, by decide +kernel, by decide +kernel⟩
set_option maxRecDepth 20000 in
theorem qz_mo131 : qz_MO 131 := ⟨by decide +kernel, qz_in 805 (by decide +kernel) (by decide +kernel), qz_in 53 (by decide +kernel) (by decide +kernel), ⟨by decide +kernel, by decide +kernel⟩, by decide +kernel, fun h => absurd h (by decide +kernel), fun _ => ⟨qz_in 803 (by decide +kernel) (by decide +kernel), Or.inr (qz_in 804 (by decide +kernel) (by decide +kernel)), by decide +kernel, by decide +kernel⟩, by decide +kernel, by decide +kernel, by decide +kernel⟩
set_option maxRecDepth 20000 in
theorem qz_mo132 : qz_MO 132 := ⟨by decide +kernel, qz_in 809 (by decide +kernel) (by decide +kernel), qz_in 53 (by decide +kernel) (by decide +kernel), ⟨by decide +kernel, by decide +kernel⟩, by decide +kernel, fun h => absurd h (by decide +kernel), fun _ => ⟨qz_in 807 (by decide +kernel) (by decide +kernel), Or.inr (qz_in 808 (by decide +kernel) (by decide +kernel)), by decide +kernel, by decide +kernel⟩, by decide +kernel, by decide +kernel, by decide +kernel⟩
set_option maxRecDepth 20000 in
theorem qz_mo133 : qz_MO 133 := ⟨by decide +kernel, qz_in 813 (by decide +kernel) (by decide +kernel), qz_in 53 (by decide +kernel) (by decide +kernel), ⟨by decide +kernel, by decide +kernel⟩, by decide +kernel, fun h => absurd h (by decide +kernel), fun _ => ⟨qz_in 811 (by decide +kernel) (by decide +kernel), Or.inr (qz_in 812 (by decide +kernel) (by decide +kernel)), by decide +kernel, by decide +kernel⟩, by decide +kernel, by decide +kernel, by decide +kernel⟩
set_option maxRecDepth 20000 in
theorem qz_mo134 : qz_MO 134 := ⟨by decide +kernel, qz_in 821 (by decide +kernel) (by decide +kernel), qz_in 53 (by decide +kernel) (by decide +kernel), ⟨by decide +kernel, by decide +kernel⟩, by decide +kernel, fun h => absurd h (by decide +kernel), fun _ => ⟨qz_in 820 (by decide +kernel) (by decide +kernel), Or.inr (qz_in 44 (by decide +kernel) (by decide +kernel)), by decide +kernel, by decide +kernel⟩, by decide +kernel, by decide +kernel, by decide +kernel⟩
set_option maxRecDepth 20000 in
theorem qz_mo135 : qz_MO 135 := ⟨by decide +kernel, qz_in 817 (by decide +kernel) (by decide +kernel), qz_in 53 (by decide +kernel) (by decide +kernel), ⟨by decide +kernel, by decide +kernel⟩, by decide +kernel, fun h => absurd h (by decide +kernel), fun _ => ⟨qz_in 815 (by decide +kernel) (by decide +kernel), Or.inr (qz_in 816 (by decide +kernel) (by decide +kernel)), by decide +kernel, by decide +kernel⟩, by decide +kernel, by decide +kernel, by decide +kernel⟩
set_option maxRecDepth 20000 in
theorem qz_mo136 : qz_MO 136 := ⟨by decide +kernel, qz_in 825 (by decide +kernel) (by decide +kernel), qz_in 53 (by decide +kernel) (by decide +kernel), ⟨by decide +kernel, by decide +kernel⟩, by decide +kernel, fun h => absurd h (by decide +kernel), fun _ => ⟨qz_in 823 (by decide +kernel) (by decide +kernel), Or.inr (qz_in 824 (by decide +kernel) (by decide +kernel)), by decide +kernel, by decide +kernel⟩, by decide +kernel, by decide +kernel, by decide +kernel⟩
set_option maxRecDepth 20000 in
theorem qz_mo137 : qz_MO 137 := ⟨by decide +kernel, qz_in 829 (by decide +kernel) (by decide +kernel), qz_in 53 (by decide +kernel) (by decide +kernel), ⟨by decide +kernel, by decide +kernel⟩, by decide +kernel, fun h => absurd h (by decide +kernel), fun _ => ⟨qz_in 827 (by decide +kernel) (by decide +kernel), Or.inr (qz_in 828 (by decide +kernel) (by decide +kernel)), by decide +kernel, by decide +kernel⟩, by decide +kernel, by decide +kernel, by decide +kernel⟩
set_option maxRecDepth 20000 in
theorem qz_mo138 : qz_MO 138 := ⟨by decide +kernel, qz_in 833 (by decide +kernel) (by decide +kernel), qz_in 53 (by decide +kernel) (by decide +kernel), ⟨by decide +kernel, by decide +kernel⟩, by decide +kernel, fun h => absurd h (by decide +kernel), fun _ => ⟨qz_in 831 (by decide +kernel) (by decide +kernel), Or.inr (qz_in 832 (by decide +kernel) (by decide +kernel)), by decide +kernel, by decide +kernel⟩, by decide +kernel, by decide +kernel, by decide +kernel⟩
set_option maxRecDepth 20000 in
theorem qz_mo139 : qz_MO 139 := ⟨by decide +kernel, qz_in 837 (by decide +kernel) (by decide +kernel), qz_in 53 (by decide +kernel) (by decide +kernel), ⟨by decide +kernel, by decide +kernel⟩, by decide +kernel, fun h => absurd h (by decide +kernel), fun _ => ⟨qz_in 835 (by decide +kernel) (by decide +kernel), Or.inr (qz_in 836 (by decide +kernel) (by decide +kernel)), by decide +kernel, by decide +kernel⟩, by decide +kernel, by decide +kernel, by decide +kernel⟩
set_option maxRecDepth 20000 in
theorem qz_mo140 : qz_MO 140 := ⟨by decide +kernel, qz_in 845 (by decide +kernel) (by decide +kernel), qz_in 53 (by decide +kernel) (by decide +kernel), ⟨by decide +kernel, by decide +kernel⟩, by decide +kernel, fun h => absurd h (by decide +kernel), fun _ => ⟨qz_in 844 (by decide +kernel) (by decide +kernel), Or.inr (qz_in 45 (by decide +kernel) (by decide +kernel)), by decide +kernel, by decide +kernel⟩, by decide +kernel, by decide +kernel, by decide +kernel⟩
set_option maxRecDepth 20000 in
theorem qz_mo141 : qz_MO 141 := ⟨by decide +kernel, qz_in 841 (by decide +kernel) (by decide +kernel), qz_in 53 (by decide +kernel) (by decide +kernel), ⟨by decide +kernel, by decide +kernel⟩, by decide +kernel, fun h => absurd h (by decide +kernel), fun _ => ⟨qz_in 839 (by decide +kernel) (by decide +kernel), Or.inr (qz_in 840 (by decide +kernel) (by decide +kernel)), by decide +kernel, by decide +kernel⟩, by decide +kernel, by decide +kernel, by decide +kernel⟩
theorem qz_mo {k : Nat} (h : k < qz_nm) : qz_MO k := by
  have h : k < 142 := h
  have h0 : 0 ≤ k := Nat.zero_le k
  rcases Nat.lt_or_ge k 71 with h0_142 | h0_142
  · rcases Nat.lt_or_ge k 35 with h0_71 | h0_71
    · rcases Nat.lt_or_ge k 17 with h0_35 | h0_35
      · rcases Nat.lt_or_ge k 8 with h0_17 | h0_17
        · rcases Nat.lt_or_ge k 4 with h0_8 | h0_8
          · rcases Nat.lt_or_ge k 2 with h0_4 | h0_4
            · rcases Nat.lt_or_ge k 1 with h0_2 | h0_2
              · exact (show k = 0 by omega) ▸ qz_mo0
              · exact (show k = 1 by omega) ▸ qz_mo1
            · rcases Nat.lt_or_ge k 3 with h2_4 | h2_4
              · exact (show k = 2 by omega) ▸ qz_mo2
              · exact (show k = 3 by omega) ▸ qz_mo3
          · rcases Nat.lt_or_ge k 6 with h4_8 | h4_8
            · rcases Nat.lt_or_ge k 5 with h4_6 | h4_6
              · exact (show k = 4 by omega) ▸ qz_mo4
              · exact (show k = 5 by omega) ▸ qz_mo5
            · rcases Nat.lt_or_ge k 7 with h6_8 | h6_8
              · exact (show k = 6 by omega) ▸ qz_mo6
              · exact (show k = 7 by omega) ▸ qz_mo7
        · rcases Nat.lt_or_ge k 12 with h8_17 | h8_17
          · rcases Nat.lt_or_ge k 10 with h8_12 | h8_12
            · rcases Nat.lt_or_ge k 9 with h8_10 | h8_10
              · exact (show k = 8 by omega) ▸ qz_mo8
              · exact (show k = 9 by omega) ▸ qz_mo9
            · rcases Nat.lt_or_ge k 11 with h10_12 | h10_12
              · exact (show k = 10 by omega) ▸ qz_mo10
              · exact (show k = 11 by omega) ▸ qz_mo11
          · rcases Nat.lt_or_ge k 14 with h12_17 | h12_17
            · rcases Nat.lt_or_ge k 13 with h12_14 | h12_14
              · exact (show k = 12 by omega) ▸ qz_mo12
              · exact (show k = 13 by omega) ▸ qz_mo13
            · rcases Nat.lt_or_ge k 15 with h14_17 | h14_17
              · exact (show k = 14 by omega) ▸ qz_mo14
              · rcases Nat.lt_or_ge k 16 with h15_17 | h15_17
                · exact (show k = 15 by omega) ▸ qz_mo15
                · exact (show k = 16 by omega) ▸ qz_mo16
      · rcases Nat.lt_or_ge k 26 with h17_35 | h17_35
        · rcases Nat.lt_or_ge k 21 with h17_26 | h17_26
          · rcases Nat.lt_or_ge k 19 with h17_21 | h17_21
            · rcases Nat.lt_or_ge k 18 with h17_19 | h17_19
              · exact (show k = 17 by omega) ▸ qz_mo17
              · exact (show k = 18 by omega) ▸ qz_mo18
            · rcases Nat.lt_or_ge k 20 with h19_21 | h19_21
              · exact (show k = 19 by omega) ▸ qz_mo19
              · exact (show k = 20 by omega) ▸ qz_mo20
          · rcases Nat.lt_or_ge k 23 with h21_26 | h21_26
            · rcases Nat.lt_or_ge k 22 with h21_23 | h21_23
              · exact (show k = 21 by omega) ▸ qz_mo21
              · exact (show k = 22 by omega) ▸ qz_mo22
            · rcases Nat.lt_or_ge k 24 with h23_26 | h23_26
              · exact (show k = 23 by omega) ▸ qz_mo23
              · rcases Nat.lt_or_ge k 25 with h24_26 | h24_26
                · exact (show k = 24 by omega) ▸ qz_mo24
                · exact (show k = 25 by omega) ▸ qz_mo25
        · rcases Nat.lt_or_ge k 30 with h26_35 | h26_35
          · rcases Nat.lt_or_ge k 28 with h26_30 | h26_30
            · rcases Nat.lt_or_ge k 27 with h26_28 | h26_28
              · exact (show k = 26 by omega) ▸ qz_mo26
              · exact (show k = 27 by omega) ▸ qz_mo27
            · rcases Nat.lt_or_ge k 29 with h28_30 | h28_30
              · exact (show k = 28 by omega) ▸ qz_mo28
              · exact (show k = 29 by omega) ▸ qz_mo29
          · rcases Nat.lt_or_ge k 32 with h30_35 | h30_35
            · rcases Nat.lt_or_ge k 31 with h30_32 | h30_32
              · exact (show k = 30 by omega) ▸ qz_mo30
              · exact (show k = 31 by omega) ▸ qz_mo31
            · rcases Nat.lt_or_ge k 33 with h32_35 | h32_35
              · exact (show k = 32 by omega) ▸ qz_mo32
              · rcases Nat.lt_or_ge k 34 with h33_35 | h33_35
                · exact (show k = 33 by omega) ▸ qz_mo33
                · exact (show k = 34 by omega) ▸ qz_mo34
    · rcases Nat.lt_or_ge k 53 with h35_71 | h35_71
      · rcases Nat.lt_or_ge k 44 with h35_53 | h35_53
        · rcases Nat.lt_or_ge k 39 with h35_44 | h35_44
          · rcases Nat.lt_or_ge k 37 with h35_39 | h35_39
            · rcases Nat.lt_or_ge k 36 with h35_37 | h35_37
              · exact (show k = 35 by omega) ▸ qz_mo35
              · exact (show k = 36 by omega) ▸ qz_mo36
            · rcases Nat.lt_or_ge k 38 with h37_39 | h37_39
              · exact (show k = 37 by omega) ▸ qz_mo37
              · exact (show k = 38 by omega) ▸ qz_mo38
          · rcases Nat.lt_or_ge k 41 with h39_44 | h39_44
            · rcases Nat.lt_or_ge k 40 with h39_41 | h39_41
              · exact (show k = 39 by omega) ▸ qz_mo39
              · exact (show k = 40 by omega) ▸ qz_mo40
            · rcases Nat.lt_or_ge k 42 with h41_44 | h41_44
              · exact (show k = 41 by omega) ▸ qz_mo41
              · rcases Nat.lt_or_ge k 43 with h42_44 | h42_44
                · exact (show k = 42 by omega) ▸ qz_mo42
                · exact (show k = 43 by omega) ▸ qz_mo43
        · rcases Nat.lt_or_ge k 48 with h44_53 | h44_53
          · rcases Nat.lt_or_ge k 46 with h44_48 | h44_48
            · rcases Nat.lt_or_ge k 45 with h44_46 | h44_46
              · exact (show k = 44 by omega) ▸ qz_mo44
              · exact (show k = 45 by omega) ▸ qz_mo45
            · rcases Nat.lt_or_ge k 47 with h46_48 | h46_48
              · exact (show k = 46 by omega) ▸ qz_mo46
              · exact (show k = 47 by omega) ▸ qz_mo47
          · rcases Nat.lt_or_ge k 50 with h48_53 | h48_53
            · rcases Nat.lt_or_ge k 49 with h48_50 | h48_50
              · exact (show k = 48 by omega) ▸ qz_mo48
              · exact (show k = 49 by omega) ▸ qz_mo49
            · rcases Nat.lt_or_ge k 51 with h50_53 | h50_53
              · exact (show k = 50 by omega) ▸ qz_mo50
              · rcases Nat.lt_or_ge k 52 with h51_53 | h51_53
                · exact (show k = 51 by omega) ▸ qz_mo51
                · exact (show k = 52 by omega) ▸ qz_mo52
      · rcases Nat.lt_or_ge k 62 with h53_71 | h53_71
        · rcases Nat.lt_or_ge k 57 with h53_62 | h53_62
          · rcases Nat.lt_or_ge k 55 with h53_57 | h53_57
            · rcases Nat.lt_or_ge k 54 with h53_55 | h53_55
              · exact (show k = 53 by omega) ▸ qz_mo53
              · exact (show k = 54 by omega) ▸ qz_mo54
            · rcases Nat.lt_or_ge k 56 with h55_57 | h55_57
              · exact (show k = 55 by omega) ▸ qz_mo55
              · exact (show k = 56 by omega) ▸ qz_mo56
          · rcases Nat.lt_or_ge k 59 with h57_62 | h57_62
            · rcases Nat.lt_or_ge k 58 with h57_59 | h57_59
              · exact (show k = 57 by omega) ▸ qz_mo57
              · exact (show k = 58 by omega) ▸ qz_mo58
            · rcases Nat.lt_or_ge k 60 with h59_62 | h59_62
              · exact (show k = 59 by omega) ▸ qz_mo59
              · rcases Nat.lt_or_ge k 61 with h60_62 | h60_62
                · exact (show k = 60 by omega) ▸ qz_mo60
                · exact (show k = 61 by omega) ▸ qz_mo61
        · rcases Nat.lt_or_ge k 66 with h62_71 | h62_71
          · rcases Nat.lt_or_ge k 64 with h62_66 | h62_66
            · rcases Nat.lt_or_ge k 63 with h62_64 | h62_64
              · exact (show k = 62 by omega) ▸ qz_mo62
              · exact (show k = 63 by omega) ▸ qz_mo63
            · rcases Nat.lt_or_ge k 65 with h64_66 | h64_66
              · exact (show k = 64 by omega) ▸ qz_mo64
              · exact (show k = 65 by omega) ▸ qz_mo65
          · rcases Nat.lt_or_ge k 68 with h66_71 | h66_71
            · rcases Nat.lt_or_ge k 67 with h66_68 | h66_68
              · exact (show k = 66 by omega) ▸ qz_mo66
              · exact (show k = 67 by omega) ▸ qz_mo67
            · rcases Nat.lt_or_ge k 69 with h68_71 | h68_71
              · exact (show k = 68 by omega) ▸ qz_mo68
              · rcases Nat.lt_or_ge k 70 with h69_71 | h69_71
                · exact (show k = 69 by omega) ▸ qz_mo69
                · exact (show k = 70 by omega) ▸ qz_mo70
  · rcases Nat.lt_or_ge k 106 with h71_142 | h71_142
    · rcases Nat.lt_or_ge k 88 with h71_106 | h71_106
      · rcases Nat.lt_or_ge k 79 with h71_88 | h71_88
        · rcases Nat.lt_or_ge k 75 with h71_79 | h71_79
          · rcases Nat.lt_or_ge k 73 with h71_75 | h71_75
            · rcases Nat.lt_or_ge k 72 with h71_73 | h71_73
              · exact (show k = 71 by omega) ▸ qz_mo71
              · exact (show k = 72 by omega) ▸ qz_mo72
            · rcases Nat.lt_or_ge k 74 with h73_75 | h73_75
              · exact (show k = 73 by omega) ▸ qz_mo73
              · exact (show k = 74 by omega) ▸ qz_mo74
          · rcases Nat.lt_or_ge k 77 with h75_79 | h75_79
            · rcases Nat.lt_or_ge k 76 with h75_77 | h75_77
              · exact (show k = 75 by omega) ▸ qz_mo75
              · exact (show k = 76 by omega) ▸ qz_mo76
            · rcases Nat.lt_or_ge k 78 with h77_79 | h77_79
              · exact (show k = 77 by omega) ▸ qz_mo77
              · exact (show k = 78 by omega) ▸ qz_mo78
        · rcases Nat.lt_or_ge k 83 with h79_88 | h79_88
          · rcases Nat.lt_or_ge k 81 with h79_83 | h79_83
            · rcases Nat.lt_or_ge k 80 with h79_81 | h79_81
              · exact (show k = 79 by omega) ▸ qz_mo79
              · exact (show k = 80 by omega) ▸ qz_mo80
            · rcases Nat.lt_or_ge k 82 with h81_83 | h81_83
              · exact (show k = 81 by omega) ▸ qz_mo81
              · exact (show k = 82 by omega) ▸ qz_mo82
          · rcases Nat.lt_or_ge k 85 with h83_88 | h83_88
            · rcases Nat.lt_or_ge k 84 with h83_85 | h83_85
              · exact (show k = 83 by omega) ▸ qz_mo83
              · exact (show k = 84 by omega) ▸ qz_mo84
            · rcases Nat.lt_or_ge k 86 with h85_88 | h85_88
              · exact (show k = 85 by omega) ▸ qz_mo85
              · rcases Nat.lt_or_ge k 87 with h86_88 | h86_88
                · exact (show k = 86 by omega) ▸ qz_mo86
                · exact (show k = 87 by omega) ▸ qz_mo87
      · rcases Nat.lt_or_ge k 97 with h88_106 | h88_106
        · rcases Nat.lt_or_ge k 92 with h88_97 | h88_97
          · rcases Nat.lt_or_ge k 90 with h88_92 | h88_92
            · rcases Nat.lt_or_ge k 89 with h88_90 | h88_90
              · exact (show k = 88 by omega) ▸ qz_mo88
              · exact (show k = 89 by omega) ▸ qz_mo89
            · rcases Nat.lt_or_ge k 91 with h90_92 | h90_92
              · exact (show k = 90 by omega) ▸ qz_mo90
              · exact (show k = 91 by omega) ▸ qz_mo91
          · rcases Nat.lt_or_ge k 94 with h92_97 | h92_97
            · rcases Nat.lt_or_ge k 93 with h92_94 | h92_94
              · exact (show k = 92 by omega) ▸ qz_mo92
              · exact (show k = 93 by omega) ▸ qz_mo93
            · rcases Nat.lt_or_ge k 95 with h94_97 | h94_97
              · exact (show k = 94 by omega) ▸ qz_mo94
              · rcases Nat.lt_or_ge k 96 with h95_97 | h95_97
                · exact (show k = 95 by omega) ▸ qz_mo95
                · exact (show k = 96 by omega) ▸ qz_mo96
        · rcases Nat.lt_or_ge k 101 with h97_106 | h97_106
          · rcases Nat.lt_or_ge k 99 with h97_101 | h97_101
            · rcases Nat.lt_or_ge k 98 with h97_99 | h97_99
              · exact (show k = 97 by omega) ▸ qz_mo97
              · exact (show k = 98 by omega) ▸ qz_mo98
            · rcases Nat.lt_or_ge k 100 with h99_101 | h99_101
              · exact (show k = 99 by omega) ▸ qz_mo99
              · exact (show k = 100 by omega) ▸ qz_mo100
          · rcases Nat.lt_or_ge k 103 with h101_106 | h101_106
            · rcases Nat.lt_or_ge k 102 with h101_103 | h101_103
              · exact (show k = 101 by omega) ▸ qz_mo101
              · exact (show k = 102 by omega) ▸ qz_mo102
            · rcases Nat.lt_or_ge k 104 with h103_106 | h103_106
              · exact (show k = 103 by omega) ▸ qz_mo103
              · rcases Nat.lt_or_ge k 105 with h104_106 | h104_106
                · exact (show k = 104 by omega) ▸ qz_mo104
                · exact (show k = 105 by omega) ▸ qz_mo105
    · rcases Nat.lt_or_ge k 124 with h106_142 | h106_142
      · rcases Nat.lt_or_ge k 115 with h106_124 | h106_124
        · rcases Nat.lt_or_ge k 110 with h106_115 | h106_115
          · rcases Nat.lt_or_ge k 108 with h106_110 | h106_110
            · rcases Nat.lt_or_ge k 107 with h106_108 | h106_108
              · exact (show k = 106 by omega) ▸ qz_mo106
              · exact (show k = 107 by omega) ▸ qz_mo107
            · rcases Nat.lt_or_ge k 109 with h108_110 | h108_110
              · exact (show k = 108 by omega) ▸ qz_mo108
              · exact (show k = 109 by omega) ▸ qz_mo109
          · rcases Nat.lt_or_ge k 112 with h110_115 | h110_115
            · rcases Nat.lt_or_ge k 111 with h110_112 | h110_112
              · exact (show k = 110 by omega) ▸ qz_mo110
              · exact (show k = 111 by omega) ▸ qz_mo111
            · rcases Nat.lt_or_ge k 113 with h112_115 | h112_115
              · exact (show k = 112 by omega) ▸ qz_mo112
              · rcases Nat.lt_or_ge k 114 with h113_115 | h113_115
                · exact (show k = 113 by omega) ▸ qz_mo113
                · exact (show k = 114 by omega) ▸ qz_mo114
        · rcases Nat.lt_or_ge k 119 with h115_124 | h115_124
          · rcases Nat.lt_or_ge k 117 with h115_119 | h115_119
            · rcases Nat.lt_or_ge k 116 with h115_117 | h115_117
              · exact (show k = 115 by omega) ▸ qz_mo115
              · exact (show k = 116 by omega) ▸ qz_mo116
            · rcases Nat.lt_or_ge k 118 with h117_119 | h117_119
              · exact (show k = 117 by omega) ▸ qz_mo117
              · exact (show k = 118 by omega) ▸ qz_mo118
          · rcases Nat.lt_or_ge k 121 with h119_124 | h119_124
            · rcases Nat.lt_or_ge k 120 with h119_121 | h119_121
              · exact (show k = 119 by omega) ▸ qz_mo119
              · exact (show k = 120 by omega) ▸ qz_mo120
            · rcases Nat.lt_or_ge k 122 with h121_124 | h121_124
              · exact (show k = 121 by omega) ▸ qz_mo121
              · rcases Nat.lt_or_ge k 123 with h122_124 | h122_124
                · exact (show k = 122 by omega) ▸ qz_mo122
                · exact (show k = 123 by omega) ▸ qz_mo123
      · rcases Nat.lt_or_ge k 133 with h124_142 | h124_142
        · rcases Nat.lt_or_ge k 128 with h124_133 | h124_133
          · rcases Nat.lt_or_ge k 126 with h124_128 | h124_128
            · rcases Nat.lt_or_ge k 125 with h124_126 | h124_126
              · exact (show k = 124 by omega) ▸ qz_mo124
              · exact (show k = 125 by omega) ▸ qz_mo125
            · rcases Nat.lt_or_ge k 127 with h126_128 | h126_128
              · exact (show k = 126 by omega) ▸ qz_mo126
              · exact (show k = 127 by omega) ▸ qz_mo127
          · rcases Nat.lt_or_ge k 130 with h128_133 | h128_133
            · rcases Nat.lt_or_ge k 129 with h128_130 | h128_130
              · exact (show k = 128 by omega) ▸ qz_mo128
              · exact (show k = 129 by omega) ▸ qz_mo129
            · rcases Nat.lt_or_ge k 131 with h130_133 | h130_133
              · exact (show k = 130 by omega) ▸ qz_mo130
              · rcases Nat.lt_or_ge k 132 with h131_133 | h131_133
                · exact (show k = 131 by omega) ▸ qz_mo131
                · exact (show k = 132 by omega) ▸ qz_mo132
        · rcases Nat.lt_or_ge k 137 with h133_142 | h133_142
          · rcases Nat.lt_or_ge k 135 with h133_137 | h133_137
            · rcases Nat.lt_or_ge k 134 with h133_135 | h133_135
              · exact (show k = 133 by omega) ▸ qz_mo133
              · exact (show k = 134 by omega) ▸ qz_mo134
            · rcases Nat.lt_or_ge k 136 with h135_137 | h135_137
              · exact (show k = 135 by omega) ▸ qz_mo135
              · exact (show k = 136 by omega) ▸ qz_mo136
          · rcases Nat.lt_or_ge k 139 with h137_142 | h137_142
            · rcases Nat.lt_or_ge k 138 with h137_139 | h137_139
              · exact (show k = 137 by omega) ▸ qz_mo137
              · exact (show k = 138 by omega) ▸ qz_mo138
            · rcases Nat.lt_or_ge k 140 with h139_142 | h139_142
              · exact (show k = 139 by omega) ▸ qz_mo139
              · rcases Nat.lt_or_ge k 141 with h140_142 | h140_142
                · exact (show k = 140 by omega) ▸ qz_mo140
                · exact (show k = 141 by omega) ▸ qz_mo141
def qz_clL : List ((Nat × Nat) × Nat) := [((0, 35), 1), ((1, 28), 17), ((1, 29), 11), ((1, 33), 12), ((2, 21), 18), ((2, 22), 15), ((2, 25), 19), ((4, 55), 0), ((4, 56), 20), ((4, 60), 7), ((4, 64), 25), ((4, 68), 28), ((4, 71), 26), ((4, 75), 1), ((4, 82), 33), ((4, 99), 2), ((4, 102), 23), ((4, 106), 38), ((4, 110), 45), ((4, 114), 21), ((4, 117), 41), ((4, 120), 44), ((4, 124), 35), ((4, 128), 36), ((4, 132), 77), ((4, 135), 37), ((4, 143), 43), ((4, 147), 3), ((4, 150), 4), ((4, 156), 49), ((4, 159), 5), ((4, 163), 50), ((4, 167), 51), ((4, 170), 54), ((5, 9), 18), ((5, 18), 8), ((5, 25), 13), ((5, 41), 14), ((5, 45), 24), ((5, 49), 23), ((5, 53), 77), ((5, 56), 78), ((5, 59), 31), ((5, 63), 30), ((5, 67), 10), ((5, 70), 81), ((5, 77), 82), ((5, 80), 29), ((5, 84), 6), ((5, 89), 34), ((5, 92), 32), ((5, 101), 80), ((5, 104), 39), ((5, 108), 41), ((5, 112), 38), ((5, 115), 79), ((5, 119), 21), ((5, 122), 22), ((5, 129), 52), ((5, 132), 53), ((5, 141), 9), ((5, 148), 16), ((5, 151), 19), ((5, 160), 42), ((5, 164), 43), ((5, 167), 33), ((5, 178), 45), ((5, 182), 46), ((5, 185), 47), ((5, 188), 51), ((5, 191), 27), ((5, 194), 40), ((5, 215), 48), ((6, 36), 84), ((6, 40), 85), ((6, 47), 91), ((6, 50), 90), ((6, 54), 94), ((6, 57), 96), ((6, 60), 87), ((6, 64), 97), ((6, 68), 95), ((6, 71), 98), ((6, 75), 101), ((6, 79), 99), ((6, 82), 86), ((6, 86), 100), ((6, 89), 102), ((6, 92), 105), ((6, 98), 107), ((6, 102), 108), ((6, 106), 109), ((6, 109), 93), ((6, 112), 88), ((6, 115), 89), ((6, 118), 113), ((6, 121), 129), ((6, 127), 92), ((6, 130), 103), ((6, 133), 104), ((6, 136), 106), ((6, 139), 118), ((6, 142), 121), ((6, 146), 110), ((6, 149), 111), ((6, 158), 126), ((6, 165), 127), ((6, 169), 128), ((6, 175), 134), ((6, 178), 140), ((8, 9), 55), ((8, 12), 83), ((8, 13), 56), ((8, 17), 112), ((8, 18), 57), ((8, 22), 114), ((8, 23), 58), ((8, 27), 115), ((8, 28), 59), ((8, 31), 116), ((8, 32), 60), ((8, 36), 117), ((8, 37), 61), ((8, 40), 119), ((8, 41), 62), ((8, 44), 120), ((8, 45), 63), ((8, 48), 122), ((8, 49), 64), ((8, 52), 123), ((8, 53), 65), ((8, 57), 124), ((8, 58), 66), ((8, 61), 125), ((8, 62), 67), ((8, 65), 130), ((8, 66), 68), ((8, 69), 131), ((8, 70), 69), ((8, 73), 132), ((8, 74), 70), ((8, 77), 133), ((8, 78), 71), ((8, 81), 135), ((8, 82), 72), ((8, 85), 136), ((8, 86), 73), ((8, 89), 137), ((8, 90), 74), ((8, 93), 138), ((8, 94), 75), ((8, 97), 139), ((8, 98), 76), ((8, 101), 141)]
def qz_cl (c i : Nat) : Option Nat := qz_clL.lookup (c, i)
/-- the links to nest mates -/
def qz_ne : List (Nat × Nat × Nat) := [(1, 28, 17), (4, 55, 0), (4, 132, 77)]
def qz_KO (e : (Nat × Nat) × Nat) : Prop := e.2 < qz_nm ∧ (Cond.methodLink (qz_ow e.1.1) e.1.2 (qz_y e.2) ∈ qz_tb ∨ (e.1.1, e.1.2, e.2) ∈ qz_ne)
theorem qz_ko0 : qz_KO ((0, 35), 1) := ⟨by decide, Or.inl (qz_in 317 (by decide +kernel) (by decide +kernel))⟩
theorem qz_ko1 : qz_KO ((1, 28), 17) := ⟨by decide, Or.inr (by decide)⟩
theorem qz_ko2 : qz_KO ((1, 29), 11) := ⟨by decide, Or.inl (qz_in 353 (by decide +kernel) (by decide +kernel))⟩
theorem qz_ko3 : qz_KO ((1, 33), 12) := ⟨by decide, Or.inl (qz_in 356 (by decide +kernel) (by decide +kernel))⟩
theorem qz_ko4 : qz_KO ((2, 21), 18) := ⟨by decide, Or.inl (qz_in 218 (by decide +kernel) (by decide +kernel))⟩
theorem qz_ko5 : qz_KO ((2, 22), 15) := ⟨by decide, Or.inl (qz_in 251 (by decide +kernel) (by decide +kernel))⟩
theorem qz_ko6 : qz_KO ((2, 25), 19) := ⟨by decide, Or.inl (qz_in 255 (by decide +kernel) (by decide +kernel))⟩
theorem qz_ko7 : qz_KO ((4, 55), 0) := ⟨by decide, Or.inr (by decide)⟩
theorem qz_ko8 : qz_KO ((4, 56), 20) := ⟨by decide, Or.inl (qz_in 259 (by decide +kernel) (by decide +kernel))⟩
theorem qz_ko9 : qz_KO ((4, 60), 7) := ⟨by decide, Or.inl (qz_in 262 (by decide +kernel) (by decide +kernel))⟩
theorem qz_ko10 : qz_KO ((4, 64), 25) := ⟨by decide, Or.inl (qz_in 330 (by decide +kernel) (by decide +kernel))⟩
theorem qz_ko11 : qz_KO ((4, 68), 28) := ⟨by decide, Or.inl (qz_in 554 (by decide +kernel) (by decide +kernel))⟩
theorem qz_ko12 : qz_KO ((4, 71), 26) := ⟨by decide, Or.inl (qz_in 396 (by decide +kernel) (by decide +kernel))⟩
theorem qz_ko13 : qz_KO ((4, 75), 1) := ⟨by decide, Or.inl (qz_in 288 (by decide +kernel) (by decide +kernel))⟩
theorem qz_ko14 : qz_KO ((4, 82), 33) := ⟨by decide, Or.inl (qz_in 296 (by decide +kernel) (by decide +kernel))⟩
theorem qz_ko15 : qz_KO ((4, 99), 2) := ⟨by decide, Or.inl (qz_in 388 (by decide +kernel) (by decide +kernel))⟩
theorem qz_ko16 : qz_KO ((4, 102), 23) := ⟨by decide, Or.inl (qz_in 300 (by decide +kernel) (by decide +kernel))⟩
theorem qz_ko17 : qz_KO ((4, 106), 38) := ⟨by decide, Or.inl (qz_in 301 (by decide +kernel) (by decide +kernel))⟩
theorem qz_ko18 : qz_KO ((4, 110), 45) := ⟨by decide, Or.inl (qz_in 309 (by decide +kernel) (by decide +kernel))⟩
theorem qz_ko19 : qz_KO ((4, 114), 21) := ⟨by decide, Or.inl (qz_in 322 (by decide +kernel) (by decide +kernel))⟩
theorem qz_ko20 : qz_KO ((4, 117), 41) := ⟨by decide, Or.inl (qz_in 326 (by decide +kernel) (by decide +kernel))⟩
theorem qz_ko21 : qz_KO ((4, 120), 44) := ⟨by decide, Or.inl (qz_in 337 (by decide +kernel) (by decide +kernel))⟩
theorem qz_ko22 : qz_KO ((4, 124), 35) := ⟨by decide, Or.inl (qz_in 384 (by decide +kernel) (by decide +kernel))⟩
theorem qz_ko23 : qz_KO ((4, 128), 36) := ⟨by decide, Or.inl (qz_in 392 (by decide +kernel) (by decide +kernel))⟩
theorem qz_ko24 : qz_KO ((4, 132), 77) := ⟨by decide, Or.inr (by decide)⟩
theorem qz_ko25 : qz_KO ((4, 135), 37) := ⟨by decide, Or.inl (qz_in 305 (by decide +kernel) (by decide +kernel))⟩
theorem qz_ko26 : qz_KO ((4, 143), 43) := ⟨by decide, Or.inl (qz_in 341 (by decide +kernel) (by decide +kernel))⟩
theorem qz_ko27 : qz_KO ((4, 147), 3) := ⟨by decide, Or.inl (qz_in 313 (by decide +kernel) (by decide +kernel))⟩
theorem qz_ko28 : qz_KO ((4, 150), 4) := ⟨by decide, Or.inl (qz_in 318 (by decide +kernel) (by decide +kernel))⟩
theorem qz_ko29 : qz_KO ((4, 156), 49) := ⟨by decide, Or.inl (qz_in 423 (by decide +kernel) (by decide +kernel))⟩
theorem qz_ko30 : qz_KO ((4, 159), 5) := ⟨by decide, Or.inl (qz_in 469 (by decide +kernel) (by decide +kernel))⟩
theorem qz_ko31 : qz_KO ((4, 163), 50) := ⟨by decide, Or.inl (qz_in 465 (by decide +kernel) (by decide +kernel))⟩
theorem qz_ko32 : qz_KO ((4, 167), 51) := ⟨by decide, Or.inl (qz_in 461 (by decide +kernel) (by decide +kernel))⟩
theorem qz_ko33 : qz_KO ((4, 170), 54) := ⟨by decide, Or.inl (qz_in 477 (by decide +kernel) (by decide +kernel))⟩
theorem qz_ko34 : qz_KO ((5, 9), 18) := ⟨by decide, Or.inl (qz_in 65 (by decide +kernel) (by decide +kernel))⟩
theorem qz_ko35 : qz_KO ((5, 18), 8) := ⟨by decide, Or.inl (qz_in 166 (by decide +kernel) (by decide +kernel))⟩
theorem qz_ko36 : qz_KO ((5, 25), 13) := ⟨by decide, Or.inl (qz_in 212 (by decide +kernel) (by decide +kernel))⟩
theorem qz_ko37 : qz_KO ((5, 41), 14) := ⟨by decide, Or.inl (qz_in 247 (by decide +kernel) (by decide +kernel))⟩
theorem qz_ko38 : qz_KO ((5, 45), 24) := ⟨by decide, Or.inl (qz_in 266 (by decide +kernel) (by decide +kernel))⟩
theorem qz_ko39 : qz_KO ((5, 49), 23) := ⟨by decide, Or.inl (qz_in 274 (by decide +kernel) (by decide +kernel))⟩
theorem qz_ko40 : qz_KO ((5, 53), 77) := ⟨by decide, Or.inl (qz_in 278 (by decide +kernel) (by decide +kernel))⟩
theorem qz_ko41 : qz_KO ((5, 56), 78) := ⟨by decide, Or.inl (qz_in 281 (by decide +kernel) (by decide +kernel))⟩
theorem qz_ko42 : qz_KO ((5, 59), 31) := ⟨by decide, Or.inl (qz_in 284 (by decide +kernel) (by decide +kernel))⟩
theorem qz_ko43 : qz_KO ((5, 63), 30) := ⟨by decide, Or.inl (qz_in 292 (by decide +kernel) (by decide +kernel))⟩
theorem qz_ko44 : qz_KO ((5, 67), 10) := ⟨by decide, Or.inl (qz_in 349 (by decide +kernel) (by decide +kernel))⟩
theorem qz_ko45 : qz_KO ((5, 70), 81) := ⟨by decide, Or.inl (qz_in 360 (by decide +kernel) (by decide +kernel))⟩
theorem qz_ko46 : qz_KO ((5, 77), 82) := ⟨by decide, Or.inl (qz_in 364 (by decide +kernel) (by decide +kernel))⟩
theorem qz_ko47 : qz_KO ((5, 80), 29) := ⟨by decide, Or.inl (qz_in 372 (by decide +kernel) (by decide +kernel))⟩
theorem qz_ko48 : qz_KO ((5, 84), 6) := ⟨by decide, Or.inl (qz_in 376 (by decide +kernel) (by decide +kernel))⟩
theorem qz_ko49 : qz_KO ((5, 89), 34) := ⟨by decide, Or.inl (qz_in 380 (by decide +kernel) (by decide +kernel))⟩
theorem qz_ko50 : qz_KO ((5, 92), 32) := ⟨by decide, Or.inl (qz_in 400 (by decide +kernel) (by decide +kernel))⟩
theorem qz_ko51 : qz_KO ((5, 101), 80) := ⟨by decide, Or.inl (qz_in 412 (by decide +kernel) (by decide +kernel))⟩
theorem qz_ko52 : qz_KO ((5, 104), 39) := ⟨by decide, Or.inl (qz_in 427 (by decide +kernel) (by decide +kernel))⟩
theorem qz_ko53 : qz_KO ((5, 108), 41) := ⟨by decide, Or.inl (qz_in 431 (by decide +kernel) (by decide +kernel))⟩
theorem qz_ko54 : qz_KO ((5, 112), 38) := ⟨by decide, Or.inl (qz_in 436 (by decide +kernel) (by decide +kernel))⟩
theorem qz_ko55 : qz_KO ((5, 115), 79) := ⟨by decide, Or.inl (qz_in 441 (by decide +kernel) (by decide +kernel))⟩
theorem qz_ko56 : qz_KO ((5, 119), 21) := ⟨by decide, Or.inl (qz_in 448 (by decide +kernel) (by decide +kernel))⟩
theorem qz_ko57 : qz_KO ((5, 122), 22) := ⟨by decide, Or.inl (qz_in 449 (by decide +kernel) (by decide +kernel))⟩
theorem qz_ko58 : qz_KO ((5, 129), 52) := ⟨by decide, Or.inl (qz_in 457 (by decide +kernel) (by decide +kernel))⟩
theorem qz_ko59 : qz_KO ((5, 132), 53) := ⟨by decide, Or.inl (qz_in 473 (by decide +kernel) (by decide +kernel))⟩
theorem qz_ko60 : qz_KO ((5, 141), 9) := ⟨by decide, Or.inl (qz_in 485 (by decide +kernel) (by decide +kernel))⟩
theorem qz_ko61 : qz_KO ((5, 148), 16) := ⟨by decide, Or.inl (qz_in 497 (by decide +kernel) (by decide +kernel))⟩
theorem qz_ko62 : qz_KO ((5, 151), 19) := ⟨by decide, Or.inl (qz_in 505 (by decide +kernel) (by decide +kernel))⟩
theorem qz_ko63 : qz_KO ((5, 160), 42) := ⟨by decide, Or.inl (qz_in 514 (by decide +kernel) (by decide +kernel))⟩
theorem qz_ko64 : qz_KO ((5, 164), 43) := ⟨by decide, Or.inl (qz_in 518 (by decide +kernel) (by decide +kernel))⟩
theorem qz_ko65 : qz_KO ((5, 167), 33) := ⟨by decide, Or.inl (qz_in 519 (by decide +kernel) (by decide +kernel))⟩
theorem qz_ko66 : qz_KO ((5, 178), 45) := ⟨by decide, Or.inl (qz_in 524 (by decide +kernel) (by decide +kernel))⟩
theorem qz_ko67 : qz_KO ((5, 182), 46) := ⟨by decide, Or.inl (qz_in 525 (by decide +kernel) (by decide +kernel))⟩
theorem qz_ko68 : qz_KO ((5, 185), 47) := ⟨by decide, Or.inl (qz_in 529 (by decide +kernel) (by decide +kernel))⟩
theorem qz_ko69 : qz_KO ((5, 188), 51) := ⟨by decide, Or.inl (qz_in 533 (by decide +kernel) (by decide +kernel))⟩
theorem qz_ko70 : qz_KO ((5, 191), 27) := ⟨by decide, Or.inl (qz_in 550 (by decide +kernel) (by decide +kernel))⟩
theorem qz_ko71 : qz_KO ((5, 194), 40) := ⟨by decide, Or.inl (qz_in 562 (by decide +kernel) (by decide +kernel))⟩
theorem qz_ko72 : qz_KO ((5, 215), 48) := ⟨by decide, Or.inl (qz_in 416 (by decide +kernel) (by decide +kernel))⟩
theorem qz_ko73 : qz_KO ((6, 36), 84) := ⟨by decide, Or.inl (qz_in 623 (by decide +kernel) (by decide +kernel))⟩
theorem qz_ko74 : qz_KO ((6, 40), 85) := ⟨by decide, Or.inl (qz_in 656 (by decide +kernel) (by decide +kernel))⟩
theorem qz_ko75 : qz_KO ((6, 47), 91) := ⟨by decide, Or.inl (qz_in 664 (by decide +kernel) (by decide +kernel))⟩
theorem qz_ko76 : qz_KO ((6, 50), 90) := ⟨by decide, Or.inl (qz_in 672 (by decide +kernel) (by decide +kernel))⟩
theorem qz_ko77 : qz_KO ((6, 54), 94) := ⟨by decide, Or.inl (qz_in 676 (by decide +kernel) (by decide +kernel))⟩
theorem qz_ko78 : qz_KO ((6, 57), 96) := ⟨by decide, Or.inl (qz_in 660 (by decide +kernel) (by decide +kernel))⟩
theorem qz_ko79 : qz_KO ((6, 60), 87) := ⟨by decide, Or.inl (qz_in 634 (by decide +kernel) (by decide +kernel))⟩
theorem qz_ko80 : qz_KO ((6, 64), 97) := ⟨by decide, Or.inl (qz_in 652 (by decide +kernel) (by decide +kernel))⟩
theorem qz_ko81 : qz_KO ((6, 68), 95) := ⟨by decide, Or.inl (qz_in 668 (by decide +kernel) (by decide +kernel))⟩
theorem qz_ko82 : qz_KO ((6, 71), 98) := ⟨by decide, Or.inl (qz_in 679 (by decide +kernel) (by decide +kernel))⟩
theorem qz_ko83 : qz_KO ((6, 75), 101) := ⟨by decide, Or.inl (qz_in 727 (by decide +kernel) (by decide +kernel))⟩
theorem qz_ko84 : qz_KO ((6, 79), 99) := ⟨by decide, Or.inl (qz_in 648 (by decide +kernel) (by decide +kernel))⟩
theorem qz_ko85 : qz_KO ((6, 82), 86) := ⟨by decide, Or.inl (qz_in 683 (by decide +kernel) (by decide +kernel))⟩
theorem qz_ko86 : qz_KO ((6, 86), 100) := ⟨by decide, Or.inl (qz_in 719 (by decide +kernel) (by decide +kernel))⟩
theorem qz_ko87 : qz_KO ((6, 89), 102) := ⟨by decide, Or.inl (qz_in 723 (by decide +kernel) (by decide +kernel))⟩
theorem qz_ko88 : qz_KO ((6, 92), 105) := ⟨by decide, Or.inl (qz_in 747 (by decide +kernel) (by decide +kernel))⟩
theorem qz_ko89 : qz_KO ((6, 98), 107) := ⟨by decide, Or.inl (qz_in 782 (by decide +kernel) (by decide +kernel))⟩
theorem qz_ko90 : qz_KO ((6, 102), 108) := ⟨by decide, Or.inl (qz_in 786 (by decide +kernel) (by decide +kernel))⟩
theorem qz_ko91 : qz_KO ((6, 106), 109) := ⟨by decide, Or.inl (qz_in 778 (by decide +kernel) (by decide +kernel))⟩
theorem qz_ko92 : qz_KO ((6, 109), 93) := ⟨by decide, Or.inl (qz_in 626 (by decide +kernel) (by decide +kernel))⟩
theorem qz_ko93 : qz_KO ((6, 112), 88) := ⟨by decide, Or.inl (qz_in 638 (by decide +kernel) (by decide +kernel))⟩
theorem qz_ko94 : qz_KO ((6, 115), 89) := ⟨by decide, Or.inl (qz_in 641 (by decide +kernel) (by decide +kernel))⟩
theorem qz_ko95 : qz_KO ((6, 118), 113) := ⟨by decide, Or.inl (qz_in 644 (by decide +kernel) (by decide +kernel))⟩
theorem qz_ko96 : qz_KO ((6, 121), 129) := ⟨by decide, Or.inl (qz_in 691 (by decide +kernel) (by decide +kernel))⟩
theorem qz_ko97 : qz_KO ((6, 127), 92) := ⟨by decide, Or.inl (qz_in 711 (by decide +kernel) (by decide +kernel))⟩
theorem qz_ko98 : qz_KO ((6, 130), 103) := ⟨by decide, Or.inl (qz_in 715 (by decide +kernel) (by decide +kernel))⟩
theorem qz_ko99 : qz_KO ((6, 133), 104) := ⟨by decide, Or.inl (qz_in 731 (by decide +kernel) (by decide +kernel))⟩
theorem qz_ko100 : qz_KO ((6, 136), 106) := ⟨by decide, Or.inl (qz_in 743 (by decide +kernel) (by decide +kernel))⟩
theorem qz_ko101 : qz_KO ((6, 139), 118) := ⟨by decide, Or.inl (qz_in 751 (by decide +kernel) (by decide +kernel))⟩
theorem qz_ko102 : qz_KO ((6, 142), 121) := ⟨by decide, Or.inl (qz_in 763 (by decide +kernel) (by decide +kernel))⟩
theorem qz_ko103 : qz_KO ((6, 146), 110) := ⟨by decide, Or.inl (qz_in 770 (by decide +kernel) (by decide +kernel))⟩
theorem qz_ko104 : qz_KO ((6, 149), 111) := ⟨by decide, Or.inl (qz_in 774 (by decide +kernel) (by decide +kernel))⟩
theorem qz_ko105 : qz_KO ((6, 158), 126) := ⟨by decide, Or.inl (qz_in 699 (by decide +kernel) (by decide +kernel))⟩
theorem qz_ko106 : qz_KO ((6, 165), 127) := ⟨by decide, Or.inl (qz_in 703 (by decide +kernel) (by decide +kernel))⟩
theorem qz_ko107 : qz_KO ((6, 169), 128) := ⟨by decide, Or.inl (qz_in 695 (by decide +kernel) (by decide +kernel))⟩
theorem qz_ko108 : qz_KO ((6, 175), 134) := ⟨by decide, Or.inl (qz_in 818 (by decide +kernel) (by decide +kernel))⟩
theorem qz_ko109 : qz_KO ((6, 178), 140) := ⟨by decide, Or.inl (qz_in 842 (by decide +kernel) (by decide +kernel))⟩
theorem qz_ko110 : qz_KO ((8, 9), 55) := ⟨by decide, Or.inl (qz_in 57 (by decide +kernel) (by decide +kernel))⟩
theorem qz_ko111 : qz_KO ((8, 12), 83) := ⟨by decide, Or.inl (qz_in 568 (by decide +kernel) (by decide +kernel))⟩
theorem qz_ko112 : qz_KO ((8, 13), 56) := ⟨by decide, Or.inl (qz_in 243 (by decide +kernel) (by decide +kernel))⟩
theorem qz_ko113 : qz_KO ((8, 17), 112) := ⟨by decide, Or.inl (qz_in 619 (by decide +kernel) (by decide +kernel))⟩
theorem qz_ko114 : qz_KO ((8, 18), 57) := ⟨by decide, Or.inl (qz_in 270 (by decide +kernel) (by decide +kernel))⟩
theorem qz_ko115 : qz_KO ((8, 22), 114) := ⟨by decide, Or.inl (qz_in 630 (by decide +kernel) (by decide +kernel))⟩
theorem qz_ko116 : qz_KO ((8, 23), 58) := ⟨by decide, Or.inl (qz_in 345 (by decide +kernel) (by decide +kernel))⟩
theorem qz_ko117 : qz_KO ((8, 27), 115) := ⟨by decide, Or.inl (qz_in 687 (by decide +kernel) (by decide +kernel))⟩
theorem qz_ko118 : qz_KO ((8, 28), 59) := ⟨by decide, Or.inl (qz_in 368 (by decide +kernel) (by decide +kernel))⟩
theorem qz_ko119 : qz_KO ((8, 31), 116) := ⟨by decide, Or.inl (qz_in 707 (by decide +kernel) (by decide +kernel))⟩
theorem qz_ko120 : qz_KO ((8, 32), 60) := ⟨by decide, Or.inl (qz_in 404 (by decide +kernel) (by decide +kernel))⟩
theorem qz_ko121 : qz_KO ((8, 36), 117) := ⟨by decide, Or.inl (qz_in 735 (by decide +kernel) (by decide +kernel))⟩
theorem qz_ko122 : qz_KO ((8, 37), 61) := ⟨by decide, Or.inl (qz_in 408 (by decide +kernel) (by decide +kernel))⟩
theorem qz_ko123 : qz_KO ((8, 40), 119) := ⟨by decide, Or.inl (qz_in 739 (by decide +kernel) (by decide +kernel))⟩
theorem qz_ko124 : qz_KO ((8, 41), 62) := ⟨by decide, Or.inl (qz_in 432 (by decide +kernel) (by decide +kernel))⟩
theorem qz_ko125 : qz_KO ((8, 44), 120) := ⟨by decide, Or.inl (qz_in 755 (by decide +kernel) (by decide +kernel))⟩
theorem qz_ko126 : qz_KO ((8, 45), 63) := ⟨by decide, Or.inl (qz_in 437 (by decide +kernel) (by decide +kernel))⟩
theorem qz_ko127 : qz_KO ((8, 48), 122) := ⟨by decide, Or.inl (qz_in 759 (by decide +kernel) (by decide +kernel))⟩
theorem qz_ko128 : qz_KO ((8, 49), 64) := ⟨by decide, Or.inl (qz_in 453 (by decide +kernel) (by decide +kernel))⟩
theorem qz_ko129 : qz_KO ((8, 52), 123) := ⟨by decide, Or.inl (qz_in 766 (by decide +kernel) (by decide +kernel))⟩
theorem qz_ko130 : qz_KO ((8, 53), 65) := ⟨by decide, Or.inl (qz_in 481 (by decide +kernel) (by decide +kernel))⟩
theorem qz_ko131 : qz_KO ((8, 57), 124) := ⟨by decide, Or.inl (qz_in 790 (by decide +kernel) (by decide +kernel))⟩
theorem qz_ko132 : qz_KO ((8, 58), 66) := ⟨by decide, Or.inl (qz_in 489 (by decide +kernel) (by decide +kernel))⟩
theorem qz_ko133 : qz_KO ((8, 61), 125) := ⟨by decide, Or.inl (qz_in 794 (by decide +kernel) (by decide +kernel))⟩
theorem qz_ko134 : qz_KO ((8, 62), 67) := ⟨by decide, Or.inl (qz_in 493 (by decide +kernel) (by decide +kernel))⟩
theorem qz_ko135 : qz_KO ((8, 65), 130) := ⟨by decide, Or.inl (qz_in 798 (by decide +kernel) (by decide +kernel))⟩
theorem qz_ko136 : qz_KO ((8, 66), 68) := ⟨by decide, Or.inl (qz_in 501 (by decide +kernel) (by decide +kernel))⟩
theorem qz_ko137 : qz_KO ((8, 69), 131) := ⟨by decide, Or.inl (qz_in 802 (by decide +kernel) (by decide +kernel))⟩
theorem qz_ko138 : qz_KO ((8, 70), 69) := ⟨by decide, Or.inl (qz_in 506 (by decide +kernel) (by decide +kernel))⟩
theorem qz_ko139 : qz_KO ((8, 73), 132) := ⟨by decide, Or.inl (qz_in 806 (by decide +kernel) (by decide +kernel))⟩
theorem qz_ko140 : qz_KO ((8, 74), 70) := ⟨by decide, Or.inl (qz_in 510 (by decide +kernel) (by decide +kernel))⟩
theorem qz_ko141 : qz_KO ((8, 77), 133) := ⟨by decide, Or.inl (qz_in 810 (by decide +kernel) (by decide +kernel))⟩
theorem qz_ko142 : qz_KO ((8, 78), 71) := ⟨by decide, Or.inl (qz_in 520 (by decide +kernel) (by decide +kernel))⟩
theorem qz_ko143 : qz_KO ((8, 81), 135) := ⟨by decide, Or.inl (qz_in 814 (by decide +kernel) (by decide +kernel))⟩
theorem qz_ko144 : qz_KO ((8, 82), 72) := ⟨by decide, Or.inl (qz_in 534 (by decide +kernel) (by decide +kernel))⟩
theorem qz_ko145 : qz_KO ((8, 85), 136) := ⟨by decide, Or.inl (qz_in 822 (by decide +kernel) (by decide +kernel))⟩
theorem qz_ko146 : qz_KO ((8, 86), 73) := ⟨by decide, Or.inl (qz_in 538 (by decide +kernel) (by decide +kernel))⟩
theorem qz_ko147 : qz_KO ((8, 89), 137) := ⟨by decide, Or.inl (qz_in 826 (by decide +kernel) (by decide +kernel))⟩
theorem qz_ko148 : qz_KO ((8, 90), 74) := ⟨by decide, Or.inl (qz_in 542 (by decide +kernel) (by decide +kernel))⟩
theorem qz_ko149 : qz_KO ((8, 93), 138) := ⟨by decide, Or.inl (qz_in 830 (by decide +kernel) (by decide +kernel))⟩
theorem qz_ko150 : qz_KO ((8, 94), 75) := ⟨by decide, Or.inl (qz_in 546 (by decide +kernel) (by decide +kernel))⟩
theorem qz_ko151 : qz_KO ((8, 97), 139) := ⟨by decide, Or.inl (qz_in 834 (by decide +kernel) (by decide +kernel))⟩
theorem qz_ko152 : qz_KO ((8, 98), 76) := ⟨by decide, Or.inl (qz_in 558 (by decide +kernel) (by decide +kernel))⟩
theorem qz_ko153 : qz_KO ((8, 101), 141) := ⟨by decide, Or.inl (qz_in 838 (by decide +kernel) (by decide +kernel))⟩
set_option maxRecDepth 20000 in
theorem qz_clL_ok : ∀ e ∈ qz_clL, qz_KO e := List.forall_mem_cons.mpr ⟨qz_ko0, List.forall_mem_cons.mpr ⟨qz_ko1, List.forall_mem_cons.mpr ⟨qz_ko2, List.forall_mem_cons.mpr ⟨qz_ko3, List.forall_mem_cons.mpr ⟨qz_ko4, List.forall_mem_cons.mpr ⟨qz_ko5, List.forall_mem_cons.mpr ⟨qz_ko6, List.forall_mem_cons.mpr ⟨qz_ko7, List.forall_mem_cons.mpr ⟨qz_ko8, List.forall_mem_cons.mpr ⟨qz_ko9, List.forall_mem_cons.mpr ⟨qz_ko10, List.forall_mem_cons.mpr ⟨qz_ko11, List.forall_mem_cons.mpr ⟨qz_ko12, List.forall_mem_cons.mpr ⟨qz_ko13, List.forall_mem_cons.mpr ⟨qz_ko14, List.forall_mem_cons.mpr ⟨qz_ko15, List.forall_mem_cons.mpr ⟨qz_ko16, List.forall_mem_cons.mpr ⟨qz_ko17, List.forall_mem_cons.mpr ⟨qz_ko18, List.forall_mem_cons.mpr ⟨qz_ko19, List.forall_mem_cons.mpr ⟨qz_ko20, List.forall_mem_cons.mpr ⟨qz_ko21, List.forall_mem_cons.mpr ⟨qz_ko22, List.forall_mem_cons.mpr ⟨qz_ko23, List.forall_mem_cons.mpr ⟨qz_ko24, List.forall_mem_cons.mpr ⟨qz_ko25, List.forall_mem_cons.mpr ⟨qz_ko26, List.forall_mem_cons.mpr ⟨qz_ko27, List.forall_mem_cons.mpr ⟨qz_ko28, List.forall_mem_cons.mpr ⟨qz_ko29, List.forall_mem_cons.mpr ⟨qz_ko30, List.forall_mem_cons.mpr ⟨qz_ko31, List.forall_mem_cons.mpr ⟨qz_ko32, List.forall_mem_cons.mpr ⟨qz_ko33, List.forall_mem_cons.mpr ⟨qz_ko34, List.forall_mem_cons.mpr ⟨qz_ko35, List.forall_mem_cons.mpr ⟨qz_ko36, List.forall_mem_cons.mpr ⟨qz_ko37, List.forall_mem_cons.mpr ⟨qz_ko38, List.forall_mem_cons.mpr ⟨qz_ko39, List.forall_mem_cons.mpr ⟨qz_ko40, List.forall_mem_cons.mpr ⟨qz_ko41, List.forall_mem_cons.mpr ⟨qz_ko42, List.forall_mem_cons.mpr ⟨qz_ko43, List.forall_mem_cons.mpr ⟨qz_ko44, List.forall_mem_cons.mpr ⟨qz_ko45, List.forall_mem_cons.mpr ⟨qz_ko46, List.forall_mem_cons.mpr ⟨qz_ko47, List.forall_mem_cons.mpr ⟨qz_ko48, List.forall_mem_cons.mpr ⟨qz_ko49, List.forall_mem_cons.mpr ⟨qz_ko50, List.forall_mem_cons.mpr ⟨qz_ko51, List.forall_mem_cons.mpr ⟨qz_ko52, List.forall_mem_cons.mpr ⟨qz_ko53, List.forall_mem_cons.mpr ⟨qz_ko54, List.forall_mem_cons.mpr ⟨qz_ko55, List.forall_mem_cons.mpr ⟨qz_ko56, List.forall_mem_cons.mpr ⟨qz_ko57, List.forall_mem_cons.mpr ⟨qz_ko58, List.forall_mem_cons.mpr ⟨qz_ko59, List.forall_mem_cons.mpr ⟨qz_ko60, List.forall_mem_cons.mpr ⟨qz_ko61, List.forall_mem_cons.mpr ⟨qz_ko62, List.forall_mem_cons.mpr ⟨qz_ko63, List.forall_mem_cons.mpr ⟨qz_ko64, List.forall_mem_cons.mpr ⟨qz_ko65, List.forall_mem_cons.mpr ⟨qz_ko66, List.forall_mem_cons.mpr ⟨qz_ko67, List.forall_mem_cons.mpr ⟨qz_ko68, List.forall_mem_cons.mpr ⟨qz_ko69, List.forall_mem_cons.mpr ⟨qz_ko70, List.forall_mem_cons.mpr ⟨qz_ko71, List.forall_mem_cons.mpr ⟨qz_ko72, List.forall_mem_cons.mpr ⟨qz_ko73, List.forall_mem_cons.mpr ⟨qz_ko74, List.forall_mem_cons.mpr ⟨qz_ko75, List.forall_mem_cons.mpr ⟨qz_ko76, List.forall_mem_cons.mpr ⟨qz_ko77, List.forall_mem_cons.mpr ⟨qz_ko78, List.forall_mem_cons.mpr ⟨qz_ko79, List.forall_mem_cons.mpr ⟨qz_ko80, List.forall_mem_cons.mpr ⟨qz_ko81, List.forall_mem_cons.mpr ⟨qz_ko82, List.forall_mem_cons.mpr ⟨qz_ko83, List.forall_mem_cons.mpr ⟨qz_ko84, List.forall_mem_cons.mpr ⟨qz_ko85, List.forall_mem_cons.mpr ⟨qz_ko86, List.forall_mem_cons.mpr ⟨qz_ko87, List.forall_mem_cons.mpr ⟨qz_ko88, List.forall_mem_cons.mpr ⟨qz_ko89, List.forall_mem_cons.mpr ⟨qz_ko90, List.forall_mem_cons.mpr ⟨qz_ko91, List.forall_mem_cons.mpr ⟨qz_ko92, List.forall_mem_cons.mpr ⟨qz_ko93, List.forall_mem_cons.mpr ⟨qz_ko94, List.forall_mem_cons.mpr ⟨qz_ko95, List.forall_mem_cons.mpr ⟨qz_ko96, List.forall_mem_cons.mpr ⟨qz_ko97, List.forall_mem_cons.mpr ⟨qz_ko98, List.forall_mem_cons.mpr ⟨qz_ko99, List.forall_mem_cons.mpr ⟨qz_ko100, List.forall_mem_cons.mpr ⟨qz_ko101, List.forall_mem_cons.mpr ⟨qz_ko102, List.forall_mem_cons.mpr ⟨qz_ko103, List.forall_mem_cons.mpr ⟨qz_ko104, List.forall_mem_cons.mpr ⟨qz_ko105, List.forall_mem_cons.mpr ⟨qz_ko106, List.forall_mem_cons.mpr ⟨qz_ko107, List.forall_mem_cons.mpr ⟨qz_ko108, List.forall_mem_cons.mpr ⟨qz_ko109, List.forall_mem_cons.mpr ⟨qz_ko110, List.forall_mem_cons.mpr ⟨qz_ko111, List.forall_mem_cons.mpr ⟨qz_ko112, List.forall_mem_cons.mpr ⟨qz_ko113, List.forall_mem_cons.mpr ⟨qz_ko114, List.forall_mem_cons.mpr ⟨qz_ko115, List.forall_mem_cons.mpr ⟨qz_ko116, List.forall_mem_cons.mpr ⟨qz_ko117, List.forall_mem_cons.mpr ⟨qz_ko118, List.forall_mem_cons.mpr ⟨qz_ko119, List.forall_mem_cons.mpr ⟨qz_ko120, List.forall_mem_cons.mpr ⟨qz_ko121, List.forall_mem_cons.mpr ⟨qz_ko122, List.forall_mem_cons.mpr ⟨qz_ko123, List.forall_mem_cons.mpr ⟨qz_ko124, List.forall_mem_cons.mpr ⟨qz_ko125, List.forall_mem_cons.mpr ⟨qz_ko126, List.forall_mem_cons.mpr ⟨qz_ko127, List.forall_mem_cons.mpr ⟨qz_ko128, List.forall_mem_cons.mpr ⟨qz_ko129, List.forall_mem_cons.mpr ⟨qz_ko130, List.forall_mem_cons.mpr ⟨qz_ko131, List.forall_mem_cons.mpr ⟨qz_ko132, List.forall_mem_cons.mpr ⟨qz_ko133, List.forall_mem_cons.mpr ⟨qz_ko134, List.forall_mem_cons.mpr ⟨qz_ko135, List.forall_mem_cons.mpr ⟨qz_ko136, List.forall_mem_cons.mpr ⟨qz_ko137, List.forall_mem_cons.mpr ⟨qz_ko138, List.forall_mem_cons.mpr ⟨qz_ko139, List.forall_mem_cons.mpr ⟨qz_ko140, List.forall_mem_cons.mpr ⟨qz_ko141, List.forall_mem_cons.mpr ⟨qz_ko142, List.forall_mem_cons.mpr ⟨qz_ko143, List.forall_mem_cons.mpr ⟨qz_ko144, List.forall_mem_cons.mpr ⟨qz_ko145, List.forall_mem_cons.mpr ⟨qz_ko146, List.forall_mem_cons.mpr ⟨qz_ko147, List.forall_mem_cons.mpr ⟨qz_ko148, List.forall_mem_cons.mpr ⟨qz_ko149, List.forall_mem_cons.mpr ⟨qz_ko150, List.forall_mem_cons.mpr ⟨qz_ko151, List.forall_mem_cons.mpr ⟨qz_ko152, List.forall_mem_cons.mpr ⟨qz_ko153, fun _ h => absurd h List.not_mem_nil⟩⟩⟩⟩⟩⟩⟩⟩⟩⟩⟩⟩⟩⟩⟩⟩⟩⟩⟩⟩⟩⟩⟩⟩⟩⟩⟩⟩⟩⟩⟩⟩⟩⟩⟩⟩⟩⟩⟩⟩⟩⟩⟩⟩⟩⟩⟩⟩⟩⟩⟩⟩⟩⟩⟩⟩⟩⟩⟩⟩⟩⟩⟩⟩⟩⟩⟩⟩⟩⟩⟩⟩⟩⟩⟩⟩⟩⟩⟩⟩⟩⟩⟩⟩⟩⟩⟩⟩⟩⟩⟩⟩⟩⟩⟩⟩⟩⟩⟩⟩⟩⟩⟩⟩⟩⟩⟩⟩⟩⟩⟩⟩⟩⟩⟩⟩⟩⟩⟩⟩⟩⟩⟩⟩⟩⟩⟩⟩⟩⟩⟩⟩⟩⟩⟩⟩⟩⟩⟩⟩⟩⟩⟩⟩⟩⟩⟩⟩⟩⟩⟩⟩⟩⟩
theorem qz_cl_ok {c i x : Nat} (h : qz_cl c i = some x) : qz_KO ((c, i), x) := qz_fm qz_clL_ok (qz_lk h)
theorem qz_c_0_35 : qz_cl 0 35 = some 1 := by decide +kernel
theorem qz_c_1_28 : qz_cl 1 28 = some 17 := by decide +kernel
theorem qz_c_1_29 : qz_cl 1 29 = some 11 := by decide +kernel
theorem qz_c_1_33 : qz_cl 1 33 = some 12 := by decide +kernel
theorem qz_c_2_21 : qz_cl 2 21 = some 18 := by decide +kernel
theorem qz_c_2_22 : qz_cl 2 22 = some 15 := by decide +kernel
theorem qz_c_2_25 : qz_cl 2 25 = some 19 := by decide +kernel
theorem qz_c_4_55 : qz_cl 4 55 = some 0 := by decide +kernel
theorem qz_c_4_56 : qz_cl 4 56 = some 20 := by decide +kernel
theorem qz_c_4_60 : qz_cl 4 60 = some 7 := by decide +kernel
theorem qz_c_4_64 : qz_cl 4 64 = some 25 := by decide +kernel
theorem qz_c_4_68 : qz_cl 4 68 = some 28 := by decide +kernel
theorem qz_c_4_71 : qz_cl 4 71 = some 26 := by decide +kernel
theorem qz_c_4_75 : qz_cl 4 75 = some 1 := by decide +kernel
theorem qz_c_4_82 : qz_cl 4 82 = some 33 := by decide +kernel
theorem qz_c_4_99 : qz_cl 4 99 = some 2 := by decide +kernel
theorem qz_c_4_102 : qz_cl 4 102 = some 23 := by decide +kernel
theorem qz_c_4_106 : qz_cl 4 106 = some 38 := by decide +kernel
theorem qz_c_4_110 : qz_cl 4 110 = some 45 := by decide +kernel
theorem qz_c_4_114 : qz_cl 4 114 = some 21 := by decide +kernel
theorem qz_c_4_117 : qz_cl 4 117 = some 41 := by decide +kernel
theorem qz_c_4_120 : qz_cl 4 120 = some 44 := by decide +kernel
theorem qz_c_4_124 : qz_cl 4 124 = some 35 := by decide +kernel
theorem qz_c_4_128 : qz_cl 4 128 = some 36 := by decide +kernel
theorem qz_c_4_132 : qz_cl 4 132 = some 77 := by decide +kernel
theorem qz_c_4_135 : qz_cl 4 135 = some 37 := by decide +kernel
theorem qz_c_4_143 : qz_cl 4 143 = some 43 := by decide +kernel
theorem qz_c_4_147 : qz_cl 4 147 = some 3 := by decide +kernel
theorem qz_c_4_150 : qz_cl 4 150 = some 4 := by decide +kernel
theorem qz_c_4_156 : qz_cl 4 156 = some 49 := by decide +kernel
theorem qz_c_4_159 : qz_cl 4 159 = some 5 := by decide +kernel
theorem qz_c_4_163 : qz_cl 4 163 = some 50 := by decide +kernel
theorem qz_c_4_167 : qz_cl 4 167 = some 51 := by decide +kernel
theorem qz_c_4_170 : qz_cl 4 170 = some 54 := by decide +kernel
theorem qz_c_5_9 : qz_cl 5 9 = some 18 := by decide +kernel
theorem qz_c_5_18 : qz_cl 5 18 = some 8 := by decide +kernel
theorem qz_c_5_25 : qz_cl 5 25 = some 13 := by decide +kernel
theorem qz_c_5_41 : qz_cl 5 41 = some 14 := by decide +kernel
theorem qz_c_5_45 : qz_cl 5 45 = some 24 := by decide +kernel
theorem qz_c_5_49 : qz_cl 5 49 = some 23 := by decide +kernel
theorem qz_c_5_53 : qz_cl 5 53 = some 77 := by decide +kernel
theorem qz_c_5_56 : qz_cl 5 56 = some 78 := by decide +kernel
theorem qz_c_5_59 : qz_cl 5 59 = some 31 := by decide +kernel
theorem qz_c_5_63 : qz_cl 5 63 = some 30 := by decide +kernel
theorem qz_c_5_67 : qz_cl 5 67 = some 10 := by decide +kernel
theorem qz_c_5_70 : qz_cl 5 70 = some 81 := by decide +kernel
theorem qz_c_5_77 : qz_cl 5 77 = some 82 := by decide +kernel
theorem qz_c_5_80 : qz_cl 5 80 = some 29 := by decide +kernel
theorem qz_c_5_84 : qz_cl 5 84 = some 6 := by decide +kernel
theorem qz_c_5_89 : qz_cl 5 89 = some 34 := by decide +kernel
theorem qz_c_5_92 : qz_cl 5 92 = some 32 := by decide +kernel
theorem qz_c_5_101 : qz_cl 5 101 = some 80 := by decide +kernel
theorem qz_c_5_104 : qz_cl 5 104 = some 39 := by decide +kernel
theorem qz_c_5_108 : qz_cl 5 108 = some 41 := by decide +kernel
theorem qz_c_5_112 : qz_cl 5 112 = some 38 := by decide +kernel
theorem qz_c_5_115 : qz_cl 5 115 = some 79 := by decide +kernel
theorem qz_c_5_119 : qz_cl 5 119 = some 21 := by decide +kernel
theorem qz_c_5_122 : qz_cl 5 122 = some 22 := by decide +kernel
theorem qz_c_5_129 : qz_cl 5 129 = some 52 := by decide +kernel
theorem qz_c_5_132 : qz_cl 5 132 = some 53 := by decide +kernel
theorem qz_c_5_141 : qz_cl 5 141 = some 9 := by decide +kernel
theorem qz_c_5_148 : qz_cl 5 148 = some 16 := by decide +kernel
theorem qz_c_5_151 : qz_cl 5 151 = some 19 := by decide +kernel
theorem qz_c_5_160 : qz_cl 5 160 = some 42 := by decide +kernel
theorem qz_c_5_164 : qz_cl 5 164 = some 43 := by decide +kernel
theorem qz_c_5_167 : qz_cl 5 167 = some 33 := by decide +kernel
theorem qz_c_5_178 : qz_cl 5 178 = some 45 := by decide +kernel
theorem qz_c_5_182 : qz_cl 5 182 = some 46 := by decide +kernel
theorem qz_c_5_185 : qz_cl 5 185 = some 47 := by decide +kernel
theorem qz_c_5_188 : qz_cl 5 188 = some 51 := by decide +kernel
theorem qz_c_5_191 : qz_cl 5 191 = some 27 := by decide +kernel
theorem qz_c_5_194 : qz_cl 5 194 = some 40 := by decide +kernel
theorem qz_c_5_215 : qz_cl 5 215 = some 48 := by decide +kernel
theorem qz_c_6_36 : qz_cl 6 36 = some 84 := by decide +kernel
theorem qz_c_6_40 : qz_cl 6 40 = some 85 := by decide +kernel
theorem qz_c_6_47 : qz_cl 6 47 = some 91 := by decide +kernel
theorem qz_c_6_50 : qz_cl 6 50 = some 90 := by decide +kernel
theorem qz_c_6_54 : qz_cl 6 54 = some 94 := by decide +kernel
theorem qz_c_6_57 : qz_cl 6 57 = some 96 := by decide +kernel
theorem qz_c_6_60 : qz_cl 6 60 = some 87 := by decide +kernel
theorem qz_c_6_64 : qz_cl 6 64 = some 97 := by decide +kernel
theorem qz_c_6_68 : qz_cl 6 68 = some 95 := by decide +kernel
theorem qz_c_6_71 : qz_cl 6 71 = some 98 := by decide +kernel
theorem qz_c_6_75 : qz_cl 6 75 = some 101 := by decide +kernel
theorem qz_c_6_79 : qz_cl 6 79 = some 99 := by decide +kernel
theorem qz_c_6_82 : qz_cl 6 82 = some 86 := by decide +kernel
theorem qz_c_6_86 : qz_cl 6 86 = some 100 := by decide +kernel
theorem qz_c_6_89 : qz_cl 6 89 = some 102 := by decide +kernel
theorem qz_c_6_92 : qz_cl 6 92 = some 105 := by decide +kernel
theorem qz_c_6_98 : qz_cl 6 98 = some 107 := by decide +kernel
theorem qz_c_6_102 : qz_cl 6 102 = some 108 := by decide +kernel
theorem qz_c_6_106 : qz_cl 6 106 = some 109 := by decide +kernel
theorem qz_c_6_109 : qz_cl 6 109 = some 93 := by decide +kernel
theorem qz_c_6_112 : qz_cl 6 112 = some 88 := by decide +kernel
theorem qz_c_6_115 : qz_cl 6 115 = some 89 := by decide +kernel
theorem qz_c_6_118 : qz_cl 6 118 = some 113 := by decide +kernel
theorem qz_c_6_121 : qz_cl 6 121 = some 129 := by decide +kernel
theorem qz_c_6_127 : qz_cl 6 127 = some 92 := by decide +kernel
theorem qz_c_6_130 : qz_cl 6 130 = some 103 := by decide +kernel
theorem qz_c_6_133 : qz_cl 6 133 = some 104 := by decide +kernel
theorem qz_c_6_136 : qz_cl 6 136 = some 106 := by decide +kernel
theorem qz_c_6_139 : qz_cl 6 139 = some 118 := by decide +kernel
theorem qz_c_6_142 : qz_cl 6 142 = some 121 := by decide +kernel
theorem qz_c_6_146 : qz_cl 6 146 = some 110 := by decide +kernel
theorem qz_c_6_149 : qz_cl 6 149 = some 111 := by decide +kernel
theorem qz_c_6_158 : qz_cl 6 158 = some 126 := by decide +kernel
theorem qz_c_6_165 : qz_cl 6 165 = some 127 := by decide +kernel
theorem qz_c_6_169 : qz_cl 6 169 = some 128 := by decide +kernel
theorem qz_c_6_175 : qz_cl 6 175 = some 134 := by decide +kernel
theorem qz_c_6_178 : qz_cl 6 178 = some 140 := by decide +kernel
theorem qz_c_8_9 : qz_cl 8 9 = some 55 := by decide +kernel
theorem qz_c_8_12 : qz_cl 8 12 = some 83 := by decide +kernel
theorem qz_c_8_13 : qz_cl 8 13 = some 56 := by decide +kernel
theorem qz_c_8_17 : qz_cl 8 17 = some 112 := by decide +kernel
theorem qz_c_8_18 : qz_cl 8 18 = some 57 := by decide +kernel
theorem qz_c_8_22 : qz_cl 8 22 = some 114 := by decide +kernel
theorem qz_c_8_23 : qz_cl 8 23 = some 58 := by decide +kernel
theorem qz_c_8_27 : qz_cl 8 27 = some 115 := by decide +kernel
theorem qz_c_8_28 : qz_cl 8 28 = some 59 := by decide +kernel
theorem qz_c_8_31 : qz_cl 8 31 = some 116 := by decide +kernel
theorem qz_c_8_32 : qz_cl 8 32 = some 60 := by decide +kernel
theorem qz_c_8_36 : qz_cl 8 36 = some 117 := by decide +kernel
theorem qz_c_8_37 : qz_cl 8 37 = some 61 := by decide +kernel
theorem qz_c_8_40 : qz_cl 8 40 = some 119 := by decide +kernel
theorem qz_c_8_41 : qz_cl 8 41 = some 62 := by decide +kernel
theorem qz_c_8_44 : qz_cl 8 44 = some 120 := by decide +kernel
theorem qz_c_8_45 : qz_cl 8 45 = some 63 := by decide +kernel
theorem qz_c_8_48 : qz_cl 8 48 = some 122 := by decide +kernel
theorem qz_c_8_49 : qz_cl 8 49 = some 64 := by decide +kernel
theorem qz_c_8_52 : qz_cl 8 52 = some 123 := by decide +kernel
theorem qz_c_8_53 : qz_cl 8 53 = some 65 := by decide +kernel
theorem qz_c_8_57 : qz_cl 8 57 = some 124 := by decide +kernel
theorem qz_c_8_58 : qz_cl 8 58 = some 66 := by decide +kernel
theorem qz_c_8_61 : qz_cl 8 61 = some 125 := by decide +kernel
theorem qz_c_8_62 : qz_cl 8 62 = some 67 := by decide +kernel
theorem qz_c_8_65 : qz_cl 8 65 = some 130 := by decide +kernel
theorem qz_c_8_66 : qz_cl 8 66 = some 68 := by decide +kernel
theorem qz_c_8_69 : qz_cl 8 69 = some 131 := by decide +kernel
theorem qz_c_8_70 : qz_cl 8 70 = some 69 := by decide +kernel
theorem qz_c_8_73 : qz_cl 8 73 = some 132 := by decide +kernel
theorem qz_c_8_74 : qz_cl 8 74 = some 70 := by decide +kernel
theorem qz_c_8_77 : qz_cl 8 77 = some 133 := by decide +kernel
theorem qz_c_8_78 : qz_cl 8 78 = some 71 := by decide +kernel
theorem qz_c_8_81 : qz_cl 8 81 = some 135 := by decide +kernel
theorem qz_c_8_82 : qz_cl 8 82 = some 72 := by decide +kernel
theorem qz_c_8_85 : qz_cl 8 85 = some 136 := by decide +kernel
theorem qz_c_8_86 : qz_cl 8 86 = some 73 := by decide +kernel
theorem qz_c_8_89 : qz_cl 8 89 = some 137 := by decide +kernel
theorem qz_c_8_90 : qz_cl 8 90 = some 74 := by decide +kernel
theorem qz_c_8_93 : qz_cl 8 93 = some 138 := by decide +kernel
theorem qz_c_8_94 : qz_cl 8 94 = some 75 := by decide +kernel
theorem qz_c_8_97 : qz_cl 8 97 = some 139 := by decide +kernel
theorem qz_c_8_98 : qz_cl 8 98 = some 76 := by decide +kernel
theorem qz_c_8_101 : qz_cl 8 101 = some 141 := by decide +kernel
/-- the links to Object() -/
def qz_obL : List (Nat × Nat) := [(0, 1), (1, 3), (2, 3), (3, 1), (4, 3), (5, 1), (6, 1)]
def qz_ob (c i : Nat) : Bool := qz_obL.contains (c, i)
def qz_BO (e : Nat × Nat) : Prop := Cond.methodLink (qz_ow e.1) e.2 objectInit ∈ qz_tb
theorem qz_bo0 : qz_BO (0, 1) := qz_in 77 (by decide +kernel) (by decide +kernel)
theorem qz_bo1 : qz_BO (1, 3) := qz_in 169 (by decide +kernel) (by decide +kernel)
theorem qz_bo2 : qz_BO (2, 3) := qz_in 215 (by decide +kernel) (by decide +kernel)
theorem qz_bo3 : qz_BO (3, 1) := qz_in 176 (by decide +kernel) (by decide +kernel)
theorem qz_bo4 : qz_BO (4, 3) := qz_in 68 (by decide +kernel) (by decide +kernel)
theorem qz_bo5 : qz_BO (5, 1) := qz_in 60 (by decide +kernel) (by decide +kernel)
theorem qz_bo6 : qz_BO (6, 1) := qz_in 571 (by decide +kernel) (by decide +kernel)
set_option maxRecDepth 20000 in
theorem qz_obL_ok : ∀ e ∈ qz_obL, qz_BO e := List.forall_mem_cons.mpr ⟨qz_bo0, List.forall_mem_cons.mpr ⟨qz_bo1, List.forall_mem_cons.mpr ⟨qz_bo2, List.forall_mem_cons.mpr ⟨qz_bo3, List.forall_mem_cons.mpr ⟨qz_bo4, List.forall_mem_cons.mpr ⟨qz_bo5, List.forall_mem_cons.mpr ⟨qz_bo6, fun _ h => absurd h List.not_mem_nil⟩⟩⟩⟩⟩⟩⟩
theorem qz_ob_ok {c i : Nat} (h : qz_ob c i = true) : qz_BO (c, i) := qz_fm qz_obL_ok (by simpa [qz_ob, List.contains_iff_mem] using h)
def qz_mtL : List ((Nat × Nat) × Nat) := [((4, 138), 0), ((4, 153), 1)]
def qz_mt (c i : Nat) : Option Nat := qz_mtL.lookup (c, i)
def qz_TO (e : (Nat × Nat) × Nat) : Prop := (e.2 = 0 ∧ Cond.methodLink (qz_ow e.1.1) e.1.2 Lib.Math.max.name ∈ qz_tb) ∨ (e.2 = 1 ∧ Cond.methodLink (qz_ow e.1.1) e.1.2 Lib.Math.abs.name ∈ qz_tb)
theorem qz_to0 : qz_TO ((4, 138), 0) := Or.inl ⟨rfl, qz_in 334 (by decide +kernel) (by decide +kernel)⟩
theorem qz_to1 : qz_TO ((4, 153), 1) := Or.inr ⟨rfl, qz_in 420 (by decide +kernel) (by decide +kernel)⟩
set_option maxRecDepth 20000 in
theorem qz_mtL_ok : ∀ e ∈ qz_mtL, qz_TO e := List.forall_mem_cons.mpr ⟨qz_to0, List.forall_mem_cons.mpr ⟨qz_to1, fun _ h => absurd h List.not_mem_nil⟩⟩
theorem qz_mt_ok {c i x : Nat} (h : qz_mt c i = some x) : qz_TO ((c, i), x) := qz_fm qz_mtL_ok (qz_lk h)
theorem qz_m_4_138 : qz_mt 4 138 = some 0 := by decide +kernel
theorem qz_m_4_153 : qz_mt 4 153 = some 1 := by decide +kernel
theorem qz_mw_max : Cond.static Lib.Math.max.name ∈ qz_tb ∧ Cond.initialized "java/lang/Math" ∈ qz_tb ∧ Cond.code Lib.Math.max.name Lib.Math.max.code 2 (some .int) ∈ qz_tb := ⟨qz_in 335 (by decide +kernel) (by decide +kernel), qz_in 54 (by decide +kernel) (by decide +kernel), qz_in 336 (by decide +kernel) (by decide +kernel)⟩
theorem qz_mw_abs : Cond.static Lib.Math.abs.name ∈ qz_tb ∧ Cond.initialized "java/lang/Math" ∈ qz_tb ∧ Cond.code Lib.Math.abs.name Lib.Math.abs.code 1 (some .int) ∈ qz_tb := ⟨qz_in 421 (by decide +kernel) (by decide +kernel), qz_in 54 (by decide +kernel) (by decide +kernel), qz_in 422 (by decide +kernel) (by decide +kernel)⟩
theorem qz_oi : Cond.instanceMethod objectInit ∈ qz_tb := qz_in 61 (by decide +kernel) (by decide +kernel)
theorem qz_oc : Cond.code objectInit ⟨#[0xb1]⟩ 1 none ∈ qz_tb := qz_in 62 (by decide +kernel) (by decide +kernel)
theorem qz_ac_int : Cond.arrayClass .int ∈ qz_tb := qz_in 118 (by decide +kernel) (by decide +kernel)
theorem qz_ac_char : Cond.arrayClass .char ∈ qz_tb := qz_in 193 (by decide +kernel) (by decide +kernel)
theorem qz_ac_boolean : Cond.arrayClass .boolean ∈ qz_tb := qz_in 618 (by decide +kernel) (by decide +kernel)
theorem qz_ao_Booking : lw_tbl[72]? = some (Cond.arrayOver (.object "ShiftBuses$Booking")) := by decide +kernel
theorem qz_ao_Wish : lw_tbl[171]? = some (Cond.arrayOver (.object "ShiftBuses$Wish")) := by decide +kernel
theorem qz_ao_Works : lw_tbl[217]? = some (Cond.arrayOver (.object "ShiftBuses$Works")) := by decide +kernel
theorem qz_nl_1_28 : lw_tbl[173]? = some (Cond.methodLinkNest (qz_ow 1) 28 (qz_y 17) "ShiftBuses") := by decide +kernel
theorem qz_nl_4_55 : lw_tbl[74]? = some (Cond.methodLinkNest (qz_ow 4) 55 (qz_y 0) "ShiftBuses") := by decide +kernel
theorem qz_nl_4_132 : lw_tbl[308]? = some (Cond.methodLinkNest (qz_ow 4) 132 (qz_y 77) "ShiftBuses") := by decide +kernel
theorem qz_nf_4_22 : lw_tbl[69]? = some (Cond.fieldLinkNest (qz_ow 4) 22 RX5 (qz_sn 30) "[I" "ShiftBuses") := by decide +kernel
theorem qz_sf_5_208 : Cond.fieldLink (qz_ow 5) 208 RX5 (qz_sn 31) "[I" ∈ qz_tb := qz_in 444 (by decide +kernel) (by decide +kernel)
theorem qz_sf_5_212 : Cond.fieldLink (qz_ow 5) 212 RX5 (qz_sn 32) "[I" ∈ qz_tb := qz_in 446 (by decide +kernel) (by decide +kernel)
theorem qz_ls_30 : lw_tbl[70]? = some (Cond.laysStatic RX5 (qz_sn 30) "[I") := by decide +kernel
theorem qz_ls_31 : lw_tbl[445]? = some (Cond.laysStatic RX5 (qz_sn 31) "[I") := by decide +kernel
theorem qz_ls_32 : lw_tbl[447]? = some (Cond.laysStatic RX5 (qz_sn 32) "[I") := by decide +kernel
