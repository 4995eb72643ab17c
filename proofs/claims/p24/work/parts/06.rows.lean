/-! one step of the interpreter is a step of the machine -/
section QZR
variable {p : Program} {l : Launch} {e : Env} {R : Room} {s : State} {m : MethodId} {args : Array Value} {below : List Frame} {meth : Method} {c : Code} {Q : State → Prop}
variable {z : Nat} {tA : Nat → Nat} {D : va_G} {cy : Nat → ClassId} {k : Nat}
variable {ce sl pc : Nat} {ls : List (Option qz_V)} {st : List qz_V} {M : qz_M}
def qz_Cx (p : Program) (s : State) (m : MethodId) (args : Array Value) (meth : Method) (c : Code) (z : Nat) (tA : Nat → Nat) (D : va_G) (cy : Nat → ClassId) (k : Nat) : Prop :=
  p.tables.exec = Jvm.exec ∧ c.code = qz_b k ∧ c.maxLocals = qz_ml k ∧ s.vm.findClass (qz_ow (qz_cn k)) = some m.cls ∧ (∀ w ∈ qz_tb, w.before args s = true) ∧ (qz_ini k = true → meth.name = "<init>") ∧ qz_Kx z tA D cy s ∧ z ≤ s.heap.size
def qz_W (p : Program) (l : Launch) (e : Env) (R : Room) (s : State) (m : MethodId) (args : Array Value) (below : List Frame) (meth : Method) (c : Code) (z : Nat) (tA : Nat → Nat) (D : va_G) (cy : Nat → ClassId) (k : Nat) (Q : State → Prop) (ce sl pc : Nat) (ls : List (Option qz_V)) (st : List qz_V) (M : qz_M) : Prop :=
  ∀ (H : Heap) (locs : List Loc) (lsm : Array Slot), qz_L z tA (qz_ml k) ls lsm → qz_P z tA D cy M H → va_S (qz_A z) s.heap H locs → qz_St z tA M.2.1 s → W p l e R s m args below meth c H locs ce sl Q (F0 m pc lsm (st.map (qz_tv z tA)))
theorem qz_r_iconst (hC : qz_Cx p s m args meth c z tA D cy k) {i : Int} (hd : decode (qz_b k) pc = .ok (.iconst i, 1)) (kk : qz_W p l e R s m args below meth c z tA D cy k Q ce sl (pc + 1) ls (.inl (Int32.ofInt i) :: st) M) : qz_W p l e R s m args below meth c z tA D cy k Q ce sl pc ls st M := fun H locs lsm hL hP hS hT => lv_iconst hC.1 hC.2.1 hd rfl (kk H locs lsm hL hP hS hT)
theorem qz_r_bipush (hC : qz_Cx p s m args meth c z tA D cy k) {i : Int} (hd : decode (qz_b k) pc = .ok (.bipush i, 2)) (kk : qz_W p l e R s m args below meth c z tA D cy k Q ce sl (pc + 2) ls (.inl (Int8.ofInt i).toInt32 :: st) M) : qz_W p l e R s m args below meth c z tA D cy k Q ce sl pc ls st M := fun H locs lsm hL hP hS hT => lv_bipush hC.1 hC.2.1 hd rfl (kk H locs lsm hL hP hS hT)
theorem qz_r_sipush (hC : qz_Cx p s m args meth c z tA D cy k) {i : Int} (hd : decode (qz_b k) pc = .ok (.sipush i, 3)) (kk : qz_W p l e R s m args below meth c z tA D cy k Q ce sl (pc + 3) ls (.inl (Int16.ofInt i).toInt32 :: st) M) : qz_W p l e R s m args below meth c z tA D cy k Q ce sl pc ls st M := fun H locs lsm hL hP hS hT => lv_sipush hC.1 hC.2.1 hd rfl (kk H locs lsm hL hP hS hT)
theorem qz_r_null (hC : qz_Cx p s m args meth c z tA D cy k) (hd : decode (qz_b k) pc = .ok (.aconst_null, 1)) (kk : qz_W p l e R s m args below meth c z tA D cy k Q ce sl (pc + 1) ls (.inr (.inl none) :: st) M) : qz_W p l e R s m args below meth c z tA D cy k Q ce sl pc ls st M := fun H locs lsm hL hP hS hT => lv_null hC.1 hC.2.1 hd (kk H locs lsm hL hP hS hT)
theorem qz_r_iload (hC : qz_Cx p s m args meth c z tA D cy k) {i : Nat} {x : Int32} (hd : decode (qz_b k) pc = .ok (.iload i, 2)) (hx : ls[i]? = some (some (.inl x))) (kk : qz_W p l e R s m args below meth c z tA D cy k Q ce sl (pc + 2) ls (.inl x :: st) M) : qz_W p l e R s m args below meth c z tA D cy k Q ce sl pc ls st M := fun H locs lsm hL hP hS hT => lv_iload hC.1 hC.2.1 hd (hL.at' hx rfl) (kk H locs lsm hL hP hS hT)
theorem qz_r_iload_n (hC : qz_Cx p s m args meth c z tA D cy k) {i : Fin 4} {x : Int32} (hd : decode (qz_b k) pc = .ok (.iload_n i, 1)) (hx : ls[i.val]? = some (some (.inl x))) (kk : qz_W p l e R s m args below meth c z tA D cy k Q ce sl (pc + 1) ls (.inl x :: st) M) : qz_W p l e R s m args below meth c z tA D cy k Q ce sl pc ls st M := fun H locs lsm hL hP hS hT => lv_iload_n hC.1 hC.2.1 hd rfl (hL.at' hx rfl) (kk H locs lsm hL hP hS hT)
theorem qz_r_aload (hC : qz_Cx p s m args meth c z tA D cy k) {i : Nat} {x : Option qz_N} (hd : decode (qz_b k) pc = .ok (.aload i, 2)) (hx : ls[i]? = some (some (.inr (.inl x)))) (kk : qz_W p l e R s m args below meth c z tA D cy k Q ce sl (pc + 2) ls (.inr (.inl x) :: st) M) : qz_W p l e R s m args below meth c z tA D cy k Q ce sl pc ls st M := by
  intro H locs lsm hL hP hS hT
  have h := hL.at' hx rfl
  have k1 := kk H locs lsm hL hP hS hT
  cases x with
  | none => exact lv_aloadN hC.1 hC.2.1 hd h k1
  | some n => exact lv_aload hC.1 hC.2.1 hd h k1
theorem qz_r_aload_n (hC : qz_Cx p s m args meth c z tA D cy k) {i : Fin 4} {x : Option qz_N} (hd : decode (qz_b k) pc = .ok (.aload_n i, 1)) (hx : ls[i.val]? = some (some (.inr (.inl x)))) (kk : qz_W p l e R s m args below meth c z tA D cy k Q ce sl (pc + 1) ls (.inr (.inl x) :: st) M) : qz_W p l e R s m args below meth c z tA D cy k Q ce sl pc ls st M := by
  intro H locs lsm hL hP hS hT
  have h := hL.at' hx rfl
  have k1 := kk H locs lsm hL hP hS hT
  cases x with
  | none => exact lv_aload_nN hC.1 hC.2.1 hd rfl h k1
  | some n => exact lv_aload_n hC.1 hC.2.1 hd rfl h k1
theorem qz_r_istore (hC : qz_Cx p s m args meth c z tA D cy k) {i : Nat} {x : Int32} (hd : decode (qz_b k) pc = .ok (.istore i, 2)) (hi : i < qz_ml k) (hg : qz_g2 (qz_ml k) ls i = true) (kk : qz_W p l e R s m args below meth c z tA D cy k Q ce sl (pc + 2) (ls.set i (some (.inl x))) st M) : qz_W p l e R s m args below meth c z tA D cy k Q ce sl pc ls (.inl x :: st) M := fun H locs lsm hL hP hS hT =>
  lv_istore hC.1 hC.2.1 hd hL.has hi rfl (fun lsm' h' => kk H locs lsm' (hL.set (v := .inl x) hi hg rfl h') hP hS hT)
theorem qz_r_istore_n (hC : qz_Cx p s m args meth c z tA D cy k) {i : Fin 4} {x : Int32} (hd : decode (qz_b k) pc = .ok (.istore_n i, 1)) (hi : i.val < qz_ml k) (hg : qz_g2 (qz_ml k) ls i.val = true) (kk : qz_W p l e R s m args below meth c z tA D cy k Q ce sl (pc + 1) (ls.set i.val (some (.inl x))) st M) : qz_W p l e R s m args below meth c z tA D cy k Q ce sl pc ls (.inl x :: st) M := fun H locs lsm hL hP hS hT =>
  lv_istore_n hC.1 hC.2.1 hd rfl hL.has hi rfl (fun lsm' h' => kk H locs lsm' (hL.set (v := .inl x) hi hg rfl h') hP hS hT)
theorem qz_r_astore (hC : qz_Cx p s m args meth c z tA D cy k) {i : Nat} {x : Option qz_N} (hd : decode (qz_b k) pc = .ok (.astore i, 2)) (hi : i < qz_ml k) (hg : qz_g2 (qz_ml k) ls i = true) (kk : qz_W p l e R s m args below meth c z tA D cy k Q ce sl (pc + 2) (ls.set i (some (.inr (.inl x)))) st M) : qz_W p l e R s m args below meth c z tA D cy k Q ce sl pc ls (.inr (.inl x) :: st) M := by
  intro H locs lsm hL hP hS hT
  cases x with
  | none => exact lv_astoreN hC.1 hC.2.1 hd hL.has hi rfl (fun lsm' h' => kk H locs lsm' (hL.set (v := .inr (.inl none)) hi hg rfl h') hP hS hT)
  | some n => exact lv_astore hC.1 hC.2.1 hd hL.has hi rfl (fun lsm' h' => kk H locs lsm' (hL.set (v := .inr (.inl (some n))) hi hg rfl h') hP hS hT)
theorem qz_r_astore_n (hC : qz_Cx p s m args meth c z tA D cy k) {i : Fin 4} {x : Option qz_N} (hd : decode (qz_b k) pc = .ok (.astore_n i, 1)) (hi : i.val < qz_ml k) (hg : qz_g2 (qz_ml k) ls i.val = true) (kk : qz_W p l e R s m args below meth c z tA D cy k Q ce sl (pc + 1) (ls.set i.val (some (.inr (.inl x)))) st M) : qz_W p l e R s m args below meth c z tA D cy k Q ce sl pc ls (.inr (.inl x) :: st) M := by
  intro H locs lsm hL hP hS hT
  cases x with
  | none => exact lv_astore_nN hC.1 hC.2.1 hd rfl hL.has hi rfl (fun lsm' h' => kk H locs lsm' (hL.set (v := .inr (.inl none)) hi hg rfl h') hP hS hT)
  | some n => exact lv_astore_n hC.1 hC.2.1 hd rfl hL.has hi rfl (fun lsm' h' => kk H locs lsm' (hL.set (v := .inr (.inl (some n))) hi hg rfl h') hP hS hT)
theorem qz_r_iinc (hC : qz_Cx p s m args meth c z tA D cy k) {i : Nat} {n : Int} {x : Int32} (hd : decode (qz_b k) pc = .ok (.iinc i n, 3)) (hx : ls[i]? = some (some (.inl x))) (hi : i < qz_ml k) (hg : qz_g2 (qz_ml k) ls i = true) (kk : qz_W p l e R s m args below meth c z tA D cy k Q ce sl (pc + 3) (ls.set i (some (.inl (x + Int32.ofInt n)))) st M) : qz_W p l e R s m args below meth c z tA D cy k Q ce sl pc ls st M := by
  intro H locs lsm hL hP hS hT
  obtain ⟨j, hj⟩ := List.getElem?_of_mem (qz_fu_mem.mpr (hL.at' hx rfl))
  exact lv_iinc hC.1 hC.2.1 hd hL.has hj rfl hi rfl (fun lsm' h' => kk H locs lsm' (hL.set (v := .inl _) hi hg rfl h') hP hS hT)
theorem qz_r_ldc (hC : qz_Cx p s m args meth c z tA D cy k) {i : Nat} {v : Int32} (hd : decode (qz_b k) pc = .ok (.ldc i, 2)) (hv : qz_k4 (qz_cn k) i = some v) (kk : qz_W p l e R s m args below meth c z tA D cy k Q ce sl (pc + 2) ls (.inl v :: st) M) : qz_W p l e R s m args below meth c z tA D cy k Q ce sl pc ls st M := fun H locs lsm hL hP hS hT =>
  W.ldc (g := F0 m pc lsm (st.map (qz_tv z tA))) hC.1 hC.2.1 hC.2.2.2.1 (hC.2.2.2.2.1 _ (qz_k4_ok hv)) rfl hd (kk H locs lsm hL hP hS hT)
theorem qz_r_ldc2 (hC : qz_Cx p s m args meth c z tA D cy k) {i : Nat} {v : Int64} (hd : decode (qz_b k) pc = .ok (.ldc2_w i, 3)) (hv : qz_k8 (qz_cn k) i = some v) (kk : qz_W p l e R s m args below meth c z tA D cy k Q ce sl (pc + 3) ls (.inr (.inr v) :: st) M) : qz_W p l e R s m args below meth c z tA D cy k Q ce sl pc ls st M := fun H locs lsm hL hP hS hT =>
  lv_ldc2 hC.1 hC.2.1 hC.2.2.2.1 (hC.2.2.2.2.1 _ (qz_k8_ok hv)) hd (kk H locs lsm hL hP hS hT)
theorem qz_r_lload (hC : qz_Cx p s m args meth c z tA D cy k) {i : Nat} {x : Int64} (hd : decode (qz_b k) pc = .ok (.lload i, 2)) (hx : ls[qz_ml k + i]? = some (some (.inr (.inr x)))) (kk : qz_W p l e R s m args below meth c z tA D cy k Q ce sl (pc + 2) ls (.inr (.inr x) :: st) M) : qz_W p l e R s m args below meth c z tA D cy k Q ce sl pc ls st M := fun H locs lsm hL hP hS hT => lv_lload hC.1 hC.2.1 hd (hL.atl hx) (kk H locs lsm hL hP hS hT)
theorem qz_r_lload_n (hC : qz_Cx p s m args meth c z tA D cy k) {i : Fin 4} {x : Int64} (hd : decode (qz_b k) pc = .ok (.lload_n i, 1)) (hx : ls[qz_ml k + i.val]? = some (some (.inr (.inr x)))) (kk : qz_W p l e R s m args below meth c z tA D cy k Q ce sl (pc + 1) ls (.inr (.inr x) :: st) M) : qz_W p l e R s m args below meth c z tA D cy k Q ce sl pc ls st M := fun H locs lsm hL hP hS hT => lv_lload_n hC.1 hC.2.1 hd rfl (hL.atl hx) (kk H locs lsm hL hP hS hT)
theorem qz_r_lstore (hC : qz_Cx p s m args meth c z tA D cy k) {i : Nat} {x : Int64} (hd : decode (qz_b k) pc = .ok (.lstore i, 2)) (hi : i + 1 < qz_ml k) (hg1 : qz_g1 (qz_ml k) ls (i + 1) = true) (hg3 : qz_g3 (qz_ml k) ls i = true) (kk : qz_W p l e R s m args below meth c z tA D cy k Q ce sl (pc + 2) (qz_sl' (qz_ml k) i ls x) st M) : qz_W p l e R s m args below meth c z tA D cy k Q ce sl pc ls (.inr (.inr x) :: st) M := fun H locs lsm hL hP hS hT =>
  lv_lstore hC.1 hC.2.1 hd hL.has hi rfl (fun lsm' h' => kk H locs lsm' (hL.setl hi hg1 hg3 h') hP hS hT)
theorem qz_r_lstore_n (hC : qz_Cx p s m args meth c z tA D cy k) {i : Fin 4} {x : Int64} (hd : decode (qz_b k) pc = .ok (.lstore_n i, 1)) (hi : i.val + 1 < qz_ml k) (hg1 : qz_g1 (qz_ml k) ls (i.val + 1) = true) (hg3 : qz_g3 (qz_ml k) ls i.val = true) (kk : qz_W p l e R s m args below meth c z tA D cy k Q ce sl (pc + 1) (qz_sl' (qz_ml k) i.val ls x) st M) : qz_W p l e R s m args below meth c z tA D cy k Q ce sl pc ls (.inr (.inr x) :: st) M := fun H locs lsm hL hP hS hT =>
  lv_lstore_n hC.1 hC.2.1 hd rfl hL.has hi rfl (fun lsm' h' => kk H locs lsm' (hL.setl hi hg1 hg3 h') hP hS hT)
theorem qz_r_ladd (hC : qz_Cx p s m args meth c z tA D cy k) {x y : Int64} (hd : decode (qz_b k) pc = .ok (.ladd, 1)) (kk : qz_W p l e R s m args below meth c z tA D cy k Q ce sl (pc + 1) ls (.inr (.inr (x + y)) :: st) M) : qz_W p l e R s m args below meth c z tA D cy k Q ce sl pc ls (.inr (.inr y) :: .inr (.inr x) :: st) M := fun H locs lsm hL hP hS hT => lv_ladd hC.1 hC.2.1 hd (kk H locs lsm hL hP hS hT)
theorem qz_r_lmul (hC : qz_Cx p s m args meth c z tA D cy k) {x y : Int64} (hd : decode (qz_b k) pc = .ok (.lmul, 1)) (kk : qz_W p l e R s m args below meth c z tA D cy k Q ce sl (pc + 1) ls (.inr (.inr (x * y)) :: st) M) : qz_W p l e R s m args below meth c z tA D cy k Q ce sl pc ls (.inr (.inr y) :: .inr (.inr x) :: st) M := fun H locs lsm hL hP hS hT => lv_lmul hC.1 hC.2.1 hd (kk H locs lsm hL hP hS hT)
theorem qz_r_i2l (hC : qz_Cx p s m args meth c z tA D cy k) {x : Int32} (hd : decode (qz_b k) pc = .ok (.i2l, 1)) (kk : qz_W p l e R s m args below meth c z tA D cy k Q ce sl (pc + 1) ls (.inr (.inr x.toInt64) :: st) M) : qz_W p l e R s m args below meth c z tA D cy k Q ce sl pc ls (.inl x :: st) M := fun H locs lsm hL hP hS hT => lv_i2l hC.1 hC.2.1 hd rfl (kk H locs lsm hL hP hS hT)
theorem qz_r_lcmp (hC : qz_Cx p s m args meth c z tA D cy k) {x y : Int64} (hd : decode (qz_b k) pc = .ok (.lcmp, 1)) (kk : qz_W p l e R s m args below meth c z tA D cy k Q ce sl (pc + 1) ls (.inl (lg_cmp x y) :: st) M) : qz_W p l e R s m args below meth c z tA D cy k Q ce sl pc ls (.inr (.inr y) :: .inr (.inr x) :: st) M := fun H locs lsm hL hP hS hT => W.lcmp hC.1 hC.2.1 hd (kk H locs lsm hL hP hS hT)
theorem qz_r_ishr (hC : qz_Cx p s m args meth c z tA D cy k) {x y : Int32} (hd : decode (qz_b k) pc = .ok (.ishr, 1)) (kk : qz_W p l e R s m args below meth c z tA D cy k Q ce sl (pc + 1) ls (.inl (x >>> (y &&& 31)) :: st) M) : qz_W p l e R s m args below meth c z tA D cy k Q ce sl pc ls (.inl y :: .inl x :: st) M := fun H locs lsm hL hP hS hT => lv_ishr hC.1 hC.2.1 hd (kk H locs lsm hL hP hS hT)
theorem qz_r_iadd (hC : qz_Cx p s m args meth c z tA D cy k) {x y : Int32} (hd : decode (qz_b k) pc = .ok (.iadd, 1)) (kk : qz_W p l e R s m args below meth c z tA D cy k Q ce sl (pc + 1) ls (.inl (x + y) :: st) M) : qz_W p l e R s m args below meth c z tA D cy k Q ce sl pc ls (.inl y :: .inl x :: st) M := fun H locs lsm hL hP hS hT => lv_iadd hC.1 hC.2.1 hd (kk H locs lsm hL hP hS hT)
theorem qz_r_isub (hC : qz_Cx p s m args meth c z tA D cy k) {x y : Int32} (hd : decode (qz_b k) pc = .ok (.isub, 1)) (kk : qz_W p l e R s m args below meth c z tA D cy k Q ce sl (pc + 1) ls (.inl (x - y) :: st) M) : qz_W p l e R s m args below meth c z tA D cy k Q ce sl pc ls (.inl y :: .inl x :: st) M := fun H locs lsm hL hP hS hT => lv_isub hC.1 hC.2.1 hd (kk H locs lsm hL hP hS hT)
theorem qz_r_imul (hC : qz_Cx p s m args meth c z tA D cy k) {x y : Int32} (hd : decode (qz_b k) pc = .ok (.imul, 1)) (kk : qz_W p l e R s m args below meth c z tA D cy k Q ce sl (pc + 1) ls (.inl (x * y) :: st) M) : qz_W p l e R s m args below meth c z tA D cy k Q ce sl pc ls (.inl y :: .inl x :: st) M := fun H locs lsm hL hP hS hT => lv_imul hC.1 hC.2.1 hd (kk H locs lsm hL hP hS hT)
theorem qz_r_iand (hC : qz_Cx p s m args meth c z tA D cy k) {x y : Int32} (hd : decode (qz_b k) pc = .ok (.iand, 1)) (kk : qz_W p l e R s m args below meth c z tA D cy k Q ce sl (pc + 1) ls (.inl (x &&& y) :: st) M) : qz_W p l e R s m args below meth c z tA D cy k Q ce sl pc ls (.inl y :: .inl x :: st) M := fun H locs lsm hL hP hS hT => lv_iand hC.1 hC.2.1 hd (kk H locs lsm hL hP hS hT)
theorem qz_r_idiv (hC : qz_Cx p s m args meth c z tA D cy k) {x y : Int32} (hd : decode (qz_b k) pc = .ok (.idiv, 1)) (hy : ¬ y = 0) (kk : qz_W p l e R s m args below meth c z tA D cy k Q ce sl (pc + 1) ls (.inl (x / y) :: st) M) : qz_W p l e R s m args below meth c z tA D cy k Q ce sl pc ls (.inl y :: .inl x :: st) M := fun H locs lsm hL hP hS hT => lv_idiv hC.1 hC.2.1 hd hy (kk H locs lsm hL hP hS hT)
theorem qz_r_irem (hC : qz_Cx p s m args meth c z tA D cy k) {x y : Int32} (hd : decode (qz_b k) pc = .ok (.irem, 1)) (hy : ¬ y = 0) (kk : qz_W p l e R s m args below meth c z tA D cy k Q ce sl (pc + 1) ls (.inl (x - x / y * y) :: st) M) : qz_W p l e R s m args below meth c z tA D cy k Q ce sl pc ls (.inl y :: .inl x :: st) M := fun H locs lsm hL hP hS hT => lv_irem hC.1 hC.2.1 hd hy (kk H locs lsm hL hP hS hT)
theorem qz_r_ineg (hC : qz_Cx p s m args meth c z tA D cy k) {x : Int32} (hd : decode (qz_b k) pc = .ok (.ineg, 1)) (kk : qz_W p l e R s m args below meth c z tA D cy k Q ce sl (pc + 1) ls (.inl (-x) :: st) M) : qz_W p l e R s m args below meth c z tA D cy k Q ce sl pc ls (.inl x :: st) M := fun H locs lsm hL hP hS hT => lv_ineg hC.1 hC.2.1 hd (kk H locs lsm hL hP hS hT)
theorem qz_r_i2c (hC : qz_Cx p s m args meth c z tA D cy k) {x : Int32} (hd : decode (qz_b k) pc = .ok (.i2c, 1)) (kk : qz_W p l e R s m args below meth c z tA D cy k Q ce sl (pc + 1) ls (.inl (x.toUInt32 % 65536).toInt32 :: st) M) : qz_W p l e R s m args below meth c z tA D cy k Q ce sl pc ls (.inl x :: st) M := fun H locs lsm hL hP hS hT => lv_i2c hC.1 hC.2.1 hd rfl (kk H locs lsm hL hP hS hT)
theorem qz_r_dup (hC : qz_Cx p s m args meth c z tA D cy k) {x : qz_V} (hx : qz_nl x = true) (hd : decode (qz_b k) pc = .ok (.dup, 1)) (kk : qz_W p l e R s m args below meth c z tA D cy k Q ce sl (pc + 1) ls (x :: x :: st) M) : qz_W p l e R s m args below meth c z tA D cy k Q ce sl pc ls (x :: st) M := fun H locs lsm hL hP hS hT => lv_dup hC.1 hC.2.1 hd (qz_tvc _ _ hx) (kk H locs lsm hL hP hS hT)
theorem qz_r_dup2 (hC : qz_Cx p s m args meth c z tA D cy k) {x y : qz_V} (hx : qz_nl x = true) (hy : qz_nl y = true) (hd : decode (qz_b k) pc = .ok (.dup2, 1)) (kk : qz_W p l e R s m args below meth c z tA D cy k Q ce sl (pc + 1) ls (x :: y :: x :: y :: st) M) : qz_W p l e R s m args below meth c z tA D cy k Q ce sl pc ls (x :: y :: st) M := fun H locs lsm hL hP hS hT => lv_dup2_11 hC.1 hC.2.1 hd (qz_tvc _ _ hx) (qz_tvc _ _ hy) (kk H locs lsm hL hP hS hT)
theorem qz_r_pop (hC : qz_Cx p s m args meth c z tA D cy k) {x : qz_V} (hx : qz_nl x = true) (hd : decode (qz_b k) pc = .ok (.pop, 1)) (kk : qz_W p l e R s m args below meth c z tA D cy k Q ce sl (pc + 1) ls st M) : qz_W p l e R s m args below meth c z tA D cy k Q ce sl pc ls (x :: st) M := fun H locs lsm hL hP hS hT => lv_pop hC.1 hC.2.1 hd (qz_tvc _ _ hx) (kk H locs lsm hL hP hS hT)
theorem qz_tg_eq {pc t : Nat} {off : Int} (h : qz_tg pc off = some t) : (pc : Int) + off = (t : Int) := by
  unfold qz_tg at h
  split at h
  · cases h; omega
  · cases h
/-- a branch: by its condition -/
theorem qz_br_inv {b : Bool} {off : Int} {pc' : Nat} {ls' : List (Option qz_V)} {st' : List qz_V} {M' : qz_M} (hs : qz_br b pc off ls st M = some (pc', ls', st', M')) : ∃ t : Nat, (pc : Int) + off = (t : Int) ∧ ls' = ls ∧ st' = st ∧ M' = M ∧ ((b = true ∧ pc' = t) ∨ (b = false ∧ pc' = pc + 3)) := by
  unfold qz_br at hs
  split at hs
  · next t ht =>
    split at hs
    · next hb => cases hs; exact ⟨_, qz_tg_eq ht, rfl, rfl, rfl, Or.inl ⟨hb, rfl⟩⟩
    · next hb => cases hs; exact ⟨_, qz_tg_eq ht, rfl, rfl, rfl, Or.inr ⟨by simpa using hb, rfl⟩⟩
  · cases hs
theorem qz_r_if (hC : qz_Cx p s m args meth c z tA D cy k) {cd : ClassFile.Cond} {off : Int} {x : Int32} {pc' : Nat} {ls' : List (Option qz_V)} {st' : List qz_V} {M' : qz_M} (hd : decode (qz_b k) pc = .ok (.ifCond cd off, 3)) (hs : qz_br (qz_cd cd x 0) pc off ls st M = some (pc', ls', st', M')) (kk : qz_W p l e R s m args below meth c z tA D cy k Q ce sl pc' ls' st' M') : qz_W p l e R s m args below meth c z tA D cy k Q ce sl pc ls (.inl x :: st) M := by
  intro H locs lsm hL hP hS hT
  obtain ⟨t, ht, rfl, rfl, rfl, hb⟩ := qz_br_inv hs
  have k1 := kk H locs lsm hL hP hS hT
  cases cd with
  | eq => exact lv_if_eq hC.1 hC.2.1 hd ht (fun q => by rcases hb with ⟨h1, rfl⟩ | ⟨h1, rfl⟩ <;> first | exact k1 | (simp [qz_cd] at h1; exact absurd q h1)) (fun q => by rcases hb with ⟨h1, rfl⟩ | ⟨h1, rfl⟩ <;> first | (simp [qz_cd] at h1; exact absurd h1 q) | exact k1)
  | ne => exact lv_if_ne hC.1 hC.2.1 hd ht (fun q => by rcases hb with ⟨h1, rfl⟩ | ⟨h1, rfl⟩ <;> first | exact k1 | (simp [qz_cd] at h1; exact absurd h1 q)) (fun q => by rcases hb with ⟨h1, rfl⟩ | ⟨h1, rfl⟩ <;> first | (simp [qz_cd] at h1; exact absurd q h1) | exact k1)
  | lt => exact lv_if_lt hC.1 hC.2.1 hd ht (fun q => by rcases hb with ⟨h1, rfl⟩ | ⟨h1, rfl⟩ <;> first | exact k1 | exact absurd q (of_decide_eq_false h1)) (fun q => by rcases hb with ⟨h1, rfl⟩ | ⟨h1, rfl⟩ <;> first | exact absurd (of_decide_eq_true h1) q | exact k1)
  | ge => exact lv_if_ge hC.1 hC.2.1 hd ht (fun q => by rcases hb with ⟨h1, rfl⟩ | ⟨h1, rfl⟩ <;> first | exact k1 | exact absurd q (of_decide_eq_false h1)) (fun q => by rcases hb with ⟨h1, rfl⟩ | ⟨h1, rfl⟩ <;> first | exact absurd (of_decide_eq_true h1) q | exact k1)
  | gt => exact lv_if_gt hC.1 hC.2.1 hd ht (fun q => by rcases hb with ⟨h1, rfl⟩ | ⟨h1, rfl⟩ <;> first | exact k1 | exact absurd q (of_decide_eq_false h1)) (fun q => by rcases hb with ⟨h1, rfl⟩ | ⟨h1, rfl⟩ <;> first | exact absurd (of_decide_eq_true h1) q | exact k1)
  | le => exact lv_if_le hC.1 hC.2.1 hd ht (fun q => by rcases hb with ⟨h1, rfl⟩ | ⟨h1, rfl⟩ <;> first | exact k1 | exact absurd q (of_decide_eq_false h1)) (fun q => by rcases hb with ⟨h1, rfl⟩ | ⟨h1, rfl⟩ <;> first | exact absurd (of_decide_eq_true h1) q | exact k1)
theorem qz_r_icmp (hC : qz_Cx p s m args meth c z tA D cy k) {cd : ClassFile.Cond} {off : Int} {x y : Int32} {pc' : Nat} {ls' : List (Option qz_V)} {st' : List qz_V} {M' : qz_M} (hd : decode (qz_b k) pc = .ok (.if_icmp cd off, 3)) (hs : qz_br (qz_cd cd x y) pc off ls st M = some (pc', ls', st', M')) (kk : qz_W p l e R s m args below meth c z tA D cy k Q ce sl pc' ls' st' M') : qz_W p l e R s m args below meth c z tA D cy k Q ce sl pc ls (.inl y :: .inl x :: st) M := by
  intro H locs lsm hL hP hS hT
  obtain ⟨t, ht, rfl, rfl, rfl, hb⟩ := qz_br_inv hs
  have k1 := kk H locs lsm hL hP hS hT
  cases cd with
  | eq => exact lv_icmp_eq hC.1 hC.2.1 hd ht (fun q => by rcases hb with ⟨h1, rfl⟩ | ⟨h1, rfl⟩ <;> first | exact k1 | exact absurd q (of_decide_eq_false h1)) (fun q => by rcases hb with ⟨h1, rfl⟩ | ⟨h1, rfl⟩ <;> first | exact absurd (of_decide_eq_true h1) q | exact k1)
  | ne => exact lv_icmp_ne hC.1 hC.2.1 hd ht (fun q => by rcases hb with ⟨h1, rfl⟩ | ⟨h1, rfl⟩ <;> first | exact k1 | exact absurd q (of_decide_eq_false h1)) (fun q => by rcases hb with ⟨h1, rfl⟩ | ⟨h1, rfl⟩ <;> first | exact absurd q (of_decide_eq_true h1) | exact k1)
  | lt => exact lv_icmp_lt hC.1 hC.2.1 hd ht (fun q => by rcases hb with ⟨h1, rfl⟩ | ⟨h1, rfl⟩ <;> first | exact k1 | exact absurd q (of_decide_eq_false h1)) (fun q => by rcases hb with ⟨h1, rfl⟩ | ⟨h1, rfl⟩ <;> first | exact absurd (of_decide_eq_true h1) q | exact k1)
  | ge => exact lv_icmp_ge hC.1 hC.2.1 hd ht (fun q => by rcases hb with ⟨h1, rfl⟩ | ⟨h1, rfl⟩ <;> first | exact k1 | exact absurd q (of_decide_eq_false h1)) (fun q => by rcases hb with ⟨h1, rfl⟩ | ⟨h1, rfl⟩ <;> first | exact absurd (of_decide_eq_true h1) q | exact k1)
  | gt => exact lv_icmp_gt hC.1 hC.2.1 hd ht (fun q => by rcases hb with ⟨h1, rfl⟩ | ⟨h1, rfl⟩ <;> first | exact k1 | exact absurd q (of_decide_eq_false h1)) (fun q => by rcases hb with ⟨h1, rfl⟩ | ⟨h1, rfl⟩ <;> first | exact absurd (of_decide_eq_true h1) q | exact k1)
  | le => exact lv_icmp_le hC.1 hC.2.1 hd ht (fun q => by rcases hb with ⟨h1, rfl⟩ | ⟨h1, rfl⟩ <;> first | exact k1 | exact absurd q (of_decide_eq_false h1)) (fun q => by rcases hb with ⟨h1, rfl⟩ | ⟨h1, rfl⟩ <;> first | exact absurd (of_decide_eq_true h1) q | exact k1)
theorem qz_ad_inj (h1 : qz_Kx z tA D cy s) {o : Nat} {H : Heap} (hz : H.size = z + o) {f : qz_N → Nat → Int32} (hT : qz_St z tA f s) {x y : Option qz_N} (hx : ∀ n, x = some n → n.1 < 30 ∧ qz_lv o n) (hy : ∀ n, y = some n → n.1 < 30 ∧ qz_lv o n) (h : x.map (qz_ad z tA) = y.map (qz_ad z tA)) : x = y := by
  cases x with
  | none => cases y with
    | none => rfl
    | some b => simp at h
  | some a => cases y with
    | none => simp at h
    | some b =>
      obtain ⟨ha, ha'⟩ := hx a rfl
      obtain ⟨hb, hb'⟩ := hy b rfl
      simp only [Option.map_some, Option.some.injEq] at h
      rw [qz_ad_dyn ha, qz_ad_dyn hb] at h
      rw [qz_ix_inj (qz_dyn ha' ha).1 (qz_dyn hb' hb).1 (by omega)]
theorem qz_r_acmp (hC : qz_Cx p s m args meth c z tA D cy k) {off : Int} {x y : Option qz_N} {pc' : Nat} {ls' : List (Option qz_V)} {st' : List qz_V} {M' : qz_M} (hx : ∀ n, x = some n → n.1 < 30 ∧ qz_lv M.1 n) (hy : ∀ n, y = some n → n.1 < 30 ∧ qz_lv M.1 n) (hd : decode (qz_b k) pc = .ok (.if_acmp .eq off, 3)) (hs : qz_br (decide (x = y)) pc off ls st M = some (pc', ls', st', M')) (kk : qz_W p l e R s m args below meth c z tA D cy k Q ce sl pc' ls' st' M') : qz_W p l e R s m args below meth c z tA D cy k Q ce sl pc ls (.inr (.inl y) :: .inr (.inl x) :: st) M := by
  intro H locs lsm hL hP hS hT
  obtain ⟨t, ht, rfl, rfl, rfl, hb⟩ := qz_br_inv hs
  have k1 := kk H locs lsm hL hP hS hT
  exact lv_acmp_eq (rx := x.map (qz_ad z tA)) (ry := y.map (qz_ad z tA)) hC.1 hC.2.1 hd ht
    (fun q => by
      have q := qz_ad_inj hC.2.2.2.2.2.2.1 hP.1 hT hx hy q
      rcases hb with ⟨h1, rfl⟩ | ⟨h1, rfl⟩
      · exact k1
      · exact absurd q (of_decide_eq_false h1))
    (fun q => by
      rcases hb with ⟨h1, rfl⟩ | ⟨h1, rfl⟩
      · exact absurd (by rw [of_decide_eq_true h1]) q
      · exact k1)
theorem qz_r_ifnull (hC : qz_Cx p s m args meth c z tA D cy k) {off : Int} {x : Option qz_N} {pc' : Nat} {ls' : List (Option qz_V)} {st' : List qz_V} {M' : qz_M} (hd : decode (qz_b k) pc = .ok (.ifnull off, 3)) (hs : qz_br (decide (x = none)) pc off ls st M = some (pc', ls', st', M')) (kk : qz_W p l e R s m args below meth c z tA D cy k Q ce sl pc' ls' st' M') : qz_W p l e R s m args below meth c z tA D cy k Q ce sl pc ls (.inr (.inl x) :: st) M := by
  intro H locs lsm hL hP hS hT
  obtain ⟨t, ht, rfl, rfl, rfl, hb⟩ := qz_br_inv hs
  have k1 := kk H locs lsm hL hP hS hT
  cases x with
  | none =>
    rcases hb with ⟨-, rfl⟩ | ⟨h1, -⟩
    · exact lv_ifnullN hC.1 hC.2.1 hd ht k1
    · simp at h1
  | some n =>
    rcases hb with ⟨h1, -⟩ | ⟨-, rfl⟩
    · simp at h1
    · exact lv_ifnull hC.1 hC.2.1 hd k1
theorem qz_r_ifnonnull (hC : qz_Cx p s m args meth c z tA D cy k) {off : Int} {x : Option qz_N} {pc' : Nat} {ls' : List (Option qz_V)} {st' : List qz_V} {M' : qz_M} (hd : decode (qz_b k) pc = .ok (.ifnonnull off, 3)) (hs : qz_br (decide (¬ x = none)) pc off ls st M = some (pc', ls', st', M')) (kk : qz_W p l e R s m args below meth c z tA D cy k Q ce sl pc' ls' st' M') : qz_W p l e R s m args below meth c z tA D cy k Q ce sl pc ls (.inr (.inl x) :: st) M := by
  intro H locs lsm hL hP hS hT
  obtain ⟨t, ht, rfl, rfl, rfl, hb⟩ := qz_br_inv hs
  have k1 := kk H locs lsm hL hP hS hT
  cases x with
  | none =>
    rcases hb with ⟨h1, -⟩ | ⟨-, rfl⟩
    · simp at h1
    · exact lv_ifnonnullN hC.1 hC.2.1 hd k1
  | some n =>
    rcases hb with ⟨-, rfl⟩ | ⟨h1, -⟩
    · exact lv_ifnonnull hC.1 hC.2.1 hd ht k1
    · simp at h1
theorem qz_r_goto (hC : qz_Cx p s m args meth c z tA D cy k) {off : Int} {t : Nat} (hd : decode (qz_b k) pc = .ok (.goto off, 3)) (ht : qz_tg pc off = some t) (kk : qz_W p l e R s m args below meth c z tA D cy k Q ce sl t ls st M) : qz_W p l e R s m args below meth c z tA D cy k Q ce sl pc ls st M := fun H locs lsm hL hP hS hT => lv_goto hC.1 hC.2.1 hd (qz_tg_eq ht) (kk H locs lsm hL hP hS hT)
theorem qz_r_tabO (hC : qz_Cx p s m args meth c z tA D cy k) {d lo hi : Int} {offs : Array Int} {len t : Nat} {x : Int32} (hd : decode (qz_b k) pc = .ok (.tableswitch d lo hi offs, len)) (h : x.toInt < lo ∨ hi < x.toInt) (ht : qz_tg pc d = some t) (kk : qz_W p l e R s m args below meth c z tA D cy k Q ce sl t ls st M) : qz_W p l e R s m args below meth c z tA D cy k Q ce sl pc ls (.inl x :: st) M := fun H locs lsm hL hP hS hT => lv_tableOut hC.1 hC.2.1 hd h (qz_tg_eq ht) (kk H locs lsm hL hP hS hT)
theorem qz_r_tabI (hC : qz_Cx p s m args meth c z tA D cy k) {d lo hi off : Int} {offs : Array Int} {len t : Nat} {x : Int32} (hd : decode (qz_b k) pc = .ok (.tableswitch d lo hi offs, len)) (h : ¬ (x.toInt < lo ∨ hi < x.toInt)) (ho : offs[(x.toInt - lo).toNat]? = some off) (ht : qz_tg pc off = some t) (kk : qz_W p l e R s m args below meth c z tA D cy k Q ce sl t ls st M) : qz_W p l e R s m args below meth c z tA D cy k Q ce sl pc ls (.inl x :: st) M := fun H locs lsm hL hP hS hT => lv_tableIn hC.1 hC.2.1 hd (fun q => h (Or.inl q)) (fun q => h (Or.inr q)) ho (qz_tg_eq ht) (kk H locs lsm hL hP hS hT)
/-! fields -/
theorem qz_fget {N j : Nat} (g : Nat → Value) (hj : j < N) : ((List.range N).map g)[j]? = some (g j) := by rw [List.getElem?_map, List.getElem?_range hj]; rfl
theorem qz_r_getf (hC : qz_Cx p s m args meth c z tA D cy k) {i j : Nat} {n : qz_N} (hd : decode (qz_b k) pc = .ok (.getfield i, 3)) (hf : qz_fl (qz_cn k) i = some (n.1, j)) (hn : qz_lv M.1 n) (kk : qz_W p l e R s m args below meth c z tA D cy k Q ce sl (pc + 3) ls ((if qz_rf n.1 j = true then .inr (.inl (M.2.2 n j)) else .inl (M.2.1 n j)) :: st) M) : qz_W p l e R s m args below meth c z tA D cy k Q ce sl pc ls (.inr (.inl (some n)) :: st) M := by
  intro H locs lsm hL hP hS hT
  obtain ⟨h7, hj, hw⟩ := qz_fl_ok hf
  simp only at h7 hj hw
  obtain ⟨c1, c2, -, -, -, -, -⟩ := qz_co h7
  obtain ⟨hv, hi⟩ := qz_dyn hn (by omega)
  have hat := hP.2 n hv hi
  have he : qz_ce z tA cy M n = .inr (n.1, (List.range (qz_nf n.1)).map (fun j => if qz_rf n.1 j = true then va_rf ((M.2.2 n j).map (qz_ad z tA)) else .int (M.2.1 n j))) := if_pos h7
  rw [he] at hat
  have k1 := kk H locs lsm hL hP hS hT
  have e1 : (Value.ref (qz_ad z tA n)) = .ref (z + qz_ix n) := by rw [qz_ad_dyn (by omega)]
  show W p l e R s m args below meth c H locs ce sl Q (F0 m pc lsm (Value.ref (qz_ad z tA n) :: st.map (qz_tv z tA)))
  rw [e1]
  refine va_get (D := D) (ci := n.1) hC.1 hC.2.1 hC.2.2.2.2.1 c2 hC.2.2.2.1 hC.2.2.2.2.2.2.1.1 (qz_one hat) 0 rfl c1 j hj (hC.2.2.2.2.1 _ hw) (fun _ h9 => h9) (qz_fget _ hj) hd ?_
  rw [List.map_cons] at k1
  by_cases hr : qz_rf n.1 j = true
  · rw [if_pos hr] at k1 ⊢; exact k1
  · rw [if_neg hr] at k1 ⊢; exact k1
theorem qz_r_putfi (hC : qz_Cx p s m args meth c z tA D cy k) {i j : Nat} {n : qz_N} {x : Int32} (hd : decode (qz_b k) pc = .ok (.putfield i, 3)) (hf : qz_fl (qz_cn k) i = some (n.1, j)) (hn : qz_lv M.1 n) (hr : qz_rf n.1 j = false) (hb : qz_bl n.1 j = true → x = 0 ∨ x = 1) (hfn : qz_fn n.1 j = false) (kk : qz_W p l e R s m args below meth c z tA D cy k Q ce sl (pc + 3) ls st (qz_ui M n j x)) : qz_W p l e R s m args below meth c z tA D cy k Q ce sl pc ls (.inl x :: .inr (.inl (some n)) :: st) M := by
  intro H locs lsm hL hP hS hT
  obtain ⟨h7, hj, hw⟩ := qz_fl_ok hf
  simp only at h7 hj hw
  obtain ⟨c1, c2, c3, c4, -, -, c7⟩ := qz_co h7
  obtain ⟨hv, hi⟩ := qz_dyn hn (by omega)
  have hat := hP.2 n hv hi
  have he : qz_ce z tA cy M n = .inr (n.1, (List.range (qz_nf n.1)).map (fun j => if qz_rf n.1 j = true then va_rf ((M.2.2 n j).map (qz_ad z tA)) else .int (M.2.1 n j))) := if_pos h7
  rw [he] at hat
  have he' : qz_ce z tA cy (qz_ui M n j x) n = .inr (n.1, ((List.range (qz_nf n.1)).map (fun j => if qz_rf n.1 j = true then va_rf ((M.2.2 n j).map (qz_ad z tA)) else .int (M.2.1 n j))).set j (.int x)) := by
    unfold qz_ce
    rw [if_pos h7]
    congr 2
    refine qz_fs_set _ _ _ _ _ ?_ ?_
    · rw [if_neg (by rw [hr]; decide)]
      show Value.int (if n = n ∧ j = j then x else _) = _
      rw [if_pos ⟨rfl, rfl⟩]
    · intro i hi
      have e9 : (qz_ui M n j x).2.1 n i = M.2.1 n i := if_neg (fun q => hi q.2)
      rw [e9]
      rfl
  have e1 : (Value.ref (qz_ad z tA n)) = .ref (z + qz_ix n) := by rw [qz_ad_dyn (by omega)]
  show W p l e R s m args below meth c H locs ce sl Q (F0 m pc lsm (.int x :: Value.ref (qz_ad z tA n) :: st.map (qz_tv z tA)))
  rw [e1]
  obtain ⟨hx, hbb, hml, hown, hts, -, hK, hz⟩ := hC
  obtain ⟨r, g1, cell, q1, q2, q3, q4⟩ := hat
  have hrr : r = (qz_ow n.1, qz_T n.1, qz_nf n.1) := Option.some.inj (g1.symm.trans c1)
  subst hrr
  have hap := va_apart (own := qz_ow (qz_cn k)) hts c2 (qz_ty n.1) c3 c4 hK.1 c1
  obtain ⟨hSl, hfc, kC, hkC, hkind⟩ := hK.1.1 n.1 _ c1
  obtain ⟨cf, kf, fi, f, hif, hsl⟩ := hSl j hj
  have hlay := hts _ (c2 _ (u_in_lay hj))
  unfold u_lay at hlay
  rw [if_neg (by rw [(c7 j hj).2, hfn]; decide)] at hlay
  have hst := (u_facts hfc hkC (u_lays hts c2 hj) hif).1
  have hnar : narrow (qz_ty n.1 j) (.int x) = .int x ∧ fits (qz_ty n.1 j) (.int x) = true := by
    rcases qz_fit n.1 h7 j hj hr with ⟨h1, h2⟩ | ⟨h1, h2⟩
    · rw [h2]
      rcases hb h1 with rfl | rfl <;> exact ⟨rfl, rfl⟩
    · rw [h2]; exact ⟨rfl, rfl⟩
  have h6 := u_store hfc hkC hkind hlay hif (c3 j hj) hnar.1 hnar.2
  refine W.putK hx hbb (f := f) ⟨hown, hts _ hw, ⟨_, _, _, hif⟩, hst⟩ (by rw [q2]; exact h6) q1 q3 (by rw [hsl]; exact k2_hasslot (q4 j hj)) rfl rfl hd fun H' e1 e2 e3 => ?_
  rw [hsl] at e1 ⊢
  refine kk H' _ lsm hL (hP.set hv rfl (fun n' e => qz_ce_ui e) ?_ e2 e3) (hS.put e2 e3 (Nat.le_add_right _ _)) (hT.same (fun n' hn' => (qz_le_ui (by omega) _ _).2 n' hn'))
  rw [he']
  exact ⟨_, c1, t_OB.to (V := updV (vp_V _) j (.int x)) ⟨_, e1, q2, q3, t_set q4 hap hj (.int x)⟩ (fun i _ => vp_updV_set (by simpa using hj) (.int x) i)⟩
theorem qz_r_putfr (hC : qz_Cx p s m args meth c z tA D cy k) {i j : Nat} {n : qz_N} {x : Option qz_N} (hd : decode (qz_b k) pc = .ok (.putfield i, 3)) (hf : qz_fl (qz_cn k) i = some (n.1, j)) (hn : qz_lv M.1 n) (hr : qz_rf n.1 j = true) (hfn : qz_fn n.1 j = true) (hini : qz_ini k = true) (hcn : n.1 = qz_cn k) (kk : qz_W p l e R s m args below meth c z tA D cy k Q ce sl (pc + 3) ls st (qz_ur M n j x)) : qz_W p l e R s m args below meth c z tA D cy k Q ce sl pc ls (.inr (.inl x) :: .inr (.inl (some n)) :: st) M := by
  intro H locs lsm hL hP hS hT
  obtain ⟨h7, hj, hw⟩ := qz_fl_ok hf
  simp only at h7 hj hw
  obtain ⟨c1, c2, c3, c4, -, -, c7⟩ := qz_co h7
  obtain ⟨hv, hi⟩ := qz_dyn hn (by omega)
  have hat := hP.2 n hv hi
  have he : qz_ce z tA cy M n = .inr (n.1, (List.range (qz_nf n.1)).map (fun j => if qz_rf n.1 j = true then va_rf ((M.2.2 n j).map (qz_ad z tA)) else .int (M.2.1 n j))) := if_pos h7
  rw [he] at hat
  have he' : qz_ce z tA cy (qz_ur M n j x) n = .inr (n.1, ((List.range (qz_nf n.1)).map (fun j => if qz_rf n.1 j = true then va_rf ((M.2.2 n j).map (qz_ad z tA)) else .int (M.2.1 n j))).set j (va_rf (x.map (qz_ad z tA)))) := by
    unfold qz_ce
    rw [if_pos h7]
    congr 2
    refine qz_fs_set _ _ _ _ _ ?_ ?_
    · rw [if_pos hr]
      show va_rf (Option.map _ (if n = n ∧ j = j then x else _)) = _
      rw [if_pos ⟨rfl, rfl⟩]
    · intro i hi
      have e9 : (qz_ur M n j x).2.2 n i = M.2.2 n i := if_neg (fun q => hi q.2)
      rw [e9]
      rfl
  have e1 : (Value.ref (qz_ad z tA n)) = .ref (z + qz_ix n) := by rw [qz_ad_dyn (by omega)]
  show W p l e R s m args below meth c H locs ce sl Q (F0 m pc lsm (va_rf (x.map (qz_ad z tA)) :: Value.ref (qz_ad z tA n) :: st.map (qz_tv z tA)))
  rw [e1]
  obtain ⟨hx, hbb, hml, hown, hts, hin2, hK, hz⟩ := hC
  obtain ⟨r, g1, cell, q1, q2, q3, q4⟩ := hat
  have hrr : r = (qz_ow n.1, qz_T n.1, qz_nf n.1) := Option.some.inj (g1.symm.trans c1)
  subst hrr
  have hap := va_apart (own := qz_ow (qz_cn k)) hts c2 (qz_ty n.1) c3 c4 hK.1 c1
  obtain ⟨hSl, hfc, kC, hkC, hkind⟩ := hK.1.1 n.1 _ c1
  obtain ⟨cf, kf, fi, f, hif, hsl⟩ := hSl j hj
  have hlay := hts _ (c2 _ (u_in_lay hj))
  unfold u_lay at hlay
  rw [if_pos (by rw [(c7 j hj).2, hfn])] at hlay
  have hst := (u_facts hfc hkC (u_lays hts c2 hj) hif).1
  have hcf : m.cls = cf := by
    obtain ⟨_, _, c', _, _, _, -, -, hf', -, -, -, hown2, -⟩ := Cond.laysFinal_spec hlay
    have e1 : c' = cf := by have := hif.symm.trans hf'; simp at this; exact this.1.symm
    rw [(c7 j hj).1, hcn] at hown2
    rw [← e1]; exact Option.some.inj (hown.symm.trans hown2)
  have hnar : narrow (qz_ty n.1 j) (va_rf (x.map (qz_ad z tA))) = va_rf (x.map (qz_ad z tA)) ∧ fits (qz_ty n.1 j) (va_rf (x.map (qz_ad z tA))) = true := by
    rcases qz_fitR n.1 h7 j hj hr with ⟨C, h2⟩ | ⟨t, h2⟩ <;> rw [h2] <;> cases x <;> exact ⟨rfl, rfl⟩
  have h6 := u_fits hfc hkC hkind (Or.inr hlay) hif (c3 j hj) hnar.1 hnar.2
  refine W.putFinK hx hbb hown (hts _ hw) hif hst hcf (hin2 hini) (by rw [q2]; exact h6) q1 q3 (by rw [hsl]; exact k2_hasslot (q4 j hj)) rfl rfl hd fun H' e1 e2 e3 => ?_
  rw [hsl] at e1 ⊢
  refine kk H' _ lsm hL (hP.set hv rfl (fun n' e => qz_ce_ur e) ?_ e2 e3) (hS.put e2 e3 (Nat.le_add_right _ _)) hT
  rw [he']
  exact ⟨_, c1, t_OB.to (V := updV (vp_V _) j _) ⟨_, e1, q2, q3, t_set q4 hap hj _⟩ (fun i _ => vp_updV_set (by simpa using hj) _ i)⟩
theorem qz_r_getst (hC : qz_Cx p s m args meth c z tA D cy k) {i t : Nat} (hd : decode (qz_b k) pc = .ok (.getstatic i, 3)) (hf : qz_st (qz_cn k) i = some t) (kk : qz_W p l e R s m args below meth c z tA D cy k Q ce sl (pc + 3) ls (.inr (.inl (some (t, 0, 0))) :: st) M) : qz_W p l e R s m args below meth c z tA D cy k Q ce sl pc ls st M := by
  intro H locs lsm hL hP hS hT
  have k1 := kk H locs lsm hL hP hS hT
  obtain ⟨hx, hbb, hml, hown, hts, hin2, hK, hz⟩ := hC
  generalize hck : qz_cn k = ck at hf hown
  unfold qz_st at hf
  split at hf
  · cases hf
    exact va_getsN hx hbb (hK.2.1 30 (by omega) (by omega)) hS hown (va_Nw.use rfl hK.2.2.2.1) (fun _ h => h) hd k1
  · cases hf
    exact va_gets hx hbb (hK.2.1 31 (by omega) (by omega)) hS hown (hts _ qz_sf_5_208) (fun _ h => h) hd k1
  · cases hf
    exact va_gets hx hbb (hK.2.1 32 (by omega) (by omega)) hS hown (hts _ qz_sf_5_212) (fun _ h => h) hd k1
  · cases hf
end QZR
