/-! a step by its instruction; a whole run by induction -/
section QZW
variable {p : Program} {l : Launch} {e : Env} {R : Room} {s : State} {m : MethodId} {args : Array Value} {below : List Frame} {meth : Method} {c : Code} {Q : State → Prop}
variable {z : Nat} {tA : Nat → Nat} {D : va_G} {cy : Nat → ClassId} {k : Nat}
variable {ce sl pc : Nat} {ls : List (Option qz_V)} {st : List qz_V} {M : qz_M}
theorem qz_k0 {M M' : qz_M} {pc' : Nat} {ls' : List (Option qz_V)} {st' : List qz_V} (h : M'.1 = M.1) (kk : qz_W p l e R s m args below meth c z tA D cy k Q (ce + (M'.1 - M.1)) (sl + (qz_ss M'.1 - qz_ss M.1)) pc' ls' st' M') : qz_W p l e R s m args below meth c z tA D cy k Q ce sl pc' ls' st' M' := by
  rw [h, Nat.sub_self, Nat.sub_self, Nat.add_zero, Nat.add_zero] at kk
  exact kk
theorem qz_al1 : (qz_al' M).1 - M.1 = 1 := by
  show M.1 + 1 - M.1 = 1
  omega
theorem qz_al2 : qz_ss (qz_al' M).1 - qz_ss M.1 = qz_sz (qz_nm' M.1).1 := by
  show qz_ss M.1 + qz_sz (qz_nm' M.1).1 - qz_ss M.1 = _
  omega
theorem qz_step (hC : qz_Cx p s m args meth c z tA D cy k) {ins : Instr} {len pc' : Nat} {ls' : List (Option qz_V)} {st' : List qz_V} {M' : qz_M} (hok : qz_ok ls st M) (hd : decode (qz_b k) pc = .ok (ins, len)) (hlen : qz_il ins len = true) (hs : qz_sp (qz_cn k) (qz_ml k) (qz_ini k) ins pc ls st M = some (pc', ls', st', M')) (hce : ce + (M'.1 - M.1) ≤ R.cells) (hsl : sl + (qz_ss M'.1 - qz_ss M.1) ≤ R.slots)
    (kk : qz_W p l e R s m args below meth c z tA D cy k Q (ce + (M'.1 - M.1)) (sl + (qz_ss M'.1 - qz_ss M.1)) pc' ls' st' M') : qz_W p l e R s m args below meth c z tA D cy k Q ce sl pc ls st M := by
  have lv : ∀ {n r}, st = .inr (.inl (some n)) :: r → qz_lv M.1 n := fun h => hok.2.2 _ (by rw [h]; exact List.mem_cons_self) _ rfl
  have lv2 : ∀ {v n r}, st = v :: .inr (.inl (some n)) :: r → qz_lv M.1 n := fun h => hok.2.2 _ (by rw [h]; exact List.mem_cons_of_mem _ List.mem_cons_self) _ rfl
  have lv3 : ∀ {v w n r}, st = v :: w :: .inr (.inl (some n)) :: r → qz_lv M.1 n := fun h => hok.2.2 _ (by rw [h]; exact List.mem_cons_of_mem _ (List.mem_cons_of_mem _ List.mem_cons_self)) _ rfl
  cases ins with
  | iconst i =>
    cases (show len = 1 by simpa [qz_il] using hlen)
    cases hs
    exact qz_r_iconst hC hd (qz_k0 rfl kk)
  | bipush i =>
    cases (show len = 2 by simpa [qz_il] using hlen)
    cases hs
    exact qz_r_bipush hC hd (qz_k0 rfl kk)
  | sipush i =>
    cases (show len = 3 by simpa [qz_il] using hlen)
    cases hs
    exact qz_r_sipush hC hd (qz_k0 rfl kk)
  | aconst_null =>
    cases (show len = 1 by simpa [qz_il] using hlen)
    cases hs
    exact qz_r_null hC hd (qz_k0 rfl kk)
  | iload i =>
    cases (show len = 2 by simpa [qz_il] using hlen)
    simp only [qz_sp, qz_li] at hs
    split at hs
    · next hx => cases hs; exact qz_r_iload hC hd hx (qz_k0 rfl kk)
    · cases hs
  | iload_n i =>
    cases (show len = 1 by simpa [qz_il] using hlen)
    simp only [qz_sp, qz_li] at hs
    split at hs
    · next hx => cases hs; exact qz_r_iload_n hC hd hx (qz_k0 rfl kk)
    · cases hs
  | aload i =>
    cases (show len = 2 by simpa [qz_il] using hlen)
    simp only [qz_sp, qz_la] at hs
    split at hs
    · next hx => cases hs; exact qz_r_aload hC hd hx (qz_k0 rfl kk)
    · cases hs
  | aload_n i =>
    cases (show len = 1 by simpa [qz_il] using hlen)
    simp only [qz_sp, qz_la] at hs
    split at hs
    · next hx => cases hs; exact qz_r_aload_n hC hd hx (qz_k0 rfl kk)
    · cases hs
  | istore i =>
    cases (show len = 2 by simpa [qz_il] using hlen)
    simp only [qz_sp, qz_si] at hs
    split at hs
    · split at hs
      · next hx => cases hs; exact qz_r_istore hC hd hx.1 hx.2 (qz_k0 rfl kk)
      · cases hs
    · cases hs
  | istore_n i =>
    cases (show len = 1 by simpa [qz_il] using hlen)
    simp only [qz_sp, qz_si] at hs
    split at hs
    · split at hs
      · next hx => cases hs; exact qz_r_istore_n hC hd hx.1 hx.2 (qz_k0 rfl kk)
      · cases hs
    · cases hs
  | astore i =>
    cases (show len = 2 by simpa [qz_il] using hlen)
    simp only [qz_sp, qz_sr] at hs
    split at hs
    · split at hs
      · next hx => cases hs; exact qz_r_astore hC hd hx.1 hx.2 (qz_k0 rfl kk)
      · cases hs
    · cases hs
  | astore_n i =>
    cases (show len = 1 by simpa [qz_il] using hlen)
    simp only [qz_sp, qz_sr] at hs
    split at hs
    · split at hs
      · next hx => cases hs; exact qz_r_astore_n hC hd hx.1 hx.2 (qz_k0 rfl kk)
      · cases hs
    · cases hs
  | iinc i n =>
    cases (show len = 3 by simpa [qz_il] using hlen)
    simp only [qz_sp] at hs
    split at hs
    · next hx =>
      split at hs
      · next hg => cases hs; exact qz_r_iinc hC hd hx hg.1 hg.2 (qz_k0 rfl kk)
      · cases hs
    · cases hs
  | iadd =>
    cases (show len = 1 by simpa [qz_il] using hlen)
    simp only [qz_sp, qz_bn] at hs
    split at hs
    · cases hs; exact qz_r_iadd hC hd (qz_k0 rfl kk)
    · cases hs
  | isub =>
    cases (show len = 1 by simpa [qz_il] using hlen)
    simp only [qz_sp, qz_bn] at hs
    split at hs
    · cases hs; exact qz_r_isub hC hd (qz_k0 rfl kk)
    · cases hs
  | imul =>
    cases (show len = 1 by simpa [qz_il] using hlen)
    simp only [qz_sp, qz_bn] at hs
    split at hs
    · cases hs; exact qz_r_imul hC hd (qz_k0 rfl kk)
    · cases hs
  | iand =>
    cases (show len = 1 by simpa [qz_il] using hlen)
    simp only [qz_sp, qz_bn] at hs
    split at hs
    · cases hs; exact qz_r_iand hC hd (qz_k0 rfl kk)
    · cases hs
  | ishr =>
    cases (show len = 1 by simpa [qz_il] using hlen)
    simp only [qz_sp, qz_bn] at hs
    split at hs
    · cases hs; exact qz_r_ishr hC hd (qz_k0 rfl kk)
    · cases hs
  | ldc i =>
    cases (show len = 2 by simpa [qz_il] using hlen)
    simp only [qz_sp] at hs
    split at hs
    · next hx => cases hs; exact qz_r_ldc hC hd hx (qz_k0 rfl kk)
    · cases hs
  | ldc2_w i =>
    cases (show len = 3 by simpa [qz_il] using hlen)
    simp only [qz_sp] at hs
    split at hs
    · next hx => cases hs; exact qz_r_ldc2 hC hd hx (qz_k0 rfl kk)
    · cases hs
  | lload i =>
    cases (show len = 2 by simpa [qz_il] using hlen)
    simp only [qz_sp, qz_ll'] at hs
    split at hs
    · next hx => cases hs; exact qz_r_lload hC hd hx (qz_k0 rfl kk)
    · cases hs
  | lload_n i =>
    cases (show len = 1 by simpa [qz_il] using hlen)
    simp only [qz_sp, qz_ll'] at hs
    split at hs
    · next hx => cases hs; exact qz_r_lload_n hC hd hx (qz_k0 rfl kk)
    · cases hs
  | lstore i =>
    cases (show len = 2 by simpa [qz_il] using hlen)
    simp only [qz_sp, qz_sl] at hs
    split at hs
    · split at hs
      · next hx => cases hs; exact qz_r_lstore hC hd hx.1 hx.2.2.1 hx.2.2.2 (qz_k0 rfl kk)
      · cases hs
    · cases hs
  | lstore_n i =>
    cases (show len = 1 by simpa [qz_il] using hlen)
    simp only [qz_sp, qz_sl] at hs
    split at hs
    · split at hs
      · next hx => cases hs; exact qz_r_lstore_n hC hd hx.1 hx.2.2.1 hx.2.2.2 (qz_k0 rfl kk)
      · cases hs
    · cases hs
  | ladd =>
    cases (show len = 1 by simpa [qz_il] using hlen)
    simp only [qz_sp, qz_bl'] at hs
    split at hs
    · cases hs; exact qz_r_ladd hC hd (qz_k0 rfl kk)
    · cases hs
  | lmul =>
    cases (show len = 1 by simpa [qz_il] using hlen)
    simp only [qz_sp, qz_bl'] at hs
    split at hs
    · cases hs; exact qz_r_lmul hC hd (qz_k0 rfl kk)
    · cases hs
  | i2l =>
    cases (show len = 1 by simpa [qz_il] using hlen)
    simp only [qz_sp] at hs
    split at hs
    · cases hs; exact qz_r_i2l hC hd (qz_k0 rfl kk)
    · cases hs
  | lcmp =>
    cases (show len = 1 by simpa [qz_il] using hlen)
    simp only [qz_sp] at hs
    split at hs
    · cases hs; exact qz_r_lcmp hC hd (qz_k0 rfl kk)
    · cases hs
  | idiv =>
    cases (show len = 1 by simpa [qz_il] using hlen)
    simp only [qz_sp] at hs
    split at hs
    · split at hs
      · cases hs
      · next hy => cases hs; exact qz_r_idiv hC hd hy (qz_k0 rfl kk)
    · cases hs
  | irem =>
    cases (show len = 1 by simpa [qz_il] using hlen)
    simp only [qz_sp] at hs
    split at hs
    · split at hs
      · cases hs
      · next hy => cases hs; exact qz_r_irem hC hd hy (qz_k0 rfl kk)
    · cases hs
  | ineg =>
    cases (show len = 1 by simpa [qz_il] using hlen)
    simp only [qz_sp] at hs
    split at hs
    · cases hs; exact qz_r_ineg hC hd (qz_k0 rfl kk)
    · cases hs
  | i2c =>
    cases (show len = 1 by simpa [qz_il] using hlen)
    simp only [qz_sp] at hs
    split at hs
    · cases hs; exact qz_r_i2c hC hd (qz_k0 rfl kk)
    · cases hs
  | dup =>
    cases (show len = 1 by simpa [qz_il] using hlen)
    simp only [qz_sp] at hs
    split at hs
    · split at hs
      · next hx => cases hs; exact qz_r_dup hC hx hd (qz_k0 rfl kk)
      · cases hs
    · cases hs
  | dup2 =>
    cases (show len = 1 by simpa [qz_il] using hlen)
    simp only [qz_sp] at hs
    split at hs
    · split at hs
      · next hx => cases hs; exact qz_r_dup2 hC hx.1 hx.2 hd (qz_k0 rfl kk)
      · cases hs
    · cases hs
  | pop =>
    cases (show len = 1 by simpa [qz_il] using hlen)
    simp only [qz_sp] at hs
    split at hs
    · split at hs
      · next hx => cases hs; exact qz_r_pop hC hx hd (qz_k0 rfl kk)
      · cases hs
    · cases hs
  | ifCond cd off =>
    cases (show len = 3 by simpa [qz_il] using hlen)
    simp only [qz_sp] at hs
    split at hs
    · obtain ⟨-, -, -, -, eM, -⟩ := qz_br_inv hs
      exact qz_r_if hC hd hs (qz_k0 (by rw [eM]) kk)
    · cases hs
  | if_icmp cd off =>
    cases (show len = 3 by simpa [qz_il] using hlen)
    simp only [qz_sp] at hs
    split at hs
    · obtain ⟨-, -, -, -, eM, -⟩ := qz_br_inv hs
      exact qz_r_icmp hC hd hs (qz_k0 (by rw [eM]) kk)
    · cases hs
  | if_acmp cd off =>
    cases (show len = 3 by simpa [qz_il] using hlen)
    simp only [qz_sp] at hs
    split at hs
    · split at hs
      · next x y r hc =>
        obtain ⟨-, -, -, -, eM, -⟩ := qz_br_inv hs
        have dy : ∀ {x : Option qz_N} {n : qz_N}, qz_dy x = true → x = some n → n.1 < 30 := by
          intro x n h1 h2
          subst h2
          simpa [qz_dy] using h1
        exact qz_r_acmp hC (fun n h => ⟨dy hc.1 h, lv2 (by rw [h])⟩) (fun n h => ⟨dy hc.2 h, lv (by rw [h])⟩) hd hs (qz_k0 (by rw [eM]) kk)
      · cases hs
    · cases hs
  | ifnull off =>
    cases (show len = 3 by simpa [qz_il] using hlen)
    simp only [qz_sp] at hs
    split at hs
    · obtain ⟨-, -, -, -, eM, -⟩ := qz_br_inv hs
      exact qz_r_ifnull hC hd hs (qz_k0 (by rw [eM]) kk)
    · cases hs
  | ifnonnull off =>
    cases (show len = 3 by simpa [qz_il] using hlen)
    simp only [qz_sp] at hs
    split at hs
    · obtain ⟨-, -, -, -, eM, -⟩ := qz_br_inv hs
      exact qz_r_ifnonnull hC hd hs (qz_k0 (by rw [eM]) kk)
    · cases hs
  | goto off =>
    cases (show len = 3 by simpa [qz_il] using hlen)
    simp only [qz_sp] at hs
    split at hs
    · next ht => cases hs; exact qz_r_goto hC hd ht (qz_k0 rfl kk)
    · cases hs
  | tableswitch d lo hi offs =>
    simp only [qz_sp] at hs
    split at hs
    · split at hs
      · next h =>
        split at hs
        · next ht => cases hs; exact qz_r_tabO hC hd h ht (qz_k0 rfl kk)
        · cases hs
      · next h =>
        split at hs
        · next ho =>
          split at hs
          · next ht => cases hs; exact qz_r_tabI hC hd h ho ht (qz_k0 rfl kk)
          · cases hs
        · cases hs
    · cases hs
  | getfield i =>
    cases (show len = 3 by simpa [qz_il] using hlen)
    simp only [qz_sp] at hs
    split at hs
    · split at hs
      · next hf =>
        split at hs
        · next hc => subst hc; cases hs; exact qz_r_getf hC hd hf (lv rfl) (qz_k0 rfl kk)
        · cases hs
      · cases hs
    · cases hs
  | putfield i =>
    cases (show len = 3 by simpa [qz_il] using hlen)
    simp only [qz_sp] at hs
    split at hs
    · split at hs
      · next hf =>
        split at hs
        · next hc =>
          obtain ⟨h1, h2, h3, h4⟩ := hc
          subst h1
          cases hs
          exact qz_r_putfi hC hd hf (lv2 rfl) h2 h3 h4 (qz_k0 rfl kk)
        · cases hs
      · cases hs
    · split at hs
      · next hf =>
        split at hs
        · next hc =>
          obtain ⟨h1, h2, h3, h4, h5⟩ := hc
          subst h1
          cases hs
          exact qz_r_putfr hC hd hf (lv2 rfl) h2 h3 h4 h5 (qz_k0 rfl kk)
        · cases hs
      · cases hs
    · cases hs
  | getstatic i =>
    cases (show len = 3 by simpa [qz_il] using hlen)
    simp only [qz_sp] at hs
    split at hs
    · next hf => cases hs; exact qz_r_getst hC hd hf (qz_k0 rfl kk)
    · cases hs
  | iaload =>
    cases (show len = 1 by simpa [qz_il] using hlen)
    simp only [qz_sp, qz_ld] at hs
    split at hs
    · split at hs
      · next hc => cases hs; exact qz_r_iald hC hd hc.1 hc.2 (lv2 rfl) (qz_k0 rfl kk)
      · cases hs
    · cases hs
  | caload =>
    cases (show len = 1 by simpa [qz_il] using hlen)
    simp only [qz_sp, qz_ld] at hs
    split at hs
    · split at hs
      · next hc => cases hs; exact qz_r_cald hC hd hc.1 hc.2 (lv2 rfl) (qz_k0 rfl kk)
      · cases hs
    · cases hs
  | iastore =>
    cases (show len = 1 by simpa [qz_il] using hlen)
    simp only [qz_sp, qz_sd] at hs
    split at hs
    · split at hs
      · next hc => cases hs; exact qz_r_iast hC hd hc.1 hc.2.1 hc.2.2 (lv3 rfl) (qz_k0 rfl kk)
      · cases hs
    · cases hs
  | castore =>
    cases (show len = 1 by simpa [qz_il] using hlen)
    simp only [qz_sp, qz_sd] at hs
    split at hs
    · split at hs
      · next hc => cases hs; exact qz_r_cast hC hd hc.1 hc.2.1 hc.2.2 (lv3 rfl) (qz_k0 rfl kk)
      · cases hs
    · cases hs
  | aaload =>
    cases (show len = 1 by simpa [qz_il] using hlen)
    simp only [qz_sp] at hs
    split at hs
    · split at hs
      · next hc => cases hs; exact qz_r_aald hC hd hc.1 hc.2 (lv2 rfl) (qz_k0 rfl kk)
      · cases hs
    · cases hs
  | aastore =>
    cases (show len = 1 by simpa [qz_il] using hlen)
    simp only [qz_sp] at hs
    split at hs
    · split at hs
      · next hc => cases hs; exact qz_r_aast hC hd hc.1 hc.2.1 hc.2.2 (lv3 rfl) (lv rfl) (qz_k0 rfl kk)
      · cases hs
    · cases hs
  | arraylength =>
    cases (show len = 1 by simpa [qz_il] using hlen)
    simp only [qz_sp] at hs
    split at hs
    · split at hs
      · next hc => cases hs; exact qz_r_alen hC hd hc (lv rfl) (qz_k0 rfl kk)
      · cases hs
    · cases hs
  | new i =>
    cases (show len = 3 by simpa [qz_il] using hlen)
    simp only [qz_sp] at hs
    split at hs
    · next hw =>
      split at hs
      · next hc =>
        obtain ⟨h1, h2, h3⟩ := hc
        subst h1
        cases hs
        rw [qz_al1] at hce kk
        rw [qz_al2] at hsl kk
        exact qz_r_new hC hd hw h2 h3 hce hsl kk
      · cases hs
    · cases hs
  | newarray a =>
    cases (show len = 2 by simpa [qz_il] using hlen)
    simp only [qz_sp] at hs
    split at hs
    · split at hs
      · next hc =>
        obtain ⟨h1, h2, h3, h4, h5⟩ := hc
        cases hs
        rw [qz_al1] at hce kk
        rw [qz_al2] at hsl kk
        exact qz_r_newa hC hd h1 h2 h3 h4 h5 hce hsl kk
      · cases hs
    · cases hs
  | anewarray i =>
    cases (show len = 3 by simpa [qz_il] using hlen)
    simp only [qz_sp] at hs
    split at hs
    · split at hs
      · next hw =>
        split at hs
        · next hc =>
          obtain ⟨h1, h2, h3, h4, h5, h6⟩ := hc
          subst h6
          cases hs
          rw [qz_al1] at hce kk
          rw [qz_al2] at hsl kk
          exact qz_r_anew hC hd hw h1 h2 h3 h4 h5 hce hsl kk
        · cases hs
      · cases hs
    · cases hs
  | _ => cases hs
theorem qz_bist (hC : qz_Cx p s m args meth c z tA D cy k) (hRF : qz_rF k ≤ R.frames) (hRL : qz_rL k ≤ R.locals) {ins : Instr} {len pc' : Nat} {ls' : List (Option qz_V)} {st' : List qz_V} {M' : qz_M} (hd : decode (qz_b k) pc = .ok (ins, len)) (hlen : qz_il ins len = true) (hs : qz_bi k ins pc ls st M = some (pc', ls', st', M')) (hce : ce ≤ R.cells) (hsl : sl ≤ R.slots)
    (kk : qz_W p l e R s m args below meth c z tA D cy k Q ce sl pc' ls' st' M') : qz_W p l e R s m args below meth c z tA D cy k Q ce sl pc ls st M := by
  have hts : ∀ w ∈ qz_tb, w.before args s = true := hC.2.2.2.2.1
  unfold qz_bi at hs
  split at hs
  · cases (show len = 3 by simpa [qz_il] using hlen)
    split at hs
    · split at hs
      · next hc =>
        cases hs
        intro H locs lsm hL hP hS hT
        refine W.objInit hC.1 hC.2.1 hC.2.2.2.1 (hts _ (qz_ob_ok hc.1)) (hts _ qz_oi) (hts _ qz_oc) rfl (by rw [hC.2.2.1]; exact hL.2.1) rfl hd (by have := hc.2.2.1; omega) ?_ (kk H locs lsm hL hP hS hT)
        have := hc.2.1
        have h2 := hc.2.2.2
        rw [qz_tvs]
        show 2 * 0 + _ + 12 ≤ _
        omega
      · cases hs
    · cases hs
  · cases (show len = 3 by simpa [qz_il] using hlen)
    split at hs
    · next hm =>
      split at hs
      · split at hs
        · next hc =>
          cases hs
          intro H locs lsm hL hP hS hT
          have hw : Cond.methodLink (qz_ow (qz_cn k)) _ Lib.Math.max.name ∈ qz_tb := (qz_mt_ok hm).elim (fun h => h.2) (fun h => by cases h.1)
          refine va_mmax hC.1 hC.2.1 (by rw [hC.2.2.1]; exact hL.2.1.symm) hC.2.2.2.1 (hts _ hw) (hts _ qz_mw_max.1) (hts _ qz_mw_max.2.1) (hts _ qz_mw_max.2.2) (by have := hc.2.1; omega) ?_ hce hsl hd (kk H locs lsm hL hP hS hT)
          have h1 := hc.1
          have h2 := hc.2.2
          rw [qz_tvs]
          omega
        · cases hs
      · cases hs
    · next hm =>
      split at hs
      · split at hs
        · next hc =>
          cases hs
          intro H locs lsm hL hP hS hT
          have hw : Cond.methodLink (qz_ow (qz_cn k)) _ Lib.Math.abs.name ∈ qz_tb := (qz_mt_ok hm).elim (fun h => by cases h.1) (fun h => h.2)
          refine va_mabs hC.1 hC.2.1 (by rw [hC.2.2.1]; exact hL.2.1.symm) hC.2.2.2.1 (hts _ hw) (hts _ qz_mw_abs.1) (hts _ qz_mw_abs.2.1) (hts _ qz_mw_abs.2.2) (by have := hc.2.1; omega) ?_ hce hsl hd (kk H locs lsm hL hP hS hT)
          have h1 := hc.1
          have h2 := hc.2.2
          rw [qz_tvs]
          omega
        · cases hs
      · cases hs
    · cases hs
  · cases hs
/-- the return of a method that was called -/
theorem qz_ret (hC : qz_Cx p s m args meth c z tA D cy k) (hr : meth.sig.returnType = qz_rt k) (hlk : meth.locks = false) {ins : Instr} {r : Option qz_V} {H : Heap} {locs : List Loc} {lsm : Array Slot} (hd : decode (qz_b k) pc = .ok (ins, 1)) (hv : qz_rv k ins st = some r) (hP : qz_P z tA D cy M H) (hS : va_S (qz_A z) s.heap H locs) : W p l e R s m args below meth c H locs ce sl (MQ below (qz_Qc z tA D cy r M) args s ce sl (qz_A z)) (F0 m pc lsm (st.map (qz_tv z tA))) := by
  unfold qz_rv at hv
  split at hv
  · split at hv
    · next x =>
      split at hv
      · next hc =>
        cases hv
        rcases hc with h | ⟨h, hx⟩
        · exact W.iret (v := x) hC.1 hC.2.1 (by rw [hr, h]) (fun t ht hW => ⟨rfl, by rw [ht]; exact hP, hS.F ht⟩) hS.2.2 hd hlk
        · exact W.zret (v := x) hC.1 hC.2.1 (by rw [hr, h]) (by rcases hx with rfl | rfl <;> rfl) (fun t ht hW => ⟨rfl, by rw [ht]; exact hP, hS.F ht⟩) hS.2.2 hd hlk
      · cases hv
    · cases hv
  · split at hv
    · next x =>
      split at hv
      · next h =>
        cases hv
        exact W.aret (v := va_rf (x.map (qz_ad z tA))) hC.1 hC.2.1 (by rw [hr, h]) (Or.inl ⟨_, rfl⟩) (by cases x; exact Or.inl rfl; exact Or.inr ⟨_, rfl⟩) (fun t ht hW => ⟨rfl, by rw [ht]; exact hP, hS.F ht⟩) hS.2.2 hd hlk
      · cases hv
    · cases hv
  · split at hv
    · next x =>
      split at hv
      · next h =>
        cases hv
        exact W.lret (v := x) hC.1 hC.2.1 (by rw [hr, h]) (fun t ht hW => ⟨rfl, by rw [ht]; exact hP, hS.F ht⟩) hS.2.2 hd hlk
      · cases hv
    · cases hv
  · split at hv
    · split at hv
      · next h =>
        cases hv
        exact W.vret hC.1 hC.2.1 (by rw [hr, h]) (fun t ht hW => ⟨rfl, by rw [ht]; exact hP, hS.F ht⟩) hS.2.2 hd hlk
      · cases hv
    · cases hv
  · cases hv
theorem qz_rvl {ins : Instr} {len : Nat} {r : Option qz_V} (hv : qz_rv k ins st = some r) (hl : qz_il ins len = true) : len = 1 := by
  unfold qz_rv at hv
  split at hv <;> first | (simpa [qz_il] using hl) | cases hv
theorem qz_con {k' : Nat} (h : qz_co' k k' st = true) : (qz_ag (qz_na k') st).all qz_nl = true := by
  simp only [qz_co', Bool.and_eq_true] at h
  unfold qz_ag
  rw [List.all_reverse]
  exact h.1.1.2.1
theorem qz_kln {ins : Instr} {k' : Nat} (hv : qz_kl k ins st = some k') : (qz_ag (qz_na k') st).all qz_nl = true := by
  unfold qz_kl at hv
  split at hv
  · split at hv
    · split at hv
      · next h => cases hv; exact qz_con h.1
      · cases hv
    · cases hv
  · split at hv
    · split at hv
      · next h => cases hv; exact qz_con h.1
      · cases hv
    · cases hv
  · split at hv
    · split at hv
      · next h => cases hv; exact qz_con h.1
      · cases hv
    · cases hv
  · cases hv
theorem qz_kll {ins : Instr} {len k' : Nat} (hv : qz_kl k ins st = some k') (hl : qz_il ins len = true) : len = 3 := by
  unfold qz_kl at hv
  split at hv <;> first | (simpa [qz_il] using hl) | cases hv
theorem qz_ml_ll (k : Nat) : qz_ml k ≤ qz_ll k := by
  unfold qz_ll
  split <;> omega
def qz_IH (l : Launch) (z : Nat) (tA : Nat → Nat) (D : va_G) (cy : Nat → ClassId) (n : Nat) : Prop := ∀ (k : Nat) (as : List qz_V) (M : qz_M) (r : Option qz_V) (M' : qz_M), k < qz_nm → as.length = qz_na k → as.all qz_nl = true → qz_ex n k 0 (qz_in0 k as) [] M = some (r, M') → qz_ok (qz_in0 k as) [] M → qz_Mt l z tA D cy k as M r M'
theorem qz_walk (hC : qz_Cx p s m args meth c z tA D cy k) (hRF : qz_rF k ≤ R.frames) (hRL : qz_rL k ≤ R.locals) {N : Nat} (ih : ∀ j, j < N → qz_IH l z tA D cy j) {r : Option qz_V} {M' : qz_M} : ∀ (n : Nat), n ≤ N → ∀ (pc : Nat) (ls : List (Option qz_V)) (st : List qz_V) (M : qz_M) (ce sl : Nat), qz_ex n k pc ls st M = some (r, M') → qz_ok ls st M → ce + (M'.1 - M.1) ≤ R.cells → sl + (qz_ss M'.1 - qz_ss M.1) ≤ R.slots →
    (∀ (H : Heap) (locs : List Loc) (lsm : Array Slot) (pc : Nat) (ins : Instr) (st : List qz_V), decode (qz_b k) pc = .ok (ins, 1) → qz_rv k ins st = some r → qz_P z tA D cy M' H → va_S (qz_A z) s.heap H locs → W p l e R s m args below meth c H locs (ce + (M'.1 - M.1)) (sl + (qz_ss M'.1 - qz_ss M.1)) Q (F0 m pc lsm (st.map (qz_tv z tA)))) → qz_W p l e R s m args below meth c z tA D cy k Q ce sl pc ls st M := by
  intro n
  induction n with
  | zero => intro _ pc ls st M ce sl h; cases h
  | succ n ihn =>
    intro hN pc ls st M ce sl h hok hce hsl hret
    unfold qz_ex at h
    split at h
    · next ins len hd =>
      split at h
      · next hlen =>
        split at h
        · next pc1 ls1 st1 M1 hs =>
          obtain ⟨h1, h2⟩ := qz_sp_ok hs hok
          obtain ⟨-, -, h5⟩ := qz_ex_ok _ _ _ _ _ _ _ _ h h1
          have a1 := h2.1
          have a2 := h5.1
          have a3 := qz_ss_le a1
          have a4 := qz_ss_le a2
          refine qz_step hC hok hd hlen hs (by omega) (by omega) (ihn (by omega) _ _ _ _ _ _ h h1 (by omega) (by omega) ?_)
          rw [show ce + (M1.1 - M.1) + (M'.1 - M1.1) = ce + (M'.1 - M.1) by omega, show sl + (qz_ss M1.1 - qz_ss M.1) + (qz_ss M'.1 - qz_ss M1.1) = sl + (qz_ss M'.1 - qz_ss M.1) by omega]
          exact hret
        · split at h
          · next hv =>
            cases h
            cases qz_rvl hv hlen
            intro H locs lsm hL hP hS hT
            have := hret H locs lsm pc _ st hd hv hP hS
            rw [Nat.sub_self, Nat.sub_self, Nat.add_zero, Nat.add_zero] at this
            exact this
          · split at h
            · next pc1 ls1 st1 M1 hs =>
              obtain ⟨h1, h2⟩ := qz_bi_ok hs hok
              have e1 : M1 = M := by
                unfold qz_bi at hs
                split at hs
                · split at hs
                  · split at hs
                    · cases hs; rfl
                    · cases hs
                  · cases hs
                · split at hs
                  · split at hs
                    · split at hs
                      · cases hs; rfl
                      · cases hs
                    · cases hs
                  · split at hs
                    · split at hs
                      · cases hs; rfl
                      · cases hs
                    · cases hs
                  · cases hs
                · cases hs
              subst e1
              exact qz_bist hC hRF hRL hd hlen hs (by omega) (by omega) (ihn (by omega) _ _ _ _ _ _ h h1 hce hsl hret)
            · split at h
              · next k' hk =>
                split at h
                · next r1 M1 hs =>
                  obtain ⟨h1, h2, h6⟩ := qz_ex_ok _ _ _ _ _ _ _ _ hs (qz_in0_ok hok)
                  have h7 := qz_aft (k := qz_na k') hok h6 h1 h2
                  obtain ⟨-, -, h5⟩ := qz_ex_ok _ _ _ _ _ _ _ _ h h7
                  have a1 := h6.1
                  have a2 := h5.1
                  have a3 := qz_ss_le a1
                  have a4 := qz_ss_le a2
                  cases qz_kll hk hlen
                  refine qz_r_call hC hRF hRL hd hk hok.2.2 (fun hn hal => ih n (by omega) _ _ _ _ _ hn hal (qz_kln hk) hs (qz_in0_ok hok)) h6 (by omega) (by omega) (ihn (by omega) _ _ _ _ _ _ h h7 (by omega) (by omega) ?_)
                  rw [show ce + (M1.1 - M.1) + (M'.1 - M1.1) = ce + (M'.1 - M.1) by omega, show sl + (qz_ss M1.1 - qz_ss M.1) + (qz_ss M'.1 - qz_ss M1.1) = sl + (qz_ss M'.1 - qz_ss M.1) by omega]
                  exact hret
                · cases h
              · cases h
      · cases h
    · cases h
/-- every method's contract: what the interpreter answers -/
theorem qz_sim (l : Launch) (z : Nat) (tA : Nat → Nat) (D : va_G) (cy : Nat → ClassId) : ∀ n, qz_IH l z tA D cy n := by
  intro n
  induction n using Nat.strongRecOn with
  | ind N ih =>
    intro k as M r M' hk hal han hex hok
    obtain ⟨m1, m2, m3, m4, m5, m6, m7, m8, m9, m10⟩ := qz_mo hk
    refine Met.ofW (cc := qz_b k) (maxL := qz_ml k) (ret := qz_rt k) m1 rfl ?_
    intro p e s m args below meth c s₁ B hml hv
    obtain ⟨rfl, hP, hK, hT⟩ := hv
    have hts := atoms_spec (ws := qz_ws k) B.pre
    have hown : s.vm.findClass (qz_ow (qz_cn k)) = some m.cls := by
      rw [← m8]
      exact findClass_of_methodNamed B.named
    have hC : qz_Cx p s m ((as.map (qz_tv z tA)).toArray) meth c z tA D cy k := ⟨B.exec, B.bytes, hml, hown, fun w hw => hts w (List.mem_cons_of_mem _ hw), fun h => by
      rw [(name_of_methodNamed B.named B.method).1]
      simpa [qz_ini] using h, hK, by rw [hP.1]; exact Nat.le_add_right _ _⟩
    rw [lg_entry_eq]
    have hst := qz_L.start (z := z) (tA := tA) as (qz_ml k) (qz_ll k) (by rw [hal]; exact m9) (qz_ml_ll k) han
    have hw := qz_walk (R := (headSpec (qz_ws k) (qz_rm k (M'.1 - M.1) (qz_ss M'.1 - qz_ss M.1))).room) (below := below) (l := l) (e := e) (Q := MQ below (qz_Qc z tA D cy r M') ((as.map (qz_tv z tA)).toArray) s (M'.1 - M.1) (qz_ss M'.1 - qz_ss M.1) (qz_A z)) hC (Nat.le_refl _) (Nat.le_refl _) ih N (Nat.le_refl _) 0 (qz_in0 k as) [] M 0 0 hex hok (by rw [Nat.zero_add]; exact Nat.le_refl _) (by rw [Nat.zero_add]; exact Nat.le_refl _)
      (fun H locs lsm pc ins st hd hv hP' hS' => by
        rw [Nat.zero_add, Nat.zero_add]
        exact qz_ret hC B.returns B.notSynchronized hd hv hP' hS')
    exact hw s.heap [] _ hst hP va_S.rf hT
end QZW
