/-! the interpreter's runs, without fuel: rows -/
def qz_E (k pc : Nat) (ls : List (Option qz_V)) (st : List qz_V) (M : qz_M) (r : Option qz_V) (M' : qz_M) : Prop := ∃ n, qz_ex n k pc ls st M = some (r, M')
theorem qz_mono : ∀ (n k pc : Nat) (ls : List (Option qz_V)) (st : List qz_V) (M : qz_M) (x : Option qz_V × qz_M), qz_ex n k pc ls st M = some x → qz_ex (n + 1) k pc ls st M = some x := by
  intro n
  induction n with
  | zero => intro k pc ls st M x h; cases h
  | succ n ih =>
    intro k pc ls st M x h
    unfold qz_ex at h ⊢
    split at h
    · split at h
      · next hl =>
        rw [if_pos hl]
        split at h
        · next hs => exact ih _ _ _ _ _ _ h
        · next hs =>
          split at h
          · next hv => exact h
          · next hv =>
            split at h
            · next hb => exact ih _ _ _ _ _ _ h
            · next hb =>
              split at h
              · next hk =>
                split at h
                · next hc =>
                  rw [ih _ _ _ _ _ _ hc]
                  exact ih _ _ _ _ _ _ h
                · cases h
              · cases h
      · cases h
    · cases h
theorem qz_mono' {n m k pc : Nat} {ls : List (Option qz_V)} {st : List qz_V} {M : qz_M} {x : Option qz_V × qz_M} (h : qz_ex n k pc ls st M = some x) (hm : n ≤ m) : qz_ex m k pc ls st M = some x := by
  induction hm with
  | refl => exact h
  | step _ ih => exact qz_mono _ _ _ _ _ _ _ ih
section QZE
variable {k pc pc' : Nat} {bc : ByteArray} {ls ls' : List (Option qz_V)} {st : List qz_V} {M M1 M' : qz_M} {r : Option qz_V} {nL : Nat}
theorem ei_sp {ins : Instr} {len : Nat} {st' : List qz_V} (hb : qz_b k = bc) (hd : decode bc pc = .ok (ins, len)) (hl : qz_il ins len = true) (hs : qz_sp (qz_cn k) (qz_ml k) (qz_ini k) ins pc ls st M = some (pc', ls', st', M1)) (kk : qz_E k pc' ls' st' M1 r M') : qz_E k pc ls st M r M' := by
  obtain ⟨n, h⟩ := kk
  refine ⟨n + 1, ?_⟩
  subst hb
  unfold qz_ex
  rw [hd]
  simp only [hl, if_true, hs]
  exact h
theorem ei_c {i : Int} {v : Int32} (hb : qz_b k = bc) (hd : decode bc pc = .ok (.iconst i, 1)) (hv : Int32.ofInt i = v) (hp : pc + 1 = pc') (kk : qz_E k pc' ls (.inl v :: st) M r M') : qz_E k pc ls st M r M' := ei_sp hb hd rfl (by rw [← hv, ← hp]; rfl) kk
theorem ei_b {i : Int} {v : Int32} (hb : qz_b k = bc) (hd : decode bc pc = .ok (.bipush i, 2)) (hv : (Int8.ofInt i).toInt32 = v) (hp : pc + 2 = pc') (kk : qz_E k pc' ls (.inl v :: st) M r M') : qz_E k pc ls st M r M' := ei_sp hb hd rfl (by rw [← hv, ← hp]; rfl) kk
theorem ei_s {i : Int} {v : Int32} (hb : qz_b k = bc) (hd : decode bc pc = .ok (.sipush i, 3)) (hv : (Int16.ofInt i).toInt32 = v) (hp : pc + 3 = pc') (kk : qz_E k pc' ls (.inl v :: st) M r M') : qz_E k pc ls st M r M' := ei_sp hb hd rfl (by rw [← hv, ← hp]; rfl) kk
theorem ei_null (hb : qz_b k = bc) (hd : decode bc pc = .ok (.aconst_null, 1)) (hp : pc + 1 = pc') (kk : qz_E k pc' ls (.inr (.inl none) :: st) M r M') : qz_E k pc ls st M r M' := ei_sp hb hd rfl (by rw [← hp]; rfl) kk
theorem ei_il {i : Nat} {x : Int32} (hb : qz_b k = bc) (hd : decode bc pc = .ok (.iload i, 2)) (hx : ls[i]? = some (some (.inl x))) (hp : pc + 2 = pc') (kk : qz_E k pc' ls (.inl x :: st) M r M') : qz_E k pc ls st M r M' := ei_sp hb hd rfl (by simp only [qz_sp, qz_li, hx, ← hp]) kk
theorem ei_iln {i : Fin 4} {x : Int32} (hb : qz_b k = bc) (hd : decode bc pc = .ok (.iload_n i, 1)) (hx : ls[i.val]? = some (some (.inl x))) (hp : pc + 1 = pc') (kk : qz_E k pc' ls (.inl x :: st) M r M') : qz_E k pc ls st M r M' := ei_sp hb hd rfl (by simp only [qz_sp, qz_li, hx, ← hp]) kk
theorem ei_al {i : Nat} {x : Option qz_N} (hb : qz_b k = bc) (hd : decode bc pc = .ok (.aload i, 2)) (hx : ls[i]? = some (some (.inr (.inl x)))) (hp : pc + 2 = pc') (kk : qz_E k pc' ls (.inr (.inl x) :: st) M r M') : qz_E k pc ls st M r M' := ei_sp hb hd rfl (by simp only [qz_sp, qz_la, hx, ← hp]) kk
theorem ei_aln {i : Fin 4} {x : Option qz_N} (hb : qz_b k = bc) (hd : decode bc pc = .ok (.aload_n i, 1)) (hx : ls[i.val]? = some (some (.inr (.inl x)))) (hp : pc + 1 = pc') (kk : qz_E k pc' ls (.inr (.inl x) :: st) M r M') : qz_E k pc ls st M r M' := ei_sp hb hd rfl (by simp only [qz_sp, qz_la, hx, ← hp]) kk
theorem ei_is {i : Nat} {x : Int32} (hb : qz_b k = bc) (hd : decode bc pc = .ok (.istore i, 2)) (hml : qz_ml k = nL) (hi : i < nL) (hg : qz_g2 nL ls i = true) (hp : pc + 2 = pc') (hl : ls.set i (some (.inl x)) = ls') (kk : qz_E k pc' ls' st M r M') : qz_E k pc ls (.inl x :: st) M r M' := ei_sp hb hd rfl (by subst hml; simp only [qz_sp, qz_si]; rw [if_pos ⟨hi, hg⟩, hl, hp]) kk
theorem ei_isn {i : Fin 4} {x : Int32} (hb : qz_b k = bc) (hd : decode bc pc = .ok (.istore_n i, 1)) (hml : qz_ml k = nL) (hi : i.val < nL) (hg : qz_g2 nL ls i.val = true) (hp : pc + 1 = pc') (hl : ls.set i.val (some (.inl x)) = ls') (kk : qz_E k pc' ls' st M r M') : qz_E k pc ls (.inl x :: st) M r M' := ei_sp hb hd rfl (by subst hml; simp only [qz_sp, qz_si]; rw [if_pos ⟨hi, hg⟩, hl, hp]) kk
theorem ei_as {i : Nat} {x : Option qz_N} (hb : qz_b k = bc) (hd : decode bc pc = .ok (.astore i, 2)) (hml : qz_ml k = nL) (hi : i < nL) (hg : qz_g2 nL ls i = true) (hp : pc + 2 = pc') (hl : ls.set i (some (.inr (.inl x))) = ls') (kk : qz_E k pc' ls' st M r M') : qz_E k pc ls (.inr (.inl x) :: st) M r M' := ei_sp hb hd rfl (by subst hml; simp only [qz_sp, qz_sr]; rw [if_pos ⟨hi, hg⟩, hl, hp]) kk
theorem ei_asn {i : Fin 4} {x : Option qz_N} (hb : qz_b k = bc) (hd : decode bc pc = .ok (.astore_n i, 1)) (hml : qz_ml k = nL) (hi : i.val < nL) (hg : qz_g2 nL ls i.val = true) (hp : pc + 1 = pc') (hl : ls.set i.val (some (.inr (.inl x))) = ls') (kk : qz_E k pc' ls' st M r M') : qz_E k pc ls (.inr (.inl x) :: st) M r M' := ei_sp hb hd rfl (by subst hml; simp only [qz_sp, qz_sr]; rw [if_pos ⟨hi, hg⟩, hl, hp]) kk
theorem ei_inc {i : Nat} {n : Int} {x v : Int32} (hb : qz_b k = bc) (hd : decode bc pc = .ok (.iinc i n, 3)) (hx : ls[i]? = some (some (.inl x))) (hml : qz_ml k = nL) (hi : i < nL) (hg : qz_g2 nL ls i = true) (hv : x + Int32.ofInt n = v) (hp : pc + 3 = pc') (hl : ls.set i (some (.inl v)) = ls') (kk : qz_E k pc' ls' st M r M') : qz_E k pc ls st M r M' := ei_sp hb hd rfl (by subst hml; simp only [qz_sp, hx]; rw [if_pos ⟨hi, hg⟩, hv, hl, hp]) kk
theorem ei_add {x y : Int32} (hb : qz_b k = bc) (hd : decode bc pc = .ok (.iadd, 1)) (hp : pc + 1 = pc') (kk : qz_E k pc' ls (.inl (x + y) :: st) M r M') : qz_E k pc ls (.inl y :: .inl x :: st) M r M' := ei_sp hb hd rfl (by rw [← hp]; rfl) kk
theorem ei_sub {x y : Int32} (hb : qz_b k = bc) (hd : decode bc pc = .ok (.isub, 1)) (hp : pc + 1 = pc') (kk : qz_E k pc' ls (.inl (x - y) :: st) M r M') : qz_E k pc ls (.inl y :: .inl x :: st) M r M' := ei_sp hb hd rfl (by rw [← hp]; rfl) kk
theorem ei_mul {x y : Int32} (hb : qz_b k = bc) (hd : decode bc pc = .ok (.imul, 1)) (hp : pc + 1 = pc') (kk : qz_E k pc' ls (.inl (x * y) :: st) M r M') : qz_E k pc ls (.inl y :: .inl x :: st) M r M' := ei_sp hb hd rfl (by rw [← hp]; rfl) kk
theorem ei_and {x y : Int32} (hb : qz_b k = bc) (hd : decode bc pc = .ok (.iand, 1)) (hp : pc + 1 = pc') (kk : qz_E k pc' ls (.inl (x &&& y) :: st) M r M') : qz_E k pc ls (.inl y :: .inl x :: st) M r M' := ei_sp hb hd rfl (by rw [← hp]; rfl) kk
theorem ei_div {x y : Int32} (hb : qz_b k = bc) (hd : decode bc pc = .ok (.idiv, 1)) (hy : ¬ y = 0) (hp : pc + 1 = pc') (kk : qz_E k pc' ls (.inl (x / y) :: st) M r M') : qz_E k pc ls (.inl y :: .inl x :: st) M r M' := ei_sp hb hd rfl (by simp only [qz_sp, if_neg hy, ← hp]) kk
theorem ei_rem {x y : Int32} (hb : qz_b k = bc) (hd : decode bc pc = .ok (.irem, 1)) (hy : ¬ y = 0) (hp : pc + 1 = pc') (kk : qz_E k pc' ls (.inl (x - x / y * y) :: st) M r M') : qz_E k pc ls (.inl y :: .inl x :: st) M r M' := ei_sp hb hd rfl (by simp only [qz_sp, if_neg hy, ← hp]) kk
theorem ei_neg {x : Int32} (hb : qz_b k = bc) (hd : decode bc pc = .ok (.ineg, 1)) (hp : pc + 1 = pc') (kk : qz_E k pc' ls (.inl (-x) :: st) M r M') : qz_E k pc ls (.inl x :: st) M r M' := ei_sp hb hd rfl (by rw [← hp]; rfl) kk
theorem ei_i2c {x : Int32} (hb : qz_b k = bc) (hd : decode bc pc = .ok (.i2c, 1)) (hp : pc + 1 = pc') (kk : qz_E k pc' ls (.inl (x.toUInt32 % 65536).toInt32 :: st) M r M') : qz_E k pc ls (.inl x :: st) M r M' := ei_sp hb hd rfl (by rw [← hp]; rfl) kk
theorem ei_dup {x : qz_V} (hb : qz_b k = bc) (hd : decode bc pc = .ok (.dup, 1)) (hn : qz_nl x = true) (hp : pc + 1 = pc') (kk : qz_E k pc' ls (x :: x :: st) M r M') : qz_E k pc ls (x :: st) M r M' := ei_sp hb hd rfl (by simp only [qz_sp]; rw [if_pos hn, hp]) kk
theorem ei_dup2 {x y : qz_V} (hb : qz_b k = bc) (hd : decode bc pc = .ok (.dup2, 1)) (hn : qz_nl x = true ∧ qz_nl y = true) (hp : pc + 1 = pc') (kk : qz_E k pc' ls (x :: y :: x :: y :: st) M r M') : qz_E k pc ls (x :: y :: st) M r M' := ei_sp hb hd rfl (by simp only [qz_sp]; rw [if_pos hn, hp]) kk
theorem ei_pop {x : qz_V} (hb : qz_b k = bc) (hd : decode bc pc = .ok (.pop, 1)) (hn : qz_nl x = true) (hp : pc + 1 = pc') (kk : qz_E k pc' ls st M r M') : qz_E k pc ls (x :: st) M r M' := ei_sp hb hd rfl (by simp only [qz_sp]; rw [if_pos hn, hp]) kk
theorem ei_shr {x y : Int32} (hb : qz_b k = bc) (hd : decode bc pc = .ok (.ishr, 1)) (hp : pc + 1 = pc') (kk : qz_E k pc' ls (.inl (x >>> (y &&& 31)) :: st) M r M') : qz_E k pc ls (.inl y :: .inl x :: st) M r M' := ei_sp hb hd rfl (by rw [← hp]; rfl) kk
theorem ei_k4 {c i : Nat} {v : Int32} (hb : qz_b k = bc) (hd : decode bc pc = .ok (.ldc i, 2)) (hcn : qz_cn k = c) (hv : qz_k4 c i = some v) (hp : pc + 2 = pc') (kk : qz_E k pc' ls (.inl v :: st) M r M') : qz_E k pc ls st M r M' := ei_sp hb hd rfl (by subst hcn; simp only [qz_sp, hv, ← hp]) kk
theorem ei_k8 {c i : Nat} {v : Int64} (hb : qz_b k = bc) (hd : decode bc pc = .ok (.ldc2_w i, 3)) (hcn : qz_cn k = c) (hv : qz_k8 c i = some v) (hp : pc + 3 = pc') (kk : qz_E k pc' ls (.inr (.inr v) :: st) M r M') : qz_E k pc ls st M r M' := ei_sp hb hd rfl (by subst hcn; simp only [qz_sp, hv, ← hp]) kk
theorem ei_ll {i : Nat} {x : Int64} (hb : qz_b k = bc) (hd : decode bc pc = .ok (.lload i, 2)) (hml : qz_ml k = nL) (hx : ls[nL + i]? = some (some (.inr (.inr x)))) (hp : pc + 2 = pc') (kk : qz_E k pc' ls (.inr (.inr x) :: st) M r M') : qz_E k pc ls st M r M' := ei_sp hb hd rfl (by subst hml; simp only [qz_sp, qz_ll', hx, ← hp]) kk
theorem ei_lln {i : Fin 4} {x : Int64} (hb : qz_b k = bc) (hd : decode bc pc = .ok (.lload_n i, 1)) (hml : qz_ml k = nL) (hx : ls[nL + i.val]? = some (some (.inr (.inr x)))) (hp : pc + 1 = pc') (kk : qz_E k pc' ls (.inr (.inr x) :: st) M r M') : qz_E k pc ls st M r M' := ei_sp hb hd rfl (by subst hml; simp only [qz_sp, qz_ll', hx, ← hp]) kk
theorem ei_ls {i : Nat} {x : Int64} (hb : qz_b k = bc) (hd : decode bc pc = .ok (.lstore i, 2)) (hml : qz_ml k = nL) (hi : i + 1 < nL) (hn : nL + i < ls.length) (hg : qz_g1 nL ls (i + 1) = true) (hg3 : qz_g3 nL ls i = true) (hp : pc + 2 = pc') (hl : qz_sl' nL i ls x = ls') (kk : qz_E k pc' ls' st M r M') : qz_E k pc ls (.inr (.inr x) :: st) M r M' := ei_sp hb hd rfl (by subst hml; simp only [qz_sp, qz_sl]; rw [if_pos ⟨hi, hn, hg, hg3⟩, hl, hp]) kk
theorem ei_lsn {i : Fin 4} {x : Int64} (hb : qz_b k = bc) (hd : decode bc pc = .ok (.lstore_n i, 1)) (hml : qz_ml k = nL) (hi : i.val + 1 < nL) (hn : nL + i.val < ls.length) (hg : qz_g1 nL ls (i.val + 1) = true) (hg3 : qz_g3 nL ls i.val = true) (hp : pc + 1 = pc') (hl : qz_sl' nL i.val ls x = ls') (kk : qz_E k pc' ls' st M r M') : qz_E k pc ls (.inr (.inr x) :: st) M r M' := ei_sp hb hd rfl (by subst hml; simp only [qz_sp, qz_sl]; rw [if_pos ⟨hi, hn, hg, hg3⟩, hl, hp]) kk
theorem ei_ladd {x y : Int64} (hb : qz_b k = bc) (hd : decode bc pc = .ok (.ladd, 1)) (hp : pc + 1 = pc') (kk : qz_E k pc' ls (.inr (.inr (x + y)) :: st) M r M') : qz_E k pc ls (.inr (.inr y) :: .inr (.inr x) :: st) M r M' := ei_sp hb hd rfl (by rw [← hp]; rfl) kk
theorem ei_lmul {x y : Int64} (hb : qz_b k = bc) (hd : decode bc pc = .ok (.lmul, 1)) (hp : pc + 1 = pc') (kk : qz_E k pc' ls (.inr (.inr (x * y)) :: st) M r M') : qz_E k pc ls (.inr (.inr y) :: .inr (.inr x) :: st) M r M' := ei_sp hb hd rfl (by rw [← hp]; rfl) kk
theorem ei_i2l {x : Int32} (hb : qz_b k = bc) (hd : decode bc pc = .ok (.i2l, 1)) (hp : pc + 1 = pc') (kk : qz_E k pc' ls (.inr (.inr x.toInt64) :: st) M r M') : qz_E k pc ls (.inl x :: st) M r M' := ei_sp hb hd rfl (by rw [← hp]; rfl) kk
theorem ei_lcmp {x y : Int64} (hb : qz_b k = bc) (hd : decode bc pc = .ok (.lcmp, 1)) (hp : pc + 1 = pc') (kk : qz_E k pc' ls (.inl (lg_cmp x y) :: st) M r M') : qz_E k pc ls (.inr (.inr y) :: .inr (.inr x) :: st) M r M' := ei_sp hb hd rfl (by rw [← hp]; rfl) kk
theorem ei_ifT {cd : ClassFile.Cond} {off : Int} {x : Int32} (hb : qz_b k = bc) (hd : decode bc pc = .ok (.ifCond cd off, 3)) (hc : qz_cd cd x 0 = true) (ht : qz_tg pc off = some pc') (kk : qz_E k pc' ls st M r M') : qz_E k pc ls (.inl x :: st) M r M' := ei_sp hb hd rfl (by simp only [qz_sp, qz_br, ht, hc, if_true]) kk
theorem ei_ifF {cd : ClassFile.Cond} {off : Int} {x : Int32} {t : Nat} (hb : qz_b k = bc) (hd : decode bc pc = .ok (.ifCond cd off, 3)) (hc : qz_cd cd x 0 = false) (ht : qz_tg pc off = some t) (hp : pc + 3 = pc') (kk : qz_E k pc' ls st M r M') : qz_E k pc ls (.inl x :: st) M r M' := ei_sp hb hd rfl (by simp only [qz_sp, qz_br, ht, hc, ← hp]; rfl) kk
theorem ei_icT {cd : ClassFile.Cond} {off : Int} {x y : Int32} (hb : qz_b k = bc) (hd : decode bc pc = .ok (.if_icmp cd off, 3)) (hc : qz_cd cd x y = true) (ht : qz_tg pc off = some pc') (kk : qz_E k pc' ls st M r M') : qz_E k pc ls (.inl y :: .inl x :: st) M r M' := ei_sp hb hd rfl (by simp only [qz_sp, qz_br, ht, hc, if_true]) kk
theorem ei_icF {cd : ClassFile.Cond} {off : Int} {x y : Int32} {t : Nat} (hb : qz_b k = bc) (hd : decode bc pc = .ok (.if_icmp cd off, 3)) (hc : qz_cd cd x y = false) (ht : qz_tg pc off = some t) (hp : pc + 3 = pc') (kk : qz_E k pc' ls st M r M') : qz_E k pc ls (.inl y :: .inl x :: st) M r M' := ei_sp hb hd rfl (by simp only [qz_sp, qz_br, ht, hc, ← hp]; rfl) kk
theorem ei_acT {off : Int} {x y : Option qz_N} (hb : qz_b k = bc) (hd : decode bc pc = .ok (.if_acmp .eq off, 3)) (hx : qz_dy x = true) (hy : qz_dy y = true) (hc : x = y) (ht : qz_tg pc off = some pc') (kk : qz_E k pc' ls st M r M') : qz_E k pc ls (.inr (.inl y) :: .inr (.inl x) :: st) M r M' := ei_sp hb hd rfl (by simp only [qz_sp, qz_br, hx, hy, and_self, if_true, ht, hc, decide_true]) kk
theorem ei_acF {off : Int} {x y : Option qz_N} {t : Nat} (hb : qz_b k = bc) (hd : decode bc pc = .ok (.if_acmp .eq off, 3)) (hx : qz_dy x = true) (hy : qz_dy y = true) (hc : ¬ x = y) (ht : qz_tg pc off = some t) (hp : pc + 3 = pc') (kk : qz_E k pc' ls st M r M') : qz_E k pc ls (.inr (.inl y) :: .inr (.inl x) :: st) M r M' := ei_sp hb hd rfl (by simp only [qz_sp, qz_br, hx, hy, and_self, if_true, ht, hc, decide_false, ← hp]; rfl) kk
theorem ei_nuT {off : Int} (hb : qz_b k = bc) (hd : decode bc pc = .ok (.ifnull off, 3)) (ht : qz_tg pc off = some pc') (kk : qz_E k pc' ls st M r M') : qz_E k pc ls (.inr (.inl none) :: st) M r M' := ei_sp hb hd rfl (by simp only [qz_sp, qz_br, ht, decide_true, if_true]) kk
theorem ei_nuF {off : Int} {n : qz_N} {t : Nat} (hb : qz_b k = bc) (hd : decode bc pc = .ok (.ifnull off, 3)) (ht : qz_tg pc off = some t) (hp : pc + 3 = pc') (kk : qz_E k pc' ls st M r M') : qz_E k pc ls (.inr (.inl (some n)) :: st) M r M' := ei_sp hb hd rfl (by simp only [qz_sp, qz_br, ht, ← hp]; rfl) kk
theorem ei_nnT {off : Int} {n : qz_N} (hb : qz_b k = bc) (hd : decode bc pc = .ok (.ifnonnull off, 3)) (ht : qz_tg pc off = some pc') (kk : qz_E k pc' ls st M r M') : qz_E k pc ls (.inr (.inl (some n)) :: st) M r M' := ei_sp hb hd rfl (by simp only [qz_sp, qz_br, ht]; rfl) kk
theorem ei_nnF {off : Int} {t : Nat} (hb : qz_b k = bc) (hd : decode bc pc = .ok (.ifnonnull off, 3)) (ht : qz_tg pc off = some t) (hp : pc + 3 = pc') (kk : qz_E k pc' ls st M r M') : qz_E k pc ls (.inr (.inl none) :: st) M r M' := ei_sp hb hd rfl (by simp only [qz_sp, qz_br, ht, ← hp]; rfl) kk
theorem ei_go {off : Int} (hb : qz_b k = bc) (hd : decode bc pc = .ok (.goto off, 3)) (ht : qz_tg pc off = some pc') (kk : qz_E k pc' ls st M r M') : qz_E k pc ls st M r M' := ei_sp hb hd rfl (by simp only [qz_sp, ht]) kk
theorem ei_tbI {d lo hi off : Int} {offs : Array Int} {len : Nat} {x : Int32} (hb : qz_b k = bc) (hd : decode bc pc = .ok (.tableswitch d lo hi offs, len)) (h : ¬ (x.toInt < lo ∨ hi < x.toInt)) (ho : offs[(x.toInt - lo).toNat]? = some off) (ht : qz_tg pc off = some pc') (kk : qz_E k pc' ls st M r M') : qz_E k pc ls (.inl x :: st) M r M' := ei_sp hb hd rfl (by simp only [qz_sp, if_neg h, ho, ht]) kk
theorem ei_tbO {d lo hi : Int} {offs : Array Int} {len : Nat} {x : Int32} (hb : qz_b k = bc) (hd : decode bc pc = .ok (.tableswitch d lo hi offs, len)) (h : x.toInt < lo ∨ hi < x.toInt) (ht : qz_tg pc d = some pc') (kk : qz_E k pc' ls st M r M') : qz_E k pc ls (.inl x :: st) M r M' := ei_sp hb hd rfl (by simp only [qz_sp, if_pos h, ht]) kk
theorem ei_gi {c i ci j : Nat} {n : qz_N} {x : Int32} (hb : qz_b k = bc) (hd : decode bc pc = .ok (.getfield i, 3)) (hcn : qz_cn k = c) (hf : qz_fl c i = some (ci, j)) (hn : n.1 = ci) (hr : qz_rf ci j = false) (hx : M.2.1 n j = x) (hp : pc + 3 = pc') (kk : qz_E k pc' ls (.inl x :: st) M r M') : qz_E k pc ls (.inr (.inl (some n)) :: st) M r M' := ei_sp hb hd rfl (by subst hcn; simp only [qz_sp, hf, hn, if_true, hr, ← hp, hx]; rfl) kk
theorem ei_gr {c i ci j : Nat} {n : qz_N} {x : Option qz_N} (hb : qz_b k = bc) (hd : decode bc pc = .ok (.getfield i, 3)) (hcn : qz_cn k = c) (hf : qz_fl c i = some (ci, j)) (hn : n.1 = ci) (hr : qz_rf ci j = true) (hx : M.2.2 n j = x) (hp : pc + 3 = pc') (kk : qz_E k pc' ls (.inr (.inl x) :: st) M r M') : qz_E k pc ls (.inr (.inl (some n)) :: st) M r M' := ei_sp hb hd rfl (by subst hcn; simp only [qz_sp, hf, hn, if_true, hr, ← hp, hx]) kk
theorem ei_pi {c i ci j : Nat} {n : qz_N} {x : Int32} (hb : qz_b k = bc) (hd : decode bc pc = .ok (.putfield i, 3)) (hcn : qz_cn k = c) (hf : qz_fl c i = some (ci, j)) (hn : n.1 = ci) (hr : qz_rf ci j = false) (hbl : qz_bl ci j = true → x = 0 ∨ x = 1) (hfn : qz_fn ci j = false) (hM : qz_ui M n j x = M1) (hp : pc + 3 = pc') (kk : qz_E k pc' ls st M1 r M') : qz_E k pc ls (.inl x :: .inr (.inl (some n)) :: st) M r M' := ei_sp hb hd rfl (by subst hcn; simp only [qz_sp, hf]; rw [if_pos ⟨hn, hr, hbl, hfn⟩, hM, hp]) kk
theorem ei_pr {c i ci j : Nat} {n : qz_N} {x : Option qz_N} (hb : qz_b k = bc) (hd : decode bc pc = .ok (.putfield i, 3)) (hcn : qz_cn k = c) (hf : qz_fl c i = some (ci, j)) (hn : n.1 = ci) (hr : qz_rf ci j = true) (hfn : qz_fn ci j = true) (hini : qz_ini k = true) (hc : ci = c) (hM : qz_ur M n j x = M1) (hp : pc + 3 = pc') (kk : qz_E k pc' ls st M1 r M') : qz_E k pc ls (.inr (.inl x) :: .inr (.inl (some n)) :: st) M r M' := ei_sp hb hd rfl (by subst hcn; simp only [qz_sp, hf]; rw [if_pos ⟨hn, hr, hfn, hini, hc⟩, hM, hp]) kk
theorem ei_gs {c i t : Nat} (hb : qz_b k = bc) (hd : decode bc pc = .ok (.getstatic i, 3)) (hcn : qz_cn k = c) (hf : qz_st c i = some t) (hp : pc + 3 = pc') (kk : qz_E k pc' ls (.inr (.inl (some (t, 0, 0))) :: st) M r M') : qz_E k pc ls st M r M' := ei_sp hb hd rfl (by subst hcn; simp only [qz_sp, hf, ← hp]) kk
theorem ei_ia {i x : Int32} {n : qz_N} (hb : qz_b k = bc) (hd : decode bc pc = .ok (.iaload, 1)) (ht : qz_at n.1 = 1) (hi : qz_xi i (qz_ln M.2.1 n) = true) (hx : M.2.1 n i.toNatClampNeg = x) (hp : pc + 1 = pc') (kk : qz_E k pc' ls (.inl x :: st) M r M') : qz_E k pc ls (.inl i :: .inr (.inl (some n)) :: st) M r M' := ei_sp hb hd rfl (by simp only [qz_sp, qz_ld, ht, hi, and_self, if_true, ← hp, hx]) kk
theorem ei_ca {i x : Int32} {n : qz_N} (hb : qz_b k = bc) (hd : decode bc pc = .ok (.caload, 1)) (ht : qz_at n.1 = 2) (hi : qz_xi i (qz_ln M.2.1 n) = true) (hx : M.2.1 n i.toNatClampNeg = x) (hp : pc + 1 = pc') (kk : qz_E k pc' ls (.inl x :: st) M r M') : qz_E k pc ls (.inl i :: .inr (.inl (some n)) :: st) M r M' := ei_sp hb hd rfl (by simp only [qz_sp, qz_ld, ht, hi, and_self, if_true, ← hp, hx]) kk
theorem ei_ist {i x : Int32} {n : qz_N} (hb : qz_b k = bc) (hd : decode bc pc = .ok (.iastore, 1)) (ht : qz_at n.1 = 1) (hn : n.1 < 30) (hi : qz_xi i (qz_al n.1) = true) (hM : qz_ui M n i.toNatClampNeg x = M1) (hp : pc + 1 = pc') (kk : qz_E k pc' ls st M1 r M') : qz_E k pc ls (.inl x :: .inl i :: .inr (.inl (some n)) :: st) M r M' := ei_sp hb hd rfl (by simp only [qz_sp, qz_sd]; rw [if_pos ⟨ht, hn, hi⟩, hM, hp]) kk
theorem ei_cst {i x : Int32} {n : qz_N} (hb : qz_b k = bc) (hd : decode bc pc = .ok (.castore, 1)) (ht : qz_at n.1 = 2) (hn : n.1 < 30) (hi : qz_xi i (qz_al n.1) = true) (hM : qz_ui M n i.toNatClampNeg (vp_nar .char x) = M1) (hp : pc + 1 = pc') (kk : qz_E k pc' ls st M1 r M') : qz_E k pc ls (.inl x :: .inl i :: .inr (.inl (some n)) :: st) M r M' := ei_sp hb hd rfl (by simp only [qz_sp, qz_sd]; rw [if_pos ⟨ht, hn, hi⟩, hM, hp]) kk
theorem ei_aa {i : Int32} {n : qz_N} {x : Option qz_N} (hb : qz_b k = bc) (hd : decode bc pc = .ok (.aaload, 1)) (ht : 4 ≤ qz_at n.1) (hi : qz_xi i (qz_al n.1) = true) (hx : M.2.2 n i.toNatClampNeg = x) (hp : pc + 1 = pc') (kk : qz_E k pc' ls (.inr (.inl x) :: st) M r M') : qz_E k pc ls (.inl i :: .inr (.inl (some n)) :: st) M r M' := ei_sp hb hd rfl (by simp only [qz_sp]; rw [if_pos ⟨ht, hi⟩, hx, hp]) kk
theorem ei_aas {i : Int32} {n v : qz_N} (hb : qz_b k = bc) (hd : decode bc pc = .ok (.aastore, 1)) (ht : 4 ≤ qz_at n.1) (hv : v.1 = qz_ec (qz_at n.1)) (hi : qz_xi i (qz_al n.1) = true) (hM : qz_ur M n i.toNatClampNeg (some v) = M1) (hp : pc + 1 = pc') (kk : qz_E k pc' ls st M1 r M') : qz_E k pc ls (.inr (.inl (some v)) :: .inl i :: .inr (.inl (some n)) :: st) M r M' := ei_sp hb hd rfl (by simp only [qz_sp]; rw [if_pos ⟨ht, hv, hi⟩, hM, hp]) kk
theorem ei_len {n : qz_N} {x : Int32} (hb : qz_b k = bc) (hd : decode bc pc = .ok (.arraylength, 1)) (ht : ¬ qz_at n.1 = 0) (hx : Int32.ofNat (qz_ln M.2.1 n) = x) (hp : pc + 1 = pc') (kk : qz_E k pc' ls (.inl x :: st) M r M') : qz_E k pc ls (.inr (.inl (some n)) :: st) M r M' := ei_sp hb hd rfl (by simp only [qz_sp]; rw [if_pos ht, hx, hp]) kk
theorem ei_new {c i t : Nat} {n : qz_N} (hb : qz_b k = bc) (hd : decode bc pc = .ok (.new i, 3)) (hcn : qz_cn k = c) (hw : qz_nw c i = some t) (hn : qz_nm' M.1 = n) (ht : n.1 = t) (hv : qz_vl n = true) (hi : qz_ix n = M.1) (hM : qz_al' M = M1) (hp : pc + 3 = pc') (kk : qz_E k pc' ls (.inr (.inl (some n)) :: st) M1 r M') : qz_E k pc ls st M r M' := ei_sp hb hd rfl (by subst hcn; subst hn; simp only [qz_sp, hw]; rw [if_pos ⟨ht, hv, hi⟩, hM, hp]) kk
theorem ei_nwa {a : ArrayType} {x : Int32} {n : qz_N} (hb : qz_b k = bc) (hd : decode bc pc = .ok (.newarray a, 2)) (hn : qz_nm' M.1 = n) (hv : qz_vl n = true) (hi : qz_ix n = M.1) (hx : ¬ x < 0) (hxn : x.toNatClampNeg = qz_al n.1) (ha : (a = .int ∧ qz_at n.1 = 1) ∨ (a = .char ∧ qz_at n.1 = 2)) (hM : qz_al' M = M1) (hp : pc + 2 = pc') (kk : qz_E k pc' ls (.inr (.inl (some n)) :: st) M1 r M') : qz_E k pc ls (.inl x :: st) M r M' := ei_sp hb hd rfl (by subst hn; simp only [qz_sp]; rw [if_pos ⟨hv, hi, hx, hxn, ha⟩, hM, hp]) kk
theorem ei_ana {c i t : Nat} {x : Int32} {n : qz_N} (hb : qz_b k = bc) (hd : decode bc pc = .ok (.anewarray i, 3)) (hcn : qz_cn k = c) (hw : qz_nw c i = some t) (hn : qz_nm' M.1 = n) (hv : qz_vl n = true) (hi : qz_ix n = M.1) (hx : ¬ x < 0) (hxn : x.toNatClampNeg = qz_al n.1) (h4 : 4 ≤ qz_at n.1) (he : qz_ec (qz_at n.1) = t) (hM : qz_al' M = M1) (hp : pc + 3 = pc') (kk : qz_E k pc' ls (.inr (.inl (some n)) :: st) M1 r M') : qz_E k pc ls (.inl x :: st) M r M' := ei_sp hb hd rfl (by subst hcn; subst hn; simp only [qz_sp, hw]; rw [if_pos ⟨hv, hi, hx, hxn, h4, he⟩, hM, hp]) kk
theorem ei_rv {ins : Instr} {len : Nat} (hb : qz_b k = bc) (hd : decode bc pc = .ok (ins, len)) (hl : qz_il ins len = true) (hs : qz_sp (qz_cn k) (qz_ml k) (qz_ini k) ins pc ls st M = none) (hv : qz_rv k ins st = some r) (hM : M = M') : qz_E k pc ls st M r M' := by
  refine ⟨1, ?_⟩
  subst hb
  subst hM
  unfold qz_ex
  rw [hd]
  simp only [hl, if_true, hs, hv]
theorem ei_reti {x : Int32} (hb : qz_b k = bc) (hd : decode bc pc = .ok (.ireturn, 1)) (hr : qz_rt k = some .int) : qz_E k pc ls [.inl x] M (some (.inl x)) M := ei_rv hb hd rfl rfl (by simp only [qz_rv, hr, true_or, if_true]) rfl
theorem ei_retz {x : Int32} (hb : qz_b k = bc) (hd : decode bc pc = .ok (.ireturn, 1)) (hr : qz_rt k = some .boolean) (hx : x = 0 ∨ x = 1) : qz_E k pc ls [.inl x] M (some (.inl x)) M := ei_rv hb hd rfl rfl (by simp only [qz_rv]; rw [if_pos (Or.inr ⟨hr, hx⟩)]) rfl
theorem ei_reta {x : Option qz_N} (hb : qz_b k = bc) (hd : decode bc pc = .ok (.areturn, 1)) (hr : qz_rt k = some (.object "ShiftBuses$Booking")) : qz_E k pc ls [.inr (.inl x)] M (some (.inr (.inl x))) M := ei_rv hb hd rfl rfl (by simp only [qz_rv]; rw [if_pos hr]) rfl
theorem ei_retl {x : Int64} (hb : qz_b k = bc) (hd : decode bc pc = .ok (.lreturn, 1)) (hr : qz_rt k = some .long) : qz_E k pc ls [.inr (.inr x)] M (some (.inr (.inr x))) M := ei_rv hb hd rfl rfl (by simp only [qz_rv]; rw [if_pos hr]) rfl
theorem ei_retv (hb : qz_b k = bc) (hd : decode bc pc = .ok (.return_, 1)) (hr : qz_rt k = none) : qz_E k pc ls [] M none M := ei_rv hb hd rfl rfl (by simp only [qz_rv]; rw [if_pos hr]) rfl
theorem ei_bi {ins : Instr} {len : Nat} {st' : List qz_V} (hb : qz_b k = bc) (hd : decode bc pc = .ok (ins, len)) (hl : qz_il ins len = true) (hs : qz_sp (qz_cn k) (qz_ml k) (qz_ini k) ins pc ls st M = none) (hv : qz_rv k ins st = none) (hbi : qz_bi k ins pc ls st M = some (pc', ls', st', M1)) (kk : qz_E k pc' ls' st' M1 r M') : qz_E k pc ls st M r M' := by
  obtain ⟨n, h⟩ := kk
  refine ⟨n + 1, ?_⟩
  subst hb
  unfold qz_ex
  rw [hd]
  simp only [hl, if_true, hs, hv, hbi]
  exact h
theorem ei_obj {c i : Nat} {n : qz_N} (hb : qz_b k = bc) (hd : decode bc pc = .ok (.invokespecial i, 3)) (hcn : qz_cn k = c) (ho : qz_ob c i = true) (hl : qz_wl st ≤ 8) (hR : 1 ≤ qz_rF k ∧ 20 ≤ qz_rL k) (hp : pc + 3 = pc') (kk : qz_E k pc' ls st M r M') : qz_E k pc ls (.inr (.inl (some n)) :: st) M r M' := ei_bi hb hd rfl rfl rfl (by subst hcn; simp only [qz_bi]; rw [if_pos ⟨ho, hl, hR.1, hR.2⟩, hp]) kk
theorem ei_max {c i : Nat} {x y : Int32} (hb : qz_b k = bc) (hd : decode bc pc = .ok (.invokestatic i, 3)) (hcn : qz_cn k = c) (hm : qz_mt c i = some 0) (hl : qz_wl st ≤ 8) (hR : 1 ≤ qz_rF k ∧ 21 ≤ qz_rL k) (hp : pc + 3 = pc') (kk : qz_E k pc' ls (.inl (if x < y then y else x) :: st) M r M') : qz_E k pc ls (.inl y :: .inl x :: st) M r M' := ei_bi hb hd rfl rfl rfl (by subst hcn; simp only [qz_bi, hm]; rw [if_pos ⟨hl, hR.1, hR.2⟩, hp]) kk
theorem ei_abs {c i : Nat} {x : Int32} (hb : qz_b k = bc) (hd : decode bc pc = .ok (.invokestatic i, 3)) (hcn : qz_cn k = c) (hm : qz_mt c i = some 1) (hl : qz_wl st ≤ 8) (hR : 1 ≤ qz_rF k ∧ 21 ≤ qz_rL k) (hp : pc + 3 = pc') (kk : qz_E k pc' ls (.inl (if 0 ≤ x then x else 0 - x) :: st) M r M') : qz_E k pc ls (.inl x :: st) M r M' := ei_bi hb hd rfl rfl rfl (by subst hcn; simp only [qz_bi, hm]; rw [if_pos ⟨hl, hR.1, hR.2⟩, hp]) kk
theorem ei_call {ins : Instr} {len k' : Nat} {as rest st' : List qz_V} {rc : Option qz_V} (hb : qz_b k = bc) (hd : decode bc pc = .ok (ins, len)) (hl : qz_il ins len = true) (hs : qz_sp (qz_cn k) (qz_ml k) (qz_ini k) ins pc ls st M = none) (hv : qz_rv k ins st = none) (hbi : qz_bi k ins pc ls st M = none) (hk : qz_kl k ins st = some k') (hag : qz_ag (qz_na k') st = as) (hdr : st.drop (qz_na k') = rest) (hc : qz_E k' 0 (qz_in0 k' as) [] M rc M1) (hst : rc.toList ++ rest = st') (hp : pc + 3 = pc') (kk : qz_E k pc' ls st' M1 r M') : qz_E k pc ls st M r M' := by
  obtain ⟨n1, h1⟩ := hc
  obtain ⟨n2, h2⟩ := kk
  refine ⟨n1 + n2 + 1, ?_⟩
  subst hb
  subst hag
  subst hdr
  subst hst
  subst hp
  unfold qz_ex
  rw [hd]
  simp only [hl, if_true, hs, hv, hbi, hk]
  rw [qz_mono' h1 (Nat.le_add_right _ _)]
  exact qz_mono' h2 (Nat.le_add_left _ _)
/-- what is known of a callee -/
def qz_cf (k' a : Nat) (sa ini : Bool) (c' : Nat) : Prop := qz_na k' = a ∧ qz_sa k' = sa ∧ qz_ini k' = ini ∧ qz_cn k' = c'
def qz_rr (k k' : Nat) : Prop := qz_rF k' + 1 ≤ qz_rF k ∧ 8 + (qz_ml k' + 11) + qz_rL k' ≤ qz_rL k
theorem qz_coI {k' a : Nat} (ha : qz_na k' = a) (h1 : a ≤ st.length) (h2 : qz_wl (st.drop a) ≤ 8) (h3 : (st.take a).all qz_nl = true) (hr : qz_rr k k') : qz_co' k k' st = true := by
  unfold qz_co'
  rw [ha]
  simp only [h1, h2, h3, hr.1, hr.2, decide_true, Bool.and_self]
theorem ei_cv {c i k' a c' : Nat} {as rest st' : List qz_V} {n : qz_N} {rc : Option qz_V} (hb : qz_b k = bc) (hd : decode bc pc = .ok (.invokevirtual i, 3)) (hcn : qz_cn k = c) (hcl : qz_cl c i = some k') (hf : qz_cf k' (a + 1) false false c') (hr : qz_rr k k') (h1 : a + 1 ≤ st.length) (h2 : qz_wl (st.drop (a + 1)) ≤ 8) (h3 : (st.take (a + 1)).all qz_nl = true) (hag : qz_ag (a + 1) st = .inr (.inl (some n)) :: as) (hn : n.1 = c') (hdr : st.drop (a + 1) = rest) (hc : qz_E k' 0 (qz_in0 k' (.inr (.inl (some n)) :: as)) [] M rc M1) (hst : rc.toList ++ rest = st') (hp : pc + 3 = pc') (kk : qz_E k pc' ls st' M1 r M') : qz_E k pc ls st M r M' := by
  obtain ⟨f1, f2, f3, f4⟩ := hf
  refine ei_call (as := .inr (.inl (some n)) :: as) (rest := rest) hb hd rfl rfl rfl rfl (k' := k') ?_ (by rw [f1]; exact hag) (by rw [f1]; exact hdr) hc hst hp kk
  have hrc : qz_rc (qz_cn k') (qz_ag (qz_na k') st) = true := by
    rw [f1, hag, f4]
    simp [qz_rc, hn]
  subst hcn
  simp only [qz_kl, hcl]
  rw [if_pos ⟨qz_coI f1 h1 h2 h3 hr, f2, f3, hrc⟩]
theorem ei_ci {c i k' a c' : Nat} {as rest st' : List qz_V} {n : qz_N} {rc : Option qz_V} (hb : qz_b k = bc) (hd : decode bc pc = .ok (.invokespecial i, 3)) (hcn : qz_cn k = c) (hcl : qz_cl c i = some k') (hob : qz_ob c i = false) (hf : qz_cf k' (a + 1) false true c') (hr : qz_rr k k') (h1 : a + 1 ≤ st.length) (h2 : qz_wl (st.drop (a + 1)) ≤ 8) (h3 : (st.take (a + 1)).all qz_nl = true) (hag : qz_ag (a + 1) st = .inr (.inl (some n)) :: as) (hn : n.1 = c') (hdr : st.drop (a + 1) = rest) (hc : qz_E k' 0 (qz_in0 k' (.inr (.inl (some n)) :: as)) [] M rc M1) (hst : rc.toList ++ rest = st') (hp : pc + 3 = pc') (kk : qz_E k pc' ls st' M1 r M') : qz_E k pc ls st M r M' := by
  obtain ⟨f1, f2, f3, f4⟩ := hf
  subst hcn
  refine ei_call (as := .inr (.inl (some n)) :: as) (rest := rest) hb hd rfl rfl rfl ?_ (k' := k') ?_ (by rw [f1]; exact hag) (by rw [f1]; exact hdr) hc hst hp kk
  · simp only [qz_bi, hob]
    split
    · rw [if_neg (fun h => by cases h.1)]
    · rfl
  · have hrc : qz_rc (qz_cn k') (qz_ag (qz_na k') st) = true := by
      rw [f1, hag, f4]
      simp [qz_rc, hn]
    simp only [qz_kl, hcl]
    rw [if_pos ⟨qz_coI f1 h1 h2 h3 hr, f2, f3, hrc⟩]
theorem ei_cs {c i k' a c' : Nat} {as rest st' : List qz_V} {rc : Option qz_V} (hb : qz_b k = bc) (hd : decode bc pc = .ok (.invokestatic i, 3)) (hcn : qz_cn k = c) (hcl : qz_cl c i = some k') (hmt : qz_mt c i = none) (hf : qz_cf k' a true false c') (hr : qz_rr k k') (h1 : a ≤ st.length) (h2 : qz_wl (st.drop a) ≤ 8) (h3 : (st.take a).all qz_nl = true) (hag : qz_ag a st = as) (hdr : st.drop a = rest) (hc : qz_E k' 0 (qz_in0 k' as) [] M rc M1) (hst : rc.toList ++ rest = st') (hp : pc + 3 = pc') (kk : qz_E k pc' ls st' M1 r M') : qz_E k pc ls st M r M' := by
  obtain ⟨f1, f2, f3, f4⟩ := hf
  subst hcn
  refine ei_call (as := as) (rest := rest) hb hd rfl rfl rfl ?_ (k' := k') ?_ (by rw [f1]; exact hag) (by rw [f1]; exact hdr) hc hst hp kk
  · simp only [qz_bi, hmt]
  · simp only [qz_kl, hcl]
    rw [if_pos ⟨qz_coI f1 h1 h2 h3 hr, f2⟩]
end QZE
