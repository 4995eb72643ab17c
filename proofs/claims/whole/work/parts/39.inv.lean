/-! what holds between calls -/
def qy_kd (n : qz_N) : Prop := n.1 = 0 ∨ n.1 = 4 ∨ n.1 = 10 ∨ n.1 = 11 ∨ n.1 = 12
def qy_Cu (f : qz_F) (B : Nat) : Prop := qy_Rel f 0 (f (17, 0, 0)) ∧ qy_Wf (f (17, 0, 0)) B
def qy_Hs (S : qz_S) (B : Nat) : Prop := ∃ m G, qy_HC S.1 S.2 m G ∧ qy_HM S.1 m G ∧ ∀ j, j < m → qy_Wf (G j) B
def qy_Sn (f : qz_F) (B : Nat) : Prop := (f (5, 0, 0) 4 = 0 ∧ f (6, 0, 0) 5 = 0) ∨ (f (5, 0, 0) 4 = 1 ∧ f (6, 0, 0) 5 = 1 ∧ qy_Rel f 5 (f (19, 0, 0)) ∧ qy_Wf (f (19, 0, 0)) B)
def qy_Tx (f : qz_F) : Prop := ∃ n, n ≤ 60 ∧ f (1, 0, 0) 1 = nI n ∧ f (6, 0, 0) 7 = nI n ∧ ∀ i, i < n → f (14, 0, 0) i = f (20, 0, 0) i
def qy_Co (f0 f : qz_F) : Prop := ∀ n j, 30 ≤ n.1 → f n j = f0 n j
def qy_Inv (f0 : qz_F) (B : Nat) (S : qz_S) : Prop := qy_Cu S.1 B ∧ qy_Hs S B ∧ qy_Sn S.1 B ∧ qy_Tx S.1 ∧ qy_Co f0 S.1
/-- a call of both -/
def qy_Call (f0 : qz_F) (B : Nat) (x : Option (Int32 × qz_S)) (mm : qz_S → Option (Int32 × qz_S)) : Prop :=
  ∃ v S' S'', x = some (v, S') ∧ qy_Co f0 S'.1 ∧ mm S' = some (v, S'') ∧ qy_Inv f0 B S''
/-- a query of both -/
def qy_Qry (f0 : qz_F) (B : Nat) (x : Option Int32) (mm : Option (Int32 × qz_S)) : Prop :=
  ∃ v S'', x = some v ∧ mm = some (v, S'') ∧ qy_Inv f0 B S''
section QYS
variable {F B B' m : Nat} {f0 f f' : qz_F} {g : Nat → Int32} {G : Nat → Nat → Int32} {S S' : qz_S}
theorem qy_HCc {p p' : Nat → Nat} (h2 : p' = p) (hf : ∀ n j, (1 ≤ n.2.1 ∧ n.2.1 ≤ 4 ∧ qy_kd n) ∨ n = (2, 0, 0) → f' n j = f n j) (h : qy_HC f p m G) : qy_HC f' p' m G := by
  obtain ⟨a, b, c, d⟩ := h
  subst h2
  refine ⟨by rw [hf _ _ (Or.inr rfl)]; exact a, b, c, fun j hj => ?_⟩
  refine qy_RelF (qy_cwK (fun n i hk hw => hf n i (Or.inl ⟨?_, ?_, hk⟩))) (d j hj)
  · rw [hw]; exact (c.1 j (by omega)).1
  · rw [hw]; exact (c.1 j (by omega)).2
theorem qy_HMc (h18 : ∀ j, f' (18, 0, 0) j = f (18, 0, 0) j) (h6 : f' (6, 0, 0) 3 = f (6, 0, 0) 3) (h : qy_HM f m G) : qy_HM f' m G :=
  ⟨h6.trans h.1, fun j hj c hc => (h18 _).trans (h.2 j hj c hc)⟩
theorem qy_HsC (h2 : S'.2 = S.2) (hf : ∀ n j, (1 ≤ n.2.1 ∧ n.2.1 ≤ 4 ∧ qy_kd n) ∨ n = (2, 0, 0) → S'.1 n j = S.1 n j) (h18 : ∀ j, S'.1 (18, 0, 0) j = S.1 (18, 0, 0) j) (h6 : S'.1 (6, 0, 0) 3 = S.1 (6, 0, 0) 3) (h : qy_Hs S B) : qy_Hs S' B := by
  obtain ⟨m, G, a, b, c⟩ := h
  exact ⟨m, G, qy_HCc h2 hf a, qy_HMc h18 h6 b, c⟩
theorem qy_SnC (hf : ∀ n j, (n.2.1 = 5 ∧ qy_kd n) → f' n j = f n j) (h5 : f' (5, 0, 0) 4 = f (5, 0, 0) 4) (h6 : f' (6, 0, 0) 5 = f (6, 0, 0) 5) (h19 : ∀ j, f' (19, 0, 0) j = f (19, 0, 0) j) (h : qy_Sn f B) : qy_Sn f' B := by
  unfold qy_Sn
  rw [h5, h6, show f' (19, 0, 0) = f (19, 0, 0) from funext h19]
  rcases h with h | ⟨a, b, c, d⟩
  · exact Or.inl h
  · exact Or.inr ⟨a, b, qy_RelF (qy_cwK (fun n i hk hw => hf n i ⟨hw, hk⟩)) c, d⟩
theorem qy_TxC (h1 : f' (1, 0, 0) 1 = f (1, 0, 0) 1) (h6 : f' (6, 0, 0) 7 = f (6, 0, 0) 7) (h14 : ∀ j, f' (14, 0, 0) j = f (14, 0, 0) j) (h20 : ∀ j, f' (20, 0, 0) j = f (20, 0, 0) j) (h : qy_Tx f) : qy_Tx f' := by
  obtain ⟨n, a, b, c, d⟩ := h
  exact ⟨n, a, h1.trans b, h6.trans c, fun i hi => by rw [h14, h20]; exact d i hi⟩
theorem qy_CuC (hf : ∀ n j, (n.2.1 = 0 ∧ qy_kd n) → f' n j = f n j) (h17 : ∀ j, f' (17, 0, 0) j = f (17, 0, 0) j) (h : qy_Cu f B) : qy_Cu f' B := by
  unfold qy_Cu
  rw [show f' (17, 0, 0) = f (17, 0, 0) from funext h17]
  exact ⟨qy_RelF (qy_cwK (fun n i hk hw => hf n i ⟨hw, hk⟩)) h.1, h.2⟩
theorem qy_kd_n {n : qz_N} (h : qy_kd n) {k w i : Nat} (hk : k ≠ 0 ∧ k ≠ 4 ∧ k ≠ 10 ∧ k ≠ 11 ∧ k ≠ 12) : ¬ n = (k, w, i) := qy_nk h hk
/-- what no state holds -/
def qy_fz (f f' : qz_F) : Prop := ∀ n j, ¬ (n = (6, 0, 0) ∧ (j = 0 ∨ j = 10 ∨ j = 11 ∨ j = 12 ∨ j = 14)) → n ≠ (21, 0, 0) → n ≠ (22, 0, 0) → n ≠ (23, 0, 0) → ¬ (n = (1, 0, 0) ∧ j = 3) → n.1 ≠ 3 → f' n j = f n j
theorem qy_fzT {f'' : qz_F} (h : qy_fz f f') (h' : qy_fz f' f'') : qy_fz f f'' := fun n j a b c d e k => (h' n j a b c d e k).trans (h n j a b c d e k)
theorem qy_fzK (h : qy_fz f f') {n : qz_N} {j : Nat} (hk : qy_kd n) : f' n j = f n j :=
  h n j (fun q => qy_kd_n hk (by decide) q.1) (qy_kd_n hk (by decide)) (qy_kd_n hk (by decide)) (qy_kd_n hk (by decide)) (fun q => qy_kd_n hk (by decide) q.1) (fun q => by unfold qy_kd at hk; omega)
theorem qy_fzN (h : qy_fz f f') {k j : Nat} (h1 : k ≠ 1) (h3 : k ≠ 3) (h6 : k ≠ 6) (h21 : k ≠ 21) (h22 : k ≠ 22) (h23 : k ≠ 23) : f' (k, 0, 0) j = f (k, 0, 0) j :=
  h _ _ (fun q => qy_kn h6 q.1) (qy_kn h21) (qy_kn h22) (qy_kn h23) (fun q => qy_kn h1 q.1) h3
theorem qy_fz6 (h : qy_fz f f') {j : Nat} (hj : ¬ (j = 0 ∨ j = 10 ∨ j = 11 ∨ j = 12 ∨ j = 14)) : f' (6, 0, 0) j = f (6, 0, 0) j :=
  h _ _ (fun q => hj q.2) (by decide) (by decide) (by decide) (fun q => qy_kn (by decide) q.1) (show (6 : Nat) ≠ 3 by decide)
theorem qy_fzI (h2 : S'.2 = S.2) (h : qy_fz S.1 S'.1) (hI : qy_Inv f0 B S) : qy_Inv f0 B S' := by
  obtain ⟨a, b, c, d, e⟩ := hI
  refine ⟨?_, ?_, ?_, ?_, ?_⟩
  · exact qy_CuC (fun n j hn => qy_fzK h hn.2) (fun j => qy_fzN h (by decide) (by decide) (by decide) (by decide) (by decide) (by decide)) a
  · refine qy_HsC h2 (fun n j hn => ?_) (fun j => qy_fzN h (by decide) (by decide) (by decide) (by decide) (by decide) (by decide)) (qy_fz6 h (by decide)) b
    rcases hn with hn | hn
    · exact qy_fzK h hn.2.2
    · rw [hn]; exact qy_fzN h (by decide) (by decide) (by decide) (by decide) (by decide) (by decide)
  · exact qy_SnC (fun n j hn => qy_fzK h hn.2) (qy_fzN h (by decide) (by decide) (by decide) (by decide) (by decide) (by decide)) (qy_fz6 h (by decide)) (fun j => qy_fzN h (by decide) (by decide) (by decide) (by decide) (by decide) (by decide)) c
  · exact qy_TxC (h _ _ (fun q => qy_kn (by decide) q.1) (by decide) (by decide) (by decide) (fun q => absurd q.2 (by decide)) (show (1 : Nat) ≠ 3 by decide)) (qy_fz6 h (by decide)) (fun j => qy_fzN h (by decide) (by decide) (by decide) (by decide) (by decide) (by decide)) (fun j => qy_fzN h (by decide) (by decide) (by decide) (by decide) (by decide) (by decide)) d
  · intro n j hn
    rw [h n j (fun q => by rw [q.1] at hn; exact absurd hn (by decide)) (fun q => by rw [q] at hn; exact absurd hn (by decide)) (fun q => by rw [q] at hn; exact absurd hn (by decide)) (fun q => by rw [q] at hn; exact absurd hn (by decide)) (fun q => by rw [q.1] at hn; exact absurd hn (by decide)) (by omega)]
    exact e n j hn
theorem qy_fz0 {v : Int32} : qy_fz S.1 (qz_wr S (6, 0, 0) 0 v).1 := fun n j a _ _ _ _ _ => wr_ne (fun q => a ⟨q.1, Or.inl q.2⟩)
theorem qy_I0 (hI : qy_Inv f0 B S) : qy_Inv f0 B (qz_wr S (6, 0, 0) 0 0) := qy_fzI (S := S) rfl qy_fz0 hI
theorem qy_fzfr (h : qm_fr f f') : qy_fz f f' := fun n j a b c _ _ _ => h n j b c (fun q => a ⟨q.1, by omega⟩)
theorem qy_InvB (hB : B ≤ B') (h6 : B' ≤ 60000) (hI : qy_Inv f0 B S) : qy_Inv f0 B' S := by
  obtain ⟨a, ⟨m, G, b1, b2, b3⟩, c, d, e⟩ := hI
  refine ⟨⟨a.1, qy_WfB hB h6 a.2⟩, ⟨m, G, b1, b2, fun j hj => qy_WfB hB h6 (b3 j hj)⟩, ?_, d, e⟩
  rcases c with c | ⟨c1, c2, c3, c4⟩
  · exact Or.inl c
  · exact Or.inr ⟨c1, c2, c3, qy_WfB hB h6 c4⟩
/-- a refused call -/
theorem qy_no {mm : qz_S → Option (Int32 × qz_S)} {x : Option (Int32 × qz_S)} {v : Int32} (hI : qy_Inv f0 B S) (hx : x = some (v, S)) (hm : mm S = some (v, qz_wr S (6, 0, 0) 0 0)) : qy_Call f0 B x mm :=
  ⟨v, S, _, hx, hI.2.2.2.2, hm, qy_I0 hI⟩
theorem qy_fzG (h : qy_fz f f') : f' (17, 0, 0) = f (17, 0, 0) := funext fun j => qy_fzN h (by decide) (by decide) (by decide) (by decide) (by decide) (by decide)
/-- an act of both, behind its record -/
theorem qy_act (hI : qy_Inv f0 B S) (hB : B ≤ B') (hB6 : B' ≤ 60000) (hF : 1132 < F) (hg : S.1 (17, 0, 0) = g) {XC : qz_S → Option (Int32 × qz_S)} {MC : qz_S → qz_S → Option (Int32 × qz_S)} {MH : qz_S → Prop}
    (h : ∀ S1 : qz_S, qy_Rel S1.1 0 g → qy_fH S.1 S1.1 → ∃ v S2, XC S1 = some (v, S2) ∧ S2.2 = S1.2 ∧ qy_fw 0 S1.1 S2.1 ∧ ∀ S2' S3 : qz_S, MH S2' → S3.1 (17, 0, 0) = g → (∀ n j, n ≠ (18, 0, 0) → ¬ (n = (6, 0, 0) ∧ j = 3) → S3.1 n j = S2'.1 n j) → (∀ k, ¬ (k = 0 ∨ k = 4 ∨ k = 10 ∨ k = 11 ∨ k = 12) → k ≠ 2 → S2.1 (k, 0, 0) = S.1 (k, 0, 0)) → qy_fz S2.1 S2'.1 →
      ∃ S4, MC S2' S3 = some (v, S4) ∧ S4.2 = S3.2 ∧ qm_fs S3.1 S4.1 ∧ qy_Rel S2.1 0 (S4.1 (17, 0, 0)) ∧ qy_Wf (S4.1 (17, 0, 0)) B') :
    ∃ v S', Option.bind (gH_remember F S) XC = some (v, S') ∧ qy_Co f0 S'.1 ∧ S'.1 (17, 0, 0) = g ∧ (∀ k, ¬ (k = 0 ∨ k = 4 ∨ k = 10 ∨ k = 11 ∨ k = 12) → k ≠ 2 → S'.1 (k, 0, 0) = S.1 (k, 0, 0)) ∧
      ∀ S2' : qz_S, S2'.2 = S'.2 → qy_fz S'.1 S2'.1 → MH S2' → ∃ S'', Option.bind (gM_records F S2') (MC S2') = some (v, S'') ∧ qy_Inv f0 B' S'' := by
  have hI' := qy_InvB hB hB6 hI
  obtain ⟨⟨_, hW'⟩, ⟨m', G', _, _, _⟩, hS, hT, hO⟩ := hI'
  obtain ⟨⟨hR, hW⟩, ⟨m, G, hC, hM, hGW⟩, _, _, _⟩ := hI
  rw [hg] at hR hW hW'
  obtain ⟨S1, a1, a2, a3⟩ := qy_remember (F := F) (by omega) hC hR
  have hw0 : ∀ n j, n.2.1 = 0 → n ≠ (2, 0, 0) → S1.1 n j = S.1 n j := fun n j h0 h2 => a2 n j (fun q => by omega) h2
  have hR1 : qy_Rel S1.1 0 g := qy_RelF (qy_cwK (fun n j hk h0 => hw0 n j h0 (qy_kd_n hk (by decide)))) hR
  obtain ⟨v, S2, b1, b2, b3, b4⟩ := h S1 hR1 a2
  have e12 : ∀ n j, ¬ (n.2.1 = 0 ∧ qy_kd n) → S2.1 n j = S1.1 n j := fun n j hn => b3 n j hn
  have e2 : ∀ k j, ¬ (k = 0 ∨ k = 4 ∨ k = 10 ∨ k = 11 ∨ k = 12) → k ≠ 2 → S2.1 (k, 0, 0) j = S.1 (k, 0, 0) j := fun k j hk h2 => (e12 (k, 0, 0) j (fun q => hk q.2)).trans (hw0 _ _ rfl (fun q => h2 (congrArg Prod.fst q)))
  have hCo2 : qy_Co f0 S2.1 := by
    intro n j hn
    rw [e12 n j (fun q => by have := q.2; unfold qy_kd at this; omega), a2 n j (fun q => by omega) (fun q => by rw [q] at hn; exact absurd hn (by decide))]
    exact hO n j hn
  have e217 : S2.1 (17, 0, 0) = g := by
    rw [← hg]
    funext j
    exact e2 17 j (by decide) (by decide)
  refine ⟨v, S2, by rw [a1]; exact b1, hCo2, e217, fun k hk k2 => funext fun j => e2 k j hk k2, ?_⟩
  intro S2' z2 z1 zh
  have hM' : qy_HM S2'.1 m G := qy_HMc (fun j => (qy_fzN z1 (by decide) (by decide) (by decide) (by decide) (by decide) (by decide)).trans (e2 18 j (by decide) (by decide))) ((qy_fz6 z1 (by decide)).trans (e2 6 3 (by decide) (by decide))) hM
  obtain ⟨S3, c1, c2, c3, c4⟩ := qm_records (F := F) hF hM' hC.2.1
  have e17 : S2'.1 (17, 0, 0) = g := (qy_fzG z1).trans e217
  have e17' : S3.1 (17, 0, 0) = g := by
    rw [← e17]
    funext j
    exact c3 _ _ (by decide) (fun q => qy_kn (by decide) q.1)
  rw [e17] at c4
  obtain ⟨S4, d1, d2, d3, d4, d5⟩ := b4 S2' S3 zh e17' c3 (fun k hk k2 => funext fun j => e2 k j hk k2) z1
  have e42' : ∀ n j, n ≠ (17, 0, 0) → n ≠ (18, 0, 0) → n ≠ (21, 0, 0) → n ≠ (22, 0, 0) → ¬ (n = (6, 0, 0) ∧ (j = 0 ∨ j = 3 ∨ j = 10)) → S4.1 n j = S2'.1 n j := by
    intro n j n17 n18 n21 n22 n6
    rw [d3 n j n17 n21 n22 (fun q => n6 ⟨q.1, by omega⟩), c3 n j n18 (fun q => n6 ⟨q.1, by omega⟩)]
  have e4k : ∀ n j, qy_kd n → S4.1 n j = S2.1 n j := fun n j hn => (e42' n j (qy_kd_n hn (by decide)) (qy_kd_n hn (by decide)) (qy_kd_n hn (by decide)) (qy_kd_n hn (by decide)) (fun q => qy_kd_n hn (by decide) q.1)).trans (qy_fzK z1 hn)
  have e42 : ∀ k j, k ≠ 17 → k ≠ 18 → k ≠ 21 → k ≠ 22 → k ≠ 23 → k ≠ 3 → k ≠ 6 → k ≠ 1 → S4.1 (k, 0, 0) j = S2.1 (k, 0, 0) j := fun k j k17 k18 k21 k22 k23 k3 k6 k1 => (e42' _ _ (qy_kn k17) (qy_kn k18) (qy_kn k21) (qy_kn k22) (fun q => qy_kn k6 q.1)).trans (qy_fzN z1 k1 k3 k6 k21 k22 k23)
  have e4s : ∀ k j, ¬ (k = 0 ∨ k = 4 ∨ k = 10 ∨ k = 11 ∨ k = 12) → k ≠ 2 → k ≠ 17 → k ≠ 18 → k ≠ 21 → k ≠ 22 → k ≠ 23 → k ≠ 3 → k ≠ 6 → k ≠ 1 → S4.1 (k, 0, 0) j = S.1 (k, 0, 0) j := by
    intro k j hk k2 k17 k18 k21 k22 k23 k3 k6 k1
    rw [e42 _ _ k17 k18 k21 k22 k23 k3 k6 k1]
    exact e2 k j hk k2
  have e46 : ∀ j, ¬ (j = 0 ∨ j = 3 ∨ j = 10 ∨ j = 11 ∨ j = 12 ∨ j = 14) → S4.1 (6, 0, 0) j = S.1 (6, 0, 0) j := by
    intro j hj
    rw [e42' _ _ (by decide) (by decide) (by decide) (by decide) (fun q => hj (by omega)), qy_fz6 z1 (by omega)]
    exact e2 6 j (by decide) (by decide)
  have e41 : S4.1 (1, 0, 0) 1 = S.1 (1, 0, 0) 1 := by
    rw [e42' _ _ (by decide) (by decide) (by decide) (by decide) (fun q => qy_kn (by decide) q.1)]
    exact (z1 _ _ (fun q => qy_kn (by decide) q.1) (by decide) (by decide) (by decide) (fun q => absurd q.2 (by decide)) (show (1 : Nat) ≠ 3 by decide)).trans (e2 1 1 (by decide) (by decide))
  refine ⟨S4, by rw [c1]; exact d1, ?_, ?_, ?_, ?_, ?_⟩
  · exact ⟨qy_RelF (qy_cwK (fun n j hk _ => e4k n j hk)) d4, d5⟩
  · refine ⟨qy_m1 m, qy_G1 m G g, ?_, ?_, ?_⟩
    · refine qy_HCc (d2.trans (c2.trans (z2.trans b2))) (fun n j hn => ?_) a3
      rcases hn with hn | hn
      · rw [e4k n j hn.2.2]
        exact e12 n j (fun q => by omega)
      · subst hn
        rw [e42 _ _ (by decide) (by decide) (by decide) (by decide) (by decide) (by decide) (by decide) (by decide)]
        exact e12 _ _ (fun q => by have := q.2; unfold qy_kd at this; revert this; decide)
    · refine qy_HMc (fun j => ?_) ?_ c4
      · exact d3 _ _ (by decide) (by decide) (by decide) (fun q => qy_kn (by decide) q.1)
      · exact d3 _ _ (by decide) (by decide) (by decide) (fun q => absurd q.2 (by decide))
    · intro j hj
      have hm4 := hC.2.1
      unfold qy_m1 at hj
      unfold qy_G1
      by_cases hm : m < 4
      · rw [if_pos hm] at hj ⊢
        by_cases e : j = m
        · rw [if_pos e]; exact hW'
        · rw [if_neg e]; exact qy_WfB hB hB6 (hGW j (by omega))
      · rw [if_neg hm] at hj ⊢
        by_cases e : j = 3
        · rw [if_pos e]; exact hW'
        · rw [if_neg e]; exact qy_WfB hB hB6 (hGW (j + 1) (by omega))
  · refine qy_SnC (fun n j hn => ?_) (e4s 5 4 (by decide) (by decide) (by decide) (by decide) (by decide) (by decide) (by decide) (by decide) (by decide) (by decide)) (e46 5 (by decide)) (fun j => e4s 19 j (by decide) (by decide) (by decide) (by decide) (by decide) (by decide) (by decide) (by decide) (by decide) (by decide)) hS
    rw [e4k n j hn.2, e12 n j (fun q => by omega)]
    exact a2 n j (fun q => by omega) (qy_kd_n hn.2 (by decide))
  · exact qy_TxC e41 (e46 7 (by decide)) (fun j => e4s 14 j (by decide) (by decide) (by decide) (by decide) (by decide) (by decide) (by decide) (by decide) (by decide) (by decide)) (fun j => e4s 20 j (by decide) (by decide) (by decide) (by decide) (by decide) (by decide) (by decide) (by decide) (by decide) (by decide)) hT
  · intro n j hn
    have z : ∀ k : Nat, k < 30 → n ≠ (k, 0, 0) := fun k hk q => by rw [q] at hn; exact absurd hn (by simp; omega)
    rw [e42' n j (z 17 (by decide)) (z 18 (by decide)) (z 21 (by decide)) (z 22 (by decide)) (fun q => z 6 (by decide) q.1)]
    rw [z1 n j (fun q => z 6 (by decide) q.1) (z 21 (by decide)) (z 22 (by decide)) (z 23 (by decide)) (fun q => z 1 (by decide) q.1) (by omega)]
    exact hCo2 n j hn
/-- an act whose reference records at once -/
theorem qy_act0 (hI : qy_Inv f0 B S) (hB : B ≤ B') (hB6 : B' ≤ 60000) (hF : 1132 < F) (hg : S.1 (17, 0, 0) = g) {XC MC : qz_S → Option (Int32 × qz_S)} {x : Option (Int32 × qz_S)} {mm : qz_S → Option (Int32 × qz_S)}
    (hx : x = Option.bind (gH_remember F S) XC) (hm : ∀ S' : qz_S, S'.1 (17, 0, 0) = g → mm S' = Option.bind (gM_records F (qz_wr S' (6, 0, 0) 0 0)) MC)
    (h : ∀ S1 : qz_S, qy_Rel S1.1 0 g → qy_fH S.1 S1.1 → ∃ v S2, XC S1 = some (v, S2) ∧ S2.2 = S1.2 ∧ qy_fw 0 S1.1 S2.1 ∧ ∀ S3 : qz_S, S3.1 (17, 0, 0) = g → (∀ j, S3.1 (19, 0, 0) j = S.1 (19, 0, 0) j) →
      ∃ S4, MC S3 = some (v, S4) ∧ S4.2 = S3.2 ∧ qm_fs S3.1 S4.1 ∧ qy_Rel S2.1 0 (S4.1 (17, 0, 0)) ∧ qy_Wf (S4.1 (17, 0, 0)) B') : qy_Call f0 B' x mm := by
  obtain ⟨v, S', a1, a2, a3, a4, a5⟩ := qy_act (F := F) (MH := fun _ => True) (MC := fun _ => MC) hI hB hB6 hF hg (fun S1 k1 k2 => by
    obtain ⟨v, S2, b1, b2, b3, b4⟩ := h S1 k1 k2
    refine ⟨v, S2, b1, b2, b3, fun S2' S3 _ c1 c2 c3 c4 => b4 S3 c1 (fun j => ?_)⟩
    rw [c2 _ _ (by decide) (fun q => qy_kn (by decide) q.1), qy_fzN c4 (by decide) (by decide) (by decide) (by decide) (by decide) (by decide), c3 19 (by decide) (by decide)])
  obtain ⟨S'', d1, d2⟩ := a5 (qz_wr S' (6, 0, 0) 0 0) rfl qy_fz0 trivial
  exact ⟨v, S', S'', hx.trans a1, a2, (hm S' a3).trans d1, d2⟩
end QYS
