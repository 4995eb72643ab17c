/-! who waits is looked at: what comes of it is told by a condition that has one solution -/
def qy_ky (g : Nat → Int32) (r : Nat → Int32) : Nat := (((qy_mm g (r 1).toNatClampNeg * 16 + (r 1).toNatClampNeg) * 2 + (r 2).toNatClampNeg) * 16 + (r 3).toNatClampNeg) * 65536 + (r 0).toNatClampNeg
def qy_pr (Q : Int32 → Bool) (r : Nat → Int32) : Nat → Int32 := fun c => if c = 4 ∧ Q (r 0) = true then 1 else r c
def qy_pg (Q : Int32 → Bool) (g : Nat → Int32) : Nat → Int32 := fun j => if (43 ≤ j ∧ j < 43 + 8 * qy_n g ∧ (j - 43) % 8 = 4) ∧ Q (g (j - 4)) = true then 1 else g j
def qy_oc (g : Nat → Int32) (L : List (Nat → Int32)) (Q : Int32 → Bool) (r : Nat → Int32) : Nat :=
  L.countP (fun q => (!qy_wt q || (Q (q 0) && decide (qy_ky g q < qy_ky g r))) && qy_on (r 2) (r 1) (qy_pa g (r 2).toNatClampNeg (r 1).toNatClampNeg) q)
def qy_ok (g : Nat → Int32) (L : List (Nat → Int32)) (Q : Int32 → Bool) (r : Nat → Int32) : Prop :=
  nI (qy_oc g L Q r) < g 1 ∧ qy_bh g (r 2).toNatClampNeg (r 1).toNatClampNeg (r 3) ≤ g 3
def qy_Fx (g : Nat → Int32) (L : List (Nat → Int32)) (Q : Int32 → Bool) (b : Nat) : Prop :=
  (∀ r, r ∈ L → Q (r 0) = true → r 4 = 0 ∧ qy_ky g r < b) ∧ (∀ r, r ∈ L → r 4 = 0 → qy_ky g r < b → (Q (r 0) = true ↔ qy_ok g L Q r))
def qy_Fn (g : Nat → Int32) (L : List (Nat → Int32)) (Q : Int32 → Bool) : Prop :=
  (∀ r, r ∈ L → Q (r 0) = true → r 4 = 0) ∧ (∀ r, r ∈ L → r 4 = 0 → (Q (r 0) = true ↔ qy_ok g L Q r))
section QYG
variable {F B : Nat} {g : Nat → Int32} {L : List (Nat → Int32)}
theorem qy_okc {Q Q' : Int32 → Bool} {r : Nat → Int32} (h : ∀ q, q ∈ L → qy_ky g q < qy_ky g r → Q (q 0) = Q' (q 0)) : qy_ok g L Q r ↔ qy_ok g L Q' r := by
  have : qy_oc g L Q r = qy_oc g L Q' r := by
    refine List.countP_congr (fun q hq => ?_)
    by_cases hk : qy_ky g q < qy_ky g r
    · rw [h q hq hk]
    · simp [hk]
  unfold qy_ok
  rw [this]
theorem qy_okp {L' : List (Nat → Int32)} (hp : L.Perm L') {Q : Int32 → Bool} {r : Nat → Int32} : qy_ok g L Q r ↔ qy_ok g L' Q r := by
  unfold qy_ok qy_oc
  rw [hp.countP_eq]
theorem qy_uniq {L' : List (Nat → Int32)} {Q Q' : Int32 → Bool} (hp : L.Perm L') (h : qy_Fn g L Q) (h' : qy_Fn g L' Q') : ∀ (n : Nat) (r : Nat → Int32), qy_ky g r < n → r ∈ L → Q (r 0) = Q' (r 0) := by
  intro n
  induction n with
  | zero => intro r h; omega
  | succ n ih =>
    intro r hn hr
    by_cases h4 : r 4 = 0
    · have e1 := h.2 r hr h4
      have e2 := h'.2 r (hp.mem_iff.mp hr) h4
      rw [← qy_okp hp] at e2
      have e3 : qy_ok g L Q r ↔ qy_ok g L Q' r := qy_okc (fun q hq hk => ih q (by omega) hq)
      rw [Bool.eq_iff_iff, e1, e2, e3]
    · have e1 : Q (r 0) = false := by
        cases hq : Q (r 0)
        · rfl
        · exact absurd (h.1 r hr hq) h4
      have e2 : Q' (r 0) = false := by
        cases hq : Q' (r 0)
        · rfl
        · exact absurd (h'.1 r (hp.mem_iff.mp hr) hq) h4
      rw [e1, e2]
theorem qy_kyN {r q : Nat → Int32} (hr : qy_Wr g B r) (hq : qy_Wr g B q) (hB : B ≤ 60000) (h : qy_ky g r = qy_ky g q) : r 0 = q 0 := by
  obtain ⟨⟨N, hN, e1, _⟩, _⟩ := hr
  obtain ⟨⟨N', hN', e2, _⟩, _⟩ := hq
  unfold qy_ky at h
  rw [e1, e2, qz_cl_nI (show N < 2 ^ 31 by omega), qz_cl_nI (show N' < 2 ^ 31 by omega)] at h
  rw [e1, e2]
  congr 1
  omega
theorem qy_step {Q : Int32 → Bool} {b : Nat} (hL : ∀ r, r ∈ L → qy_Wr g B r) (hB : B ≤ 60000) (hU : ∀ r q, r ∈ L → q ∈ L → r 0 = q 0 → r = q) (h : qy_Fx g L Q b) {r0 : Nat → Int32} (hr0 : r0 ∈ L) (h4 : r0 4 = 0) (hb : b ≤ qy_ky g r0) (hno : ∀ r, r ∈ L → r 4 = 0 → b ≤ qy_ky g r → qy_ky g r0 ≤ qy_ky g r) :
    (qy_ok g L Q r0 → qy_Fx g L (fun N => Q N || decide (N = r0 0)) (qy_ky g r0 + 1)) ∧ (¬ qy_ok g L Q r0 → qy_Fx g L Q (qy_ky g r0 + 1)) := by
  have hcase : ∀ r, r ∈ L → r 4 = 0 → qy_ky g r < qy_ky g r0 + 1 → qy_ky g r < b ∨ r = r0 := by
    intro r hr h4' hk
    by_cases hlt : qy_ky g r < b
    · exact Or.inl hlt
    · right
      have := hno r hr h4' (by omega)
      exact hU r r0 hr hr0 (qy_kyN (hL r hr) (hL r0 hr0) hB (by omega))
  constructor
  · intro hok
    have hsame : ∀ q, q ∈ L → qy_ky g q < qy_ky g r0 → Q (q 0) = (Q (q 0) || decide (q 0 = r0 0)) := by
      intro q hq hk
      have : ¬ q 0 = r0 0 := fun e => by
        have := hU q r0 hq hr0 e
        subst this
        omega
      simp [this]
    refine ⟨fun r hr hQ => ?_, fun r hr h4' hk => ?_⟩
    · simp only [Bool.or_eq_true, decide_eq_true_eq] at hQ
      rcases hQ with hQ | hQ
      · have := h.1 r hr hQ
        exact ⟨this.1, by omega⟩
      · have := hU r r0 hr hr0 hQ
        subst this
        exact ⟨h4, by omega⟩
    · rcases hcase r hr h4' hk with hlt | rfl
      · rw [← qy_okc (Q := Q) (fun q hq hk' => hsame q hq (by omega)), ← h.2 r hr h4' hlt]
        have := hsame r hr (by omega)
        rw [this]
      · rw [← qy_okc (Q := Q) (fun q hq hk' => hsame q hq (by omega))]
        simp [hok]
  · intro hok
    refine ⟨fun r hr hQ => ?_, fun r hr h4' hk => ?_⟩
    · have := h.1 r hr hQ
      exact ⟨this.1, by omega⟩
    · rcases hcase r hr h4' hk with hlt | rfl
      · exact h.2 r hr h4' hlt
      · refine ⟨fun hQ => ?_, fun q => absurd q hok⟩
        have := h.1 r hr hQ
        omega
theorem qy_skip {Q : Int32 → Bool} {b b' : Nat} (h : qy_Fx g L Q b) (hbb : b ≤ b') (hno : ∀ r, r ∈ L → r 4 = 0 → b ≤ qy_ky g r → b' ≤ qy_ky g r) : qy_Fx g L Q b' := by
  refine ⟨fun r hr hQ => ?_, fun r hr h4 hk => ?_⟩
  · have := h.1 r hr hQ
    exact ⟨this.1, by omega⟩
  · refine h.2 r hr h4 ?_
    by_cases hlt : qy_ky g r < b
    · exact hlt
    · have := hno r hr h4 (by omega)
      omega
theorem qy_fin {Q : Int32 → Bool} {b : Nat} (h : qy_Fx g L Q b) (hno : ∀ r, r ∈ L → r 4 = 0 → qy_ky g r < b) : qy_Fn g L Q :=
  ⟨fun r hr hQ => (h.1 r hr hQ).1, fun r hr h4 => h.2 r hr h4 (hno r hr h4)⟩
/-- the reason of one who is yet to be looked at -/
theorem qy_rsok {Q : Int32 → Bool} {b : Nat} (hL : ∀ r, r ∈ L → qy_Wr g B r) (hB : B ≤ 60000) (hec : qy_ec g ≤ 10) (h : qy_Fx g L Q b) {M : List (Nat → Int32)} (hM : M.Perm (L.map (qy_pr Q))) {r : Nat → Int32} (hr : r ∈ L) (hb : b ≤ qy_ky g r) :
    (qy_rs g M (r 2).toNatClampNeg (r 1).toNatClampNeg (r 3) (-1) = 0) = qy_ok g L Q r := by
  obtain ⟨_, ⟨e, he, e1⟩, ⟨l, hl, e2⟩, _, _⟩ := hL r hr
  have c1 : nI (r 1).toNatClampNeg = r 1 := by rw [e1, qz_cl_nI (by omega)]
  have c2 : nI (r 2).toNatClampNeg = r 2 := by rw [e2, qz_cl_nI (by omega)]
  have hcnt : M.countP (qy_tk (nI (r 2).toNatClampNeg) (nI (r 1).toNatClampNeg) (qy_pa g (r 2).toNatClampNeg (r 1).toNatClampNeg) 1 (-1)) = qy_oc g L Q r := by
    rw [hM.countP_eq, List.countP_map, c1, c2]
    refine List.countP_congr (fun q hq => ?_)
    obtain ⟨⟨N, hN, eN, _⟩, _, _, ⟨s, hs1, hs9, e3⟩, hp⟩ := hL q hq
    have a0 : (qy_pr Q q) 0 = q 0 := by simp [qy_pr]
    have a1 : (qy_pr Q q) 1 = q 1 := by simp [qy_pr]
    have a2 : (qy_pr Q q) 2 = q 2 := by simp [qy_pr]
    have a3 : (qy_pr Q q) 3 = q 3 := by simp [qy_pr]
    have d0 : ¬ q 0 = -1 := by rw [eN]; exact qy_n1 (by omega)
    have d3 : (1 : Int32) ≤ q 3 := by
      have : nI 1 ≤ nI s := by rw [qy_le (by decide) (by omega)]; exact hs1
      rw [e3]; exact this
    have hw : qy_wt (qy_pr Q q) = (qy_wt q && !Q (q 0)) := by
      unfold qy_wt qy_pr
      cases hQ : Q (q 0)
      · simp
      · simp
    have hon : ∀ l e x, qy_on l e x (qy_pr Q q) = qy_on l e x q := by
      intro l e x
      unfold qy_on
      rw [a1, a2]
    simp only [Function.comp, qy_tk, hw, hon, a0, a3, d0, d3, decide_true, decide_false, Bool.not_false, Bool.and_true]
    cases hQ : Q (q 0)
    · simp
    · have := (h.1 q hq hQ).2
      have hk : qy_ky g q < qy_ky g r := by omega
      simp [hk]
  unfold qy_rs
  rw [hcnt]
  unfold qy_ok
  by_cases h1 : nI (qy_oc g L Q r) < g 1
  · rw [if_pos h1]
    by_cases h2 : qy_bh g (r 2).toNatClampNeg (r 1).toNatClampNeg (r 3) ≤ g 3
    · rw [if_pos h2]
      simp [h1, h2]
    · rw [if_neg h2]
      simp [h2]
  · rw [if_neg h1]
    simp [h1]
end QYG
/-! promoted arrays -/
theorem qy_pgn {Q : Int32 → Bool} {g : Nat → Int32} : qy_n (qy_pg Q g) = qy_n g := by
  unfold qy_n qy_pg
  rw [if_neg (by omega)]
theorem qy_pglo {Q : Int32 → Bool} {g : Nat → Int32} {j : Nat} (h : j < 43) : qy_pg Q g j = g j := by
  unfold qy_pg
  rw [if_neg (by omega)]
theorem qy_pgec {Q : Int32 → Bool} {g : Nat → Int32} : qy_ec (qy_pg Q g) = qy_ec g := by
  unfold qy_ec
  rw [qy_pglo (by decide)]
theorem qy_pgr {Q : Int32 → Bool} {g : Nat → Int32} {k : Nat} (hk : k < qy_n g) : qy_rm (qy_pg Q g) k = qy_pr Q (qy_rm g k) := by
  funext c
  unfold qy_rm qy_pr qy_pg
  by_cases hc : c < 8
  · simp only [if_pos hc]
    by_cases h4 : c = 4
    · subst h4
      have e1 : 43 + 8 * k + 4 - 4 = 43 + 8 * k := by omega
      have e2 : (43 ≤ 43 + 8 * k + 4 ∧ 43 + 8 * k + 4 < 43 + 8 * qy_n g ∧ (43 + 8 * k + 4 - 43) % 8 = 4) := by omega
      rw [e1]
      simp only [e2, true_and]
      simp
    · rw [if_neg (by omega), if_neg (fun q => h4 q.1)]
  · have h4 : ¬ c = 4 := by omega
    simp [hc, h4]
theorem qy_pgL {Q : Int32 → Bool} {g : Nat → Int32} : qy_Lm (qy_pg Q g) = (qy_Lm g).map (qy_pr Q) := by
  unfold qy_Lm
  rw [qy_pgn, List.map_map]
  exact List.map_congr_left (fun k hk => qy_pgr (List.mem_range.mp hk))
theorem qy_pgpa {Q : Int32 → Bool} {g : Nat → Int32} {l e : Nat} (hl : l < 2) (he : e < 10) : qy_pa (qy_pg Q g) l e = qy_pa g l e := by
  unfold qy_pa
  rw [qy_pglo (by omega)]
theorem qy_pgst {B : Nat} {Q : Int32 → Bool} {g : Nat → Int32} (hW : qy_Wf g B) {e : Nat} (he : e < 10) (x : Int32) : qy_st (qy_pg Q g) e x = qy_st g e x := by
  have h10 := hW.2.1
  unfold qy_st qy_mi
  rw [qy_pglo (show 4 < 43 by decide), qy_pglo (show 13 + e < 43 by omega)]
  by_cases h : 0 ≤ x ∧ x < g 4
  · rw [if_pos h, if_pos h]
    obtain ⟨k, hk, rfl⟩ := qy_isE hW h
    rw [qz_cl_nI (by omega), qy_pglo (show 13 + k < 43 by omega)]
  · rw [if_neg h, if_neg h]
theorem qy_pgbh {B : Nat} {Q : Int32 → Bool} {g : Nat → Int32} (hW : qy_Wf g B) {l e : Nat} (hl : l < 2) (he : e < 10) (s : Int32) : qy_bh (qy_pg Q g) l e s = qy_bh g l e s := by
  unfold qy_bh qy_mi
  rw [qy_pgpa hl he, qy_pgst hW he, qy_pglo (show 0 < 43 by decide), qy_pglo (show 13 + e < 43 by omega)]
theorem qy_pgrs {B : Nat} {Q : Int32 → Bool} {g : Nat → Int32} (hW : qy_Wf g B) {l e : Nat} (hl : l < 2) (he : e < 10) (M : List (Nat → Int32)) (s N : Int32) : qy_rs (qy_pg Q g) M l e s N = qy_rs g M l e s N := by
  unfold qy_rs
  rw [qy_pgpa hl he, qy_pgbh hW hl he, qy_pglo (show 1 < 43 by decide), qy_pglo (show 3 < 43 by decide)]
theorem qy_pgmm {Q : Int32 → Bool} {g : Nat → Int32} {e : Nat} (he : e < 10) : qy_mm (qy_pg Q g) e = qy_mm g e := by
  unfold qy_mm
  rw [qy_pglo (by omega)]
theorem qy_prc {Q : Int32 → Bool} {r : Nat → Int32} {c : Nat} (h : c ≠ 4) : qy_pr Q r c = r c := by
  unfold qy_pr
  rw [if_neg (fun q => h q.1)]
theorem qy_pgWr {B : Nat} {Q : Int32 → Bool} {g r : Nat → Int32} (h : qy_Wr g B r) : qy_Wr (qy_pg Q g) B (qy_pr Q r) := by
  obtain ⟨h1, h2, h3, h4, h5⟩ := h
  unfold qy_Wr
  rw [qy_prc (by decide), qy_prc (by decide), qy_prc (by decide), qy_prc (by decide), qy_pgec, qy_pglo (show 5 < 43 by decide)]
  refine ⟨h1, h2, h3, h4, ?_⟩
  unfold qy_pr
  by_cases hq : Q (r 0) = true
  · right; rw [if_pos ⟨rfl, hq⟩]
  · rw [if_neg (fun q => hq q.2)]
    exact h5
theorem qy_pgW {B : Nat} {Q : Int32 → Bool} {g : Nat → Int32} (h : qy_Wf g B) : qy_Wf (qy_pg Q g) B := by
  obtain ⟨h1, h2, h3, h4, h5, h6, h7, h8, h9, h10, h11⟩ := h
  unfold qy_Wf
  rw [qy_pgn, qy_pgec, qy_pglo (show 4 < 43 by decide), qy_pglo (show 6 < 43 by decide), qy_pglo (show 5 < 43 by decide), qy_pglo (show 1 < 43 by decide)]
  refine ⟨h1, h2, h3, h4, h5, h6, ?_, ?_, ?_, ?_, h11⟩
  · intro i hi
    rw [qy_pglo (by omega)]
    exact h7 i hi
  · intro l e hl he
    rw [qy_pglo (by omega)]
    rcases h8 l e hl he with h | ⟨o, ho, a, b, c, d⟩
    · exact Or.inl h
    · exact Or.inr ⟨o, ho, a, b, c, by rw [qy_pglo (by omega)]; exact d⟩
  · intro k hk
    rw [qy_pgr hk]
    exact qy_pgWr (h9 k hk)
  · intro i k hik hk
    rw [qy_pgr hk, qy_pgr (show i < qy_n g by omega), qy_prc (by decide), qy_prc (by decide)]
    exact h10 i k hik hk
theorem qy_pge {Q Q' : Int32 → Bool} {g : Nat → Int32} (h : ∀ r, r ∈ qy_Lm g → Q (r 0) = Q' (r 0)) : qy_pg Q g = qy_pg Q' g := by
  funext j
  unfold qy_pg
  by_cases hj : (43 ≤ j ∧ j < 43 + 8 * qy_n g ∧ (j - 43) % 8 = 4)
  · have := h _ (qy_mLm.mpr ⟨(j - 43) / 8, by omega, rfl⟩)
    have e1 : (qy_rm g ((j - 43) / 8)) 0 = g (j - 4) := by
      unfold qy_rm
      rw [if_pos (by decide)]
      congr 1
      omega
    rw [e1] at this
    rw [this]
  · rw [if_neg (fun q => hj q.1), if_neg (fun q => hj q.1)]
