/-! turnings: kinds settled -/
/-- one kind of all -/
def one1 (n : Nat) : List Int64 := if n = 0 then [] else [fst64 n]
theorem one1_len (n : Nat) : (one1 n).length = if n = 0 then 0 else 1 := by
  unfold one1
  split <;> rfl
theorem fst64_ne {n : Nat} (h : n ≠ 0) (h2 : n ≤ 64) : fst64 n ≠ 0 := fun z => by
  have := tb_fst64 h2 0
  rw [z, tb_0, decide_eq_true (show 0 < n by omega)] at this
  cases this
theorem one1_wl {n k : Nat} (hk : k < (one1 n).length) : k = 0 ∧ n ≠ 0 ∧ wl (one1 n) k = fst64 n := by
  rw [one1_len] at hk
  by_cases c : n = 0
  · rw [if_pos c] at hk; omega
  · rw [if_neg c] at hk
    have : k = 0 := by omega
    subst this
    unfold one1
    rw [if_neg c]
    exact ⟨rfl, c, rfl⟩
theorem one1_KG {n : Nat} (hn : n ≤ 64) : KG n (one1 n) := by
  refine ⟨fun k i hk h => ?_, fun i hi => ?_, fun k j i hk hj _ _ => ?_⟩
  · rw [(one1_wl hk).2.2, tb_fst64 hn] at h
    exact of_decide_eq_true h
  · have hl : 0 < (one1 n).length := by rw [one1_len, if_neg (by omega)]; omega
    refine ⟨0, hl, ?_⟩
    rw [(one1_wl hl).2.2, tb_fst64 hn]
    exact decide_eq_true hi
  · have := (one1_wl hk).1
    have := (one1_wl hj).1
    omega
theorem one1_KP {n : Nat} (hn : n ≤ 64) : KP n (one1 n) (one1 n) := ⟨one1_KG hn, one1_KG hn, rfl, fun k hk => by
  obtain ⟨_, h1, h2⟩ := one1_wl hk
  rw [h2]
  exact fst64_ne h1 hn, fun _ _ => rfl⟩
theorem one1_RS {n : Nat} {f : Nat → Nat} (hn : n ≤ 64) (h : BJ n f) : RSP f (one1 n) (one1 n) := fun k i hk hi => by
  obtain ⟨_, h1, h2⟩ := one1_wl hk
  rw [h2, tb_fst64 hn] at hi ⊢
  exact decide_eq_true (h.1 i (of_decide_eq_true hi))
/-- a way of points and lines -/
def IS2 (w v : Wd) (π σ : Nat → Nat) : Prop := BJ w.1 π ∧ BJ w.2.length σ ∧ ∀ p i, p < w.1 → i < w.2.length → tb (wl v.2 (σ i)) (π p) = tb (wl w.2 i) p
theorem thr_iso {w v : Wd} {π σ : Nat → Nat} (h64 : w.2.length ≤ 64) (hvl : v.2.length = w.2.length) (h : IS2 w v π σ) {p i : Nat} (hp : p < w.1) (hi : i < w.2.length) : tb (thrF w.2 p) i = tb (thrF v.2 (π p)) (σ i) := by
  refine Bool.eq_iff_iff.mpr ?_
  have := h.2.1.1 i hi
  rw [tb_thr h64, tb_thr (by omega), h.2.2 p i hp hi]
  exact ⟨fun z => ⟨by omega, z.2⟩, fun z => ⟨hi, z.2⟩⟩
section T8S
variable {st : OS} {D N : Nat} {l m : List Int64}
theorem oneKind_8 (hD : D < 17) {n : Nat} (hn : n ≤ 64) : ∃ x, f_X8_becomeOneKind st (nI D) (nI n) = some x ∧ RW8 x D (one1 n) (one1 n) ∧ OR8 D st x := by
  have hix : nI D * 64 = nI (64 * D) := by rw [i64, pk_mul, Nat.mul_comm]
  refine ⟨oB (oB (oA st 6 (upd (st.2.2.1 6) D (nI (one1 n).length))) 7 (vp_updL (st.2.2.2 7) (64 * D) (fst64 n))) 8 (vp_updL (st.2.2.2 8) (64 * D) (fst64 n)), ?_, ⟨?_, rfl, fun k hk => ?_, fun k hk => ?_⟩, rfl, fun k hk => ?_, fun k h7 h8 => ?_, fun d hd => ?_, fun z hz => ?_⟩
  · unfold f_X8_becomeOneKind
    rw [hix, first_10 hn]
    simp only [ob_s]
    rw [if_pos (inb_t (by omega) (by omega)), if_pos (inb_t (by omega) (by omega)), nI_clamp (by omega), nI_clamp (by omega), one1_len]
    dsimp only [bnd]
    rw [oA_B, oB_ne (j := 8) _ (by decide), oA_B]
    by_cases c : n = 0
    · rw [if_pos (show nI n ≤ 0 by rw [c]; decide), if_pos c, if_pos (inb_t (by omega) (by omega))]; rfl
    · rw [if_neg (show ¬ nI n ≤ (0 : Int32) from nI_ge (a := 0) (by omega) (by omega)), if_neg c, if_pos (inb_t (by omega) (by omega)), oA_B, oB_ne (j := 8) _ (by decide), oA_B]; rfl
  · rw [oB_A, oB_A, oA_self]; exact upd_s
  · obtain ⟨h1, h2, h3⟩ := one1_wl hk
    rw [oB_ne (j := 7) _ (by decide), oB_self, h3, h1]
    exact if_pos rfl
  · obtain ⟨h1, h2, h3⟩ := one1_wl hk
    rw [oB_self, h3, h1]
    exact if_pos rfl
  · rw [oB_A, oB_A, oA_ne _ hk]
  · rw [oB_ne _ h8, oB_ne _ h7]; rfl
  · rw [oB_A, oB_A, oA_self]; exact upd_n hd
  · rw [oB_ne (j := 7) _ (by decide), oB_self, oB_self]
    unfold vp_updL
    rw [if_neg (by omega), if_neg (by omega)]
    exact ⟨rfl, rfl⟩
/-- the first world's kinds, a round on -/
def stl1 (w : Wd) (l : List Int64) : List Int64 := pbm (fun p => mrkT (pbm (fun i => mrkT l (wl w.2 i) l.length) 64 0 (one1 w.2.length)) (thrF w.2 p) (pbm (fun i => mrkT l (wl w.2 i) l.length) 64 0 (one1 w.2.length)).length) 64 0 l
def stl (w : Wd) : Nat → List Int64 → List Int64
  | 0, l => l
  | f + 1, l => if (stl1 w l).length = l.length then stl1 w l else stl w f (stl1 w l)
/-- lines of a kind have as many points of each kind -/
def STB (w v : Wd) (l m : List Int64) : Prop := ∃ L M, KP w.2.length L M ∧ ∀ k i j, k < L.length → tb (wl L k) i = true → tb (wl M k) j = true → mrkT l (wl w.2 i) l.length = mrkT m (wl v.2 j) m.length
/-- all but a row, the lines' row, and marks -/
def SR8 (D : Nat) (st x : OS) : Prop := x.1 = st.1 ∧ (∀ k, k ≠ 6 → x.2.2.1 k = st.2.2.1 k) ∧ (∀ k, k ≠ 7 → k ≠ 8 → k ≠ 9 → k ≠ 10 → x.2.2.2 k = st.2.2.2 k) ∧ (∀ d, d ≠ D → d ≠ 16 → x.2.2.1 6 d = st.2.2.1 6 d) ∧ ∀ z, (z < 64 * D ∨ 64 * D + 64 ≤ z) → z < 1024 → x.2.2.2 7 z = st.2.2.2 7 z ∧ x.2.2.2 8 z = st.2.2.2 8 z
theorem SR8.rf : SR8 D st st := ⟨rfl, fun _ _ => rfl, fun _ _ _ _ _ => rfl, fun _ _ _ => rfl, fun _ _ _ => ⟨rfl, rfl⟩⟩
theorem SR8.tr {x y : OS} (h : SR8 D st x) (g : SR8 D x y) : SR8 D st y := ⟨g.1.trans h.1, fun k hk => (g.2.1 k hk).trans (h.2.1 k hk), fun k h1 h2 h3 h4 => (g.2.2.1 k h1 h2 h3 h4).trans (h.2.2.1 k h1 h2 h3 h4), fun d h1 h2 => (g.2.2.2.1 d h1 h2).trans (h.2.2.2.1 d h1 h2), fun z h1 h2 => ⟨(g.2.2.2.2 z h1 h2).1.trans (h.2.2.2.2 z h1 h2).1, (g.2.2.2.2 z h1 h2).2.trans (h.2.2.2.2 z h1 h2).2⟩⟩
theorem OR8.s {x : OS} (h : OR8 D st x) : SR8 D st x := ⟨h.1, h.2.1, fun k h1 h2 _ _ => h.2.2.1 k h1 h2, fun d h1 _ => h.2.2.2.1 d h1, fun z h1 _ => h.2.2.2.2 z h1⟩
theorem OR8.s16 {x : OS} (h : OR8 16 st x) : SR8 D st x := ⟨h.1, h.2.1, fun k h1 h2 _ _ => h.2.2.1 k h1 h2, fun d _ h1 => h.2.2.2.1 d h1, fun z _ h1 => h.2.2.2.2 z (Or.inl (by omega))⟩
theorem MK8.s {x : OS} (h : MK8 st x) : SR8 D st x := ⟨h.1, fun k _ => by rw [h.2.1], fun k _ _ h1 h2 => h.2.2 k h1 h2, fun d _ _ => by rw [h.2.1], fun z _ _ => by rw [h.2.2 7 (by decide) (by decide), h.2.2 8 (by decide) (by decide)]; exact ⟨rfl, rfl⟩⟩
theorem LD8.s {x : OS} {w v : Wd} (h : LD8 st w v) (k : SR8 D st x) : LD8 x w v := h.cong k.1 (fun j hj => k.2.2.1 j (by omega) (by omega) (by omega) (by omega))
/-- marks that a way keeps -/
theorem mk_iso {A : Nat} {l m : List Int64} {f : Nat → Nat} (hA : A ≤ 64) (h : KP A l m) (hf : BJ A f) (hR : RSP f l m) {S T : Int64} (hST : ∀ i, i < A → tb S i = tb T (f i)) : mrkT l S l.length = mrkT m T m.length := by
  rw [← h.2.2.1]
  refine mrk_same h (fun k hk => ?_) _ (Nat.le_refl _)
  refine pcn_bij hA hf (fun i z => ?_) (fun i z => ?_) (fun i hi => ?_)
  · rw [tb_and, Bool.and_eq_true] at z; exact h.1.1 k i hk z.1
  · rw [tb_and, Bool.and_eq_true] at z; exact h.2.1.1 k i (by have := h.2.2.1; omega) z.1
  · rw [tb_and, tb_and, hR.iff h hi hk, hST i hi]
theorem settle_8 {w v : Wd} (hL : LD8 st w v) (hD : D < 16) (h : RW8 st D l m) (g : KP w.1 l m) :
    ∃ c x, f_X8_settleKinds st (nI D) = some (c, x) ∧ SR8 D st x ∧ (c = 0 ∨ c = 1) ∧ (c = 1 → ∃ l' m', RW8 x D l' m' ∧ KP w.1 l' m' ∧ RF l m l' m' ∧ l' = stl w 17 l ∧ STB w v l' m' ∧ ∀ π σ, IS2 w v π σ → RSP π l m → RSP π l' m') ∧ ((∃ π σ, IS2 w v π σ ∧ RSP π l m) → c = 1) := by
  have h16 := hL.2.2.1
  have h64 := hL.2.2.2.1
  have hN : w.1 ≤ 64 := by omega
  have key := lpv_inv (f := f_X8_settleKinds_2 (nI D)) (fun r z => z.2 = nI r ∧ SR8 D st z.1 ∧ ∃ l' m', RW8 z.1 D l' m' ∧ KP w.1 l' m' ∧ RF l m l' m' ∧ r ≤ l'.length ∧ stl w (17 - r) l' = stl w 17 l ∧ ∀ π σ, IS2 w v π σ → RSP π l m → RSP π l' m') 17 (fun r => SR8 D st r.2 ∧ ((r.1 = 2 ∧ ∃ l' m', RW8 r.2 D l' m' ∧ KP w.1 l' m' ∧ RF l m l' m' ∧ l' = stl w 17 l ∧ STB w v l' m' ∧ ∀ π σ, IS2 w v π σ → RSP π l m → RSP π l' m') ∨ (r.1 < 2 ∧ ¬ ∃ π σ, IS2 w v π σ ∧ RSP π l m))) (fun r z hr hI => ?_) (fun z hI => ?_) 0 (st, 0) (Nat.zero_le _) ⟨rfl, SR8.rf, l, m, h, g, RF.rf, Nat.zero_le _, rfl, fun _ _ _ h => h⟩
  · obtain ⟨⟨r, x⟩, e1, e2, e3⟩ := key
    dsimp only at e2 e3
    rcases e3 with ⟨f1, f2⟩ | ⟨f1, f2⟩
    · refine ⟨1, x, ?_, e2, Or.inr rfl, fun _ => f2, fun _ => rfl⟩
      unfold f_X8_settleKinds
      rw [e1, ob_s, f1]
      rfl
    · refine ⟨0, x, ?_, e2, Or.inl rfl, fun z => absurd z (by decide), fun z => absurd z f2⟩
      unfold f_X8_settleKinds
      rw [e1, ob_s]
      dsimp only
      by_cases q : r = 0
      · rw [if_pos q]
      · rw [if_neg q, if_pos (by omega)]
  · obtain ⟨x, b⟩ := z
    obtain ⟨g1, g2, l', m', g3, g4, g5, g6, g7, g8⟩ := hI
    dsimp only at g1 g2 g3
    subst g1
    have hlen := g4.len
    have hLx := hL.s g2
    -- one kind of lines
    obtain ⟨x1, a1, a2, a3⟩ := oneKind_8 (st := x) (D := 16) (by decide) h64
    have hL1 := hLx.or a3
    have r1 := a3.row (show D ≠ 16 by omega) (by omega) g3
    -- marks of lines
    obtain ⟨x2, b1, b2, b3⟩ := markLines_8 hL1 (show D < 17 by omega) r1 hN g4
    have hL2 := hL1.mk b2
    have r2 := b2.row r1
    have s2 := b2.row a2
    -- parts of lines
    obtain ⟨v3, x3, c1, c2, c3, c4, c5⟩ := part_8 (D := 16) (by decide) s2 h64 (one1_KP h64) (mk := fun i => mrkT l' (wl w.2 i) l'.length) (mk' := fun i => mrkT m' (wl v.2 i) m'.length) b3
    have hL3 := hL2.or c2
    have r3 := c2.row (show D ≠ 16 by omega) (by omega) r2
    have hcall1 : f_X8_settleKinds_2 (nI D) (x, nI r) = if v3 = 0 then some (.inr (0, x3)) else (f_X8_markPoints x3).bind (fun x16 => (f_X8_partByMarks x16 (nI D)).bind (fun x19 => if x19.1 = 0 then some (.inr (1, x19.2)) else if x19.2.2.2.1 6 D = nI l'.length then some (.inr (2, x19.2)) else some (.inl (x19.2, nI (r + 1))))) := by
      unfold f_X8_settleKinds_2
      dsimp only
      rw [if_neg (show ¬ (16 : Int32) < nI r from nI_nlt (b := r) (a := 16) (by omega) (by decide)), if_pos (inb_t (by omega) (by omega)), nI_clamp (by omega), hLx.2.1]
      dsimp only [bnd]
      rw [show (16 : Int32) = nI 16 from rfl, a1, ob_s, b1, ob_s, c1, ob_s, g3.1, nI_1]
    have s3 : SR8 D st x3 := ((g2.tr a3.s16).tr b2.s).tr c2.s16
    rcases c3 with c3 | c3
    · right
      subst c3
      refine ⟨(0, x3), by rw [hcall1, if_pos rfl], s3, Or.inr ⟨show (0 : Nat) < 2 by decide, fun ⟨π, σ, i1, i2⟩ => ?_⟩⟩
      have := c5 σ i1.2.1 (one1_RS h64 i1.2.1) (fun i hi => mk_iso hN g4 i1.1 (g8 π σ i1 i2) (fun p hp => (i1.2.2 p i hp hi).symm))
      exact absurd this (by decide)
    subst c3
    obtain ⟨L, M, d1, d2, d3, d4⟩ := c4 rfl
    have dKP := d2.1
    -- marks of points
    obtain ⟨x4, e1, e2, e3⟩ := markPoints_8 hL3 d1 h64 dKP
    have hL4 := hL3.mk e2
    have r4 := e2.row r3
    obtain ⟨v5, x5, f1, f2, f3, f4, f5⟩ := part_8 (D := D) (by omega) r4 hN g4 (mk := fun p => mrkT L (thrF w.2 p) L.length) (mk' := fun p => mrkT M (thrF v.2 p) M.length) e3
    have hvl : v.2.length ≤ 64 := by have := hL.2.2.2.2.2.1; omega
    have hsig : ∀ π σ, IS2 w v π σ → RSP π l m → RSP σ L M := fun π σ i1 i2 => d2.2.2.2.2 σ i1.2.1 (one1_RS h64 i1.2.1) (fun i hi => mk_iso hN g4 i1.1 (g8 π σ i1 i2) (fun p hp => (i1.2.2 p i hp hi).symm))
    have hmarks : ∀ π σ, IS2 w v π σ → RSP π l m → ∀ p, p < w.1 → mrkT L (thrF w.2 p) L.length = mrkT M (thrF v.2 (π p)) M.length := fun π σ i1 i2 p hp => mk_iso h64 dKP i1.2.1 (hsig π σ i1 i2) (fun i hi => thr_iso h64 hL.2.2.2.2.2.1 i1 hp hi)
    have s5 : SR8 D st x5 := (s3.tr e2.s).tr f2.s
    rcases f3 with f3 | f3
    · right
      subst f3
      refine ⟨(1, x5), by rw [hcall1, if_neg (by decide), e1, ob_s, f1, ob_s]; rfl, s5, Or.inr ⟨show (1 : Nat) < 2 by decide, fun ⟨π, σ, i1, i2⟩ => ?_⟩⟩
      have := f5 π i1.1 (g8 π σ i1 i2) (hmarks π σ i1 i2)
      exact absurd this (by decide)
    subst f3
    obtain ⟨l2, m2, h1, h2, h3, h4⟩ := f4 rfl
    have hl2 := h2.1.len
    have hge := h2.2.2.1
    have hstl : l2 = stl1 w l' := by rw [h3, d3]; rfl
    have hRS2 : ∀ π σ, IS2 w v π σ → RSP π l m → RSP π l2 m2 := fun π σ i1 i2 => h2.2.2.2.2 π i1.1 (g8 π σ i1 i2) (hmarks π σ i1 i2)
    have hstep : stl w (17 - r) l' = if l2.length = l'.length then l2 else stl w (17 - (r + 1)) l2 := by
      rw [show 17 - r = (17 - (r + 1)) + 1 by omega, hstl]
      rfl
    by_cases hq : l2.length = l'.length
    · right
      obtain ⟨q1, q2⟩ := h2.2.2.2.1 hq
      refine ⟨(2, x5), ?_, s5, Or.inl ⟨rfl, l2, m2, h1, h2.1, g5.tr h2.2.1, ?_, ⟨L, M, dKP, ?_⟩, hRS2⟩⟩
      · rw [hcall1, if_neg (by decide), e1, ob_s, f1, ob_s]
        dsimp only
        rw [if_neg (by decide), h1.1, if_pos (congrArg nI hq)]
      · rw [← g7, hstep, if_pos hq]
      · rw [q1, q2]; exact d4
    · left
      refine ⟨(x5, nI (r + 1)), ?_, rfl, s5, l2, m2, h1, h2.1, g5.tr h2.2.1, by omega, ?_, hRS2⟩
      · rw [hcall1, if_neg (by decide), e1, ob_s, f1, ob_s]
        dsimp only
        rw [if_neg (by decide), h1.1, if_neg (fun z => hq ((nI_eq (by omega) (by omega)).mp z))]
      · rw [← g7, hstep, if_neg hq]
  · obtain ⟨x, b⟩ := z
    obtain ⟨g1, g2, l', m', g3, g4, g5, g6, g7, g8⟩ := hI
    have := g4.len
    omega
end T8S
