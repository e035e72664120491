/-! loops by invariants; states -/
theorem lpv_inv {σ ρ : Type} {f : σ → Option (σ ⊕ ρ)} (I : Nat → σ → Prop) (N : Nat) (Q : ρ → Prop)
    (hs : ∀ i s, i < N → I i s → (∃ s', f s = some (.inl s') ∧ I (i + 1) s') ∨ (∃ r, f s = some (.inr r) ∧ Q r))
    (he : ∀ s, I N s → ∃ r, f s = some (.inr r) ∧ Q r) : ∀ (i : Nat) (s : σ), i ≤ N → I i s → ∃ r, lpv f s = some r ∧ Q r := by
  have key : ∀ (k i : Nat) (s : σ), i + k = N → I i s → ∃ r, lpv f s = some r ∧ Q r := by
    intro k
    induction k with
    | zero =>
      intro i s hi h
      obtain ⟨r, h1, h2⟩ := he s (by rw [← hi]; exact h)
      exact ⟨r, lpv_out h1, h2⟩
    | succ k ih =>
      intro i s hi h
      rcases hs i s (by omega) h with ⟨s', h1, h2⟩ | ⟨r, h1, h2⟩
      · rw [lpv_in h1]
        exact ih (i + 1) s' (by omega) h2
      · exact ⟨r, lpv_out h1, h2⟩
  intro i s hi h
  exact key (N - i) i s (by omega) h
theorem lpv_mea {σ ρ : Type} {f : σ → Option (σ ⊕ ρ)} (I : σ → Prop) (μ : σ → Nat) (Q : ρ → Prop)
    (hs : ∀ s, I s → (∃ s', f s = some (.inl s') ∧ I s' ∧ μ s' < μ s) ∨ (∃ r, f s = some (.inr r) ∧ Q r)) : ∀ s, I s → ∃ r, lpv f s = some r ∧ Q r := by
  have key : ∀ (n : Nat) (s : σ), μ s < n → I s → ∃ r, lpv f s = some r ∧ Q r := by
    intro n
    induction n with
    | zero => intro s h; omega
    | succ n ih =>
      intro s hn h
      rcases hs s h with ⟨s', h1, h2, h3⟩ | ⟨r, h1, h2⟩
      · rw [lpv_in h1]
        exact ih s' (by omega) h2
      · exact ⟨r, lpv_out h1, h2⟩
  exact fun s h => key (μ s + 1) s (by omega) h
theorem i0 : (0 : Int32) = nI 0 := rfl
theorem i1 : (1 : Int32) = nI 1 := rfl
theorem i2 : (2 : Int32) = nI 2 := rfl
theorem i3 : (3 : Int32) = nI 3 := rfl
theorem i16 : (16 : Int32) = nI 16 := rfl
theorem i20 : (20 : Int32) = nI 20 := rfl
theorem i27 : (27 : Int32) = nI 27 := rfl
theorem i40 : (40 : Int32) = nI 40 := rfl
theorem i64 : (64 : Int32) = nI 64 := rfl
theorem i128 : (128 : Int32) = nI 128 := rfl
theorem nI_m1 {n : Nat} (h : n < 2 ^ 31) : nI n ≠ -1 := fun z => by
  have := nI_pos' h
  rw [z] at this
  exact absurd this (by decide)
theorem m1_lt : (-1 : Int32) < 0 := by decide
theorem inb_nI {j n : Nat} (hj : j < 2 ^ 31) : (inb (nI j) n = true) = (j < n) := by
  unfold inb
  rw [nI_clamp hj]
  have h := nI_pos hj
  simp only [decide_eq_false h, Bool.false_or, Bool.not_eq_true', decide_eq_false_iff_not, Nat.not_le]
theorem oB_same (st : OS) (k : Nat) (f g : Nat → Int64) : oB (oB st k f) k g = oB st k g := by
  unfold oB
  simp only [bx_uu]
theorem oB_comm (st : OS) {k j : Nat} (h : k ≠ j) (f g : Nat → Int64) : oB (oB st k f) j g = oB (oB st j g) k f := by
  unfold oB
  refine Prod.ext rfl (Prod.ext rfl (Prod.ext rfl (funext fun z => ?_)))
  by_cases h1 : z = k
  · subst h1; simp [va_up, h]
  · by_cases h2 : z = j
    · subst h2; simp [va_up, h1]
    · simp [va_up, h1, h2]
theorem oB_self (st : OS) (k : Nat) (f : Nat → Int64) : (oB st k f).2.2.2 k = f := by simp [oB, va_up]
theorem oB_ne (st : OS) {k j : Nat} (h : j ≠ k) (f : Nat → Int64) : (oB st k f).2.2.2 j = st.2.2.2 j := by simp [oB, va_up, h]
theorem oB_1 (st : OS) (k : Nat) (f : Nat → Int64) : (oB st k f).1 = st.1 := rfl
theorem oB_J (st : OS) (k : Nat) (f : Nat → Int64) : (oB st k f).2.1 = st.2.1 := rfl
theorem oB_A (st : OS) (k : Nat) (f : Nat → Int64) : (oB st k f).2.2.1 = st.2.2.1 := rfl
theorem oA_1 (st : OS) (k : Nat) (f : Nat → Int32) : (oA st k f).1 = st.1 := rfl
theorem oA_J (st : OS) (k : Nat) (f : Nat → Int32) : (oA st k f).2.1 = st.2.1 := rfl
theorem oA_B (st : OS) (k : Nat) (f : Nat → Int32) : (oA st k f).2.2.2 = st.2.2.2 := rfl
theorem oA_self (st : OS) (k : Nat) (f : Nat → Int32) : (oA st k f).2.2.1 k = f := by simp [oA, va_up]
theorem oA_ne (st : OS) {k j : Nat} (h : j ≠ k) (f : Nat → Int32) : (oA st k f).2.2.1 j = st.2.2.1 j := by simp [oA, va_up, h]
theorem oA_same (st : OS) (k : Nat) (f g : Nat → Int32) : oA (oA st k f) k g = oA st k g := by
  unfold oA
  simp only [bx_uu]
theorem oI_self (st : OS) (k : Nat) (v : Int32) : (oI st k v).1 k = v := by simp [oI, va_up]
theorem oI_ne (st : OS) {k j : Nat} (h : j ≠ k) (v : Int32) : (oI st k v).1 j = st.1 j := by simp [oI, va_up, h]
theorem oI_2 (st : OS) (k : Nat) (v : Int32) : (oI st k v).2 = st.2 := rfl
theorem oJ_1 (st : OS) (k : Nat) (v : Int64) : (oJ st k v).1 = st.1 := rfl
theorem oJ_22 (st : OS) (k : Nat) (v : Int64) : (oJ st k v).2.2 = st.2.2 := rfl
theorem oJ_self (st : OS) (k : Nat) (v : Int64) : (oJ st k v).2.1 k = v := by simp [oJ, va_up]
theorem oJ_ne (st : OS) {k j : Nat} (h : j ≠ k) (v : Int64) : (oJ st k v).2.1 j = st.2.1 j := by simp [oJ, va_up, h]
def filL (F g : Nat → Int64) (p : Nat) : Nat → Int64 := fun j => if j < p then F j else g j
theorem filL_0 (F g : Nat → Int64) : filL F g 0 = g := by funext j; simp [filL]
theorem filL_in {F g : Nat → Int64} {p j : Nat} (h : j < p) : filL F g p j = F j := by simp [filL, h]
theorem filL_out {F g : Nat → Int64} {p j : Nat} (h : p ≤ j) : filL F g p j = g j := by simp [filL, show ¬ j < p by omega]
theorem filL_succ (F g : Nat → Int64) (p : Nat) : vp_updL (filL F g p) p (F p) = filL F g (p + 1) := by
  funext j
  unfold vp_updL filL
  by_cases h : j = p
  · subst h; simp
  · simp only [if_neg h]
    by_cases h2 : j < p
    · rw [if_pos h2, if_pos (by omega)]
    · rw [if_neg h2, if_neg (by omega)]
/-! unions over numbers below n -/
def orT (f : Nat → Int64) : Nat → Int64
  | 0 => 0
  | n + 1 => orT f n ||| f n
theorem tb_orT (f : Nat → Int64) (i : Nat) : ∀ n, tb (orT f n) i = true ↔ ∃ j, j < n ∧ tb (f j) i = true
  | 0 => by rw [show orT f 0 = 0 from rfl, tb_0]; simp
  | n + 1 => by
    rw [show orT f (n + 1) = orT f n ||| f n from rfl, tb_or, Bool.or_eq_true, tb_orT f i n]
    constructor
    · rintro (⟨j, h1, h2⟩ | h)
      · exact ⟨j, by omega, h2⟩
      · exact ⟨n, by omega, h⟩
    · rintro ⟨j, h1, h2⟩
      by_cases hj : j = n
      · subst hj; exact Or.inr h2
      · exact Or.inl ⟨j, by omega, h2⟩
theorem orT_cong {f g : Nat → Int64} : ∀ {n : Nat}, (∀ j, j < n → f j = g j) → orT f n = orT g n
  | 0, _ => rfl
  | n + 1, h => by
    show orT f n ||| f n = orT g n ||| g n
    rw [orT_cong (fun j hj => h j (by omega)), h n (by omega)]
theorem or0 (x : Int64) : x ||| 0 = x := tb_ext (fun i _ => by rw [tb_or, tb_0, Bool.or_false])
/-! worlds: points, and the list of the lines -/
abbrev Wd : Type := Nat × List Int64
def wl (l : List Int64) (i : Nat) : Int64 := l.getD i 0
theorem wl_lt {l : List Int64} {i : Nat} (h : i < l.length) : l[i]? = some (wl l i) := by
  unfold wl
  rw [List.getD_eq_getElem?_getD, List.getElem?_eq_getElem h]
  rfl
theorem wl_app {l : List Int64} {s : Int64} {i : Nat} (h : i < l.length) : wl (l ++ [s]) i = wl l i := by
  unfold wl
  rw [List.getD_eq_getElem?_getD, List.getD_eq_getElem?_getD, List.getElem?_append_left h]
theorem wl_last {l : List Int64} {s : Int64} : wl (l ++ [s]) l.length = s := by
  unfold wl
  rw [List.getD_eq_getElem?_getD, List.getElem?_append_right (Nat.le_refl _), Nat.sub_self]
  rfl
theorem wl_mem {l : List Int64} {i : Nat} (h : i < l.length) : wl l i ∈ l := List.mem_of_getElem? (wl_lt h)
def thrF (l : List Int64) (p : Nat) : Int64 := orT (fun i => if tb (wl l i) p then bit1 i else 0) l.length
def nearF (l : List Int64) (p : Nat) : Int64 := orT (fun i => if tb (wl l i) p then wl l i else 0) l.length &&& (bit1 p ^^^ (-1))
/-- the class's points and lines -/
def PL (st : OS) (n : Nat) (l : List Int64) : Prop := st.1 0 = nI n ∧ st.1 1 = nI l.length ∧ n ≤ 64 ∧ l.length ≤ 64 ∧ ∀ i, i < l.length → st.2.2.2 2 i = wl l i
/-- .. and what follows from them -/
def CW (st : OS) (w : Wd) : Prop := PL st w.1 w.2 ∧ ∀ p, p < 64 → st.2.2.2 3 p = nearF w.2 p ∧ st.2.2.2 4 p = thrF w.2 p
theorem PL.cong {st x : OS} {n : Nat} {l : List Int64} (h : PL st n l) (h0 : x.1 0 = st.1 0) (h1 : x.1 1 = st.1 1) (h2 : ∀ i, i < 64 → x.2.2.2 2 i = st.2.2.2 2 i) : PL x n l :=
  ⟨h0.trans h.1, h1.trans h.2.1, h.2.2.1, h.2.2.2.1, fun i hi => (h2 i (Nat.lt_of_lt_of_le hi h.2.2.2.1)).trans (h.2.2.2.2 i hi)⟩
theorem CW.same {x y : OS} {w : Wd} (h : CW y w) (hs : sameW x y) : CW x w :=
  ⟨h.1.cong hs.1 hs.2.1 (fun i hi => (hs.2.2 i hi).1), fun p hp => ⟨(hs.2.2 p hp).2.1.trans (h.2 p hp).1, (hs.2.2 p hp).2.2.trans (h.2 p hp).2⟩⟩
theorem settle_in {st : OS} {n : Nat} {l : List Int64} (h : PL st n l) {p : Nat} (hp : p < 64) : lpv (f_X10_settle_16 st (nI p)) (0, 0, 0) = some (orT (fun i => if tb (wl l i) p then wl l i else 0) l.length, thrF l p) := by
  obtain ⟨h0, h1, h2, h3, h4⟩ := h
  refine lpv_for (fun i => (orT (fun i => if tb (wl l i) p then wl l i else 0) i, orT (fun i => if tb (wl l i) p then bit1 i else 0) i, nI i)) l.length ?_ ?_ 0 (Nat.zero_le _)
  · intro i hi
    unfold f_X10_settle_16
    simp (disch := omega) only [h1, i64, nI_leI, inb_nI, nI_clamp, h4 i hi, has_10 hp, ob_s, b2i_0]
    rw [if_neg (by omega), if_neg (by omega), if_pos (by omega)]
    cases hb : tb (wl l i) p with
    | false =>
      rw [if_pos rfl]
      simp only [bnd, nI_1, orT, hb]
      simp [or0]
    | true =>
      rw [if_neg (by decide)]
      simp (disch := omega) only [bnd, nI_1, orT, hb, sh1]
      simp
  · unfold f_X10_settle_16
    simp (disch := omega) only [h1, nI_leI]
    rw [if_pos (Nat.le_refl _)]
    rfl
theorem settle_10 {st : OS} {n : Nat} {l : List Int64} (h : PL st n l) : ∃ x, f_X10_settle st = some x ∧ CW x (n, l) := by
  have hst : ∀ p, p ≤ 64 → PL (oB (oB st 3 (filL (nearF l) (st.2.2.2 3) p)) 4 (filL (thrF l) (st.2.2.2 4) p)) n l := fun p _ => h.cong rfl rfl (fun i _ => by rw [oB_ne _ (by decide), oB_ne _ (by decide)])
  have hl : lpv f_X10_settle_2 (st, 0) = some (oB (oB st 3 (filL (nearF l) (st.2.2.2 3) 64)) 4 (filL (thrF l) (st.2.2.2 4) 64)) := by
    have h9 := lpv_for (f := f_X10_settle_2) (fun p => (oB (oB st 3 (filL (nearF l) (st.2.2.2 3) p)) 4 (filL (thrF l) (st.2.2.2 4) p), nI p)) 64 (r := oB (oB st 3 (filL (nearF l) (st.2.2.2 3) 64)) 4 (filL (thrF l) (st.2.2.2 4) 64)) ?_ ?_ 0 (by omega)
    · simp only [filL_0] at h9
      rw [← h9]
      congr 2
      unfold oB
      refine Prod.ext rfl (Prod.ext rfl (Prod.ext rfl (funext fun z => ?_)))
      by_cases h1 : z = 3
      · subst h1; simp [va_up]
      · by_cases h2 : z = 4
        · subst h2; simp [va_up]
        · simp [va_up, h1, h2]
    · intro p hp
      unfold f_X10_settle_2
      simp (disch := omega) only [i64, nI_leI, inb_nI, nI_clamp]
      rw [if_neg (by omega), settle_in (hst p (by omega)) hp, ob_s]
      simp (disch := omega) only [sh1]
      rw [if_pos hp]
      simp only [bnd, nI_1]
      congr 3
      rw [oB_ne _ (by decide), oB_self, oB_ne _ (by decide), oB_self]
      rw [show orT (fun i => if tb (wl l i) p = true then wl l i else 0) l.length &&& (bit1 p ^^^ -1) = nearF l p from rfl, filL_succ, filL_succ]
      rw [oB_comm _ (show (4 : Nat) ≠ 3 by decide), oB_same, oB_same]
    · unfold f_X10_settle_2
      simp (disch := omega) only [i64, nI_leI]
      rw [if_pos (Nat.le_refl _)]
  refine ⟨_, by unfold f_X10_settle; rw [hl, ob_s], hst 64 (by omega), fun p hp => ⟨?_, ?_⟩⟩
  · rw [oB_ne _ (by decide), oB_self, filL_in hp]
  · rw [oB_self, filL_in hp]
theorem setAt_10 {st : OS} {n : Nat} {l : List Int64} (h : PL st n l) {i : Nat} (hi : i < l.length) : f_X10_setAt st (nI i) = some (wl l i) := by
  obtain ⟨h0, h1, h2, h3, h4⟩ := h
  unfold f_X10_setAt
  rw [if_neg (nI_pos (by omega)), h1, if_neg (nI_ge hi (by omega)), if_neg (show ¬ (64 : Int32) ≤ nI i from nI_ge (a := i) (b := 64) (by omega) (by decide)), if_pos (by rw [inb_nI (by omega)]; omega), nI_clamp (by omega), h4 i hi]
/-- any number -/
theorem setAt_out {st : OS} {n : Nat} {l : List Int64} (h : PL st n l) {i : Int32} (hi : i < 0 ∨ nI l.length ≤ i) : f_X10_setAt st i = some 0 := by
  unfold f_X10_setAt
  by_cases h1 : i < 0
  · rw [if_pos h1]
  · rw [if_neg h1, h.2.1, if_pos (hi.resolve_left h1)]
theorem wl_out {l : List Int64} {i : Nat} (h : l.length ≤ i) : wl l i = 0 := by
  unfold wl
  rw [List.getD_eq_getElem?_getD, List.getElem?_eq_none h]
  rfl
theorem setAt_any {st : OS} {n : Nat} {l : List Int64} (h : PL st n l) {i : Nat} (hi : i < 2 ^ 31) : f_X10_setAt st (nI i) = some (wl l i) := by
  rcases Nat.lt_or_ge i l.length with q | q
  · exact setAt_10 h q
  · rw [setAt_out h (Or.inr (nI_le q (by omega))), wl_out q]
theorem nearAt_10 {st : OS} {w : Wd} (h : CW st w) {p : Nat} (hp : p < w.1) : f_X10_nearAt st (nI p) = some (nearF w.2 p) := by
  obtain ⟨⟨h0, h1, h2, h3, h4⟩, h5⟩ := h
  unfold f_X10_nearAt
  rw [if_neg (nI_pos (by omega)), h0, if_neg (nI_ge hp (by omega)), if_neg (show ¬ (64 : Int32) ≤ nI p from nI_ge (a := p) (b := 64) (by omega) (by decide)), if_pos (by rw [inb_nI (by omega)]; omega), nI_clamp (by omega), (h5 p (by omega)).1]
theorem throughAt_10 {st : OS} {w : Wd} (h : CW st w) {p : Nat} (hp : p < w.1) : f_X10_throughAt st (nI p) = some (thrF w.2 p) := by
  obtain ⟨⟨h0, h1, h2, h3, h4⟩, h5⟩ := h
  unfold f_X10_throughAt
  rw [if_neg (nI_pos (by omega)), h0, if_neg (nI_ge hp (by omega)), if_neg (show ¬ (64 : Int32) ≤ nI p from nI_ge (a := p) (b := 64) (by omega) (by decide)), if_pos (by rw [inb_nI (by omega)]; omega), nI_clamp (by omega), (h5 p (by omega)).2]
theorem throughAt_out {st : OS} {w : Wd} (h : CW st w) {p : Nat} (hp : w.1 ≤ p) (hp2 : p < 2 ^ 31) : f_X10_throughAt st (nI p) = some 0 := by
  unfold f_X10_throughAt
  rw [if_neg (nI_pos hp2), h.1.1, if_pos (nI_le hp hp2)]
theorem nearAt_out {st : OS} {w : Wd} (h : CW st w) {p : Nat} (hp : w.1 ≤ p) (hp2 : p < 2 ^ 31) : f_X10_nearAt st (nI p) = some 0 := by
  unfold f_X10_nearAt
  rw [if_neg (nI_pos hp2), h.1.1, if_pos (nI_le hp hp2)]
theorem all_10 {st : OS} {n : Nat} {l : List Int64} (h : PL st n l) : f_X10_all st = some (fst64 n) := by
  unfold f_X10_all
  rw [h.1, first_10 h.2.2.1, ob_s]
theorem append_10 {st : OS} {n : Nat} {l : List Int64} (h : PL st n l) (s : Int64) (hm : l.length < 64) : ∃ x, f_X10_append st s = some x ∧ PL x n (l ++ [s]) := by
  obtain ⟨h0, h1, h2, h3, h4⟩ := h
  refine ⟨oI (oB st 2 (vp_updL (st.2.2.2 2) l.length s)) 1 (nI (l.length + 1)), ?_, ?_⟩
  · unfold f_X10_append
    simp (disch := omega) only [h1, i0, i64, nI_leI, nI_ltI, inb_nI, nI_clamp, bnd, oB_1, nI_1]
    rw [if_neg (by omega), if_neg (by omega), if_pos hm]
  · refine ⟨h0, by rw [oI_self, List.length_append]; rfl, h2, by rw [List.length_append]; simp; omega, fun i hi => ?_⟩
    rw [List.length_append] at hi
    rw [oI_2, oB_self]
    unfold vp_updL
    by_cases hi2 : i = l.length
    · rw [if_pos hi2, hi2, wl_last]
    · have : i < l.length := by simp at hi; omega
      rw [if_neg hi2, h4 i this, wl_app this]
/-- the lines that have two points or more -/
def okL (s : Int64) : Bool := decide (2 ≤ pcn s)
theorem appendIf_10 {st : OS} {n : Nat} {l : List Int64} (h : PL st n l) (s : Int64) (hm : l.length < 64) : ∃ x, f_X10_appendIfLine st s = some x ∧ PL x n (l ++ [s].filter okL) := by
  unfold f_X10_appendIfLine
  rw [bitCount_13, ob_s]
  have hp := pcn_le s
  simp (disch := omega) only [i2, nI_ltI]
  by_cases h2 : 2 ≤ pcn s
  · rw [if_neg (by omega)]
    obtain ⟨x, hx, hP⟩ := append_10 h s hm
    refine ⟨x, by rw [hx, ob_s], ?_⟩
    rw [List.filter_cons_of_pos (by unfold okL; exact decide_eq_true h2)]
    exact hP
  · rw [if_pos (by omega)]
    refine ⟨st, rfl, ?_⟩
    rw [List.filter_cons_of_neg (by unfold okL; simp; omega)]
    simpa using h
theorem clear_10 (st : OS) {n : Nat} (hn : n ≤ 64) : ∃ x, f_X10_clear st (nI n) = some x ∧ PL x n [] := by
  refine ⟨oI (oI st 0 (nI n)) 1 0, ?_, ?_⟩
  · unfold f_X10_clear f_J9_min_7cf53
    simp (disch := omega) only [i0, i64, nI_leI, nI_ltI]
    rw [if_pos (by omega), if_neg (by omega), ob_s]
    rfl
  · exact ⟨rfl, rfl, hn, by simp, fun i hi => by simp at hi⟩
/-! the dual, what is left about a point -/
def dualW (w : Wd) : Wd := (w.2.length, ((List.range w.1).map (thrF w.2)).filter okL)
theorem filt_len {α : Type} (p : α → Bool) (l : List α) : (l.filter p).length ≤ l.length := List.length_filter_le p l
theorem dual_10 (st : OS) {stn : OS} {w : Wd} (h : CW stn w) : ∃ x, f_X10_becomeDualOf st stn = some x ∧ CW x (dualW w) := by
  obtain ⟨⟨h0, h1, h2, h3, h4⟩, h5⟩ := id h
  obtain ⟨x0, hx0, hP0⟩ := clear_10 st h3
  unfold f_X10_becomeDualOf
  rw [h1, hx0, ob_s]
  obtain ⟨x1, hx1, hP1⟩ := lpv_inv (f := f_X10_becomeDualOf_10 stn) (fun p z => ∃ s, z = (s, nI p) ∧ PL s w.2.length (((List.range p).map (thrF w.2)).filter okL)) w.1 (fun r => PL r w.2.length (((List.range w.1).map (thrF w.2)).filter okL)) (by
    intro p z hp ⟨s, hz, hP⟩
    subst hz
    left
    have hlen : (((List.range p).map (thrF w.2)).filter okL).length < 64 := Nat.lt_of_le_of_lt (filt_len _ _) (by simp; omega)
    obtain ⟨y, hy, hPy⟩ := appendIf_10 hP (thrF w.2 p) hlen
    refine ⟨(y, nI (p + 1)), ?_, y, rfl, ?_⟩
    · unfold f_X10_becomeDualOf_10
      simp (disch := omega) only [h0, nI_leI, throughAt_10 h hp, ob_s, hy, bnd, nI_1]
      rw [if_neg (by omega)]
    · rw [List.range_succ, List.map_append, List.filter_append]
      exact hPy) (by
    intro z ⟨s, hz, hP⟩
    subst hz
    refine ⟨s, ?_, hP⟩
    unfold f_X10_becomeDualOf_10
    simp (disch := omega) only [h0, nI_leI]
    rw [if_pos (Nat.le_refl _)]) 0 (x0, 0) (Nat.zero_le _) ⟨x0, rfl, by simpa using hP0⟩
  rw [hx1, ob_s]
  obtain ⟨x2, hx2, hC⟩ := settle_10 hP1
  exact ⟨x2, by rw [hx2, ob_s], hC⟩
/-- the numbers of a set that stay, numbered anew -/
def renT (set stay : Int64) : Nat → Int64
  | 0 => 0
  | p + 1 => renT set stay p ||| (if tb stay p && tb set p then bit1 (cnt (tb stay) p) else 0)
def ren (set stay : Int64) : Int64 := renT set stay 64
theorem renumbered_10 (set stay : Int64) : f_X10_renumbered set stay = some (ren set stay) := by
  unfold f_X10_renumbered
  have h9 : lpv (f_X10_renumbered_9 set stay) (0, 0, 0) = some (ren set stay) := lpv_for (f := f_X10_renumbered_9 set stay) (fun p => (renT set stay p, nI (cnt (tb stay) p), nI p)) 64 (r := ren set stay) (by
    intro p hp
    have hc := cnt_le (tb stay) p
    unfold f_X10_renumbered_9
    simp (disch := omega) only [i64, nI_leI, has_10 hp, ob_s, b2i_0]
    rw [if_neg (by omega)]
    cases hb : tb stay p with
    | false =>
      rw [if_pos rfl]
      simp only [bnd, nI_1, renT, cnt, hb]
      simp [or0]
    | true =>
      rw [if_neg (by decide)]
      cases hb2 : tb set p with
      | false =>
        rw [if_pos rfl]
        simp only [bnd, nI_1, renT, cnt, hb, hb2]
        simp [or0]
      | true =>
        rw [if_neg (by decide)]
        simp (disch := omega) only [bnd, nI_1, renT, cnt, hb, hb2, sh1]
        simp) (by
    unfold f_X10_renumbered_9
    simp (disch := omega) only [i64, nI_leI]
    rw [if_pos (Nat.le_refl _)]
    rfl) 0 (by omega)
  rw [h9, ob_s]
def stayF (w : Wd) (p : Nat) : Int64 := fst64 w.1 &&& ((nearF w.2 p ||| bit1 p) ^^^ (-1))
def leftW (w : Wd) (p : Nat) : Wd := (pcn (stayF w p), (w.2.map (fun s => ren s (stayF w p))).filter okL)
theorem map_range (l : List Int64) (g : Int64 → Int64) : l.map g = (List.range l.length).map (fun i => g (wl l i)) := by
  apply List.ext_getElem?
  intro i
  rw [List.getElem?_map, List.getElem?_map]
  rcases Nat.lt_or_ge i l.length with h | h
  · rw [wl_lt h, List.getElem?_range h]; rfl
  · rw [List.getElem?_eq_none h, List.getElem?_eq_none (by simpa using h)]; rfl
theorem left_10 (st : OS) {stn : OS} {w : Wd} (h : CW stn w) {p : Nat} (hp : p < w.1) : ∃ x, f_X10_becomeLeftOf st stn (nI p) = some x ∧ CW x (leftW w p) := by
  obtain ⟨⟨h0, h1, h2, h3, h4⟩, h5⟩ := id h
  obtain ⟨x0, hx0, hP0⟩ := clear_10 st (pcn_le (stayF w p))
  unfold f_X10_becomeLeftOf
  rw [all_10 h.1, ob_s, nearAt_10 h hp, ob_s]
  simp (disch := omega) only [bnd, sh1]
  rw [show fst64 w.1 &&& ((nearF w.2 p ||| bit1 p) ^^^ (-1)) = stayF w p from rfl, bitCount_13, ob_s, hx0, ob_s]
  unfold leftW
  rw [map_range w.2]
  obtain ⟨x1, hx1, hP1⟩ := lpv_inv (f := f_X10_becomeLeftOf_30 stn (stayF w p)) (fun i z => ∃ s, z = (s, nI i) ∧ PL s (pcn (stayF w p)) (((List.range i).map (fun i => ren (wl w.2 i) (stayF w p))).filter okL)) w.2.length (fun r => PL r (pcn (stayF w p)) (((List.range w.2.length).map (fun i => ren (wl w.2 i) (stayF w p))).filter okL)) (by
    intro i z hi ⟨s, hz, hP⟩
    subst hz
    left
    have hlen : (((List.range i).map (fun i => ren (wl w.2 i) (stayF w p))).filter okL).length < 64 := Nat.lt_of_le_of_lt (filt_len _ _) (by simp; omega)
    obtain ⟨y, hy, hPy⟩ := appendIf_10 hP (ren (wl w.2 i) (stayF w p)) hlen
    refine ⟨(y, nI (i + 1)), ?_, y, rfl, ?_⟩
    · unfold f_X10_becomeLeftOf_30
      simp (disch := omega) only [h1, nI_leI, setAt_10 h.1 hi, ob_s, renumbered_10, hy, bnd, nI_1]
      rw [if_neg (by omega)]
    · rw [List.range_succ, List.map_append, List.filter_append]
      exact hPy) (by
    intro z ⟨s, hz, hP⟩
    subst hz
    refine ⟨s, ?_, hP⟩
    unfold f_X10_becomeLeftOf_30
    simp (disch := omega) only [h1, nI_leI]
    rw [if_pos (Nat.le_refl _)]) 0 (x0, 0) (Nat.zero_le _) ⟨x0, rfl, by simpa using hP0⟩
  rw [hx1, ob_s]
  obtain ⟨x2, hx2, hC⟩ := settle_10 hP1
  exact ⟨x2, by rw [hx2, ob_s], hC⟩
/-! a line dropped -/
theorem erase_wl {l : List Int64} {i j : Nat} (hi : i < l.length) : wl (l.eraseIdx i) j = if j < i then wl l j else wl l (j + 1) := by
  unfold wl
  rw [List.getD_eq_getElem?_getD, List.getD_eq_getElem?_getD, List.getD_eq_getElem?_getD, List.getElem?_eraseIdx]
  split <;> rfl
theorem remove_10 {st : OS} {n : Nat} {l : List Int64} (h : PL st n l) {i : Nat} (hi : i < l.length) : ∃ x, f_X10_remove st (nI i) = some x ∧ PL x n (l.eraseIdx i) := by
  obtain ⟨h0, h1, h2, h3, h4⟩ := h
  let F : Nat → Nat → Int64 := fun j z => if i ≤ z ∧ z < j then st.2.2.2 2 (z + 1) else st.2.2.2 2 z
  have hF0 : oB st 2 (F i) = st := by
    unfold oB
    refine Prod.ext rfl (Prod.ext rfl (Prod.ext rfl (funext fun z => ?_)))
    by_cases h : z = 2
    · subst h
      simp only [va_up, if_pos]
      funext j
      show (if i ≤ j ∧ j < i then _ else _) = _
      rw [if_neg (by omega)]
    · simp [va_up, h]
  have hl : lpv f_X10_remove_11 (st, nI i) = some (oB st 2 (F (l.length - 1))) := by
    have h9 := lpv_for (f := f_X10_remove_11) (fun j => (oB st 2 (F (i + j)), nI (i + j))) (l.length - 1 - i) (r := oB st 2 (F (l.length - 1))) (by
      intro j hj
      unfold f_X10_remove_11
      simp (disch := omega) only [oB_1, h1, i64, nI_1, nI_leI, inb_nI, nI_clamp]
      rw [if_neg (by omega), if_neg (by omega), if_pos (by omega), if_pos (by omega)]
      simp only [bnd]
      congr 3
      rw [oB_self, oB_same]
      congr 1
      funext z
      show (if z = i + j then _ else F (i + j) z) = F (i + j + 1) z
      by_cases hz : z = i + j
      · subst hz
        show (if _ then (if i ≤ i + j + 1 ∧ i + j + 1 < i + j then _ else _) else _) = if _ then _ else _
        rw [if_pos rfl, if_neg (by omega), if_pos (by omega)]
      · rw [if_neg hz]
        show (if i ≤ z ∧ z < i + j then _ else _) = if i ≤ z ∧ z < i + j + 1 then _ else _
        by_cases h8 : i ≤ z ∧ z < i + j
        · rw [if_pos h8, if_pos (by omega)]
        · rw [if_neg h8, if_neg (by omega)]) (by
      unfold f_X10_remove_11
      simp (disch := omega) only [oB_1, h1, nI_1, nI_leI]
      rw [if_pos (by omega), show i + (l.length - 1 - i) = l.length - 1 by omega]) 0 (Nat.zero_le _)
    rw [Nat.add_zero, hF0] at h9
    exact h9
  refine ⟨oI (oB st 2 (F (l.length - 1))) 1 (nI (l.length - 1)), ?_, ?_⟩
  · unfold f_X10_remove f_X10_hasLine
    rw [h1, if_neg (nI_pos (by omega)), if_neg (nI_ge hi (by omega)), ob_s, if_neg (by decide), hl, ob_s]
    simp only [bnd, oB_1, h1]
    rw [i1, pk_sub (by omega)]
  · refine ⟨h0, by rw [oI_self, List.length_eraseIdx_of_lt hi], h2, by rw [List.length_eraseIdx_of_lt hi]; omega, fun j hj => ?_⟩
    rw [List.length_eraseIdx_of_lt hi] at hj
    rw [oI_2, oB_self, erase_wl hi]
    show (if i ≤ j ∧ j < l.length - 1 then _ else _) = _
    by_cases h8 : j < i
    · rw [if_neg (by omega), if_pos h8, h4 j (by omega)]
    · rw [if_pos (by omega), if_neg h8, h4 (j + 1) (by omega)]
