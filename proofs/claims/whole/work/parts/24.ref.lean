/-! the reference's state: what is kept -/
def Keep (I A B : Nat → Bool) (st x : OS) : Prop := (∀ k, I k = true → x.1 k = st.1 k) ∧ (∀ k, A k = true → x.2.2.1 k = st.2.2.1 k) ∧ (∀ k, B k = true → x.2.2.2 k = st.2.2.2 k)
theorem Keep.rf {I A B : Nat → Bool} {st : OS} : Keep I A B st st := ⟨fun _ _ => rfl, fun _ _ => rfl, fun _ _ => rfl⟩
theorem Keep.tr {I A B : Nat → Bool} {st x y : OS} (h : Keep I A B st x) (k : Keep I A B x y) : Keep I A B st y := ⟨fun j hj => (k.1 j hj).trans (h.1 j hj), fun j hj => (k.2.1 j hj).trans (h.2.1 j hj), fun j hj => (k.2.2 j hj).trans (h.2.2 j hj)⟩
theorem Keep.oI {I A B : Nat → Bool} {st x : OS} (h : Keep I A B st x) {k : Nat} {v : Int32} (hk : I k = false) : Keep I A B st (oI x k v) :=
  ⟨fun j hj => by rw [oI_ne _ (fun z => by rw [z, hk] at hj; cases hj)]; exact h.1 j hj, h.2⟩
theorem Keep.oJ {I A B : Nat → Bool} {st x : OS} (h : Keep I A B st x) {k : Nat} {v : Int64} : Keep I A B st (oJ x k v) := h
theorem Keep.oA {I A B : Nat → Bool} {st x : OS} (h : Keep I A B st x) {k : Nat} {f : Nat → Int32} (hk : A k = false) : Keep I A B st (oA x k f) :=
  ⟨h.1, fun j hj => by rw [oA_ne _ (fun z => by rw [z, hk] at hj; cases hj)]; exact h.2.1 j hj, h.2.2⟩
theorem Keep.oB {I A B : Nat → Bool} {st x : OS} (h : Keep I A B st x) {k : Nat} {f : Nat → Int64} (hk : B k = false) : Keep I A B st (oB x k f) :=
  ⟨h.1, h.2.1, fun j hj => by rw [oB_ne _ (fun z => by rw [z, hk] at hj; cases hj)]; exact h.2.2 j hj⟩
theorem Keep.mono {I A B I' A' B' : Nat → Bool} {st x : OS} (h : Keep I A B st x) (hI : ∀ k, I' k = true → I k = true) (hA : ∀ k, A' k = true → A k = true) (hB : ∀ k, B' k = true → B k = true) : Keep I' A' B' st x :=
  ⟨fun k hk => h.1 k (hI k hk), fun k hk => h.2.1 k (hA k hk), fun k hk => h.2.2 k (hB k hk)⟩
def inL (l : List Nat) (k : Nat) : Bool := l.contains k
theorem inL_sub {l l' : List Nat} (h : l'.all (fun k => l.contains k) = true) : ∀ k, inL l' k = true → inL l k = true := by
  intro k hk
  unfold inL at *
  exact List.all_eq_true.mp h k (List.contains_iff_mem.mp hk)
/-- all but what a question uses -/
abbrev Kp : OS → OS → Prop := Keep (inL [0, 1, 2, 5, 13, 14, 44, 45]) (inL [4, 40, 41, 42, 43, 46, 47, 49, 50, 51]) (inL [3, 38, 39, 48, 52])
/-- all but the world, the History and what is used -/
abbrev Kq : OS → OS → Prop := Keep (inL [2, 5, 13, 14]) (inL [4, 46, 47, 49, 50, 51]) (inL [48, 52])
theorem Kp.q {st x : OS} (h : Kp st x) : Kq st x := Keep.mono h (inL_sub (by decide)) (inL_sub (by decide)) (inL_sub (by decide))
/-- the reference's world -/
def RWo (st : OS) (n : Nat) (l : List Int64) : Prop := st.1 0 = nI n ∧ st.1 1 = nI l.length ∧ n ≤ 64 ∧ l.length ≤ 64 ∧ ∀ i, i < l.length → st.2.2.2 3 i = wl l i
theorem RWo.cong {st x : OS} {n : Nat} {l : List Int64} (h : RWo st n l) (h0 : x.1 0 = st.1 0) (h1 : x.1 1 = st.1 1) (h2 : x.2.2.2 3 = st.2.2.2 3) : RWo x n l :=
  ⟨h0.trans h.1, h1.trans h.2.1, h.2.2.1, h.2.2.2.1, fun i hi => by rw [h2]; exact h.2.2.2.2 i hi⟩
theorem RWo.kp {st x : OS} {n : Nat} {l : List Int64} (h : RWo st n l) (k : Kp st x) : RWo x n l := h.cong (k.1 0 rfl) (k.1 1 rfl) (k.2.2 3 rfl)
theorem throughOf_12 {st : OS} {n : Nat} {l : List Int64} (h : RWo st n l) {p : Nat} (hp : p < 64) : f_X12_throughOf st (nI p) = some (thrF l p) := by
  obtain ⟨h0, h1, h2, h3, h4⟩ := h
  unfold f_X12_throughOf
  have h9 : lpv (f_X12_throughOf_5 st (nI p)) (0, 0) = some (thrF l p) := by
    refine lpv_for (fun i => (orT (fun i => if tb (wl l i) p then bit1 i else 0) i, nI i)) l.length ?_ ?_ 0 (Nat.zero_le _)
    · intro i hi
      unfold f_X12_throughOf_5
      simp (disch := omega) only [h1, nI_leI, inb_nI, nI_clamp, h4 i hi, has_12 hp, ob_s, b2i_0]
      rw [if_neg (by omega), if_pos (by omega)]
      cases hb : tb (wl l i) p with
      | false =>
        rw [if_pos rfl]
        simp only [bnd, nI_1, orT, hb]
        simp
      | true =>
        rw [if_neg (by decide), bit_12 (by omega), ob_s]
        simp only [bnd, nI_1, orT, hb]
        simp
    · unfold f_X12_throughOf_5
      simp (disch := omega) only [h1, nI_leI]
      rw [if_pos (Nat.le_refl _)]
      rfl
  rw [h9, ob_s]
theorem all_12 {st : OS} {n : Nat} {l : List Int64} (h : RWo st n l) : f_X12_all st = some (fst64 n) := by
  unfold f_X12_all
  rw [h.1, allOf_12 h.2.2.1, ob_s]
theorem nI_64 {n : Nat} (h : n < 2 ^ 31) : ((nI n : Int32).toInt64) = lN n := nI_l h
/-- within 0 .. n less 1 -/
theorem within_12 (x : Int32) {n : Nat} (hn : n ≤ 64) : f_X12_within ((x : Int32).toInt64) 0 (((nI n) - 1 : Int32).toInt64) = some (if x < 0 ∨ nI n ≤ x then 0 else 1) := by
  unfold f_X12_within
  have e0 : (0 : Int64) = (0 : Int32).toInt64 := rfl
  simp only [lg_cmp_lt, lg_cmp_gt, e0, fa_wide_lt]
  by_cases h1 : x < 0
  · rw [if_pos h1, if_pos (Or.inl h1)]
  · rw [if_neg h1]
    obtain ⟨j, hj, rfl⟩ := nI_of h1
    cases n with
    | zero =>
      rw [if_pos (show nI 0 - 1 < nI j by
        rw [fa_lt]
        rw [nI_toInt hj]
        show (-1 : Int) < _
        omega), if_pos (Or.inr (nI_le (Nat.zero_le _) hj))]
    | succ n =>
      rw [nI_pred]
      simp (disch := omega) only [nI_ltI, nI_leI]
      by_cases h2 : n < j
      · rw [if_pos h2, if_pos (Or.inr (by omega))]
      · rw [if_neg h2, if_neg (fun z => z.elim h1 (by omega))]
theorem isb01 (c : Prop) [Decidable c] : isb (if c then (0 : Int32) else 1) = true := by split <;> rfl
theorem isPoint_12 {st : OS} {n : Nat} {l : List Int64} (h : RWo st n l) (x : Int32) : f_X12_isPoint st x = some (if x < 0 ∨ nI n ≤ x then 0 else 1) := by
  unfold f_X12_isPoint
  rw [h.1, within_12 x h.2.2.1, ob_s, if_pos (isb01 _)]
theorem isLine_12 {st : OS} {n : Nat} {l : List Int64} (h : RWo st n l) (x : Int32) : f_X12_isLine st x = some (if x < 0 ∨ nI l.length ≤ x then 0 else 1) := by
  unfold f_X12_isLine
  rw [h.2.1, within_12 x h.2.2.2.1, ob_s, if_pos (isb01 _)]
theorem isSet_12 {st : OS} {n : Nat} {l : List Int64} (h : RWo st n l) (s : Int64) : f_X12_isSet st s = some (if s &&& (fst64 n ^^^ (-1)) = 0 then 1 else 0) := by
  unfold f_X12_isSet
  rw [all_12 h, ob_s]
  simp only [lg_cmp_eq]
  split <;> rfl
/-- the nears are laid -/
theorem layNears_12 {st : OS} {n : Nat} {l : List Int64} (h : RWo st n l) : f_X12_layNears st = some (oB st 20 (filL (nearF l) (st.2.2.2 20) n)) := by
  obtain ⟨h0, h1, h2, h3, h4⟩ := h
  unfold f_X12_layNears
  have hin : ∀ (g : Nat → Int64) (p : Nat), p < n → lpv (f_X12_layNears_19 (nI p)) (oB st 20 (vp_updL g p 0), 0) = some (oB st 20 (vp_updL g p (orT (fun i => if tb (wl l i) p then wl l i else 0) l.length))) := by
    intro g p hp
    refine lpv_for (fun i => (oB st 20 (vp_updL g p (orT (fun i => if tb (wl l i) p then wl l i else 0) i)), nI i)) l.length ?_ ?_ 0 (Nat.zero_le _)
    · intro i hi
      unfold f_X12_layNears_19
      simp (disch := omega) only [oB_1, h1, nI_leI, inb_nI, nI_clamp]
      rw [if_neg (by omega), if_pos (by omega), oB_ne _ (by decide), h4 i hi, has_12 (by omega), ob_s]
      simp (disch := omega) only [b2i_0]
      cases hb : tb (wl l i) p with
      | false =>
        rw [if_pos rfl]
        simp only [bnd, nI_1, orT, hb]
        simp [or0]
      | true =>
        rw [if_neg (by decide), if_pos (by omega)]
        simp only [bnd, nI_1, orT, hb, oB_self, oB_same]
        congr 3
        congr 1
        funext z
        unfold vp_updL
        by_cases hz : z = p
        · simp [hz]
        · simp [hz]
    · unfold f_X12_layNears_19
      simp (disch := omega) only [oB_1, h1, nI_leI]
      rw [if_pos (Nat.le_refl _)]
  have h9 : lpv f_X12_layNears_2 (st, 0) = some (oB st 20 (filL (nearF l) (st.2.2.2 20) n)) := by
    have h8 := lpv_for (f := f_X12_layNears_2) (fun p => (oB st 20 (filL (nearF l) (st.2.2.2 20) p), nI p)) n (r := oB st 20 (filL (nearF l) (st.2.2.2 20) n)) (by
      intro p hp
      unfold f_X12_layNears_2
      simp (disch := omega) only [oB_1, h0, nI_leI, inb_nI, nI_clamp]
      rw [if_neg (by omega), if_pos (by omega)]
      simp only [bnd, oB_self, oB_same]
      rw [hin _ p hp, ob_s, bit_12 (by omega), ob_s, oB_self, oB_same]
      simp only [nI_1]
      congr 3
      congr 1
      rw [← filL_succ]
      funext z
      unfold vp_updL
      by_cases hz : z = p
      · subst hz; simp only [if_pos]; rfl
      · simp [hz]) (by
      unfold f_X12_layNears_2
      simp (disch := omega) only [oB_1, h0, nI_leI]
      rw [if_pos (Nat.le_refl _)]) 0 (Nat.zero_le _)
    rw [filL_0] at h8
    rw [← h8]
    congr 2
    unfold oB
    refine Prod.ext rfl (Prod.ext rfl (Prod.ext rfl (funext fun z => ?_)))
    by_cases hz : z = 20
    · subst hz; simp [va_up]
    · simp [va_up, hz]
  rw [h9, ob_s]
theorem kp_near {st : OS} (g : Nat → Int64) : Kp st (oB st 20 g) := Keep.rf.oB rfl
/-! the reference's History: rows of worlds in long arrays -/
def Snap (P M : Nat → Int32) (B : Nat → Int64) (k : Nat) (w : Wd) : Prop := P k = nI w.1 ∧ M k = nI w.2.length ∧ w.1 ≤ 64 ∧ w.2.length ≤ 64 ∧ ∀ i, i < w.2.length → B (64 * k + i) = wl w.2 i
def Snaps (P M : Nat → Int32) (B : Nat → Int64) (ws : List Wd) : Prop := ∀ k w, ws[k]? = some w → Snap P M B k w
def RH (st : OS) (bs as : List Wd) : Prop := st.1 44 = nI bs.length ∧ st.1 45 = nI as.length ∧ bs.length + as.length ≤ 20 ∧ Snaps (st.2.2.1 40) (st.2.2.1 41) (st.2.2.2 38) bs ∧ Snaps (st.2.2.1 42) (st.2.2.1 43) (st.2.2.2 39) as
theorem i64m (k i : Nat) : (64 : Int32) * nI k + nI i = nI (64 * k + i) := by rw [i64, pk_mul, nI_add]
/-- the world goes to the place k -/
def putB (g : Nat → Int64) (k : Nat) (l : List Int64) (m : Nat) : Nat → Int64 := fun z => if 64 * k ≤ z ∧ z < 64 * k + m then wl l (z - 64 * k) else g z
theorem putB_succ (g : Nat → Int64) (k : Nat) (l : List Int64) (m : Nat) : vp_updL (putB g k l m) (64 * k + m) (wl l m) = putB g k l (m + 1) := by
  funext z
  unfold vp_updL putB
  by_cases hz : z = 64 * k + m
  · subst hz
    rw [if_pos rfl, if_pos (by omega), show 64 * k + m - 64 * k = m by omega]
  · rw [if_neg hz]
    by_cases h : 64 * k ≤ z ∧ z < 64 * k + m
    · rw [if_pos h, if_pos (by omega)]
    · rw [if_neg h, if_neg (by omega)]
theorem putB_0 (g : Nat → Int64) (k : Nat) (l : List Int64) : putB g k l 0 = g := by
  funext z
  unfold putB
  rw [if_neg (by omega)]
theorem oB_id (st : OS) (k : Nat) : oB st k (st.2.2.2 k) = st := by
  unfold oB
  refine Prod.ext rfl (Prod.ext rfl (Prod.ext rfl (funext fun z => ?_)))
  by_cases h : z = k
  · subst h; simp [va_up]
  · simp [va_up, h]
theorem keeps_12 {st : OS} {n : Nat} {l : List Int64} (h : RWo st n l) {a0 na0 a1 na1 a2 na2 k : Nat} (hk1 : k < na1) (hk2 : k < na2) (hk0 : 64 * k + 64 ≤ na0) (hk : k < 1000) (h03 : a0 ≠ 3) (h12 : a1 ≠ a2) :
    f_X12_keeps st a0 na0 a1 na1 a2 na2 (nI k) = some (oB (oA (oA st a1 (upd (st.2.2.1 a1) k (nI n))) a2 (upd (st.2.2.1 a2) k (nI l.length))) a0 (putB (st.2.2.2 a0) k l l.length)) := by
  obtain ⟨h0, h1, h2, h3, h4⟩ := h
  unfold f_X12_keeps
  simp (disch := omega) only [inb_nI, nI_clamp, bnd, oA_1, h0, h1]
  rw [if_pos hk1, if_pos hk2]
  have hne : ∀ f, (oA st a1 f).2.2.1 a2 = st.2.2.1 a2 := fun f => oA_ne _ (fun z => h12 z.symm) f
  rw [hne]
  have h9 : ∀ s : OS, s.1 = st.1 → s.2.2.2 = st.2.2.2 → lpv (f_X12_keeps_19 a0 na0 a1 na1 a2 na2 (nI k)) (s, 0) = some (oB s a0 (putB (st.2.2.2 a0) k l l.length)) := by
    intro s e1 e2
    have h8 := lpv_for (f := f_X12_keeps_19 a0 na0 a1 na1 a2 na2 (nI k)) (fun i => (oB s a0 (putB (st.2.2.2 a0) k l i), nI i)) l.length (r := oB s a0 (putB (st.2.2.2 a0) k l l.length)) (by
      intro i hi
      unfold f_X12_keeps_19
      simp (disch := omega) only [oB_1, e1, h1, nI_leI, inb_nI, nI_clamp, i64m]
      rw [if_neg (by omega), if_pos (by omega), if_pos (by omega), oB_self, oB_ne _ (fun z => h03 z.symm), e2, h4 i hi]
      simp only [bnd, nI_1, oB_same, putB_succ]) (by
      unfold f_X12_keeps_19
      simp (disch := omega) only [oB_1, e1, h1, nI_leI]
      rw [if_pos (Nat.le_refl _)]) 0 (Nat.zero_le _)
    rw [putB_0, ← e2, oB_id] at h8
    rw [e2] at h8
    exact h8
  rw [h9 (oA (oA st a1 (upd (st.2.2.1 a1) k (nI n))) a2 (upd (st.2.2.1 a2) k (nI l.length))) rfl rfl, ob_s]
theorem upd_s {f : Nat → Int32} {k : Nat} {x : Int32} : upd f k x k = x := by simp [upd]
theorem upd_n {f : Nat → Int32} {k j : Nat} {x : Int32} (h : j ≠ k) : upd f k x j = f j := by simp [upd, h]
theorem putB_in {g : Nat → Int64} {k m i : Nat} {l : List Int64} (h : i < m) : putB g k l m (64 * k + i) = wl l i := by
  unfold putB
  rw [if_pos (by omega), show 64 * k + i - 64 * k = i by omega]
theorem putB_o {g : Nat → Int64} {k m j i : Nat} {l : List Int64} (h : j ≠ k) (hi : i < 64) (hm : m ≤ 64) : putB g k l m (64 * j + i) = g (64 * j + i) := by
  unfold putB
  rw [if_neg]
  rintro ⟨h1, h2⟩
  rcases Nat.lt_or_gt_of_ne h with q | q <;> omega
/-- a row of worlds, one more behind -/
theorem Snaps.push {P M : Nat → Int32} {B : Nat → Int64} {ws : List Wd} (h : Snaps P M B ws) {w : Wd} (h1 : w.1 ≤ 64) (h2 : w.2.length ≤ 64) : Snaps (upd P ws.length (nI w.1)) (upd M ws.length (nI w.2.length)) (putB B ws.length w.2 w.2.length) (ws ++ [w]) := by
  intro k v hv
  rcases Nat.lt_or_ge k ws.length with q | q
  · rw [List.getElem?_append_left q] at hv
    obtain ⟨g1, g2, g3, g4, g5⟩ := h k v hv
    exact ⟨by rw [upd_n (by omega)]; exact g1, by rw [upd_n (by omega)]; exact g2, g3, g4, fun i hi => by rw [putB_o (by omega) (by omega) h2]; exact g5 i hi⟩
  · rw [List.getElem?_append_right q] at hv
    have hk : k = ws.length := by have := (List.getElem?_eq_some_iff.mp hv).1; simp at this; omega
    subst hk
    simp at hv
    subst hv
    exact ⟨upd_s, upd_s, h1, h2, fun i hi => putB_in hi⟩
theorem Snaps.front {P M : Nat → Int32} {B : Nat → Int64} {ws : List Wd} {w : Wd} (h : Snaps P M B (ws ++ [w])) : Snaps P M B ws := fun k v hv => h k v (by rw [List.getElem?_append_left (List.getElem?_eq_some_iff.mp hv).1]; exact hv)
theorem Snaps.last {P M : Nat → Int32} {B : Nat → Int64} {ws : List Wd} {w : Wd} (h : Snaps P M B (ws ++ [w])) : Snap P M B ws.length w := h _ _ (by rw [List.getElem?_append_right (Nat.le_refl _), Nat.sub_self]; rfl)
/-- the world comes from the place k -/
theorem takes_12 {st : OS} {a0 na0 a1 na1 a2 na2 k : Nat} {w : Wd} (hS : Snap (st.2.2.1 a1) (st.2.2.1 a2) (st.2.2.2 a0) k w) (hk1 : k < na1) (hk2 : k < na2) (hk0 : 64 * k + 64 ≤ na0) (hk : k < 1000) (h03 : a0 ≠ 3) :
    ∃ g, f_X12_takes st a0 na0 a1 na1 a2 na2 (nI k) = some (oB (oI (oI st 0 (nI w.1)) 1 (nI w.2.length)) 3 g) ∧ ∀ i, i < w.2.length → g i = wl w.2 i := by
  obtain ⟨g1, g2, g3, g4, g5⟩ := hS
  unfold f_X12_takes
  simp (disch := omega) only [inb_nI, nI_clamp, bnd, oI_2, g1, g2]
  rw [if_pos hk1, if_pos hk2]
  have h9 : ∀ s : OS, s.1 1 = nI w.2.length → s.2.2.2 = st.2.2.2 → lpv (f_X12_takes_19 a0 na0 a1 na1 a2 na2 (nI k)) (s, 0) = some (oB s 3 (filL (wl w.2) (st.2.2.2 3) w.2.length)) := by
    intro s e1 e2
    have h8 := lpv_for (f := f_X12_takes_19 a0 na0 a1 na1 a2 na2 (nI k)) (fun i => (oB s 3 (filL (wl w.2) (st.2.2.2 3) i), nI i)) w.2.length (r := oB s 3 (filL (wl w.2) (st.2.2.2 3) w.2.length)) (by
      intro i hi
      unfold f_X12_takes_19
      simp (disch := omega) only [oB_1, e1, nI_leI, inb_nI, nI_clamp, i64m]
      rw [if_neg (by omega), if_pos (by omega), if_pos (by omega), oB_self, oB_ne _ h03, e2, g5 i hi]
      simp only [bnd, nI_1, oB_same, filL_succ]) (by
      unfold f_X12_takes_19
      simp (disch := omega) only [oB_1, e1, nI_leI]
      rw [if_pos (Nat.le_refl _)]) 0 (Nat.zero_le _)
    rw [filL_0, ← e2, oB_id] at h8
    rw [e2] at h8
    exact h8
  rw [h9 (oI (oI st 0 (nI w.1)) 1 (nI w.2.length)) (oI_self _ _ _) rfl, ob_s]
  exact ⟨_, rfl, fun i hi => filL_in hi⟩
/-! a row of worlds whose first goes -/
def shA (f : Nat → Int32) (k : Nat) : Nat → Int32 := fun j => if j < k then f (j + 1) else f j
def sh64 (g : Nat → Int64) (n : Nat) : Nat → Int64 := fun z => if z < n then g (z + 64) else g z
theorem shA_succ (f : Nat → Int32) (k : Nat) : upd (shA f k) k (f (k + 1)) = shA f (k + 1) := by
  funext z
  unfold upd shA
  by_cases hz : z = k
  · subst hz; simp
  · rw [if_neg hz]
    by_cases h : z < k
    · rw [if_pos h, if_pos (by omega)]
    · rw [if_neg h, if_neg (by omega)]
theorem sh64_succ (g : Nat → Int64) (n : Nat) : vp_updL (sh64 g n) n (g (n + 64)) = sh64 g (n + 1) := by
  funext z
  unfold vp_updL sh64
  by_cases hz : z = n
  · subst hz; simp
  · rw [if_neg hz]
    by_cases h : z < n
    · rw [if_pos h, if_pos (by omega)]
    · rw [if_neg h, if_neg (by omega)]
theorem oA_id (st : OS) (k : Nat) : oA st k (st.2.2.1 k) = st := by
  unfold oA
  refine Prod.ext rfl (Prod.ext rfl (Prod.ext (funext fun z => ?_) rfl))
  by_cases h : z = k
  · subst h; simp [va_up]
  · simp [va_up, h]
theorem oA_comm (st : OS) {k j : Nat} (h : k ≠ j) (f g : Nat → Int32) : oA (oA st k f) j g = oA (oA st j g) k f := by
  unfold oA
  refine Prod.ext rfl (Prod.ext rfl (Prod.ext (funext fun z => ?_) rfl))
  by_cases h1 : z = k
  · subst h1; simp [va_up, h]
  · by_cases h2 : z = j
    · subst h2; simp [va_up, h1]
    · simp [va_up, h1, h2]
theorem oB_oA (st : OS) (k j : Nat) (f : Nat → Int64) (g : Nat → Int32) : oB (oA st j g) k f = oA (oB st k f) j g := rfl
def shS (st : OS) (k : Nat) (n : Nat) : OS := oB (oA (oA st 40 (shA (st.2.2.1 40) k)) 41 (shA (st.2.2.1 41) k)) 38 (sh64 (st.2.2.2 38) n)
theorem i64m1 (k i : Nat) : (64 : Int32) * (nI (k + 1) - 1) + nI i = nI (64 * k + i) := by rw [nI_pred, i64m]
theorem shift_12 (st : OS) : lpv f_X12_notes_11 (st, 1) = some (shS st 19 (64 * 19)) := by
  have hin : ∀ k, k < 19 → lpv (f_X12_notes_47 (nI (k + 1))) (shS st (k + 1) (64 * k), 0) = some (shS st (k + 1) (64 * (k + 1))) := by
    intro k hk
    refine lpv_for (fun i => (shS st (k + 1) (64 * k + i), nI i)) 64 ?_ ?_ 0 (by omega)
    · intro i hi
      unfold f_X12_notes_47
      simp (disch := omega) only [i64m, i64m1]
      simp (disch := omega) only [i64, nI_leI, inb_nI, nI_clamp]
      rw [if_neg (by omega), if_pos (by omega), if_pos (by omega)]
      unfold shS
      rw [oB_self, oB_same]
      simp only [bnd, nI_1]
      congr 3
      congr 1
      rw [show sh64 (st.2.2.2 38) (64 * k + i) (64 * (k + 1) + i) = st.2.2.2 38 (64 * k + i + 64) by
        unfold sh64
        rw [if_neg (by omega), show 64 * (k + 1) + i = 64 * k + i + 64 by omega], sh64_succ]
      rfl
    · unfold f_X12_notes_47
      simp (disch := omega) only [i64, nI_leI]
      rw [if_pos (Nat.le_refl _)]
      rfl
  have h9 := lpv_for (f := f_X12_notes_11) (fun k => (shS st k (64 * k), nI (k + 1))) 19 (r := shS st 19 (64 * 19)) (by
    intro k hk
    unfold f_X12_notes_11
    simp (disch := omega) only [i20, nI_leI, inb_nI, nI_clamp, nI_pred]
    rw [if_neg (by omega), if_pos (by omega), if_pos (by omega)]
    simp only [bnd]
    have e : oA (oA (shS st k (64 * k)) 40 (upd ((shS st k (64 * k)).2.2.1 40) k ((shS st k (64 * k)).2.2.1 40 (k + 1)))) 41 (upd ((oA (shS st k (64 * k)) 40 (upd ((shS st k (64 * k)).2.2.1 40) k ((shS st k (64 * k)).2.2.1 40 (k + 1)))).2.2.1 41) k ((oA (shS st k (64 * k)) 40 (upd ((shS st k (64 * k)).2.2.1 40) k ((shS st k (64 * k)).2.2.1 40 (k + 1)))).2.2.1 41 (k + 1))) = shS st (k + 1) (64 * k) := by
      have e40 : (shS st k (64 * k)).2.2.1 40 = shA (st.2.2.1 40) k := by
        unfold shS
        rw [oB_A, oA_ne _ (by decide), oA_self]
      have e41 : (shS st k (64 * k)).2.2.1 41 = shA (st.2.2.1 41) k := by
        unfold shS
        rw [oB_A, oA_self]
      rw [oA_ne _ (by decide), e40, e41]
      rw [show shA (st.2.2.1 40) k (k + 1) = st.2.2.1 40 (k + 1) by unfold shA; rw [if_neg (by omega)], show shA (st.2.2.1 41) k (k + 1) = st.2.2.1 41 (k + 1) by unfold shA; rw [if_neg (by omega)], shA_succ, shA_succ]
      unfold shS
      rw [oB_oA, oB_oA, oB_oA, oB_oA, oA_comm (oA (oB st 38 _) 40 _) (show (41 : Nat) ≠ 40 by decide), oA_same, oA_same]
    rw [e, hin k hk, ob_s, nI_1]) (by
    unfold f_X12_notes_11
    simp (disch := omega) only [i20, nI_leI]
    rw [if_pos (Nat.le_refl _)]) 0 (by omega)
  have e0 : shS st 0 (64 * 0) = st := by
    unfold shS
    rw [show shA (st.2.2.1 40) 0 = st.2.2.1 40 by funext z; simp [shA], show shA (st.2.2.1 41) 0 = st.2.2.1 41 by funext z; simp [shA], show sh64 (st.2.2.2 38) (64 * 0) = st.2.2.2 38 by funext z; simp [sh64], oA_id, oA_id, oB_id]
  have h8 : lpv f_X12_notes_11 (shS st 0 (64 * 0), nI 1) = some (shS st 19 (64 * 19)) := h9
  rw [e0] at h8
  exact h8
theorem Snaps.shift {P M : Nat → Int32} {B : Nat → Int64} {ws : List Wd} (h : Snaps P M B ws) (hl : ws.length ≤ 20) : Snaps (shA P 19) (shA M 19) (sh64 B (64 * 19)) ws.tail := by
  intro k w hw
  rw [List.getElem?_tail] at hw
  obtain ⟨g1, g2, g3, g4, g5⟩ := h (k + 1) w hw
  have hk : k < 19 := by have := (List.getElem?_eq_some_iff.mp hw).1; omega
  refine ⟨by unfold shA; rw [if_pos hk]; exact g1, by unfold shA; rw [if_pos hk]; exact g2, g3, g4, fun i hi => ?_⟩
  unfold sh64
  rw [if_pos (by omega), ← g5 i hi]
  congr 1; omega
def pushW (bs : List Wd) (w : Wd) : List Wd := if bs.length = 20 then bs.tail ++ [w] else bs ++ [w]
theorem pushW_len {bs : List Wd} {w : Wd} (h : bs.length ≤ 20) : (pushW bs w).length ≤ 20 := by
  unfold pushW
  split <;> simp <;> omega
/-- the world is noted -/
theorem notes_12 {st : OS} {w : Wd} (h : RWo st w.1 w.2) {bs as : List Wd} (hH : RH st bs as) : ∃ x, f_X12_notes st = some x ∧ RWo x w.1 w.2 ∧ x.1 44 = nI (pushW bs w).length ∧ x.1 45 = nI as.length ∧ Snaps (x.2.2.1 40) (x.2.2.1 41) (x.2.2.2 38) (pushW bs w) ∧ Snaps (x.2.2.1 42) (x.2.2.1 43) (x.2.2.2 39) as ∧ Kq st x ∧ x.2.2.2 20 = st.2.2.2 20 := by
  obtain ⟨d1, d2, d3, d4, d5⟩ := hH
  unfold f_X12_notes
  rw [d1]
  by_cases hf : bs.length = 20
  · rw [if_pos (by rw [hf]; rfl), shift_12, ob_s]
    have e1 : (shS st 19 (64 * 19)).1 = st.1 := rfl
    have hRL : RWo (oI (shS st 19 (64 * 19)) 44 (nI 19)) w.1 w.2 := h.cong rfl rfl rfl
    simp only [bnd]
    rw [e1, d1, hf, show nI 20 - 1 = nI 19 from nI_pred 19, oI_self, keeps_12 hRL (by decide) (by decide) (by decide) (by decide) (by decide) (by decide), ob_s]
    have hp := (Snaps.shift d4 (by omega)).push h.2.2.1 h.2.2.2.1
    have htl : bs.tail.length = 19 := by rw [List.length_tail, hf]
    rw [htl] at hp
    have hpw : pushW bs w = bs.tail ++ [w] := by unfold pushW; rw [if_pos hf]
    rw [hpw]
    refine ⟨_, rfl, h.cong rfl rfl rfl, ?_, d2, hp, d5, ?_, rfl⟩
    · rw [List.length_append, htl]; rfl
    · exact ⟨fun k hk => by
        rw [oI_ne _ (fun z => by rw [z] at hk; cases hk)]
        show (oI (shS st 19 (64 * 19)) 44 (nI 19)).1 k = _
        rw [oI_ne _ (fun z => by rw [z] at hk; cases hk)]; rfl, (Keep.rf (I := inL [2, 5, 13, 14]) (A := inL [4, 46, 47, 49, 50, 51]) (B := inL [48, 52]) (st := st) |>.oA (k := 40) rfl |>.oA (k := 41) rfl |>.oB (k := 38) rfl |>.oA (k := 40) rfl |>.oA (k := 41) rfl |>.oB (k := 38) rfl).2⟩
  · rw [if_neg (show ¬ nI bs.length = (20 : Int32) from fun z => hf ((nI_eq (by omega) (by decide)).mp z)), keeps_12 h (by omega) (by omega) (by omega) (by omega) (by decide) (by decide), ob_s]
    simp only [bnd]
    have hp := d4.push h.2.2.1 h.2.2.2.1
    have hpw : pushW bs w = bs ++ [w] := by unfold pushW; rw [if_neg hf]
    rw [hpw]
    refine ⟨_, rfl, h.cong rfl rfl rfl, ?_, d2, hp, d5, ?_, rfl⟩
    · rw [oI_self, List.length_append]
      show st.1 44 + 1 = _
      rw [d1, nI_1]; rfl
    · exact (Keep.rf.oA (k := 40) rfl |>.oA (k := 41) rfl |>.oB (k := 38) rfl).oI (k := 44) rfl
theorem acts_12 {st : OS} {w : Wd} (h : RWo st w.1 w.2) {bs as : List Wd} (hH : RH st bs as) : ∃ x, f_X12_acts st = some x ∧ RWo x w.1 w.2 ∧ RH x (pushW bs w) [] ∧ Kq st x ∧ x.2.2.2 20 = st.2.2.2 20 := by
  obtain ⟨x, hx, g1, g2, g3, g4, g5, g6, g7⟩ := notes_12 h hH
  unfold f_X12_acts
  rw [hx, ob_s]
  refine ⟨_, rfl, g1.cong rfl rfl rfl, ⟨g2, rfl, by have := pushW_len (w := w) (bs := bs) (by have := hH.2.2.1; omega); simpa using this, g4, fun k v hv => by simp at hv⟩, g6.oI rfl, g7⟩
