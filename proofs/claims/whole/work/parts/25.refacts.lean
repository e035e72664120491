/-! the reference's acts -/
theorem inb_t {j n : Nat} (h : j < n) (hj : j < 2 ^ 31) : inb (nI j) n = true := by rw [inb_nI hj]; exact h
theorem cnt_s (p : Nat → Bool) (n : Nat) : cnt p (n + 1) = cnt p n + if p n = true then 1 else 0 := rfl
theorem renT_s (s t : Int64) (p : Nat) : renT s t (p + 1) = renT s t p ||| (if (tb t p && tb s p) = true then bit1 (cnt (tb t) p) else 0) := rfl
theorem m1_ne {n : Nat} (h : n < 2 ^ 31) : ¬ nI n = (-1 : Int32) := nI_m1 h
theorem wl_snoc {l : List Int64} {s : Int64} {i : Nat} (hi : i < (l ++ [s]).length) : vp_updL (wl l) l.length s i = wl (l ++ [s]) i := by
  unfold vp_updL
  by_cases h : i = l.length
  · rw [if_pos h, h, wl_last]
  · rw [if_neg h, wl_app (by simp at hi; omega)]
theorem adds_12 {st : OS} {w : Wd} (h : RWo st w.1 w.2) {bs as : List Wd} (hH : RH st bs as) (s : Int64) :
    (w.2.length = 64 → f_X12_adds st s = some (-1, st)) ∧ (w.2.length < 64 → ∃ x, f_X12_adds st s = some (nI w.2.length, x) ∧ RWo x w.1 (w.2 ++ [s]) ∧ RH x (pushW bs w) [] ∧ Kq st x) := by
  constructor
  · intro h64
    unfold f_X12_adds
    rw [h.2.1, h64, if_pos (show nI 64 = (64 : Int32) from rfl)]
  · intro h64
    obtain ⟨x, hx, g1, g2, g3, -⟩ := acts_12 h hH
    unfold f_X12_adds
    rw [h.2.1, if_neg (show ¬ nI w.2.length = (64 : Int32) from fun z => by have := (nI_eq (b := 64) (by omega) (by decide)).mp z; omega), hx, ob_s]
    simp (disch := omega) only [g1.2.1, inb_nI, nI_clamp, bnd, oB_1, nI_1, oI_self, nI_pred]
    rw [if_pos h64]
    refine ⟨_, rfl, ⟨g1.1, by rw [oI_self, List.length_append]; rfl, g1.2.2.1, by rw [List.length_append]; simp; omega, fun i hi => ?_⟩, g2, (g3.oB rfl).oI rfl⟩
    rw [oI_2, oB_self, ← wl_snoc hi]
    unfold vp_updL
    by_cases h : i = w.2.length
    · rw [if_pos h, if_pos h]
    · rw [if_neg h, if_neg h]
      exact g1.2.2.2.2 i (by simp at hi; omega)
theorem drops_12 {st : OS} {w : Wd} (h : RWo st w.1 w.2) {bs as : List Wd} (hH : RH st bs as) {i : Nat} (hi : i < w.2.length) :
    ∃ x, f_X12_drops st (nI i) = some (wl w.2 i, x) ∧ RWo x w.1 (w.2.eraseIdx i) ∧ RH x (pushW bs w) [] ∧ Kq st x := by
  obtain ⟨x, hx, g1, g2, g3, -⟩ := acts_12 h hH
  have hl := h.2.2.2.1
  unfold f_X12_drops
  rw [hx, ob_s, if_pos (inb_t (by omega) (by omega))]
  simp (disch := omega) only [bnd, nI_clamp]
  rw [g1.2.2.2.2 i hi, g1.2.1, i1, pk_sub (by omega)]
  let F : Nat → Nat → Int64 := fun j z => if i ≤ z ∧ z < j then x.2.2.2 3 (z + 1) else x.2.2.2 3 z
  have hF0 : F i = x.2.2.2 3 := by
    funext j
    show (if i ≤ j ∧ j < i then _ else _) = _
    rw [if_neg (by omega)]
  have h9 := lpv_for (f := f_X12_drops_24 (wl w.2 i)) (fun j => (oB (oI x 1 (nI (w.2.length - 1))) 3 (F (i + j)), nI (i + j))) (w.2.length - 1 - i) (r := oB (oI x 1 (nI (w.2.length - 1))) 3 (F (w.2.length - 1))) (by
    intro j hj
    unfold f_X12_drops_24
    simp (disch := omega) only [oB_1, oI_self, nI_1, nI_leI, inb_nI, nI_clamp]
    rw [if_neg (by omega), if_pos (by omega), if_pos (by omega)]
    simp only [bnd]
    congr 3
    rw [oB_self, oB_same]
    congr 1
    funext z
    show (if z = i + j then _ else F (i + j) z) = F (i + j + 1) z
    by_cases hz : z = i + j
    · subst hz
      show (if _ then (if i ≤ i + j + 1 ∧ i + j + 1 < i + j then _ else _) else _) = if _ then _ else _
      rw [if_pos rfl, if_neg (by omega), if_pos (by omega)]
    · rw [if_neg hz]
      show (if i ≤ z ∧ z < i + j then _ else _) = if i ≤ z ∧ z < i + j + 1 then _ else _
      by_cases h8 : i ≤ z ∧ z < i + j
      · rw [if_pos h8, if_pos (by omega)]
      · rw [if_neg h8, if_neg (by omega)]) (by
    unfold f_X12_drops_24
    simp (disch := omega) only [oB_1, oI_self, nI_leI]
    rw [if_pos (by omega), show i + (w.2.length - 1 - i) = w.2.length - 1 by omega]) 0 (Nat.zero_le _)
  rw [Nat.add_zero, hF0, show x.2.2.2 3 = (oI x 1 (nI (w.2.length - 1))).2.2.2 3 from rfl, oB_id] at h9
  rw [h9, ob_s]
  refine ⟨_, rfl, ⟨g1.1, by rw [List.length_eraseIdx_of_lt hi, oB_1, oI_self], g1.2.2.1, by rw [List.length_eraseIdx_of_lt hi]; omega, fun j hj => ?_⟩, g2, (g3.oI rfl).oB rfl⟩
  rw [List.length_eraseIdx_of_lt hi] at hj
  rw [oB_self, erase_wl hi]
  show (if i ≤ j ∧ j < w.2.length - 1 then _ else _) = _
  by_cases h8 : j < i
  · rw [if_neg (by omega), if_pos h8]; exact g1.2.2.2.2 j (by omega)
  · rw [if_pos (by omega), if_neg h8]; exact g1.2.2.2.2 (j + 1) (by omega)
/-- lines told anew, from the place where they are gathered -/
theorem fill_17 {f : Int32 → (OS × Int32) → Option ((OS × Int32) ⊕ OS)} (hf : ∀ b s i, f b (s, i) = (if b ≤ i then some (.inr s) else if inb i 64 = true then if inb i 64 = true then bnd (oB s 3 (vp_updL (s.2.2.2 3) (i : Int32).toNatClampNeg (s.2.2.2 17 (i : Int32).toNatClampNeg))) (fun t => bnd (i + 1 : Int32) (fun v => some (.inl (t, v)))) else none else none)) (st : OS) {n : Nat} (hn : n ≤ 64) : lpv (f (nI n)) (st, 0) = some (oB st 3 (filL (st.2.2.2 17) (st.2.2.2 3) n)) := by
  have h8 := lpv_for (f := f (nI n)) (fun i => (oB st 3 (filL (st.2.2.2 17) (st.2.2.2 3) i), nI i)) n (r := oB st 3 (filL (st.2.2.2 17) (st.2.2.2 3) n)) (by
    intro i hi
    rw [hf]
    simp (disch := omega) only [nI_leI, inb_nI, nI_clamp]
    rw [if_neg (by omega), if_pos (by omega), if_pos (by omega), oB_self, oB_ne _ (by decide)]
    simp only [bnd, nI_1, oB_same, filL_succ]) (by
    rw [hf]
    simp (disch := omega) only [nI_leI]
    rw [if_pos (Nat.le_refl _)]) 0 (Nat.zero_le _)
  rw [filL_0, oB_id] at h8
  exact h8
/-- the lines that are gathered: a list behind another -/
theorem gath {g : Nat → Int64} {l : List Int64} (hg : ∀ i, i < l.length → g i = wl l i) (s : Int64) : ∀ i, i < (l ++ [s]).length → vp_updL g l.length s i = wl (l ++ [s]) i := by
  intro i hi
  rw [← wl_snoc hi]
  unfold vp_updL
  by_cases h : i = l.length
  · rw [if_pos h, if_pos h]
  · rw [if_neg h, if_neg h]
    exact hg i (by simp at hi; omega)
theorem filter_snoc (l : List Int64) (s : Int64) : (l ++ [s]).filter okL = if 2 ≤ pcn s then l.filter okL ++ [s] else l.filter okL := by
  rw [List.filter_append]
  by_cases h : 2 ≤ pcn s
  · rw [if_pos h, List.filter_cons_of_pos (by unfold okL; exact decide_eq_true h)]; rfl
  · rw [if_neg h, List.filter_cons_of_neg (by unfold okL; simp; omega)]; simp
theorem duals_12 {st : OS} {w : Wd} (h : RWo st w.1 w.2) {bs as : List Wd} (hH : RH st bs as) : ∃ x, f_X12_duals st = some x ∧ RWo x (dualW w).1 (dualW w).2 ∧ RH x (pushW bs w) [] ∧ Kq st x := by
  obtain ⟨x, hx, g1, g2, g3, -⟩ := acts_12 h hH
  have hn := h.2.2.1
  have hm := h.2.2.2.1
  unfold f_X12_duals
  rw [hx, ob_s]
  have hlen : ∀ p, (((List.range p).map (thrF w.2)).filter okL).length ≤ p := fun p => Nat.le_trans (filt_len _ _) (by simp)
  obtain ⟨r, hr, g, hg, hrr⟩ := lpv_inv (f := f_X12_duals_8) (fun p z => ∃ g : Nat → Int64, z = (oB x 17 g, nI (((List.range p).map (thrF w.2)).filter okL).length, nI p) ∧ ∀ i, i < (((List.range p).map (thrF w.2)).filter okL).length → g i = wl (((List.range p).map (thrF w.2)).filter okL) i) w.1 (fun r => ∃ g : Nat → Int64, (∀ i, i < (dualW w).2.length → g i = wl (dualW w).2 i) ∧ r = (oB x 17 g, nI (dualW w).2.length)) (by
    intro p z hp ⟨g, hz, hg⟩
    subst hz
    left
    have hlp := hlen p
    have hRp : RWo (oB x 17 g) w.1 w.2 := g1.cong rfl rfl rfl
    have hpc := pcn_le (thrF w.2 p)
    unfold f_X12_duals_8
    simp (disch := omega) only [oB_1, g1.1, nI_leI]
    rw [if_neg (by omega), throughOf_12 hRp (by omega), ob_s, ones_12, ob_s]
    simp (disch := omega) only [i2, nI_leI, inb_nI, nI_clamp, List.range_succ, List.map_append, List.map_cons, List.map_nil, filter_snoc]
    by_cases h2 : 2 ≤ pcn (thrF w.2 p)
    · rw [if_pos h2, if_pos (by omega)]
      simp only [bnd, nI_1, oB_self, oB_same]
      exact ⟨_, rfl, _, by rw [if_pos h2, List.length_append]; rfl, by rw [if_pos h2]; exact gath hg _⟩
    · rw [if_neg h2]
      simp only [bnd, nI_1]
      exact ⟨_, rfl, _, by rw [if_neg h2], by rw [if_neg h2]; exact hg⟩) (by
    intro z ⟨g, hz, hg⟩
    subst hz
    refine ⟨(oB x 17 g, nI (dualW w).2.length), ?_, g, hg, rfl⟩
    unfold f_X12_duals_8
    simp (disch := omega) only [oB_1, g1.1, nI_leI]
    rw [if_pos (Nat.le_refl _)]
    rfl) 0 (x, 0, 0) (Nat.zero_le _) ⟨x.2.2.2 17, by rw [oB_id]; rfl, fun i hi => by simp at hi⟩
  rw [hr, ob_s, hrr]
  have hl := Nat.le_trans (hlen w.1) hn
  simp only [bnd]
  rw [fill_17 (f := f_X12_duals_64) (fun b s i => by unfold f_X12_duals_64; by_cases hb : b ≤ i <;> by_cases hi : inb i 64 = true <;> simp [hb, hi]) _ (show (dualW w).2.length ≤ 64 from hl), ob_s]
  refine ⟨_, rfl, ⟨by rw [oB_1, oI_ne _ (by decide), oI_self, oB_1]; exact g1.2.1, by rw [oB_1, oI_self], hm, hl, fun i hi => ?_⟩, g2, (((g3.oB rfl).oI rfl).oI rfl).oB rfl⟩
  rw [oB_self, filL_in hi]
  show (oB x 17 g).2.2.2 17 i = _
  rw [oB_self]
  exact hg i hi
/-! what is left about a point -/
theorem cnt_or {p q : Nat → Bool} {k : Nat} (hk : p k = false) (hq : ∀ i, q i = decide (i = k)) : ∀ {n : Nat}, k < n → cnt (fun i => p i || q i) n = cnt p n + 1
  | 0, h => by omega
  | n + 1, h => by
    unfold cnt
    by_cases hkn : k = n
    · subst hkn
      have e : cnt (fun i => p i || q i) k = cnt p k := cnt_cong (fun i hi => by rw [hq i, decide_eq_false (by omega), Bool.or_false])
      rw [e, hk, hq k]
      simp
    · have ih := cnt_or hk hq (n := n) (by omega)
      rw [ih, hq n, decide_eq_false (fun z => hkn z.symm), Bool.or_false]
      omega
theorem pcn_or1 {x : Int64} {k : Nat} (hk : k < 64) (h : tb x k = false) : pcn (x ||| bit1 k) = pcn x + 1 := by
  unfold pcn
  rw [cnt_cong (q := fun i => tb x i || tb (bit1 k) i) (fun i _ => tb_or _ _ i)]
  exact cnt_or h (fun i => tb_bit1 hk i) hk
theorem ren_lt (s t : Int64) : ∀ p, p ≤ 64 → ∀ j, tb (renT s t p) j = true → j < cnt (tb t) p := by
  intro p
  induction p with
  | zero => intro _ j h; rw [show renT s t 0 = 0 from rfl, tb_0] at h; cases h
  | succ p ih =>
    intro hp j h
    rw [renT_s, tb_or] at h
    rw [cnt_s]
    have hc := cnt_le (tb t) p
    rcases Bool.or_eq_true_iff.mp h with h | h
    · have := ih (by omega) j h; omega
    · by_cases ht : (tb t p && tb s p) = true
      · rw [if_pos ht, tb_bit1 (by omega)] at h
        simp at h ht
        rw [if_pos ht.1]; omega
      · rw [if_neg ht, tb_0] at h; cases h
theorem ren_cnt (s t : Int64) : ∀ p, p ≤ 64 → pcn (renT s t p) = cnt (fun i => tb s i && tb t i) p := by
  intro p
  induction p with
  | zero => intro _; exact pcn_zero
  | succ p ih =>
    intro hp
    have hc := cnt_le (tb t) p
    rw [renT_s, cnt_s]
    by_cases ht : (tb t p && tb s p) = true
    · rw [if_pos ht, pcn_or1 (by omega) (by
        cases hb : tb (renT s t p) (cnt (tb t) p) with
        | false => rfl
        | true => have := ren_lt s t p (by omega) _ hb; omega), ih (by omega), if_pos (by rw [Bool.and_comm]; exact ht)]
    · rw [if_neg ht, or0, ih (by omega), if_neg (by rw [Bool.and_comm]; exact ht)]
      rfl
theorem pcn_ren (s t : Int64) : pcn (ren s t) = pcn (s &&& t) := by
  unfold ren
  rw [ren_cnt s t 64 (by omega)]
  unfold pcn
  exact cnt_cong (fun i _ => (tb_and s t i).symm)
theorem ren_from (s t : Int64) {n : Nat} (hn : n ≤ 64) (ht : ∀ i, tb t i = true → i < n) : renT s t n = ren s t := by
  unfold ren
  have key : ∀ k, n + k ≤ 64 → renT s t (n + k) = renT s t n := by
    intro k
    induction k with
    | zero => intro _; rfl
    | succ k ih =>
      intro hk
      rw [show n + (k + 1) = n + k + 1 from rfl, renT_s, ih (by omega), if_neg, or0]
      intro z
      rw [Bool.and_eq_true] at z
      have := ht _ z.1
      omega
  have := key (64 - n) (by omega)
  rw [show n + (64 - n) = 64 by omega] at this
  exact this.symm
theorem stay_12 (n : Nat) (a b : Int64) : (fst64 n &&& (a ^^^ (-1))) &&& (b ^^^ (-1)) = fst64 n &&& ((a ||| b) ^^^ (-1)) := by
  apply tb_ext
  intro i hi
  rw [tb_dif, tb_dif, tb_dif, tb_or]
  cases tb (fst64 n) i <;> cases tb a i <;> cases tb b i <;> rfl
theorem tb_stay {w : Wd} {p i : Nat} (hn : w.1 ≤ 64) (h : tb (stayF w p) i = true) : i < w.1 := by
  unfold stayF at h
  rw [tb_and, Bool.and_eq_true, tb_fst64 hn] at h
  exact of_decide_eq_true h.1
theorem leaves_12 {st : OS} {w : Wd} (h : RWo st w.1 w.2) {bs as : List Wd} (hH : RH st bs as) {p : Nat} (hp : p < w.1) : ∃ x, f_X12_leaves st (nI p) = some x ∧ RWo x (leftW w p).1 (leftW w p).2 ∧ RH x (pushW bs w) [] ∧ Kq st x := by
  obtain ⟨x, hx, g1, g2, g3, -⟩ := acts_12 h hH
  have hn := h.2.2.1
  have hm := h.2.2.2.1
  obtain ⟨y, hy⟩ : ∃ y, y = oB x 20 (filL (nearF w.2) (x.2.2.2 20) w.1) := ⟨_, rfl⟩
  have hyR : RWo y w.1 w.2 := by rw [hy]; exact g1.cong rfl rfl rfl
  have hyH : RH y (pushW bs w) [] := by rw [hy]; exact g2
  have hyK : Kq st y := by rw [hy]; exact g3.oB rfl
  have hy20 : y.2.2.2 20 p = nearF w.2 p := by rw [hy, oB_self, filL_in hp]
  unfold f_X12_leaves
  rw [hx, ob_s, layNears_12 g1, ← hy, ob_s, all_12 hyR, ob_s, if_pos (inb_t (by omega) (by omega)), bit_12 (by omega), ob_s]
  simp (disch := omega) only [bnd, nI_clamp]
  rw [hy20, stay_12, show fst64 w.1 &&& ((nearF w.2 p ||| bit1 p) ^^^ (-1)) = stayF w p from rfl]
  obtain ⟨t, ht⟩ : ∃ t, t = stayF w p := ⟨_, rfl⟩
  have htn : ∀ i, tb t i = true → i < w.1 := fun i hi => tb_stay hn (by rw [← ht]; exact hi)
  have hL : leftW w p = (pcn t, (w.2.map (fun s => ren s t)).filter okL) := by unfold leftW; rw [ht]
  rw [← ht, hL, map_range w.2]
  have hlen : ∀ i, (((List.range i).map (fun i => ren (wl w.2 i) t)).filter okL).length ≤ i := fun i => Nat.le_trans (filt_len _ _) (by simp)
  obtain ⟨r, hr, g, hg, hrr⟩ := lpv_inv (f := f_X12_leaves_39 t) (fun i z => ∃ g : Nat → Int64, z = (oB y 17 g, nI (((List.range i).map (fun i => ren (wl w.2 i) t)).filter okL).length, nI i) ∧ ∀ j, j < (((List.range i).map (fun i => ren (wl w.2 i) t)).filter okL).length → g j = wl (((List.range i).map (fun i => ren (wl w.2 i) t)).filter okL) j) w.2.length (fun r => ∃ g : Nat → Int64, (∀ j, j < (((List.range w.2.length).map (fun i => ren (wl w.2 i) t)).filter okL).length → g j = wl (((List.range w.2.length).map (fun i => ren (wl w.2 i) t)).filter okL) j) ∧ r = (oB y 17 g, nI (((List.range w.2.length).map (fun i => ren (wl w.2 i) t)).filter okL).length)) (by
    intro i z hi ⟨g, hz, hg⟩
    subst hz
    left
    have hli := hlen i
    have hpc := pcn_le (wl w.2 i &&& t)
    have h3 : (oB y 17 g).2.2.2 3 i = wl w.2 i := by rw [oB_ne _ (by decide)]; exact hyR.2.2.2.2 i hi
    unfold f_X12_leaves_39
    simp (disch := omega) only [oB_1, hyR.2.1, nI_leI, inb_nI, nI_clamp, h3]
    rw [if_neg (by omega), if_pos (by omega), ones_12, ob_s]
    simp (disch := omega) only [i2, nI_leI, List.range_succ, List.map_append, List.map_cons, List.map_nil, filter_snoc, pcn_ren]
    by_cases h2 : 2 ≤ pcn (wl w.2 i &&& t)
    · rw [if_pos h2]
      have hin : lpv (f_X12_leaves_76 (oB y 17 g) t (nI (((List.range i).map (fun i => ren (wl w.2 i) t)).filter okL).length) (nI i)) (0, 0, 0) = some (ren (wl w.2 i) t) := by
        rw [← ren_from (wl w.2 i) t hn htn]
        refine lpv_for (fun q => (renT (wl w.2 i) t q, nI (cnt (tb t) q), nI q)) w.1 ?_ ?_ 0 (Nat.zero_le _)
        · intro q hq
          have hc := cnt_le (tb t) q
          unfold f_X12_leaves_76
          simp (disch := omega) only [oB_1, hyR.1, nI_leI, inb_nI, nI_clamp, h3]
          rw [if_neg (by omega), has_12 (by omega), ob_s]
          simp only [b2i_0]
          cases hb : tb t q with
          | false =>
            rw [if_pos rfl]
            simp only [bnd, nI_1, renT, cnt, hb]
            simp [or0]
          | true =>
            rw [if_neg (by decide), if_pos (by omega), has_12 (by omega), ob_s]
            simp only [b2i_0]
            cases hb2 : tb (wl w.2 i) q with
            | false =>
              rw [if_pos rfl]
              simp only [bnd, nI_1, renT, cnt, hb, hb2]
              simp
            | true =>
              rw [if_neg (by decide), bit_12 (by omega), ob_s]
              simp only [bnd, nI_1, renT, cnt, hb, hb2]
              simp
        · unfold f_X12_leaves_76
          simp (disch := omega) only [oB_1, hyR.1, nI_leI]
          rw [if_pos (Nat.le_refl _)]
      rw [hin, ob_s, if_pos (by omega)]
      simp only [bnd, nI_1, oB_self, oB_same]
      exact ⟨_, rfl, _, by rw [if_pos h2, List.length_append]; rfl, by rw [if_pos h2]; exact gath hg _⟩
    · rw [if_neg h2]
      simp only [bnd, nI_1]
      exact ⟨_, rfl, _, by rw [if_neg h2], by rw [if_neg h2]; exact hg⟩) (by
    intro z ⟨g, hz, hg⟩
    subst hz
    refine ⟨_, ?_, g, hg, rfl⟩
    unfold f_X12_leaves_39
    simp (disch := omega) only [oB_1, hyR.2.1, nI_leI]
    rw [if_pos (Nat.le_refl _)]) 0 (y, 0, 0) (Nat.zero_le _) ⟨y.2.2.2 17, by rw [oB_id]; rfl, fun i hi => by simp at hi⟩
  rw [hr, ob_s, hrr]
  have hl := Nat.le_trans (hlen w.2.length) hm
  simp only [bnd]
  rw [ones_12, ob_s, fill_17 (f := f_X12_leaves_170) (fun b s i => by unfold f_X12_leaves_170; by_cases hb : b ≤ i <;> by_cases hi : inb i 64 = true <;> simp [hb, hi]) _ hl, ob_s]
  refine ⟨_, rfl, ⟨by rw [oB_1, oI_ne _ (by decide), oI_self], by rw [oB_1, oI_self], pcn_le t, hl, fun i hi => ?_⟩, hyH, (((hyK.oB rfl).oI rfl).oI rfl).oB rfl⟩
  rw [oB_self, filL_in hi]
  show (oB y 17 g).2.2.2 17 i = _
  rw [oB_self]
  exact hg i hi
theorem snoc_of {α : Type} {l : List α} (h : l ≠ []) : ∃ a b, l = a ++ [b] := ⟨l.dropLast, l.getLast h, (List.dropLast_concat_getLast h).symm⟩
theorem undoes_12 {st : OS} {w : Wd} (h : RWo st w.1 w.2) {bs as : List Wd} (hH : RH st bs as) :
    (bs = [] → f_X12_undoes st = some (0, st)) ∧ (∀ b0 v, bs = b0 ++ [v] → ∃ x, f_X12_undoes st = some (1, x) ∧ RWo x v.1 v.2 ∧ RH x b0 (as ++ [w]) ∧ Kq st x) := by
  obtain ⟨d1, d2, d3, d4, d5⟩ := hH
  constructor
  · intro hb
    unfold f_X12_undoes
    rw [d1, hb, if_pos (show nI ([] : List Wd).length = (0 : Int32) from rfl)]
  · intro b0 v hb
    subst hb
    rw [List.length_append, List.length_singleton] at d1 d3
    unfold f_X12_undoes
    rw [d1, if_neg (show ¬ nI (b0.length + 1) = (0 : Int32) from fun z => by have := (nI_eq (b := 0) (by omega) (by decide)).mp z; omega), d2, keeps_12 h (by omega) (by omega) (by omega) (by omega) (by decide) (by decide), ob_s]
    simp only [bnd]
    have e45 : (oB (oA (oA st 42 (upd (st.2.2.1 42) as.length (nI w.1))) 43 (upd (st.2.2.1 43) as.length (nI w.2.length))) 39 (putB (st.2.2.2 39) as.length w.2 w.2.length)).1 = st.1 := rfl
    rw [e45, d2, nI_1, oI_ne _ (show (44 : Nat) ≠ 45 by decide), e45, d1, nI_pred, oI_self]
    obtain ⟨g, hg, hgi⟩ := takes_12 (st := oI (oI (oB (oA (oA st 42 (upd (st.2.2.1 42) as.length (nI w.1))) 43 (upd (st.2.2.1 43) as.length (nI w.2.length))) 39 (putB (st.2.2.2 39) as.length w.2 w.2.length)) 45 (nI (as.length + 1))) 44 (nI b0.length)) (a0 := 38) (na0 := 1280) (a1 := 40) (na1 := 20) (a2 := 41) (na2 := 20) (k := b0.length) (w := v) d4.last (by omega) (by omega) (by omega) (by omega) (by decide)
    rw [hg, ob_s]
    obtain ⟨s1, s2, s3, s4, s5⟩ := d4.last
    refine ⟨_, rfl, ⟨rfl, rfl, s3, s4, fun i hi => by rw [oB_self]; exact hgi i hi⟩, ⟨rfl, ?_, by rw [List.length_append, List.length_singleton]; omega, d4.front, d5.push h.2.2.1 h.2.2.2.1⟩, ?_⟩
    · show nI (as.length + 1) = _
      rw [List.length_append]; rfl
    · exact ((((((((Keep.rf (I := inL [2, 5, 13, 14]) (A := inL [4, 46, 47, 49, 50, 51]) (B := inL [48, 52]) (st := st)).oA (k := 42) rfl).oA (k := 43) rfl).oB (k := 39) rfl).oI (k := 45) rfl).oI (k := 44) rfl).oI (k := 0) rfl).oI (k := 1) rfl).oB (k := 3) rfl
theorem again_12 {st : OS} {w : Wd} (h : RWo st w.1 w.2) {bs as : List Wd} (hH : RH st bs as) :
    (as = [] → f_X12_doesAgain st = some (0, st)) ∧ (∀ a0 v, as = a0 ++ [v] → ∃ x, f_X12_doesAgain st = some (1, x) ∧ RWo x v.1 v.2 ∧ RH x (bs ++ [w]) a0 ∧ Kq st x) := by
  constructor
  · intro hb
    unfold f_X12_doesAgain
    rw [hH.2.1, hb, if_pos (show nI ([] : List Wd).length = (0 : Int32) from rfl)]
  · intro a0 v hb
    subst hb
    obtain ⟨x, hx, g1, g2, g3, g4, g5, g6, -⟩ := notes_12 h hH
    obtain ⟨d1, d2, d3, d4, d5⟩ := hH
    rw [List.length_append, List.length_singleton] at d2 d3 g3
    have hpw : pushW bs w = bs ++ [w] := by unfold pushW; rw [if_neg (by omega)]
    rw [hpw] at g2 g4
    unfold f_X12_doesAgain
    rw [d2, if_neg (show ¬ nI (a0.length + 1) = (0 : Int32) from fun z => by have := (nI_eq (b := 0) (by omega) (by decide)).mp z; omega), hx, ob_s]
    simp only [bnd]
    rw [g3, nI_pred, oI_self]
    obtain ⟨g, hg, hgi⟩ := takes_12 (st := oI x 45 (nI a0.length)) (a0 := 39) (na0 := 1280) (a1 := 42) (na1 := 20) (a2 := 43) (na2 := 20) (k := a0.length) (w := v) g5.last (by omega) (by omega) (by omega) (by omega) (by decide)
    rw [hg, ob_s]
    obtain ⟨s1, s2, s3, s4, s5⟩ := g5.last
    refine ⟨_, rfl, ⟨rfl, rfl, s3, s4, fun i hi => by rw [oB_self]; exact hgi i hi⟩, ⟨g2, rfl, by rw [List.length_append, List.length_singleton]; omega, g4, g5.front⟩, (((g6.oI (k := 45) rfl).oI (k := 0) rfl).oI (k := 1) rfl).oB (k := 3) rfl⟩
