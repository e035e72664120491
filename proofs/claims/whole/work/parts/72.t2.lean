/-! turnings: marks and parts in the class -/
/-- a row of kinds -/
def RW8 (st : OS) (D : Nat) (l m : List Int64) : Prop := st.2.2.1 6 D = nI l.length ∧ l.length = m.length ∧ (∀ k, k < l.length → st.2.2.2 7 (64 * D + k) = wl l k) ∧ ∀ k, k < m.length → st.2.2.2 8 (64 * D + k) = wl m k
theorem RW8.uniq {st : OS} {D : Nat} {l m l' m' : List Int64} (h : RW8 st D l m) (g : RW8 st D l' m') (h1 : l.length ≤ 64) (h2 : l'.length ≤ 64) : l = l' ∧ m = m' := by
  have e : l.length = l'.length := by
    have := h.1.symm.trans g.1
    exact (nI_eq (by omega) (by omega)).mp this
  have e2 := h.2.1
  have e3 := g.2.1
  exact ⟨wl_ext e (fun k hk => (h.2.2.1 k hk).symm.trans (g.2.2.1 k (by omega))), wl_ext (by omega) (fun k hk => (h.2.2.2 k hk).symm.trans (g.2.2.2 k (by omega)))⟩
theorem ix64 (D k : Nat) : nI D * 64 + nI k = nI (64 * D + k) := by rw [i64, pk_mul, nI_add, Nat.mul_comm]
/-- all but one row -/
def OR8 (D : Nat) (st x : OS) : Prop := x.1 = st.1 ∧ (∀ k, k ≠ 6 → x.2.2.1 k = st.2.2.1 k) ∧ (∀ k, k ≠ 7 → k ≠ 8 → x.2.2.2 k = st.2.2.2 k) ∧ (∀ d, d ≠ D → x.2.2.1 6 d = st.2.2.1 6 d) ∧ ∀ z, (z < 64 * D ∨ 64 * D + 64 ≤ z) → x.2.2.2 7 z = st.2.2.2 7 z ∧ x.2.2.2 8 z = st.2.2.2 8 z
theorem OR8.rf {D : Nat} {st : OS} : OR8 D st st := ⟨rfl, fun _ _ => rfl, fun _ _ _ => rfl, fun _ _ => rfl, fun _ _ => ⟨rfl, rfl⟩⟩
theorem OR8.tr {D : Nat} {st x y : OS} (h : OR8 D st x) (g : OR8 D x y) : OR8 D st y := ⟨g.1.trans h.1, fun k hk => (g.2.1 k hk).trans (h.2.1 k hk), fun k h1 h2 => (g.2.2.1 k h1 h2).trans (h.2.2.1 k h1 h2), fun d hd => (g.2.2.2.1 d hd).trans (h.2.2.2.1 d hd), fun z hz => ⟨(g.2.2.2.2 z hz).1.trans (h.2.2.2.2 z hz).1, (g.2.2.2.2 z hz).2.trans (h.2.2.2.2 z hz).2⟩⟩
theorem OR8.row {D E : Nat} {st x : OS} {l m : List Int64} (h : OR8 D st x) (hne : E ≠ D) (hl : l.length ≤ 64) (g : RW8 st E l m) : RW8 x E l m := by
  obtain ⟨g1, g2, g3, g4⟩ := g
  refine ⟨(h.2.2.2.1 E hne).trans g1, g2, fun k hk => ?_, fun k hk => ?_⟩
  · rw [(h.2.2.2.2 (64 * E + k) (by omega)).1]; exact g3 k hk
  · rw [(h.2.2.2.2 (64 * E + k) (by omega)).2]; exact g4 k hk
section T8
variable {st : OS} {D N : Nat} {l m : List Int64}
theorem markOf_gen (hD : D < 17) (h6 : st.2.2.1 6 D = nI l.length) (hN : N ≤ 64) (g : KG N l) (hl : l.length ≤ 64) (a1 : Nat) (h7 : ∀ k, k < l.length → st.2.2.2 a1 (64 * D + k) = wl l k) (S : Int64) : f_X8_markOf st a1 1088 (nI D) S = some (mrkT l S l.length) := by
  have key := lpv_for (f := f_X8_markOf_9 st a1 1088 (nI D) S) (fun k => (mrkT l S k, nI (plc l k), nI k)) l.length (r := mrkT l S l.length) (fun k hk => ?_) ?_ 0 (Nat.zero_le _)
  · unfold f_X8_markOf
    rw [show ((0 : Int64), (0 : Int32), (0 : Int32)) = (mrkT l S 0, nI (plc l 0), nI 0) from rfl, key, ob_s]
  · have hp := plc_N g hN (show k ≤ l.length by omega)
    unfold f_X8_markOf_9
    dsimp only
    rw [if_pos (inb_t (by omega) (by omega)), nI_clamp (by omega), h6, if_neg (nI_ge hk (by omega)), if_neg (show ¬ (64 : Int32) ≤ nI k from nI_ge (b := 64) (by omega) (by decide)), ix64, if_pos (inb_t (by omega) (by omega)), nI_clamp (by omega), h7 k hk]
    dsimp only [bnd]
    rw [bitCount_13, ob_s, first_10 (pcn_le _), ob_s, bitCount_13, ob_s, nI_add, nI_1]
    rfl
  · unfold f_X8_markOf_9
    dsimp only
    rw [if_pos (inb_t (by omega) (by omega)), nI_clamp (by omega), h6, if_pos (nI_le (Nat.le_refl _) (by omega))]
theorem markOf_l (hD : D < 17) (h : RW8 st D l m) (hN : N ≤ 64) (g : KP N l m) (S : Int64) : f_X8_markOf st 7 1088 (nI D) S = some (mrkT l S l.length) :=
  markOf_gen hD h.1 hN g.1 (by have := g.len; omega) 7 h.2.2.1 S
theorem markOf_m (hD : D < 17) (h : RW8 st D l m) (hN : N ≤ 64) (g : KP N l m) (S : Int64) : f_X8_markOf st 8 1088 (nI D) S = some (mrkT m S m.length) :=
  markOf_gen hD (by rw [h.1, h.2.1]) hN g.2.1 (by have := g.len; have := g.2.2.1; omega) 8 h.2.2.2 S
/-- marks alone are laid -/
def MK8 (st x : OS) : Prop := x.1 = st.1 ∧ x.2.2.1 = st.2.2.1 ∧ ∀ k, k ≠ 9 → k ≠ 10 → x.2.2.2 k = st.2.2.2 k
theorem MK8.rf : MK8 st st := ⟨rfl, rfl, fun _ _ _ => rfl⟩
theorem MK8.row {x : OS} (h : MK8 st x) (g : RW8 st D l m) : RW8 x D l m := by
  obtain ⟨g1, g2, g3, g4⟩ := g
  refine ⟨by rw [h.2.1]; exact g1, g2, fun k hk => ?_, fun k hk => ?_⟩
  · rw [h.2.2 7 (by decide) (by decide)]; exact g3 k hk
  · rw [h.2.2 8 (by decide) (by decide)]; exact g4 k hk
theorem MK8.o9 {x : OS} (h : MK8 st x) (g : Nat → Int64) : MK8 st (oB x 9 g) := ⟨h.1, h.2.1, fun k h1 h2 => by rw [oB_ne _ h1]; exact h.2.2 k h1 h2⟩
theorem MK8.o10 {x : OS} (h : MK8 st x) (g : Nat → Int64) : MK8 st (oB x 10 g) := ⟨h.1, h.2.1, fun k h1 h2 => by rw [oB_ne _ h2]; exact h.2.2 k h1 h2⟩
/-- two worlds are loaded -/
def LD8 (st : OS) (w v : Wd) : Prop := st.1 0 = nI w.1 ∧ st.1 1 = nI w.2.length ∧ w.1 ≤ 16 ∧ w.2.length ≤ 64 ∧ v.1 = w.1 ∧ v.2.length = w.2.length ∧ (∀ i, i < w.2.length → st.2.2.2 2 i = wl w.2 i ∧ st.2.2.2 3 i = wl v.2 i) ∧ ∀ p, p < w.1 → st.2.2.2 4 p = thrF w.2 p ∧ st.2.2.2 5 p = thrF v.2 p
theorem LD8.cong {x : OS} {w v : Wd} (h : LD8 st w v) (h1 : x.1 = st.1) (h2 : ∀ k, k < 7 → x.2.2.2 k = st.2.2.2 k) : LD8 x w v := by
  obtain ⟨a1, a2, a3, a4, a5, a6, a7, a8⟩ := h
  refine ⟨by rw [h1]; exact a1, by rw [h1]; exact a2, a3, a4, a5, a6, fun i hi => ?_, fun p hp => ?_⟩
  · rw [h2 2 (by omega), h2 3 (by omega)]; exact a7 i hi
  · rw [h2 4 (by omega), h2 5 (by omega)]; exact a8 p hp
theorem LD8.mk {x : OS} {w v : Wd} (h : LD8 st w v) (k : MK8 st x) : LD8 x w v := h.cong k.1 (fun j hj => k.2.2 j (by omega) (by omega))
theorem LD8.or {x : OS} {w v : Wd} {E : Nat} (h : LD8 st w v) (k : OR8 E st x) : LD8 x w v := h.cong k.1 (fun j hj => k.2.2.1 j (by omega) (by omega))
theorem markLines_8 {w v : Wd} (hL : LD8 st w v) (hD : D < 17) (h : RW8 st D l m) (hN : N ≤ 64) (g : KP N l m) : ∃ x, f_X8_markLines st (nI D) = some x ∧ MK8 st x ∧ ∀ i, i < w.2.length → x.2.2.2 9 i = mrkT l (wl w.2 i) l.length ∧ x.2.2.2 10 i = mrkT m (wl v.2 i) m.length := by
  have h64 := hL.2.2.2.1
  have key := lpv_inv (f := f_X8_markLines_2 (nI D)) (fun i z => z.2 = nI i ∧ MK8 st z.1 ∧ ∀ j, j < i → z.1.2.2.2 9 j = mrkT l (wl w.2 j) l.length ∧ z.1.2.2.2 10 j = mrkT m (wl v.2 j) m.length) w.2.length (fun x => MK8 st x ∧ ∀ j, j < w.2.length → x.2.2.2 9 j = mrkT l (wl w.2 j) l.length ∧ x.2.2.2 10 j = mrkT m (wl v.2 j) m.length) (fun i z hi hI => Or.inl ?_) (fun z hI => ?_) 0 (st, 0) (Nat.zero_le _) ⟨rfl, MK8.rf, fun j hj => by omega⟩
  · obtain ⟨x, e1, e2, e3⟩ := key
    exact ⟨x, by unfold f_X8_markLines; rw [e1, ob_s], e2, e3⟩
  · obtain ⟨x, b⟩ := z
    obtain ⟨e1, e2, e3⟩ := hI
    dsimp only at e1 e2 e3
    subst e1
    have hx := hL.mk e2
    obtain ⟨a1, a2⟩ := hx.2.2.2.2.2.2.1 i hi
    have e4 := e2.o9 (vp_updL (x.2.2.2 9) i (mrkT l (wl w.2 i) l.length))
    refine ⟨(oB (oB x 9 (vp_updL (x.2.2.2 9) i (mrkT l (wl w.2 i) l.length))) 10 (vp_updL (x.2.2.2 10) i (mrkT m (wl v.2 i) m.length)), nI (i + 1)), ?_, rfl, e4.o10 _, fun j hj => ?_⟩
    · unfold f_X8_markLines_2
      dsimp only
      rw [hx.2.1, if_neg (nI_ge hi (by omega)), if_neg (show ¬ (64 : Int32) ≤ nI i from nI_ge (b := 64) (by omega) (by decide)), if_pos (inb_t (by omega) (by omega)), nI_clamp (by omega), a1, markOf_l hD (e2.row h) hN g, ob_s]
      dsimp only [bnd]
      rw [oB_ne (j := 3) _ (by decide), a2, markOf_m hD (e4.row h) hN g, ob_s, oB_ne (j := 10) _ (by decide), nI_1]
    · dsimp only
      rw [oB_ne (j := 9) _ (by decide), oB_self, oB_self]
      unfold vp_updL
      by_cases c : j = i
      · rw [if_pos c, if_pos c, c]; exact ⟨rfl, rfl⟩
      · rw [if_neg c, if_neg c]; exact e3 j (by omega)
  · obtain ⟨x, b⟩ := z
    obtain ⟨e1, e2, e3⟩ := hI
    dsimp only at e1 e2 e3
    subst e1
    refine ⟨x, ?_, e2, e3⟩
    unfold f_X8_markLines_2
    dsimp only
    rw [(hL.mk e2).2.1, if_pos (nI_le (Nat.le_refl _) (by omega))]
theorem markPoints_8 {w v : Wd} (hL : LD8 st w v) (h : RW8 st 16 l m) (hN : N ≤ 64) (g : KP N l m) : ∃ x, f_X8_markPoints st = some x ∧ MK8 st x ∧ ∀ i, i < w.1 → x.2.2.2 9 i = mrkT l (thrF w.2 i) l.length ∧ x.2.2.2 10 i = mrkT m (thrF v.2 i) m.length := by
  have h64 := hL.2.2.1
  have key := lpv_inv (f := f_X8_markPoints_2) (fun i z => z.2 = nI i ∧ MK8 st z.1 ∧ ∀ j, j < i → z.1.2.2.2 9 j = mrkT l (thrF w.2 j) l.length ∧ z.1.2.2.2 10 j = mrkT m (thrF v.2 j) m.length) w.1 (fun x => MK8 st x ∧ ∀ j, j < w.1 → x.2.2.2 9 j = mrkT l (thrF w.2 j) l.length ∧ x.2.2.2 10 j = mrkT m (thrF v.2 j) m.length) (fun i z hi hI => Or.inl ?_) (fun z hI => ?_) 0 (st, 0) (Nat.zero_le _) ⟨rfl, MK8.rf, fun j hj => by omega⟩
  · obtain ⟨x, e1, e2, e3⟩ := key
    exact ⟨x, by unfold f_X8_markPoints; rw [e1, ob_s], e2, e3⟩
  · obtain ⟨x, b⟩ := z
    obtain ⟨e1, e2, e3⟩ := hI
    dsimp only at e1 e2 e3
    subst e1
    have hx := hL.mk e2
    obtain ⟨a1, a2⟩ := hx.2.2.2.2.2.2.2 i hi
    have e4 := e2.o9 (vp_updL (x.2.2.2 9) i (mrkT l (thrF w.2 i) l.length))
    refine ⟨(oB (oB x 9 (vp_updL (x.2.2.2 9) i (mrkT l (thrF w.2 i) l.length))) 10 (vp_updL (x.2.2.2 10) i (mrkT m (thrF v.2 i) m.length)), nI (i + 1)), ?_, rfl, e4.o10 _, fun j hj => ?_⟩
    · unfold f_X8_markPoints_2
      dsimp only
      rw [hx.1, if_neg (nI_ge hi (by omega)), if_neg (show ¬ (16 : Int32) ≤ nI i from nI_ge (b := 16) (by omega) (by decide)), if_pos (inb_t (by omega) (by omega)), nI_clamp (by omega), a1, show (16 : Int32) = nI 16 from rfl, markOf_l (by decide) (e2.row h) hN g, ob_s, if_pos (inb_t (by omega) (by omega))]
      dsimp only [bnd]
      rw [oB_ne (j := 5) _ (by decide), a2, markOf_m (by decide) (e4.row h) hN g, ob_s, oB_ne (j := 10) _ (by decide), nI_1]
    · dsimp only
      rw [oB_ne (j := 9) _ (by decide), oB_self, oB_self]
      unfold vp_updL
      by_cases c : j = i
      · rw [if_pos c, if_pos c, c]; exact ⟨rfl, rfl⟩
      · rw [if_neg c, if_neg c]; exact e3 j (by omega)
  · obtain ⟨x, b⟩ := z
    obtain ⟨e1, e2, e3⟩ := hI
    dsimp only at e1 e2 e3
    subst e1
    refine ⟨x, ?_, e2, e3⟩
    unfold f_X8_markPoints_2
    dsimp only
    rw [(hL.mk e2).1, if_pos (nI_le (Nat.le_refl _) (by omega))]
theorem markedSo_8 (fa : Nat → Int64) (x μ : Int64) : f_X8_markedSo 64 fa x μ = some (sel x (fun i => decide (fa i = μ))) := by
  have key := lpv_mea (f := f_X8_markedSo_9 64 fa μ) (fun z => ∃ t, z.2.2 = nI t ∧ t + pcn z.2.1 ≤ 64 ∧ (∀ i, tb z.2.1 i = true → tb x i = true) ∧ ∀ i, i < 64 → tb z.1 i = (tb x i && !tb z.2.1 i && decide (fa i = μ))) (fun z => pcn z.2.1) (fun r => r = sel x (fun i => decide (fa i = μ))) (fun z hI => ?_) (0, x, 0) ⟨0, rfl, by have := pcn_le x; dsimp only; omega, fun _ h => h, fun i _ => by
    dsimp only
    rw [tb_0]
    cases tb x i <;> rfl⟩
  · obtain ⟨r, e1, e2⟩ := key
    unfold f_X8_markedSo
    rw [e1, ob_s, e2]
  · obtain ⟨a, b, c⟩ := z
    obtain ⟨t, g1, g2, g3, g4⟩ := hI
    dsimp only at g1 g2 g3 g4
    subst g1
    by_cases h0 : b = 0
    · right
      subst h0
      refine ⟨a, ?_, tb_ext (fun i hi => ?_)⟩
      · unfold f_X8_markedSo_9
        dsimp only
        rw [if_pos (show lg_cmp 0 0 = 0 from (lg_cmp_eq 0 0).mpr rfl), ite_self]
      · rw [g4 i hi, tb_sel, tb_0]
        cases tb x i <;> rfl
    · left
      obtain ⟨l1, l2, l3⟩ := low_tb h0
      have hpc := pcn_clr h0
      have hif1 : ∀ {α : Type} (a b : α), (if (64 : Int32) ≤ nI t then a else b) = b := fun a b => if_neg (show ¬ (64 : Int32) ≤ nI t from nI_ge (b := 64) (by omega) (by decide))
      have hinv : ∀ y : Int64, (∀ i, i < 64 → tb y i = (tb a i || (decide (i = low b) && decide (fa (low b) = μ)))) → ∀ i, i < 64 → tb y i = (tb x i && !tb (b &&& (b - 1)) i && decide (fa i = μ)) := fun y hy i hi => by
        rw [hy i hi, g4 i hi, tb_clr h0]
        by_cases q : i = low b
        · subst q
          rw [l1, g3 _ l1]
          simp
        · rw [decide_eq_false q]
          simp [q]
      by_cases hμ : fa (low b) = μ
      · refine ⟨(a ||| bit1 (low b), b &&& (b - 1), nI (t + 1)), ?_, ⟨t + 1, rfl, by dsimp only; omega, fun i z => g3 i (by dsimp only at z; rw [tb_clr h0, Bool.and_eq_true] at z; exact z.1), hinv _ (fun i hi => ?_)⟩, by dsimp only; omega⟩
        · unfold f_X8_markedSo_9
          dsimp only
          rw [hif1, if_neg (fun z => h0 ((lg_cmp_eq b 0).mp z)), ntz_13 h0, ob_s]
          dsimp only [bnd]
          rw [if_neg (nI_ge l2 (by omega)), if_pos (inb_t l2 (by omega)), nI_clamp (by omega), if_pos ((lg_cmp_eq _ _).mpr hμ), sh1 l2, nI_1]
        · rw [tb_or, tb_bit1 l2, decide_eq_true hμ, Bool.and_true]
      · refine ⟨(a, b &&& (b - 1), nI (t + 1)), ?_, ⟨t + 1, rfl, by dsimp only; omega, fun i z => g3 i (by dsimp only at z; rw [tb_clr h0, Bool.and_eq_true] at z; exact z.1), hinv _ (fun i hi => ?_)⟩, by dsimp only; omega⟩
        · unfold f_X8_markedSo_9
          dsimp only
          rw [hif1, if_neg (fun z => h0 ((lg_cmp_eq b 0).mp z)), ntz_13 h0, ob_s]
          dsimp only [bnd]
          rw [if_neg (nI_ge l2 (by omega)), if_pos (inb_t l2 (by omega)), nI_clamp (by omega), if_neg (fun z => hμ ((lg_cmp_eq _ _).mp z)), nI_1]
        · rw [decide_eq_false hμ, Bool.and_false, Bool.or_false]
theorem split_same (hD : D < 17) (h : RW8 st D l m) {k : Nat} (hl : l.length ≤ 64) (hk : k < l.length) (q : Int64) : f_X8_split st (nI D) (nI k) (wl l k) q = some st := by
  unfold f_X8_split
  rw [ix64]
  dsimp only [bnd]
  rw [if_pos (inb_t (by omega) (by omega)), nI_clamp (by omega), h.2.2.1 k hk, if_pos ((lg_cmp_eq _ _).mpr rfl)]
theorem split_8 (hD : D < 17) (h : RW8 st D l m) {k : Nat} (hl : l.length < 64) (hk : k < l.length) {p q : Int64} (hne : p ≠ wl l k) : ∃ x, f_X8_split st (nI D) (nI k) p q = some x ∧ RW8 x D (spl l k p) (spl m k q) ∧ OR8 D st x := by
  obtain ⟨h1, h2, h3, h4⟩ := h
  have hkm : k < m.length := by omega
  have hix : nI D * 64 + nI l.length = nI (64 * D + l.length) := ix64 D l.length
  refine ⟨oA (oB (oB (oB (oB st 7 (vp_updL (st.2.2.2 7) (64 * D + l.length) (wl l k &&& (p ^^^ (-1))))) 8 (vp_updL (st.2.2.2 8) (64 * D + l.length) (wl m k &&& (q ^^^ (-1))))) 7 (vp_updL (vp_updL (st.2.2.2 7) (64 * D + l.length) (wl l k &&& (p ^^^ (-1)))) (64 * D + k) p)) 8 (vp_updL (vp_updL (st.2.2.2 8) (64 * D + l.length) (wl m k &&& (q ^^^ (-1)))) (64 * D + k) q)) 6 (upd (st.2.2.1 6) D (nI (l.length + 1))), ?_, ⟨?_, ?_, fun j hj => ?_, fun j hj => ?_⟩, rfl, fun j hj => ?_, fun j h7 h8 => ?_, fun d hd => ?_, fun z hz => ?_⟩
  · unfold f_X8_split
    rw [ix64]
    dsimp only [bnd]
    rw [if_pos (inb_t (by omega) (by omega)), nI_clamp (by omega), h3 k hk, if_neg (fun z => hne ((lg_cmp_eq _ _).mp z)), if_pos (inb_t (by omega) (by omega)), nI_clamp (by omega), h1, if_pos (show nI l.length < (64 : Int32) from nI_lt (b := 64) hl (by decide)), hix, if_pos (inb_t (by omega) (by omega)), nI_clamp (by omega)]
    simp only [oB_A, h1, nI_1, oB_self, oB_ne _ (show (8 : Nat) ≠ 7 by decide), oB_ne _ (show (7 : Nat) ≠ 8 by decide), h4 k hkm]
  · rw [oA_self, spl_len]
    exact upd_s
  · rw [spl_len, spl_len, h2]
  · rw [spl_len] at hj
    rw [oA_B, oB_ne (j := 7) _ (by decide), oB_self, wl_spl hk]
    unfold vp_updL
    by_cases c : j = k
    · rw [if_pos (by omega), if_pos c]
    · rw [if_neg (by omega), if_neg c]
      by_cases d : j = l.length
      · rw [if_pos (by omega), if_pos d]
      · rw [if_neg (by omega), if_neg d]; exact h3 j (by omega)
  · rw [spl_len] at hj
    rw [oA_B, oB_self, wl_spl hkm]
    unfold vp_updL
    by_cases c : j = k
    · rw [if_pos (by omega), if_pos c]
    · rw [if_neg (by omega), if_neg c]
      by_cases d : j = m.length
      · rw [if_pos (by omega), if_pos d]
      · rw [if_neg (by omega), if_neg d]; exact h4 j (by omega)
  · rw [oA_ne _ hj]; rfl
  · rw [oA_B, oB_ne _ h8, oB_ne _ h7, oB_ne _ h8, oB_ne _ h7]
  · rw [oA_self]; exact upd_n hd
  · rw [oA_B, oB_ne (j := 7) _ (by decide), oB_self, oB_self]
    unfold vp_updL
    rw [if_neg (by omega), if_neg (by omega), if_neg (by omega), if_neg (by omega)]
    exact ⟨rfl, rfl⟩
end T8
