/-! questions: covers, the class's answers -/
section CVA
variable {stn : OS} {w : Wd}
def brF (c0 c1 : Nat → Int64) (p : Nat) : Int64 := orT (fun t => if tb (c1 p) t = true then c0 t else 0) 64
def rootS (c : Cv) : Sg := if c.2.2.2.1 = 0 then (1, 1, 0, false) else Rs c 64 (0, 0, 0) (0, 0, 0, false)
theorem seek_0 {c : Cv} {one : Int32} {y : OS} (h1 : (one = 0) ↔ c.2.2.2.2 = false) (hG : GC c) (hA : CA c y) : ∃ z, f_X0_seek y one = some z ∧ CS z (rootS c) ∧ z.1 10 = b2i (rootS c).2.2.2 := by
  generalize hT : oI (oJ (oI y 8 0) 9 0) 10 0 = t
  have t10 : t.1 10 = 0 := by rw [← hT, oI_self]
  have t8 : t.1 8 = 0 := by rw [← hT, oI_ne _ (by decide), oJ_1, oI_self]
  have t9 : t.2.1 9 = 0 := by rw [← hT, oI_2, oJ_self]
  have tA : CA c t := by
    rw [← hT]
    exact ⟨hA.1, by rw [oI_2, oJ_ne _ (by decide), oI_2]; exact hA.2⟩
  by_cases hg : c.2.2.2.1 = 0
  · have e : rootS c = (1, 1, 0, false) := by unfold rootS; rw [if_pos hg]
    refine ⟨oI t 8 1, ?_, ?_, ?_⟩
    · unfold f_X0_seek
      dsimp only [bnd]
      rw [hT, tA.2, if_pos ((lg_cmp_eq _ _).mpr hg)]
    · rw [e]
      exact ⟨oI_self _ _ _, by rw [oI_2]; exact t9, Nat.le_refl _⟩
    · rw [e, oI_ne _ (by decide)]
      exact t10
  · have e : rootS c = FP c (Rs c 63) (0, 0, 0) 64 0 (0, 0, 0, false) := by unfold rootS; rw [if_neg hg]; rfl
    obtain ⟨z, b1, b2, b3, b4, b5, b6, b7⟩ := begin_0 (c := c) (y := t) tA (d := 0) (by omega) (nd := (0, 0, 0)) (by decide)
    have hN : ndok c (0, 0, 0) 0 := ⟨fun i hi => absurd hi (by dsimp only; rw [tb_0]; decide), fun q => hg (Eq.symm q), Nat.zero_le _⟩
    have hs : stp c (0, 0, 0, false) = false := by unfold stp; simp
    have key := sim_0 h1 hG 64 64 0 rfl z 0 (0, 0, 0) (0, 0, 0, false) 0 b2 ⟨by rw [b6]; exact t8, by rw [b7]; exact t9, Nat.le_refl _⟩ b3 hN (by omega) (by rw [b4]; exact fun i => ⟨fun e => ⟨Nat.zero_le _, e⟩, fun e => e.2⟩) hs (by decide) (Nat.zero_le _)
    rw [show FP c (Rs c (64 - 1)) (0, 0, 0) 64 0 (0, 0, 0, false) = rootS c from e.symm] at key
    have hseek : f_X0_seek y one = (lpv (f_X0_seek_45 one) (z, nI 0, nI 0, nI 0)).bind (fun x42 => match x42 with | (k45, t44) => (if k45 = 0 then some (oI t44 10 1) else (if k45 = 1 then some t44 else some t44))) := by
      unfold f_X0_seek
      dsimp only [bnd]
      rw [hT, tA.2, if_neg (fun q => hg ((lg_cmp_eq _ _).mp q))]
      rw [show f_X0_begin t 0 0 0 0 = some z from b1, ob_s]
      rfl
    cases hst : stp c (rootS c) with
    | true =>
      obtain ⟨j, v, a1, a2, a3, a4, a5⟩ := key.1 hst
      have a1 : lpv (f_X0_seek_45 one) (z, nI 0, nI 0, nI 0) = some (j, v) := a1
      rw [a1, ob_s] at hseek
      dsimp only at hseek
      cases hsp : (rootS c).2.2.2 with
      | true =>
        rw [a4 hsp, if_pos rfl] at hseek
        exact ⟨_, hseek, ⟨by rw [oI_ne _ (by decide)]; exact a2.1, by rw [oI_2]; exact a2.2.1, a2.2.2⟩, oI_self _ _ _⟩
      | false =>
        rw [a5 hsp, if_neg (by decide), if_pos rfl] at hseek
        exact ⟨_, hseek, a2, by rw [a3, b6]; exact t10⟩
    | false =>
      obtain ⟨v, tn', a1, a2, a3, a4, a5, a6, a7, a8, a9, a10⟩ := key.2 hst
      have a1 : lpv (f_X0_seek_45 one) (z, nI 0, nI 0, nI 0) = lpv (f_X0_seek_45 one) (v, nI 0, nI (rootS c).1, nI tn') := a1
      have a10 : tn' + 2 * 0 ≤ 0 + 2 * (rootS c).1 := a10
      have hsp : (rootS c).2.2.2 = false := by
        unfold stp at hst
        rw [Bool.or_eq_false_iff] at hst
        exact hst.1
      have p1 : f_X0_seek_45 one (v, nI 0, nI (rootS c).1, nI tn') = some (.inl (v, -1, nI (rootS c).1, nI (tn' + 1))) := by
        unfold f_X0_seek_45
        dsimp only
        rw [if_neg (show ¬ (200002 : Int32) < nI tn' from nI_nlt (b := tn') (a := 200002) (by omega) (by decide)), if_neg (nI_pos (by omega)), if_neg (show ¬ (64 : Int32) < nI 0 by decide), if_pos (inb_t (by omega) (by omega)), nI_clamp (by omega), a6]
        dsimp only [bnd]
        rw [if_pos ((lg_cmp_eq 0 0).mpr rfl), nI_1]
        rfl
      have p2 : f_X0_seek_45 one (v, -1, nI (rootS c).1, nI (tn' + 1)) = some (.inr (2, v)) := by
        unfold f_X0_seek_45
        dsimp only
        rw [if_pos m1_lt, ite_self]
      rw [a1, lpv_in p1, lpv_out p2, ob_s] at hseek
      dsimp only at hseek
      rw [if_neg (by decide), if_neg (by decide)] at hseek
      exact ⟨_, hseek, a3, by rw [a4, b6, hsp]; exact t10⟩
/-- each choice's barred ones -/
theorem bar_0 {y : OS} {c0 c1 : Nat → Int64} (h0 : ∀ i, i < 64 → y.2.2.2 0 i = c0 i) (h1 : ∀ i, i < 64 → y.2.2.2 1 i = c1 i) : ∃ x, f_X0_bar y = some x ∧ (∀ i, i < 64 → x.2.2.2 0 i = c0 i ∧ x.2.2.2 1 i = c1 i ∧ x.2.2.2 2 i = brF c0 c1 i) ∧ x.2.1 = y.2.1 := by
  have key := lpv_inv (f := f_X0_bar_2) (fun i z => z.2 = nI i ∧ z.1.2.2.2 0 = y.2.2.2 0 ∧ z.1.2.2.2 1 = y.2.2.2 1 ∧ z.1.2.1 = y.2.1 ∧ ∀ a, a < i → z.1.2.2.2 2 a = brF c0 c1 a) 64 (fun x => x.2.2.2 0 = y.2.2.2 0 ∧ x.2.2.2 1 = y.2.2.2 1 ∧ x.2.1 = y.2.1 ∧ ∀ a, a < 64 → x.2.2.2 2 a = brF c0 c1 a) (fun i z hi hI => Or.inl ?_) (fun z hI => ?_) 0 (y, 0) (Nat.zero_le _) ⟨rfl, rfl, rfl, rfl, fun a ha => by omega⟩
  · obtain ⟨x, e, g1, g2, g3, g4⟩ := key
    refine ⟨x, ?_, fun i hi => ⟨by rw [g1]; exact h0 i hi, by rw [g2]; exact h1 i hi, g4 i hi⟩, g3⟩
    unfold f_X0_bar
    rw [e, ob_s]
  · obtain ⟨x, b⟩ := z
    obtain ⟨e1, e2, e3, e4, e5⟩ := hI
    dsimp only at e1 e2 e3 e4 e5
    subst e1
    have hin := lpv_for (f := f_X0_bar_17 (nI i)) (fun t => (oB x 2 (vp_updL (x.2.2.2 2) i (orT (fun t => if tb (c1 i) t = true then c0 t else 0) t)), nI t)) 64 (r := oB x 2 (vp_updL (x.2.2.2 2) i (brF c0 c1 i))) (fun t ht => ?_) ?_ 0 (Nat.zero_le _)
    · refine ⟨(oB x 2 (vp_updL (x.2.2.2 2) i (brF c0 c1 i)), nI (i + 1)), ?_, rfl, by rw [oB_ne _ (by decide)]; exact e2, by rw [oB_ne _ (by decide)]; exact e3, e4, fun a ha => ?_⟩
      · unfold f_X0_bar_2
        dsimp only
        rw [if_neg (show ¬ (64 : Int32) ≤ nI i from nI_ge (b := 64) hi (by decide)), if_pos (inb_t hi (by omega)), nI_clamp (by omega)]
        dsimp only [bnd]
        rw [show (oB x 2 (vp_updL (x.2.2.2 2) i 0), (0 : Int32)) = (oB x 2 (vp_updL (x.2.2.2 2) i (orT (fun t => if tb (c1 i) t = true then c0 t else 0) 0)), nI 0) from rfl, hin, ob_s, nI_1]
      · dsimp only
        rw [oB_self]
        unfold vp_updL
        by_cases q : a = i
        · rw [if_pos q, q]
        · rw [if_neg q]; exact e5 a (by omega)
    · unfold f_X0_bar_17
      dsimp only
      rw [if_neg (show ¬ (64 : Int32) ≤ nI t from nI_ge (b := 64) ht (by decide)), if_pos (inb_t hi (by omega)), nI_clamp (by omega), nI_clamp (by omega), oB_ne _ (by decide), e3, h1 i hi, has_10 ht, ob_s, oB_self, oB_ne _ (by decide), e2, h0 t ht, if_pos (inb_t ht (by omega))]
      have hu : ∀ a : Int64, vp_updL (x.2.2.2 2) i a i = a := fun a => if_pos rfl
      have huu : ∀ a b : Int64, vp_updL (vp_updL (x.2.2.2 2) i a) i b = vp_updL (x.2.2.2 2) i b := fun a b => funext fun k => by
        unfold vp_updL
        by_cases q : k = i
        · rw [if_pos q, if_pos q]
        · rw [if_neg q, if_neg q, if_neg q]
      simp only [bnd, nI_1, orT]
      cases hb : tb (c1 i) t with
      | true => rw [if_neg b2t, if_pos rfl, hu, huu, oB_same]
      | false => rw [if_pos b2f, if_neg (by decide), or0]
    · unfold f_X0_bar_17
      dsimp only
      rw [if_pos (show (64 : Int32) ≤ nI 64 from nI_le (a := 64) (by omega) (by decide))]
      rfl
  · obtain ⟨x, b⟩ := z
    obtain ⟨e1, e2, e3, e4, e5⟩ := hI
    dsimp only at e1 e2 e3 e4 e5
    subst e1
    refine ⟨x, ?_, e2, e3, e4, e5⟩
    unfold f_X0_bar_2
    dsimp only
    rw [if_pos (show (64 : Int32) ≤ nI 64 from nI_le (a := 64) (by omega) (by decide))]
theorem thr_any (hw : CW stn w) (hW : WFw w) {i : Nat} (hi : i < 64) : f_X10_throughAt stn (nI i) = some (thrF w.2 i) := by
  rcases Nat.lt_or_ge i w.1 with q | q
  · exact throughAt_10 hw q
  · rw [throughAt_out hw q (by omega)]
    congr 1
    refine tb_ext (fun j _ => ?_)
    rw [tb_0]
    refine (eq_false_of_ne_true (fun z => ?_)).symm
    have := (tb_thr hw.1.2.2.2.1).mp z
    have := hW.pt hw.1.2.2.1 this.1 this.2
    omega
def cvO (w : Wd) (o : Bool) : Cv := (wl w.2, thrF w.2, brF (wl w.2) (thrF w.2), fst64 w.2.length, o)
def cvS (w : Wd) (o : Bool) : Cv := (thrF w.2, wl w.2, brF (thrF w.2) (wl w.2), fst64 w.1, o)
theorem takeP_0 (hw : CW stn w) (hW : WFw w) (y : OS) (o : Bool) : ∃ x, f_X0_takePoints y stn = some x ∧ CA (cvO w o) x := by
  have key := lpv_inv (f := f_X0_takePoints_13 stn) (fun i z => z.2 = nI i ∧ z.1.2.1 3 = fst64 w.2.length ∧ ∀ a, a < i → z.1.2.2.2 0 a = wl w.2 a ∧ z.1.2.2.2 1 a = thrF w.2 a) 64 (fun x => x.2.1 3 = fst64 w.2.length ∧ ∀ a, a < 64 → x.2.2.2 0 a = wl w.2 a ∧ x.2.2.2 1 a = thrF w.2 a) (fun i z hi hI => Or.inl ?_) (fun z hI => ?_) 0 (oJ y 3 (fst64 w.2.length), 0) (Nat.zero_le _) ⟨rfl, oJ_self _ _ _, fun a ha => by omega⟩
  · obtain ⟨x, e, g1, g2⟩ := key
    obtain ⟨v, e2, g3, g4⟩ := bar_0 (fun i hi => (g2 i hi).1) (fun i hi => (g2 i hi).2)
    refine ⟨v, ?_, g3, by rw [g4]; exact g1⟩
    unfold f_X0_takePoints
    rw [hw.1.2.1, first_10 hw.1.2.2.2.1, ob_s]
    dsimp only [bnd]
    rw [e, ob_s, e2, ob_s]
  · obtain ⟨x, b⟩ := z
    obtain ⟨e1, e2, e3⟩ := hI
    dsimp only at e1 e2 e3
    subst e1
    refine ⟨(oB (oB x 0 (vp_updL (x.2.2.2 0) i (wl w.2 i))) 1 (vp_updL (x.2.2.2 1) i (thrF w.2 i)), nI (i + 1)), ?_, rfl, e2, fun a ha => ?_⟩
    · unfold f_X0_takePoints_13
      dsimp only
      rw [if_neg (show ¬ (64 : Int32) ≤ nI i from nI_ge (b := 64) hi (by decide)), setAt_any hw.1 (by omega), ob_s, if_pos (inb_t hi (by omega)), nI_clamp (by omega)]
      dsimp only [bnd]
      rw [thr_any hw hW hi, ob_s, nI_1, oB_ne _ (by decide)]
    · dsimp only
      rw [oB_ne _ (by decide), oB_self, oB_self]
      unfold vp_updL
      by_cases q : a = i
      · rw [if_pos q, if_pos q, q]; exact ⟨rfl, rfl⟩
      · rw [if_neg q, if_neg q]; exact e3 a (by omega)
  · obtain ⟨x, b⟩ := z
    obtain ⟨e1, e2, e3⟩ := hI
    dsimp only at e1 e2 e3
    subst e1
    refine ⟨x, ?_, e2, e3⟩
    unfold f_X0_takePoints_13
    dsimp only
    rw [if_pos (show (64 : Int32) ≤ nI 64 from nI_le (a := 64) (by omega) (by decide))]
theorem takeL_0 (hw : CW stn w) (hW : WFw w) (y : OS) (o : Bool) : ∃ x, f_X0_takeLines y stn = some x ∧ CA (cvS w o) x := by
  have key := lpv_inv (f := f_X0_takeLines_10 stn) (fun i z => z.2 = nI i ∧ z.1.2.1 3 = fst64 w.1 ∧ ∀ a, a < i → z.1.2.2.2 0 a = thrF w.2 a ∧ z.1.2.2.2 1 a = wl w.2 a) 64 (fun x => x.2.1 3 = fst64 w.1 ∧ ∀ a, a < 64 → x.2.2.2 0 a = thrF w.2 a ∧ x.2.2.2 1 a = wl w.2 a) (fun i z hi hI => Or.inl ?_) (fun z hI => ?_) 0 (oJ y 3 (fst64 w.1), 0) (Nat.zero_le _) ⟨rfl, oJ_self _ _ _, fun a ha => by omega⟩
  · obtain ⟨x, e, g1, g2⟩ := key
    obtain ⟨v, e2, g3, g4⟩ := bar_0 (fun i hi => (g2 i hi).1) (fun i hi => (g2 i hi).2)
    refine ⟨v, ?_, g3, by rw [g4]; exact g1⟩
    unfold f_X0_takeLines
    rw [all_10 hw.1, ob_s]
    dsimp only [bnd]
    rw [e, ob_s, e2, ob_s]
  · obtain ⟨x, b⟩ := z
    obtain ⟨e1, e2, e3⟩ := hI
    dsimp only at e1 e2 e3
    subst e1
    refine ⟨(oB (oB x 0 (vp_updL (x.2.2.2 0) i (thrF w.2 i))) 1 (vp_updL (x.2.2.2 1) i (wl w.2 i)), nI (i + 1)), ?_, rfl, e2, fun a ha => ?_⟩
    · unfold f_X0_takeLines_10
      dsimp only
      rw [if_neg (show ¬ (64 : Int32) ≤ nI i from nI_ge (b := 64) hi (by decide)), thr_any hw hW hi, ob_s, if_pos (inb_t hi (by omega)), nI_clamp (by omega)]
      dsimp only [bnd]
      rw [setAt_any hw.1 (by omega), ob_s, nI_1, oB_ne _ (by decide)]
    · dsimp only
      rw [oB_ne _ (by decide), oB_self, oB_self]
      unfold vp_updL
      by_cases q : a = i
      · rw [if_pos q, if_pos q, q]; exact ⟨rfl, rfl⟩
      · rw [if_neg q, if_neg q]; exact e3 a (by omega)
  · obtain ⟨x, b⟩ := z
    obtain ⟨e1, e2, e3⟩ := hI
    dsimp only at e1 e2 e3
    subst e1
    refine ⟨x, ?_, e2, e3⟩
    unfold f_X0_takeLines_10
    dsimp only
    rw [if_pos (show (64 : Int32) ≤ nI 64 from nI_le (a := 64) (by omega) (by decide))]
theorem gc_O (hW : WFw w) (hn : w.1 ≤ 64) (hm : w.2.length ≤ 64) (o : Bool) : GC (cvO w o) := by
  refine ⟨fun t p _ h => ?_, fun p t h => ?_⟩
  · have h : tb (wl w.2 t) p = true := h
    show tb (thrF w.2 p) t = true
    rw [tb_thr hm]
    refine ⟨?_, h⟩
    rcases Nat.lt_or_ge t w.2.length with q | q
    · exact q
    · rw [wl_out q, tb_0] at h; cases h
  · have h : tb (thrF w.2 p) t = true := h
    show tb (fst64 w.2.length) t = true
    rw [tb_fst64 hm]
    exact decide_eq_true ((tb_thr hm).mp h).1
theorem gc_S (hW : WFw w) (hn : w.1 ≤ 64) (hm : w.2.length ≤ 64) (o : Bool) : GC (cvS w o) := by
  refine ⟨fun t p _ h => ?_, fun p t h => ?_⟩
  · have h : tb (thrF w.2 t) p = true := h
    exact ((tb_thr hm).mp h).2
  · have h : tb (wl w.2 p) t = true := h
    show tb (fst64 w.1) t = true
    rw [tb_fst64 hn]
    refine decide_eq_true ?_
    rcases Nat.lt_or_ge p w.2.length with q | q
    · exact hW.pt hn q h
    · rw [wl_out q, tb_0] at h; cases h
def ansF (s : Sg) : Int64 := if s.2.1 = 0 then (if s.2.2.2 = true then -2 else -1) else s.2.2.1
def ansM (s : Sg) : Int32 := if s.2.2.2 = true then -2 else nI s.2.1
theorem first_0 {z : OS} {s : Sg} (h : CS z s) (h2 : z.1 10 = b2i s.2.2.2) (hb : s.2.1 < 2 ^ 31) : f_X0_firstFound z = some (ansF s) := by
  unfold f_X0_firstFound ansF
  rw [h.1, h2, h.2.1]
  by_cases q : s.2.1 = 0
  · rw [if_pos q, q, if_pos (by decide)]
    cases s.2.2.2 with
    | true => rw [if_neg b2t, if_pos rfl]
    | false => rw [if_pos b2f, if_neg (by decide)]
  · rw [if_neg q, if_neg (show ¬ nI s.2.1 ≤ (0 : Int32) from nI_ge (a := 0) (by omega) hb)]
theorem many_0 {z : OS} {s : Sg} (h : CS z s) (h2 : z.1 10 = b2i s.2.2.2) : f_X0_manyFound z = some (ansM s) := by
  unfold f_X0_manyFound ansM
  rw [h.1, h2]
  cases s.2.2.2 with
  | true => rw [if_neg b2t, if_pos rfl]
  | false => rw [if_pos b2f, if_neg (by decide)]
end CVA
