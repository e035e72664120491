/-! questions: like -/
section TLK
variable {st stn stu sty : OS} {w v : Wd}
noncomputable def likW (w v : Wd) : Int32 := if w.1 ≤ 16 ∧ v.1 ≤ 16 then (if pd (LKW w v) = true then 1 else 0) else -1
theorem like_11 (stt : OS) (i : Int32) (h1 : CW stn w) (h2 : CW sty v) : ∃ x, f_X11_like stt stn stu sty i = some (.inr (likW w v, x)) := by
  have hn1 := h1.1.2.2.1
  have hn2 := h2.1.2.2.1
  unfold f_X11_like likW
  rw [h1.1.1, h2.1.1]
  by_cases a : w.1 ≤ 16
  · rw [if_neg (show ¬ (16 : Int32) < nI w.1 from nI_nlt (a := 16) a (by decide))]
    by_cases b : v.1 ≤ 16
    · rw [if_pos (show nI v.1 ≤ (16 : Int32) from nI_le (b := 16) b (by decide)), if_pos (show w.1 ≤ 16 ∧ v.1 ≤ 16 from ⟨a, b⟩)]
      obtain ⟨dep, y, f1, f2, f3⟩ := count_8 (st := stu) h1 a
      obtain ⟨c, x, g1, g2, g3⟩ := alike_8 h1 h2 a f2 f3
      rw [f1, ob_s]
      dsimp only
      rw [g1, ob_s]
      dsimp only
      refine ⟨x, ?_⟩
      rcases g2 with g2 | g2
      · rw [if_pos g2, if_neg (fun z => by rw [pd_iff, ← g3, g2] at z; exact absurd z (by decide))]
      · rw [if_neg (by rw [g2]; decide), if_pos (pd_iff.mpr (g3.mp g2))]
    · rw [if_neg (show ¬ nI v.1 ≤ (16 : Int32) from nI_ge (a := 16) (by omega) (by omega)), if_neg (fun z => b z.2)]
      exact ⟨stu, rfl⟩
  · rw [if_pos (show (16 : Int32) < nI w.1 from nI_lt (a := 16) (by omega) (by omega)), if_neg (fun z => a z.1)]
    exact ⟨stu, rfl⟩
/-- when the image is there -/
theorem like_12 (h : RWo st w.1 w.2) (hW : WFw w) (hV : WFw v) {j : Nat} (hj : j < 3) (h49 : st.2.2.1 49 j ≠ 0) (hS : Snap (st.2.2.1 50) (st.2.2.1 51) (st.2.2.2 52) j v) : ∃ x, f_X12_like st (nI j) = some (likW w v, x) ∧ Kt st x ∧ x.1 2 = 0 := by
  obtain ⟨s1, s2, s3, s4, s5⟩ := hS
  have h0 := h.th 0
  have hn := h.2.2.1
  have hm := h.2.2.2.1
  have hw := within_12 (nI j) (n := 3) (by decide)
  rw [show (((nI 3) - 1 : Int32).toInt64) = 2 by decide +kernel] at hw
  have hnot := in_not (n := 3) (by decide) hj
  unfold f_X12_like
  rw [hw, ob_s, if_neg hnot, if_neg ne10, if_pos (inb_t (by omega) (by omega)), nI_clamp (by omega), if_neg h49]
  dsimp only [bnd]
  rw [ne_le, if_pos (show (0 : Int32) ≤ 0 by decide), h0.1, show (oI st 2 0).2.2.1 50 j = nI v.1 from s1, show (oI st 2 0).2.2.1 51 j = nI v.2.length from s2, h0.2.1]
  unfold likW
  by_cases a : w.1 ≤ 16
  · rw [if_neg (show ¬ (16 : Int32) < nI w.1 from nI_nlt (a := 16) a (by decide))]
    by_cases b : v.1 ≤ 16
    · rw [if_pos (show nI v.1 ≤ (16 : Int32) from nI_le (b := 16) b (by decide)), if_pos (show w.1 ≤ 16 ∧ v.1 ≤ 16 from ⟨a, b⟩)]
      by_cases c : w.1 = v.1
      · rw [if_pos (congrArg nI c)]
        by_cases d : w.2.length = v.2.length
        · rw [if_pos (congrArg nI d)]
          -- the others' lines come
          obtain ⟨s0, hs0⟩ : ∃ s0, s0 = oI (oI st 2 0) 35 (nI w.2.length) := ⟨_, rfl⟩
          have k0 : Kp (oI st 2 0) s0 := by rw [hs0]; exact Keep.rf.oI rfl
          have h00 := h0.kp k0
          have e52 : s0.2.2.2 52 = st.2.2.2 52 := by rw [hs0]; rfl
          have kA := lpv_inv (f := f_X12_like_103 (nI j)) (fun i z => z.2 = nI i ∧ (∃ f, z.1 = oB s0 34 f ∧ ∀ k, k < i → f k = wl v.2 k)) w.2.length (fun x => ∃ f, x = oB s0 34 f ∧ ∀ k, k < w.2.length → f k = wl v.2 k) (fun i z hi hI => Or.inl ?_) (fun z hI => ?_) 0 (s0, 0) (Nat.zero_le _) ⟨rfl, s0.2.2.2 34, (oB_id s0 34).symm, fun k hk => by omega⟩
          · obtain ⟨x1, e1, f, e2, e3⟩ := kA
            have k1 : Kp (oI st 2 0) x1 := by rw [e2]; exact Keep.tr k0 (Keep.rf.oB rfl)
            have h35 : x1.1 35 = nI w.2.length := by rw [e2, oB_1, hs0, oI_self]
            have h34 : ∀ i, i < v.2.length → x1.2.2.2 34 i = wl v.2 i := fun i hi => by rw [e2, oB_self]; exact e3 i (by omega)
            have kB := lpv_inv (f := f_X12_like_136) (fun i z => z.2 = nI i ∧ KG2 x1 z.1 ∧ ∀ k, k < i → z.1.2.2.1 36 k = -1) 16 (fun x => KG2 x1 x ∧ ∀ k, k < 16 → x.2.2.1 36 k = -1) (fun i z hi hI => Or.inl ?_) (fun z hI => ?_) 0 (x1, 0) (Nat.zero_le _) ⟨rfl, KG2.rf, fun k hk => by omega⟩
            · obtain ⟨x2, g1, g2, g3⟩ := kB
              obtain ⟨x3, hx3⟩ : ∃ x3, x3 = oJ x2 37 0 := ⟨_, rfl⟩
              have k3 : KG2 x1 x3 := by rw [hx3]; exact g2.oJ _ _
              have hO1 : OW x1 w v := ⟨h0.kp k1, by rw [h35, d], h34, a, c.symm, d.symm, hW, hV⟩
              have hM : PM x3 w (fun _ => false) (fun q => q) := by
                refine ⟨fun p hp => ?_, fun x => ?_, fun p _ h => absurd h Bool.false_ne_true, fun p q _ _ h => absurd h Bool.false_ne_true⟩
                · rw [if_neg Bool.false_ne_true, hx3]
                  exact g3 p (by omega)
                · rw [hx3, oJ_self, tb_0]
                  exact ⟨fun z => absurd z Bool.false_ne_true, fun ⟨p, _, h, _⟩ => absurd h Bool.false_ne_true⟩
              obtain ⟨r, y, r1, r2, r3, r4, r5⟩ := canGo_12 40 0 x3 _ _ (Nat.zero_le _) (by omega) (hO1.k k3) hM (fun q hq => by omega)
              have ky : Kp (oI st 2 0) y := Keep.tr k1 (k3.tr r2).kp
              have hiff : r = 1 ↔ LKW w v := r5.trans ⟨fun ⟨π, p1, _⟩ => ⟨c.symm, d.symm, π, p1⟩, fun ⟨_, _, π, p1⟩ => ⟨π, p1, fun _ _ h => absurd h Bool.false_ne_true⟩⟩
              rw [← hs0, e1, ob_s, g1, ob_s, ← hx3, show (0 : Int32) = nI 0 from rfl, r1, ob_s]
              dsimp only
              rcases r3 with r3 | r3
              · rw [if_pos (show r = nI 0 from r3), if_neg (fun z => by rw [pd_iff, ← hiff, r3] at z; exact absurd z (by decide))]
                exact ⟨y, rfl, Kt.p ky, ky.v⟩
              · rw [if_neg (show ¬ r = nI 0 by rw [r3]; decide), if_pos (pd_iff.mpr (hiff.mp r3))]
                exact ⟨y, rfl, Kt.p ky, ky.v⟩
            · obtain ⟨s, b'⟩ := z
              obtain ⟨f1, f2, f3⟩ := hI
              dsimp only at f1 f2 f3
              subst f1
              refine ⟨(oA s 36 (upd (s.2.2.1 36) i (-1)), nI (i + 1)), ?_, rfl, f2.oA _, fun k hk => ?_⟩
              · unfold f_X12_like_136
                dsimp only
                rw [if_neg (show ¬ (16 : Int32) ≤ nI i from nI_ge (b := 16) hi (by decide)), if_pos (inb_t hi (by omega)), nI_clamp (by omega)]
                dsimp only [bnd]
                rw [nI_1]
              · dsimp only
                rw [oA_self]
                by_cases q : k = i
                · rw [q]; exact upd_s
                · rw [upd_n q]; exact f3 k (by omega)
            · obtain ⟨s, b'⟩ := z
              obtain ⟨f1, f2, f3⟩ := hI
              dsimp only at f1 f2 f3
              subst f1
              refine ⟨s, ?_, f2, f3⟩
              unfold f_X12_like_136
              dsimp only
              rw [if_pos (show (16 : Int32) ≤ nI 16 from nI_le (Nat.le_refl 16) (by decide))]
          · obtain ⟨x, b'⟩ := z
            obtain ⟨e1, f, e2, e3⟩ := hI
            dsimp only at e1 e2
            subst e1 e2
            refine ⟨(oB s0 34 (vp_updL f i (wl v.2 i)), nI (i + 1)), ?_, rfl, _, rfl, fun k hk => ?_⟩
            · unfold f_X12_like_103
              dsimp only
              rw [oB_1, h00.2.1, if_neg (nI_ge hi (by omega)), i64m, if_pos (inb_t (by omega) (by omega)), if_pos (inb_t (by omega) (by omega)), nI_clamp (by omega), nI_clamp (by omega), oB_self, oB_ne (j := 52) _ (by decide), e52, s5 i (by omega)]
              dsimp only [bnd]
              rw [oB_same, nI_1]
            · unfold vp_updL
              by_cases q : k = i
              · rw [if_pos q, q]
              · rw [if_neg q]; exact e3 k (by omega)
          · obtain ⟨x, b'⟩ := z
            obtain ⟨e1, f, e2, e3⟩ := hI
            dsimp only at e1 e2
            subst e1 e2
            refine ⟨oB s0 34 f, ?_, f, rfl, e3⟩
            unfold f_X12_like_103
            dsimp only
            rw [oB_1, h00.2.1, if_pos (nI_le (Nat.le_refl _) (by omega))]
        · rw [if_neg (fun z => d ((nI_eq (by omega) (by omega)).mp z)), if_neg (fun z => d (pd_iff.mp z).2.1.symm)]
          exact ⟨oI st 2 0, rfl, Kt.thr 0, th_v⟩
      · rw [if_neg (fun z => c ((nI_eq (by omega) (by omega)).mp z)), if_neg (fun z => c (pd_iff.mp z).1.symm)]
        exact ⟨oI st 2 0, rfl, Kt.thr 0, th_v⟩
    · rw [if_neg (show ¬ nI v.1 ≤ (16 : Int32) from nI_ge (a := 16) (by omega) (by omega)), if_neg (fun z => b z.2)]
      exact ⟨oI st 2 0, rfl, Kt.thr 0, th_v⟩
  · rw [if_pos (show (16 : Int32) < nI w.1 from nI_lt (a := 16) (by omega) (by omega)), if_neg (fun z => a z.1)]
    exact ⟨oI st 2 0, rfl, Kt.thr 0, th_v⟩
theorem r_like {s : Wst} {tp : Nat → Int32} {hd : Nat} {wr wa : Int32} {ic : Nat → Option Wd} {tc : Nat → Option (Nat × List Int64)} (h : RR st s tp hd wr wa ic tc) (hW : WFs s ic) (i : Int32) : ∃ v x, f_X12_like st i = some (v, x) ∧ Kt st x ∧ (∀ k, NoC 3 ic i k → x.1 2 = (if k = 0 then 1 else 2)) ∧ ∀ j u, i = nI j → j < 3 → ic j = some u → x.1 2 = 0 ∧ v = likW s.1 u := by
  have hw := within_12 i (n := 3) (by decide)
  rw [show (((nI 3) - 1 : Int32).toInt64) = 2 by decide +kernel] at hw
  rcases out_or (i := i) (n := 3) with h1 | ⟨j, rfl, hj⟩
  · have hno : ∀ j, i = nI j → j < 3 → False := fun j e hj => by subst e; exact absurd h1 (in_not (by decide) hj)
    refine ⟨0, oI st 2 1, ?_, Kt.thr 1, fun k hk => ?_, fun j _ e hj => (hno j e hj).elim⟩
    · unfold f_X12_like
      rw [hw, ob_s, if_pos h1, if_pos rfl]
      dsimp only [bnd]
      rw [ne_le, if_neg (show ¬ (1 : Int32) ≤ 0 by decide)]
    · rcases hk with ⟨rfl, -⟩ | ⟨-, j, e, hj, -⟩
      · exact ne_le 1
      · exact (hno j e hj).elim
  · have hnot := in_not (n := 3) (by decide) hj
    have hj2 : ∀ j2, nI j = nI j2 → j2 < 3 → j2 = j := fun j2 e h2 => ((nI_eq (by omega) (by omega)).mp e).symm
    cases ht : ic j with
    | none =>
      refine ⟨0, oI st 2 2, ?_, Kt.thr 2, fun k hk => ?_, fun j2 _ e hjj e2 => ?_⟩
      · unfold f_X12_like
        rw [hw, ob_s, if_neg hnot, if_neg ne10, if_pos (inb_t (by omega) (by omega)), nI_clamp (by omega), if_pos ((h.2.2.2.2.2 j hj).1 ht)]
        dsimp only [bnd]
        rw [ne_le, if_neg (show ¬ (2 : Int32) ≤ 0 by decide)]
      · rcases hk with ⟨-, z⟩ | ⟨rfl, j2, -⟩
        · exact (z.elim (nI_pos (by omega)) (fun z => z (nI_lt hj (by decide)))).elim
        · exact ne_le 2
      · rw [hj2 j2 e hjj, ht] at e2; cases e2
    | some u =>
      obtain ⟨t1, t2⟩ := (h.2.2.2.2.2 j hj).2 u ht
      obtain ⟨x, e1, e2, e3⟩ := like_12 (w := s.1) (v := u) h.1 hW.1 (hW.2.2.2 j u ht) hj t1 t2
      refine ⟨_, x, e1, e2, fun k hk => ?_, fun j2 u2 e hjj e4 => ?_⟩
      · rcases hk with ⟨-, z⟩ | ⟨-, j2, e, hjj, e4⟩
        · exact (z.elim (nI_pos (by omega)) (fun z => z (nI_lt hj (by decide)))).elim
        · rw [hj2 j2 e hjj, ht] at e4; cases e4
      · rw [hj2 j2 e hjj, ht] at e4
        cases e4
        exact ⟨e3, rfl⟩
end TLK
section AGL
variable {l : Launch} {G : mG} {a b ao : Nat}
theorem ag_like (hst : l.stackTraces = false) : Ag_like l G (LJ G a b ao) a b ao := by
  intro m p0 hJ
  obtain ⟨s, tp, hd, wr, wa, ic, tc, q, st, fo, ⟨ow, F, qt, rfl, rfl, N, hA, hC, hb, ho⟩, hR, hW⟩ := hJ
  obtain ⟨v, x, hF, hKt, hX1, hX2⟩ := r_like hR hW p0
  obtain ⟨fs, hroot⟩ := N.root
  have hM := n_X11_like hst N (i := p0) (k := likW s.1) (fun stt stn stu sty w h1 h2 => like_11 stt p0 h1 h2)
  refine ⟨_, c_L_like hroot hM (fo := fo) (fun v1 m1 ⟨j, w, _, _, _, _, z⟩ => (LR.ntp hA hC hb ho z).out1) (fun E m1 z => NoC.E z.1), fun r m9 hp => ?_⟩
  rcases hp with ⟨rfl, v1, m1, ⟨j, w, e1, e2, e3, e4, e5⟩, rfl⟩ | ⟨E, ⟨⟨k, e1, e2⟩, e3⟩, e4⟩
  · obtain ⟨h1, h2⟩ := hX2 j w e1 e2 e3
    have L := (LR.ntp hA hC hb ho e5).out (fo' := vp_updL fo 0 v1.toInt64)
    obtain ⟨f1, f2, f3, f4, f5⟩ := L.fin (hR.kt hKt) hW
    exact ⟨q, st, x, v, _, f1, f2, f3, hF, h1, f4, fun _ => by rw [h2, e4]; simp [vp_updL], f5⟩
  · subst e3
    have h1 := hX1 k e2
    obtain ⟨f1, f2, f3, f4, f5⟩ := (LR.ntp hA hC hb ho (NTP.rf N)).fin (hR.kt hKt) hW
    rcases e2.ex with rfl | rfl
    · rcases e4 with ⟨e4, rfl⟩ | ⟨e4, rfl⟩
      · exact ⟨q, st, x, v, fo, f1, f2, f3, hF, h1, f4, fun z => absurd z (by decide), f5⟩
      · exact absurd (e1.symm.trans e4) ex02
    · rcases e4 with ⟨e4, rfl⟩ | ⟨e4, rfl⟩
      · exact absurd (e1.symm.trans e4) ex20
      · exact ⟨q, st, x, v, fo, f1, f2, f3, hF, h1, f4, fun z => absurd z (by decide), f5⟩
end AGL
