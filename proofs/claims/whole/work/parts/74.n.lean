/-! the text: the class's world -/
section N74
variable {l : Launch} {G : mG} {ow : Nat → Nat} {m : mM} {qt : Nat → Nat} {s : Wst} {tp : Nat → Int32} {hd : Nat} {wr wa : Int32} {ic : Nat → Option Wd} {tc : Nat → Option (Nat × List Int64)} {F S : Nat → Prop}
theorem n_X11_world2 (hst : l.stackTraces = false) (N : NT G ow m qt s tp hd wr wa ic tc F) {n : Int32} {v : Int32 × Wst × Int32 × Int32}
    (hk : ∀ (stt str stm stn std sth : OS), RDR str tp hd wr wa → MKR stm → CW stn s.1 → ∃ yr yn yd yh, f_X11_world stt str stm stn std sth n = some (.inr (v.1, yr, yn, yd, yh)) ∧ RDR yr tp 0 v.2.2.1 v.2.2.2 ∧ CW yn v.2.1.1 ∧ ((yh = sth ∧ v.2.1.2 = s.2) ∨ (yh = oI (oI sth 2 0) 3 0 ∧ v.2.1.2 = ([], [])))) :
    xQ l G yX11_world cX11_world 2 (some FieldType.int) rm_X11_world [.ref (qt 10), .int n] m (mQi G (fun r m' => r = v.1 ∧ NTP G ow m F m' qt v.2.1 tp 0 v.2.2.1 v.2.2.2 ic tc)) (fun _ _ => False) := by
  obtain ⟨qn, qd, qh, S, xi, xt, fi, ft, qr, qm, qc, qw, qk, qu, str, stm, stc, stw, stk, stu, hC, hA, hB, hc, hD, rfl⟩ := N
  obtain ⟨c1, c2, c3, c4, c5, c6⟩ := id hc
  obtain ⟨stt, stn0, std0, fb, fa, bs, as, hT, hn0, hw0, -, hS, hbw, haw, -, hk9, hSS⟩ := id hC
  obtain ⟨stn, std, sth, hn, hw, hd2, hh, e2, e3, e4, ⟨s1, s2, s3⟩, hre⟩ := core_redo hC
  have hap : oap [(LX11, qt), (LX5, qr), (LX3, qm), (LX10, qn), (LX10, qd), (LX1, qh)] := by
    refine oap_cons ?_ (oap_cons ?_ (oap4 (c2.dis hn (c2.ne hn (by decide))) (c2.dis hd2 (c2.ne hd2 (by decide))) (c2.dis hh (c2.ne hh (by decide))) (hn.dis hd2 (fun z => e4 z.symm)) (hn.dis hh (hn.ne hh (by decide))) (hd2.dis hh (hd2.ne hh (by decide)))))
    · intro x hx
      simp only [List.mem_cons, List.not_mem_nil, or_false] at hx
      rcases hx with rfl | rfl | rfl | rfl | rfl
      · show odis LX11 qt LX5 qr; exact hT.dis c1 (hT.ne c1 (by decide))
      · show odis LX11 qt LX3 qm; exact hT.dis c2 (hT.ne c2 (by decide))
      · show odis LX11 qt LX10 qn; exact hT.dis hn (hT.ne hn (by decide))
      · show odis LX11 qt LX10 qd; exact hT.dis hd2 (hT.ne hd2 (by decide))
      · show odis LX11 qt LX1 qh; exact hT.dis hh (hT.ne hh (by decide))
    · intro x hx
      simp only [List.mem_cons, List.not_mem_nil, or_false] at hx
      rcases hx with rfl | rfl | rfl | rfl
      · show odis LX5 qr LX3 qm; exact c1.dis c2 (c1.ne c2 (by decide))
      · show odis LX5 qr LX10 qn; exact c1.dis hn (c1.ne hn (by decide))
      · show odis LX5 qr LX10 qd; exact c1.dis hd2 (c1.ne hd2 (by decide))
      · show odis LX5 qr LX1 qh; exact c1.dis hh (c1.ne hh (by decide))
  have H6 : ∀ {Qc : Array Value → State → Outcome → State → Prop} {px : String → mM → Prop}, xQ l G yX11_world cX11_world 2 (some FieldType.int) rm_X11_world [.ref (qt 10), .int n] (oset LX11 G qt stt (oset LX5 G qr str (oset LX3 G qm stm (oset LX10 G qn stn (oset LX10 G qd std (oset LX1 G qh sth m)))))) Qc px → xQ l G yX11_world cX11_world 2 (some FieldType.int) rm_X11_world [.ref (qt 10), .int n] m Qc px := fun h => by
    rw [hh.eq, hd2.eq, hn.eq, c2.eq, c1.eq, hT.eq] at h
    exact h
  obtain ⟨yr, yn, yd, yh, hF, hR, hY, hor⟩ := hk stt str stm stn std sth c5 c6 hw
  refine (H6 (c_X11_world hst hT.1 c1.1 c2.1 hn.1 hd2.1 hh.1 hap c3 c4 hk9.1 hk9.2.1 hk9.2.2.1 hF)).mono (mQi.mono (fun r m' ⟨z, h1, h2, h3⟩ => ?_)) (fun E m' ⟨k, h1, h2, h3⟩ => by cases h1)
  cases h1
  dsimp only at h2 h3
  refine ⟨h2, ?_⟩
  have hP := hre yn yd yh v.2.1.1 v.2.1.2.1 v.2.1.2.2 hY (by
    rcases hor with ⟨rfl, h4⟩ | ⟨rfl, h4⟩
    · rw [h4]; exact e2
    · rw [h4, oI_ne _ (by decide), oI_self]; rfl) (by
    rcases hor with ⟨rfl, h4⟩ | ⟨rfl, h4⟩
    · rw [h4]; exact e3
    · rw [h4, oI_self]; rfl) (by
    rcases hor with ⟨-, h4⟩ | ⟨-, h4⟩
    · exact Or.inl ⟨by rw [h4], by rw [h4]⟩
    · exact Or.inr ⟨by rw [h4], by rw [h4]⟩)
  generalize hm1 : oset LX10 G qn yn (oset LX10 G qd yd (oset LX1 G qh yh m)) = m1 at hP h3
  have hfr : ∀ {L : LY} {q : Nat → Nat} {st : OS}, At G ow m L q st → L.1 ≠ LX10.1 → L.1 ≠ LX1.1 → At G ow m1 L q st := fun hA2 hx1 hx2 => by
    rw [← hm1]
    have f1 := (hh.fA (x := yh))
    have f2 := ((f1.1 _ _ _ (hd2.ne hh (by decide)) hd2).fA (x := yd))
    have hn3 := f2.1 LX10 qn stn (fun z => e4 z.symm) (f1.1 LX10 qn stn (hn.ne hh (by decide)) hn)
    exact (hn3.fA (x := yn)).1 _ _ _ (hA2.ne hn hx1) (f2.1 _ _ _ (hA2.ne hd2 hx1) (f1.1 _ _ _ (hA2.ne hh hx2) hA2))
  have cr1 := hfr c1 (by decide) (by decide)
  have cm1 := hfr c2 (by decide) (by decide)
  have ct1 := hfr hT (by decide) (by decide)
  rw [cm1.eq] at h3
  have ct2 := (cr1.fA (x := yr)).1 _ _ _ (ct1.ne cr1 (by decide)) ct1
  rw [ct2.eq] at h3
  rw [h3]
  exact NT.core2 hC hA hB hc hD hP hR
theorem NT.byte (N : NT G ow m qt s tp hd wr wa ic tc F) : ∀ i, i < hd → tp i = nI (tpN tp i) ∧ tpN tp i < 256 := by
  obtain ⟨qn, qd, qh, S, xi, xt, fi, ft, qr, qm, qc, qw, qk, qu, str, stm, stc, stw, stk, stu, hC, hA, hB, hc, hD, rfl⟩ := N
  obtain ⟨c1, c2, c3, c4, c5, c6⟩ := hc
  intro i hi
  have e := c5.2.2.2.2 i hi
  obtain ⟨b1, b2⟩ := tp_byte (str.2.2.1 1 i)
  rw [e] at b1 b2
  exact ⟨b1, b2⟩
end N74
theorem world_11 {s : Wst} {tp : Nat → Int32} {hd : Nat} {wr wa : Int32} {n : Nat} (hn : n ≤ hd) (stt str stm stn std sth : OS) (hR : RDR str tp hd wr wa) (hM : MKR stm) (hC : CW stn s.1) : ∃ yr yn yd yh, f_X11_world stt str stm stn std sth (nI n) = some (.inr (rdV (readP (tpN tp) n), yr, yn, yd, yh)) ∧ RDR yr tp 0 (rdW (readP (tpN tp) n)) (rdA (readP (tpN tp) n)) ∧ CW yn (rdS s (readP (tpN tp) n)).1 ∧ ((yh = sth ∧ (rdS s (readP (tpN tp) n)).2 = s.2) ∨ (yh = oI (oI sth 2 0) 3 0 ∧ (rdS s (readP (tpN tp) n)).2 = ([], []))) := by
  obtain ⟨t, o, e1, e2⟩ := read_5 (d := std) hM.tabs hR hn
  have hh := hR.2.1
  unfold f_X11_world
  rw [if_neg (nI_pos (by omega)), hR.1, if_pos (nI_le hn (by omega)), e1, ob_s]
  cases hr : readP (tpN tp) n with
  | inl z =>
    obtain ⟨a, p, l⟩ := z
    rw [hr] at e2
    obtain ⟨f1, f2⟩ := e2
    obtain ⟨x, hx, hsx⟩ := f_copy_all stn o
    have hcx := f2.same hsx
    have hfg : f_X1_forget sth = some (oI (oI sth 2 0) 3 0) := rfl
    dsimp only
    rw [if_neg (show ¬ rdC (.inl (a, p, l)) = 0 by show ¬ (1 : Int32) = 0; decide), hx, ob_s, hfg, ob_s]
    exact ⟨t, x, o, _, by rw [hcx.1.2.1]; rfl, f1, hcx, Or.inr ⟨rfl, rfl⟩⟩
  | inr z =>
    obtain ⟨k, q⟩ := z
    rw [hr] at e2
    obtain ⟨f1, f2, f3, f4⟩ := e2
    dsimp only
    rw [if_pos (show rdC (.inr (k, q)) = 0 from rfl), f4]
    exact ⟨t, stn, o, sth, rfl, f1, hC, Or.inl ⟨rfl, rfl⟩⟩
theorem rdS_wf {s : Wst} {ic : Nat → Option Wd} (h : WFs s ic) (T : Nat → Nat) (n : Nat) : WFs (rdS s (readP T n)) ic := by
  have hw := read_wf T n
  cases hr : readP T n with
  | inl z =>
    rw [hr] at hw
    exact h.redo hw.1.w
  | inr z => exact h
/-! the answers agree: world -/
section AGW
variable {l : Launch} {G : mG} {a b ao : Nat}
theorem ag_world (hst : l.stackTraces = false) : Ag_world l G (LJ G a b ao) a b ao := by
  intro m p0 hJ
  obtain ⟨s, tp, hd, wr, wa, ic, tc, q, st, fo, ⟨ow, F, qt, rfl, rfl, N, hA, hC, hb, ho⟩, hR, hW⟩ := hJ
  obtain ⟨fs, hroot⟩ := N.root
  have hh := hR.2.2.1.2.1
  by_cases c : p0 < 0 ∨ nI hd < p0
  · obtain ⟨x, hF, h1, hX⟩ := world_no hR c
    have hk : ∀ (stt str stm stn std sth : OS), RDR str tp hd wr wa → MKR stm → CW stn s.1 → f_X11_world stt str stm stn std sth p0 = some (.inl 1) := fun stt str stm stn std sth g1 g2 g3 => by
      unfold f_X11_world
      rw [g1.1]
      by_cases c1 : p0 < 0
      · rw [if_pos c1]
      · rw [if_neg c1, if_neg (fun z => by
          have z2 := c.resolve_left c1
          rw [Int32.lt_iff_toInt_lt] at z2
          rw [Int32.le_iff_toInt_le] at z
          omega)]
    refine ⟨_, c_L_world hroot (n_X11_world (k := .inl 1) hst N hk) (fo := fo) (fun v1 m1 ⟨v, z, _⟩ => by cases z) (fun E m1 ⟨⟨j, z1, z2⟩, z3⟩ => by cases z1; exact z2), fun r m9 hp => ?_⟩
    rcases hp with ⟨rfl, v1, m1, ⟨v, z, -⟩, -⟩ | ⟨E, ⟨⟨j, z1, z2⟩, z3⟩, e4, e5⟩
    · cases z
    · subst e5
      subst z3
      obtain ⟨f1, f2, f3, f4, f5⟩ := (LR.ntp hA hC hb ho (NTP.rf N)).fin hX hW
      exact ⟨q, st, x, 0, fo, f1, f2, f3, hF, h1, f4, fun z => absurd z (by decide), f5⟩
  · obtain ⟨n, hn, rfl⟩ : ∃ n, n ≤ hd ∧ p0 = nI n := by
      rw [not_or] at c
      obtain ⟨c1, c2⟩ := c
      obtain ⟨n, h1, rfl⟩ := wb_of32 p0
      rcases Nat.lt_or_ge n (2 ^ 31) with d | d
      · refine ⟨n, ?_, rfl⟩
        rcases Nat.lt_or_ge hd n with e | e
        · exact absurd (nI_lt e d) c2
        · exact e
      · refine absurd ?_ c1
        rw [Int32.lt_iff_toInt_lt]
        show (BitVec.ofNat 32 n).toInt < 0
        rw [BitVec.toInt_eq_toNat_cond, BitVec.toNat_ofNat]
        split <;> omega
    obtain ⟨x, hF, h1, hX⟩ := world_12 hR N.byte hn
    refine ⟨_, c_L_world hroot (n_X11_world2 (v := (rdV (readP (tpN tp) n), rdS s (readP (tpN tp) n), rdW (readP (tpN tp) n), rdA (readP (tpN tp) n))) hst N (world_11 hn)) (fo := fo) (fun v1 m1 z => (LR.ntp hA hC hb ho z.2).out1) (fun E m1 z => z.elim), fun r m9 hp => ?_⟩
    rcases hp with ⟨rfl, v1, m1, ⟨rfl, e4⟩, rfl⟩ | ⟨E, z, -⟩
    · obtain ⟨f1, f2, f3, f4, f5⟩ := (LR.ntp hA hC hb ho e4).out (fo' := vp_updL fo 0 ((rdV (readP (tpN tp) n)).toInt64)) |>.fin hX (rdS_wf hW (tpN tp) n)
      exact ⟨q, st, x, _, _, f1, f2, f3, hF, h1, f4, fun _ => by simp [vp_updL], f5⟩
    · exact z.elim
end AGW
