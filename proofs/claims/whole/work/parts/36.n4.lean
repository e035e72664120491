section N4
variable {l : Launch} {G : mG} {ow : Nat → Nat} {m : mM} {qt : Nat → Nat} {s : Wst} {tp : Nat → Int32} {hd : Nat} {wr wa : Int32} {ic : Nat → Option Wd} {tc : Nat → Option (Nat × List Int64)} {F S : Nat → Prop}
theorem n_X11_restore (hst : l.stackTraces = false) (N : NT G ow m qt s tp hd wr wa ic tc F) {i : Int32} : xQ l G yX11_restore cX11_restore 2 none rm_X11_restore [.ref (qt 10), .int i] m (mQv G (fun m' => ∃ (j : Nat) (w : Wd), i = nI j ∧ j < 3 ∧ ic j = some w ∧ NTP G ow m F m' qt (w, [], []) tp hd wr wa ic tc)) (fun E m' => (∃ k, E = exN k ∧ NoC 3 ic i k) ∧ m' = m) := by
  obtain ⟨qn, qd, qh, S, xi, xt, fi, ft, qr, qm, qc, qw, qk, qu, str, stm, stc, stw, stk, stu, hC, hA, hB, hc, hD, rfl⟩ := N
  obtain ⟨a1, a2, a3, a4⟩ := id hA
  obtain ⟨stt, stn, std, fb, fa, bs, as, hT, hn, hw, -, hS, hbw, haw, -, hk9, hSS⟩ := id hC
  rcases at_or (N := 3) (by decide) fi i with ⟨E, hE⟩ | ⟨j, a, rfl, hj, hfj⟩
  · exact (t_X11_restore hst hT hk9.1 a1 a2 hE (Qc := mQv G (fun _ => False))).mono (mQv.mono (fun _ z => z.elim)) (fun E m' ⟨h1, h2⟩ => ⟨h1.c (by decide) a3.1, h2⟩)
  · obtain ⟨qy, sty, w, e1, rfl, hy, ht⟩ := a3.2 _ _ hfj
    obtain ⟨stn2, std, sth, hn2, hw2, hd2, hh, e2, e3, e4, ⟨s1, s2, s3⟩, hre⟩ := core_redo hC
    obtain ⟨x, hx, hsx⟩ := f_copy_all stn sty
    have hyn : qy 5 ≠ qn 5 := fun z => a4 _ _ hfj (by rw [z]; exact s1)
    have hap := oap4 (hT.dis hn (hT.ne hn (by decide))) (hT.dis hh (hT.ne hh (by decide))) (hT.dis hy (hT.ne hy (by decide))) (hn.dis hh (hn.ne hh (by decide))) (hn.dis hy (fun z => hyn z.symm)) (hh.dis hy (hh.ne hy (by decide)))
    have hF : f_X11_restore stt stn sth sty (nI j) = some (.inr (x, oI (oI sth 2 0) 3 0)) := by
      unfold f_X11_restore
      rw [hx]
      rfl
    have hcell : (oset LX11 G qt stt (oset LX10 G qn stn (oset LX1 G qh sth (oset LX10 G qy sty m)))) xi = some (aQ G 4 3 fi) := by rw [hy.eq, hh.eq, hn.eq, hT.eq]; exact a2.1.1
    refine (xt4 hT hn hh hy (c_X11_restore hst hT.1 hn.1 hh.1 hy.1 hap hk9.1 hk9.2.2.1 a1 hcell hj hfj rfl hF)).mono (mQv.mono (fun m' ⟨z, h1, h2⟩ => ?_)) (fun E m' ⟨k, h1, h2, h3⟩ => by cases h1)
    cases h1
    refine ⟨j, w, rfl, hj, e1, ?_⟩
    have hP := hre x std (oI (oI sth 2 0) 3 0) w [] [] (ht.same hsx) (by rw [oI_ne _ (by decide), oI_self]; rfl) (by rw [oI_self]; rfl) (Or.inr ⟨rfl, rfl⟩)
    have hd3 := (hh.fA (x := oI (oI sth 2 0) 3 0)).1 _ _ _ (hd2.ne hh (by decide)) hd2
    have hn3 := (hh.fA (x := oI (oI sth 2 0) 3 0)).1 _ _ _ (hn.ne hh (by decide)) hn
    rw [hd3.eq] at hP
    have hT1 := (hn3.fA (x := x)).1 _ _ _ (hT.ne hn (by decide)) ((hh.fA (x := oI (oI sth 2 0) 3 0)).1 _ _ _ (hT.ne hh (by decide)) hT)
    rw [hy.eq] at h2
    dsimp only at h2
    rw [hT1.eq] at h2
    rw [h2]
    exact NT.core (s' := (_, _, _)) hC hA hB hc hD hP
theorem n_X11_like (hst : l.stackTraces = false) (N : NT G ow m qt s tp hd wr wa ic tc F) {i : Int32} {k : Wd → Int32} (hk : ∀ (stt stn stu sty : OS) (w : Wd), CW stn s.1 → CW sty w → ∃ x, f_X11_like stt stn stu sty i = some (.inr (k w, x))) : xQ l G yX11_like cX11_like 3 (some FieldType.int) rm_X11_like [.ref (qt 10), .int i] m (mQi G (fun r m' => ∃ (j : Nat) (w : Wd), i = nI j ∧ j < 3 ∧ ic j = some w ∧ r = k w ∧ NTP G ow m F m' qt s tp hd wr wa ic tc)) (fun E m' => (∃ k, E = exN k ∧ NoC 3 ic i k) ∧ m' = m) := by
  obtain ⟨qn, qd, qh, S, xi, xt, fi, ft, qr, qm, qc, qw, qk, qu, str, stm, stc, stw, stk, stu, hC, hA, hB, hc, hD, rfl⟩ := N
  obtain ⟨a1, a2, a3, a4⟩ := id hA
  obtain ⟨d1, d2, d3, hu, f1, f2, f3, f4⟩ := id hD
  obtain ⟨stt, stn, std, fb, fa, bs, as, hT, hn, hw, -, hS, hbw, haw, -, hk9, hSS⟩ := id hC
  have hSn : S (qn 5) := by rw [hSS]; exact Or.inr (Or.inl rfl)
  rcases at_or (N := 3) (by decide) fi i with ⟨E, hE⟩ | ⟨j, a, rfl, hj, hfj⟩
  · exact (t_X11_like hst hT hk9.1 a1 a2 hE (Qc := mQi G (fun _ _ => False))).mono (mQi.mono (fun _ _ z => z.elim)) (fun E m' ⟨h1, h2⟩ => ⟨h1.c (by decide) a3.1, h2⟩)
  · obtain ⟨qy, sty, w, e1, rfl, hy, ht⟩ := a3.2 _ _ hfj
    have hyn : qy 5 ≠ qn 5 := fun z => a4 _ _ hfj (by rw [z]; exact hSn)
    have hap := oap4 (hT.dis hn (hT.ne hn (by decide))) (hT.dis hu (hT.ne hu (by decide))) (hT.dis hy (hT.ne hy (by decide))) (hn.dis hu (hn.ne hu (by decide))) (hn.dis hy (fun z => hyn z.symm)) (hu.dis hy (hu.ne hy (by decide)))
    obtain ⟨x, hF⟩ := hk stt stn stu sty w hw ht
    have hcell : (oset LX11 G qt stt (oset LX10 G qn stn (oset LX8 G qu stu (oset LX10 G qy sty m)))) xi = some (aQ G 4 3 fi) := by rw [hy.eq, hu.eq, hn.eq, hT.eq]; exact a2.1.1
    refine (xt4 hT hn hu hy (c_X11_like hst hT.1 hn.1 hu.1 hy.1 hap hk9.1 f4 a1 hcell hj hfj rfl hF)).mono (mQi.mono (fun r m' ⟨z, h1, h2, h3⟩ => ?_)) (fun E m' ⟨k, h1, h2, h3⟩ => by cases h1)
    cases h1
    have hT1 := (hu.fA (x := x)).1 _ _ _ (hT.ne hu (by decide)) hT
    have hn1 := (hu.fA (x := x)).1 _ _ _ (hn.ne hu (by decide)) hn
    rw [hy.eq] at h3
    dsimp only at h2 h3
    rw [hn1.eq, hT1.eq] at h3
    rw [h3]
    exact ⟨j, w, rfl, hj, e1, h2, NT.sc_LX8 hC hA hB hc hD⟩
/-- an act has changed what the Core has, and the Reader has read -/
theorem NT.core2 {qn qd qh : Nat → Nat} {S : Nat → Prop} {xi xt : Nat} {fi ft : Nat → Option Nat} {qr qm qc qw qk qu : Nat → Nat} {str stm stc stw stk stu yr : OS} (hC : Core G qt qn qd qh ow m s.1 s.2.1 s.2.2 S) (hA : qt 4 = xi ∧ RowT LX10 4 3 G ow m xi fi ∧ IMS G ow m fi ic ∧ ∀ j a, fi j = some a → ¬ S a) (hB : qt 5 = xt ∧ RowT LX7 5 4 G ow m xt ft ∧ TRS G ow m ft tc)
    (hc : At G ow m LX5 qr str ∧ At G ow m LX3 qm stm ∧ qt 0 = qr 10 ∧ qr 0 = qm 3 ∧ RDR str tp hd wr wa ∧ MKR stm) (hD : At G ow m LX0 qc stc ∧ At G ow m LX9 qw stw ∧ At G ow m LX4 qk stk ∧ At G ow m LX8 qu stu ∧ qt 6 = qc 11 ∧ qt 7 = qw 7 ∧ qt 8 = qk 3 ∧ qt 9 = qu 15)
    {m' : mM} {s' : Wst} (hP : CoreP G qt qn qd qh ow m S m' s'.1 s'.2.1 s'.2.2) {tp' : Nat → Int32} {hd' : Nat} {wr' wa' : Int32} (hR : RDR yr tp' hd' wr' wa') : NTP G ow m (fun r => S r ∨ r = qt 10 ∨ r = xi ∨ (∃ j, fi j = some r) ∨ r = xt ∨ (∃ j, ft j = some r) ∨ r = qr 10 ∨ r = qm 3 ∨ r = qc 11 ∨ r = qw 7 ∨ r = qk 3 ∨ r = qu 15) (oset LX5 G qr yr m') qt s' tp' hd' wr' wa' ic tc := by
  obtain ⟨a1, a2, a3, a4⟩ := hA
  obtain ⟨b1, b2, b3⟩ := hB
  obtain ⟨c1, c2, c3, c4, c5, c6⟩ := hc
  obtain ⟨d1, d2, d3, d4, d5⟩ := hD
  obtain ⟨ow1, S1, e1, e2, e3⟩ := hP
  have g1 : At G ow1 m' LX5 qr str := e2.1 _ _ _ (hC.notS c1 (by decide) (by decide)) c1
  have hF : FrA G (fun r => r = qr 10) ow1 m' ow1 (oset LX5 G qr yr m') := g1.fA
  have hF2 : FrA G (fun r => S r ∨ r = qr 10) ow m ow1 (oset LX5 G qr yr m') := (e2.mono (fun _ z => Or.inl z)).tr hF (fun _ z => Or.inl (Or.inr z))
  have hTr : ∀ {L : LY} {q : Nat → Nat} {st : OS}, At G ow m L q st → L.1 ≠ LX10.1 → L.1 ≠ LX1.1 → L.1 ≠ LX5.1 → At G ow1 (oset LX5 G qr yr m') L q st := fun hA h1 h2 h3 => hF2.1 _ _ _ (fun z => z.elim (hC.notS hA h1 h2) (hA.ne c1 h3)) hA
  have hft : ∀ j a, ft j = some a → ¬ (S a ∨ a = qr 10) := fun j a hj z => by
    obtain ⟨q, st, e, hA⟩ := b2.2.1 j a hj
    rcases z with z | z
    · exact hC.notS hA (by decide) (by decide) (by rw [e]; exact z)
    · exact hA.ne c1 (by decide) (e.trans z)
  have hfi : ∀ j a, fi j = some a → ¬ (S a ∨ a = qr 10) := fun j a hj z => by
    obtain ⟨q, st, e, hA⟩ := a2.2.1 j a hj
    rcases z with z | z
    · exact a4 j a hj z
    · exact hA.ne c1 (by decide) (e.trans z)
  have hT : At G ow m LX11 qt hC.choose := by
    obtain ⟨-, -, -, -, -, -, h, -⟩ := hC.choose_spec
    exact h
  have hT1 := e2.1 _ _ _ (hC.notS hT (by decide) (by decide)) hT
  refine ⟨ow1, _, ⟨qn, qd, qh, S1, xi, xt, fi, ft, qr, qm, qc, qw, qk, qu, yr, stm, stc, stw, stk, stu, e1.frA hF (fun r z y => e1.notS g1 (by decide) (by decide) (by rw [y] at z; exact z)) (hT.ne c1 (by decide)), ⟨a1, a2.frA hF2 (fun z => z.elim (hC.notSC a2.1 (by decide)) (fun z => c1.neC a2.1 z.symm)) hfi, a3.frA hF2 hfi, fun j a hj z => ?_⟩, ⟨b1, b2.frA hF2 (fun z => z.elim (hC.notSC b2.1 (by decide)) (fun z => c1.neC b2.1 z.symm)) hft, b3.frA hF2 hft⟩, ⟨g1.self, hTr c2 (by decide) (by decide) (by decide), c3, c4, hR, c6⟩, ⟨hTr d1 (by decide) (by decide) (by decide), hTr d2 (by decide) (by decide) (by decide), hTr d3 (by decide) (by decide) (by decide), hTr d4 (by decide) (by decide) (by decide), d5⟩, rfl⟩, hF2.mono (fun a z => ?_), fun r z => ?_⟩
  · rcases e3 a z with h | h
    · exact a4 j a hj h
    · obtain ⟨q, st, e, hA⟩ := a2.2.1 j a hj
      have := hA.root
      rw [e, h] at this
      cases this
  · rcases z with z | z
    · exact Or.inl z
    · exact Or.inr (Or.inr (Or.inr (Or.inr (Or.inr (Or.inr (Or.inl z))))))
  · rcases z with z | z
    · rcases e3 r z with h | h
      · exact Or.inl (Or.inl h)
      · exact Or.inr h
    · exact Or.inl (Or.inr z)
theorem n_X11_world (hst : l.stackTraces = false) (N : NT G ow m qt s tp hd wr wa ic tc F) {n : Int32} {k : Nat ⊕ (Int32 × Wst × Int32 × Int32)}
    (hk : ∀ (stt str stm stn std sth : OS), RDR str tp hd wr wa → MKR stm → CW stn s.1 → match k with
      | .inl j => f_X11_world stt str stm stn std sth n = some (.inl j)
      | .inr v => ∃ yr yn yd, f_X11_world stt str stm stn std sth n = some (.inr (v.1, yr, yn, yd, if v.2.1.2 = s.2 then sth else oI (oI sth 2 0) 3 0)) ∧ RDR yr tp 0 v.2.2.1 v.2.2.2 ∧ CW yn v.2.1.1 ∧ (v.2.1.2 = s.2 ∨ v.2.1.2 = ([], []))) :
    xQ l G yX11_world cX11_world 2 (some FieldType.int) rm_X11_world [.ref (qt 10), .int n] m (mQi G (fun r m' => ∃ v, k = .inr v ∧ r = v.1 ∧ NTP G ow m F m' qt v.2.1 tp 0 v.2.2.1 v.2.2.2 ic tc)) (fun E m' => (∃ j, k = .inl j ∧ E = exN j) ∧ m' = m) := by
  obtain ⟨qn, qd, qh, S, xi, xt, fi, ft, qr, qm, qc, qw, qk, qu, str, stm, stc, stw, stk, stu, hC, hA, hB, hc, hD, rfl⟩ := N
  obtain ⟨c1, c2, c3, c4, c5, c6⟩ := id hc
  obtain ⟨stt, stn0, std0, fb, fa, bs, as, hT, hn0, hw0, -, hS, hbw, haw, -, hk9, hSS⟩ := id hC
  obtain ⟨stn, std, sth, hn, hw, hd2, hh, e2, e3, e4, ⟨s1, s2, s3⟩, hre⟩ := core_redo hC
  have hap : oap [(LX11, qt), (LX5, qr), (LX3, qm), (LX10, qn), (LX10, qd), (LX1, qh)] := by
    refine oap_cons ?_ (oap_cons ?_ (oap4 (c2.dis hn (c2.ne hn (by decide))) (c2.dis hd2 (c2.ne hd2 (by decide))) (c2.dis hh (c2.ne hh (by decide))) (hn.dis hd2 (fun z => e4 z.symm)) (hn.dis hh (hn.ne hh (by decide))) (hd2.dis hh (hd2.ne hh (by decide)))))
    · intro x hx
      simp only [List.mem_cons, List.not_mem_nil, or_false] at hx
      rcases hx with rfl | rfl | rfl | rfl | rfl
      · show odis LX11 qt LX5 qr; exact hT.dis c1 (hT.ne c1 (by decide))
      · show odis LX11 qt LX3 qm; exact hT.dis c2 (hT.ne c2 (by decide))
      · show odis LX11 qt LX10 qn; exact hT.dis hn (hT.ne hn (by decide))
      · show odis LX11 qt LX10 qd; exact hT.dis hd2 (hT.ne hd2 (by decide))
      · show odis LX11 qt LX1 qh; exact hT.dis hh (hT.ne hh (by decide))
    · intro x hx
      simp only [List.mem_cons, List.not_mem_nil, or_false] at hx
      rcases hx with rfl | rfl | rfl | rfl
      · show odis LX5 qr LX3 qm; exact c1.dis c2 (c1.ne c2 (by decide))
      · show odis LX5 qr LX10 qn; exact c1.dis hn (c1.ne hn (by decide))
      · show odis LX5 qr LX10 qd; exact c1.dis hd2 (c1.ne hd2 (by decide))
      · show odis LX5 qr LX1 qh; exact c1.dis hh (c1.ne hh (by decide))
  have H6 : ∀ {Qc : Array Value → State → Outcome → State → Prop} {px : String → mM → Prop}, xQ l G yX11_world cX11_world 2 (some FieldType.int) rm_X11_world [.ref (qt 10), .int n] (oset LX11 G qt stt (oset LX5 G qr str (oset LX3 G qm stm (oset LX10 G qn stn (oset LX10 G qd std (oset LX1 G qh sth m)))))) Qc px → xQ l G yX11_world cX11_world 2 (some FieldType.int) rm_X11_world [.ref (qt 10), .int n] m Qc px := fun h => by
    rw [hh.eq, hd2.eq, hn.eq, c2.eq, c1.eq, hT.eq] at h
    exact h
  have hK := hk stt str stm stn std sth c5 c6 hw
  cases k with
  | inl j =>
    refine (H6 (c_X11_world hst hT.1 c1.1 c2.1 hn.1 hd2.1 hh.1 hap c3 c4 hk9.1 hk9.2.1 hk9.2.2.1 hK)).mono (mQi.mono (fun r m' ⟨z, h1, h2, h3⟩ => by cases h1)) (fun E m' ⟨k, h1, h2, h3⟩ => ?_)
    rw [hh.eq, hd2.eq, hn.eq, c2.eq, c1.eq, hT.eq] at h3
    cases h1
    exact ⟨⟨_, rfl, h2⟩, h3⟩
  | inr v =>
    obtain ⟨yr, yn, yd, hF, hR, hY, hor⟩ := hK
    refine (H6 (c_X11_world hst hT.1 c1.1 c2.1 hn.1 hd2.1 hh.1 hap c3 c4 hk9.1 hk9.2.1 hk9.2.2.1 hF)).mono (mQi.mono (fun r m' ⟨z, h1, h2, h3⟩ => ⟨v, rfl, ?_⟩)) (fun E m' ⟨k, h1, h2, h3⟩ => by cases h1)
    cases h1
    dsimp only at h2 h3
    refine ⟨h2, ?_⟩
    have hP := hre yn yd (if v.2.1.2 = s.2 then sth else oI (oI sth 2 0) 3 0) v.2.1.1 v.2.1.2.1 v.2.1.2.2 hY (by
      split
      · rename_i h; rw [h]; exact e2
      · rename_i h
        rcases hor with h4 | h4
        · exact absurd h4 h
        · rw [h4, oI_ne _ (by decide), oI_self]; rfl) (by
      split
      · rename_i h; rw [h]; exact e3
      · rename_i h
        rcases hor with h4 | h4
        · exact absurd h4 h
        · rw [h4, oI_self]; rfl) (by
      rcases hor with h4 | h4
      · exact Or.inl ⟨by rw [h4], by rw [h4]⟩
      · exact Or.inr ⟨by rw [h4], by rw [h4]⟩)
    generalize hm1 : oset LX10 G qn yn (oset LX10 G qd yd (oset LX1 G qh (if v.2.1.2 = s.2 then sth else oI (oI sth 2 0) 3 0) m)) = m1 at hP h3
    have hfr : ∀ {L : LY} {q : Nat → Nat} {st : OS}, At G ow m L q st → L.1 ≠ LX10.1 → L.1 ≠ LX1.1 → At G ow m1 L q st := fun hA2 hx1 hx2 => by
      rw [← hm1]
      have f1 := (hh.fA (x := if v.2.1.2 = s.2 then sth else oI (oI sth 2 0) 3 0))
      have f2 := ((f1.1 _ _ _ (hd2.ne hh (by decide)) hd2).fA (x := yd))
      have hn3 := f2.1 LX10 qn stn (fun z => e4 z.symm) (f1.1 LX10 qn stn (hn.ne hh (by decide)) hn)
      exact (hn3.fA (x := yn)).1 _ _ _ (hA2.ne hn hx1) (f2.1 _ _ _ (hA2.ne hd2 hx1) (f1.1 _ _ _ (hA2.ne hh hx2) hA2))
    have cr1 := hfr c1 (by decide) (by decide)
    have cm1 := hfr c2 (by decide) (by decide)
    have ct1 := hfr hT (by decide) (by decide)
    rw [cm1.eq] at h3
    have ct2 := (cr1.fA (x := yr)).1 _ _ _ (ct1.ne cr1 (by decide)) ct1
    rw [ct2.eq] at h3
    rw [h3]
    exact NT.core2 hC hA hB hc hD hP hR
end N4
