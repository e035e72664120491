section N3
variable {l : Launch} {G : mG} {ow : Nat → Nat} {m : mM} {qt : Nat → Nat} {s : Wst} {tp : Nat → Int32} {hd : Nat} {wr wa : Int32} {ic : Nat → Option Wd} {tc : Nat → Option (Nat × List Int64)} {F S : Nat → Prop}
/-- a tray has got other numbers -/
theorem NT.trayed (N : NT G ow m qt s tp hd wr wa ic tc F) {j : Nat} {ft : Nat → Option Nat} {xt : Nat} (hxt : qt 5 = xt) (hR : RowT LX7 5 4 G ow m xt ft) {qy : Nat → Nat} {sty x : OS} (hy : At G ow m LX7 qy sty) (hfj : ft j = some (qy 3)) {so : Nat} {row : List Int64} (hx : TrC x so row) : NTP G ow m F (oset LX7 G qy x m) qt s tp hd wr wa ic (va_up tc j (some (so, row))) := by
  obtain ⟨qn, qd, qh, S, xi, xt2, fi, ft2, qr, qm, qc, qw, qk, qu, str, stm, stc, stw, stk, stu, hC, ⟨a1, a2, a3, a4⟩, ⟨b1, b2, b3⟩, ⟨c1, c2, c3, c4, c5, c6⟩, ⟨d1, d2, d3, d4, d5⟩, rfl⟩ := N
  obtain ⟨stt, stn, std, fb, fa, bs, as, hT, hn, hw, -, hS, hbw, haw, -, hk9, hSS⟩ := id hC
  have e1 : xt2 = xt := b1.symm.trans hxt
  subst e1
  have e2 : ft2 = ft := by
    have h := b2.1.1.symm.trans hR.1.1
    injection h with h
    injection h with h
    injection h with _ h
    injection h with _ h
    injection h with h
    injection h with h
    injection h with h
    injection h
  subst e2
  have hF : FrA G (fun r => r = qy 3) ow m ow (oset LX7 G qy x m) := hy.fA
  have hfi : ∀ k a, fi k = some a → a ≠ qy 3 := fun k a hk z => by
    obtain ⟨q2, st2, e, hA2⟩ := a2.2.1 k a hk
    exact hA2.ne hy (by decide) (e.trans z)
  have hne : ∀ k a, ft2 k = some a → k ≠ j → a ≠ qy 3 := fun k a hk hkj z => hkj (b2.2.2 _ _ _ hk (by rw [z]; exact hfj))
  refine ⟨ow, _, ⟨qn, qd, qh, S, xi, xt2, fi, ft2, qr, qm, qc, qw, qk, qu, str, stm, stc, stw, stk, stu, hC.frA hF (fun r z y => hC.notS hy (by decide) (by decide) (by rw [y] at z; exact z)) (hT.ne hy (by decide)), ⟨a1, a2.frA hF (fun z => hy.neC a2.1 z.symm) hfi, a3.frA hF hfi, a4⟩, ⟨b1, (rs_old b2 hfj hy x).1, fun k hk => ?_, fun k a hk => ?_⟩, ⟨hF.1 _ _ _ (c1.ne hy (by decide)) c1, hF.1 _ _ _ (c2.ne hy (by decide)) c2, c3, c4, c5, c6⟩, ⟨hF.1 _ _ _ (d1.ne hy (by decide)) d1, hF.1 _ _ _ (d2.ne hy (by decide)) d2, hF.1 _ _ _ (d3.ne hy (by decide)) d3, hF.1 _ _ _ (d4.ne hy (by decide)) d4, d5⟩, rfl⟩, hF.mono (fun a z => ?_), fun r z => Or.inl z⟩
  · by_cases hkj : k = j
    · subst hkj; rw [hfj] at hk; cases hk
    · simp only [va_up, if_neg hkj]; exact b3.1 k hk
  · by_cases hkj : k = j
    · subst hkj
      rw [hfj] at hk
      cases hk
      exact ⟨qy, x, so, row, by simp only [va_up, if_true], rfl, hy.self, hx⟩
    · obtain ⟨q2, st2, so2, row2, e1, e2, e3, e4⟩ := b3.2 k a hk
      exact ⟨q2, st2, so2, row2, by simp only [va_up, if_neg hkj]; exact e1, e2, hF.1 _ _ _ (by show q2 3 ≠ _; rw [e2]; exact hne k a hk hkj) e3, e4⟩
  · exact Or.inr (Or.inr (Or.inr (Or.inr (Or.inr (Or.inl ⟨j, by rw [z]; exact hfj⟩)))))
theorem n_X11_write (hst : l.stackTraces = false) (N : NT G ow m qt s tp hd wr wa ic tc F) {i p : Int32} {v : Int64} : xQ l G yX11_write cX11_write 6 (some FieldType.long) rm_X11_write [.ref (qt 10), .int i, .int p, .long v] m (mQl G (fun r m' => ∃ (j so q : Nat) (row : List Int64), i = nI j ∧ j < 4 ∧ tc j = some (so, row) ∧ so ≤ 3 ∧ row.length ≤ 40 ∧ p = nI q ∧ q < row.length ∧ r = cutM so v ∧ NTP G ow m F m' qt s tp hd wr wa ic (va_up tc j (some (so, row.set q (cutM so v)))))) (fun E m' => (∃ k, E = exN k ∧ (NoC 4 tc i k ∨ (k = 3 ∧ ∃ (j so : Nat) (row : List Int64), i = nI j ∧ j < 4 ∧ tc j = some (so, row) ∧ row.length ≤ 40 ∧ (p < 0 ∨ nI row.length ≤ p)))) ∧ m' = m) := by
  have N0 := N
  obtain ⟨qn, qd, qh, S, xi, xt, fi, ft, qr, qm, qc, qw, qk, qu, str, stm, stc, stw, stk, stu, hC, hA, ⟨b1, b2, b3⟩, hc, hD, rfl⟩ := N
  obtain ⟨stt, stn, std, fb, fa, bs, as, hT, hn, hw, -, hS, hbw, haw, -, hk9, hSS⟩ := id hC
  rcases at_or (N := 4) (by decide) ft i with ⟨E, hE⟩ | ⟨j, a, rfl, hj, hfj⟩
  · refine (t_X11_write hst hT hk9.1 b1 b2 hE (Qc := mQl G (fun _ _ => False))).mono (mQl.mono (fun _ _ z => z.elim)) (fun E m' ⟨h1, h2⟩ => ⟨?_, h2⟩)
    obtain ⟨k, e1, e2⟩ := h1.c (by decide) b3.1
    exact ⟨k, e1, Or.inl e2⟩
  · obtain ⟨qy, sty, so, row, e1, rfl, hy, ht⟩ := b3.2 _ _ hfj
    have hap := oap2 (hT.dis hy (hT.ne hy (by decide)))
    have hcell : (oset LX11 G qt stt (oset LX7 G qy sty m)) xt = some (aQ G 5 4 ft) := by rw [hy.eq, hT.eq]; exact b2.1.1
    rcases write_7 (st := stt) ht (nI j) p v with ⟨q, x, rfl, hq, hF, hx⟩ | ⟨hp, hF⟩
    · refine (xt2 hT hy (c_X11_write hst hT.1 hy.1 hap b1 hcell hj hfj rfl hF)).mono (mQl.mono (fun r m' ⟨z, h1, h2, h3⟩ => ?_)) (fun E m' ⟨k, h1, h2, h3⟩ => by cases h1)
      cases h1
      have hT1 := (hy.fA (x := x)).1 _ _ _ (hT.ne hy (by decide)) hT
      dsimp only at h2 h3
      rw [hT1.eq] at h3
      rw [h3]
      exact ⟨j, so, q, row, rfl, hj, e1, ht.2.1, ht.2.2.2.1, rfl, hq, h2, N0.trayed b1 b2 hy hfj hx⟩
    · refine (xt2 hT hy (c_X11_write hst hT.1 hy.1 hap b1 hcell hj hfj rfl hF)).mono (mQl.mono (fun r m' ⟨z, h1, h2, h3⟩ => by cases h1)) (fun E m' ⟨k, h1, h2, h3⟩ => ?_)
      cases h1
      rw [hy.eq, hT.eq] at h3
      exact ⟨⟨3, h2, Or.inr ⟨rfl, j, so, row, rfl, hj, e1, ht.2.2.2.1, hp⟩⟩, h3⟩
theorem n_X11_pour (hst : l.stackTraces = false) (N : NT G ow m qt s tp hd wr wa ic tc F) {i : Int32} : xQ l G yX11_pour cX11_pour 5 (some FieldType.int) rm_X11_pour [.ref (qt 10), .int i] m (mQi G (fun r m' => ∃ (j so : Nat) (row : List Int64), i = nI j ∧ j < 4 ∧ tc j = some (so, row) ∧ so ≤ 3 ∧ row.length ≤ 40 ∧ r = nI (min row.length s.1.2.length) ∧ NTP G ow m F m' qt s tp hd wr wa ic (va_up tc j (some (so, pourM so row s.1.2))))) (fun E m' => (∃ k, E = exN k ∧ NoC 4 tc i k) ∧ m' = m) := by
  have N0 := N
  obtain ⟨qn, qd, qh, S, xi, xt, fi, ft, qr, qm, qc, qw, qk, qu, str, stm, stc, stw, stk, stu, hC, hA, ⟨b1, b2, b3⟩, hc, hD, rfl⟩ := N
  obtain ⟨stt, stn, std, fb, fa, bs, as, hT, hn, hw, -, hS, hbw, haw, -, hk9, hSS⟩ := id hC
  rcases at_or (N := 4) (by decide) ft i with ⟨E, hE⟩ | ⟨j, a, rfl, hj, hfj⟩
  · exact (t_X11_pour hst hT hk9.1 b1 b2 hE (Qc := mQi G (fun _ _ => False))).mono (mQi.mono (fun _ _ z => z.elim)) (fun E m' ⟨h1, h2⟩ => ⟨h1.c (by decide) b3.1, h2⟩)
  · obtain ⟨qy, sty, so, row, e1, rfl, hy, ht⟩ := b3.2 _ _ hfj
    have hap := oap3 (hT.dis hn (hT.ne hn (by decide))) (hT.dis hy (hT.ne hy (by decide))) (hn.dis hy (hn.ne hy (by decide)))
    have hcell : (oset LX11 G qt stt (oset LX10 G qn stn (oset LX7 G qy sty m))) xt = some (aQ G 5 4 ft) := by rw [hy.eq, hn.eq, hT.eq]; exact b2.1.1
    obtain ⟨x, hF, hx⟩ := pour_7 (st := stt) hw ht (nI j)
    refine (xt3 hT hn hy (c_X11_pour hst hT.1 hn.1 hy.1 hap hk9.1 b1 hcell hj hfj rfl hF)).mono (mQi.mono (fun r m' ⟨z, h1, h2, h3⟩ => ?_)) (fun E m' ⟨k, h1, h2, h3⟩ => by cases h1)
    cases h1
    have hT1 := (hy.fA (x := x)).1 _ _ _ (hT.ne hy (by decide)) hT
    have hn1 := (hy.fA (x := x)).1 _ _ _ (hn.ne hy (by decide)) hn
    dsimp only at h2 h3
    rw [hn1.eq, hT1.eq] at h3
    rw [h3]
    exact ⟨j, so, row, rfl, hj, e1, ht.2.1, ht.2.2.2.1, h2, N0.trayed b1 b2 hy hfj hx⟩
/-- the world is another one, and the History may be forgotten -/
theorem core_redo {qn qd qh : Nat → Nat} {w : Wd} {bw aw : List Wd} (hC : Core G qt qn qd qh ow m w bw aw S) : ∃ (stn std sth : OS), At G ow m LX10 qn stn ∧ CW stn w ∧ At G ow m LX10 qd std ∧ At G ow m LX1 qh sth ∧ sth.1 2 = nI bw.length ∧ sth.1 3 = nI aw.length ∧ qd 5 ≠ qn 5 ∧ (S (qn 5) ∧ S (qd 5) ∧ S (qh 4)) ∧
    ∀ (x z y : OS) (w' : Wd) (bw' aw' : List Wd), CW x w' → y.1 2 = nI bw'.length → y.1 3 = nI aw'.length → (bw' = bw ∧ aw' = aw ∨ bw' = [] ∧ aw' = []) → CoreP G qt qn qd qh ow m S (oset LX10 G qn x (oset LX10 G qd z (oset LX1 G qh y m))) w' bw' aw' := by
  obtain ⟨stt, stn, std, fb, fa, bs, as, hT, hn, hw, hd, ⟨⟨sth, hh, e2, e3⟩, hRb, hRa, hHb, hHa, k1, k2, k3⟩, hbw, haw, hx, hk, rfl⟩ := hC
  refine ⟨stn, std, sth, hn, hw, hd, hh, by rw [e2, hbw.1], by rw [e3, haw.1], hk.2.2.2, ⟨Or.inr (Or.inl rfl), Or.inr (Or.inr rfl), Or.inl (Or.inl rfl)⟩, fun x z y w' bw' aw' hx' hy2 hy3 hor => ?_⟩
  have hF1 : FrA G (fun r => r = qh 4) ow m ow (oset LX1 G qh y m) := hh.fA
  have hd1 := hF1.1 _ _ _ (hd.ne hh (by decide)) hd
  have hF2 : FrA G (fun r => r = qd 5) ow _ ow (oset LX10 G qd z (oset LX1 G qh y m)) := hd1.fA
  have hn2 := hF2.1 _ _ _ (fun z => hk.2.2.2 z.symm) (hF1.1 _ _ _ (hn.ne hh (by decide)) hn)
  have hF3 : FrA G (fun r => r = qn 5) ow _ ow (oset LX10 G qn x (oset LX10 G qd z (oset LX1 G qh y m))) := hn2.fA
  have hF : FrA G (fun r => r = qh 4 ∨ r = qd 5 ∨ r = qn 5) ow m ow (oset LX10 G qn x (oset LX10 G qd z (oset LX1 G qh y m))) :=
    ((hF1.mono (fun _ z => Or.inl z)).tr hF2 (fun _ z => Or.inl (Or.inr (Or.inl z)))).tr hF3 (fun _ z => Or.inl (Or.inr (Or.inr z)))
  have hr : ∀ {n a : Nat} {f : Nat → Option Nat}, Row G ow m n a f → ¬ (a = qh 4 ∨ a = qd 5 ∨ a = qn 5) := fun h z => by
    rcases z with z | z | z
    · exact hh.neC h.1 z.symm
    · exact hd.neC h.1 z.symm
    · exact hn.neC h.1 z.symm
  have hfb : ∀ i a, fb i = some a → ¬ (a = qh 4 ∨ a = qd 5 ∨ a = qn 5) := fun i a hi z => by
    rcases z with z | z | z
    · exact (hRb.2.1 i a hi).neAt hh (by decide) z
    · exact (hx i).2.2.1 (by rw [hi, z])
    · exact (hx i).1 (by rw [hi, z])
  have hfa : ∀ i a, fa i = some a → ¬ (a = qh 4 ∨ a = qd 5 ∨ a = qn 5) := fun i a hi z => by
    rcases z with z | z | z
    · exact (hRa.2.1 i a hi).neAt hh (by decide) z
    · exact (hx i).2.2.2 (by rw [hi, z])
    · exact (hx i).2.1 (by rw [hi, z])
  have hh3 : At G ow (oset LX10 G qn x (oset LX10 G qd z (oset LX1 G qh y m))) LX1 qh y := hF3.1 _ _ _ (hh.ne hn (by decide)) (hF2.1 _ _ _ (hh.ne hd (by decide)) hh.self)
  have hT3 := hF.1 _ _ _ (fun z => z.elim (hT.ne hh (by decide)) (fun z => z.elim (hT.ne hd (by decide)) (hT.ne hn (by decide)))) hT
  have hd3 : At G ow (oset LX10 G qn x (oset LX10 G qd z (oset LX1 G qh y m))) LX10 qd z := hF3.1 _ _ _ hk.2.2.2 hd1.self
  rcases hor with ⟨rfl, rfl⟩ | ⟨rfl, rfl⟩
  · refine ⟨ow, _, ⟨stt, x, z, fb, fa, bs, as, hT3, hn2.self, hx', hd3, ⟨⟨y, hh3, by rw [hy2, hbw.1], by rw [hy3, haw.1]⟩, hRb.frA hF (hr hRb) hfb, hRa.frA hF (hr hRa) hfa, hHb.frA hF hfb, hHa.frA hF hfa, k1, k2, k3⟩, hbw, haw, hx, hk, rfl⟩, hF.mono (fun a z => ?_), fun _ z => Or.inl z⟩
    rcases z with z | z | z
    · exact Or.inl (Or.inl z)
    · exact Or.inr (Or.inr z)
    · exact Or.inr (Or.inl z)
  · refine ⟨ow, _, ⟨stt, x, z, fb, fa, [], [], hT3, hn2.self, hx', hd3, ⟨⟨y, hh3, hy2, hy3⟩, hRb.frA hF (hr hRb) hfb, hRa.frA hF (hr hRa) hfa, fun i y h => by simp at h, fun i y h => by simp at h, k1, k2, by simp⟩, HW.nil, HW.nil, hx, hk, rfl⟩, hF.mono (fun a z => ?_), fun _ z => Or.inl z⟩
    rcases z with z | z | z
    · exact Or.inl (Or.inl z)
    · exact Or.inr (Or.inr z)
    · exact Or.inr (Or.inl z)
end N3
