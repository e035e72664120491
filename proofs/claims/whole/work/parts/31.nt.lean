/-! the class's whole state -/
def RDR (st : OS) (tp : Nat → Int32) (hd : Nat) (wr wa : Int32) : Prop := st.1 2 = nI hd ∧ hd ≤ 700 ∧ st.1 8 = wr ∧ st.1 9 = wa ∧ ∀ i, i < hd → st.2.2.1 1 i &&& 255 = tp i
def MKR (st : OS) : Prop := f_X3_init = some st
def NT (G : mG) (ow : Nat → Nat) (m : mM) (qt : Nat → Nat) (s : Wst) (tp : Nat → Int32) (hd : Nat) (wr wa : Int32) (ic : Nat → Option Wd) (tc : Nat → Option (Nat × List Int64)) (F : Nat → Prop) : Prop :=
  ∃ (qn qd qh : Nat → Nat) (S : Nat → Prop) (xi xt : Nat) (fi ft : Nat → Option Nat) (qr qm qc qw qk qu : Nat → Nat) (str stm stc stw stk stu : OS),
    Core G qt qn qd qh ow m s.1 s.2.1 s.2.2 S ∧
    (qt 4 = xi ∧ RowT LX10 4 3 G ow m xi fi ∧ IMS G ow m fi ic ∧ ∀ j a, fi j = some a → ¬ S a) ∧
    (qt 5 = xt ∧ RowT LX7 5 4 G ow m xt ft ∧ TRS G ow m ft tc) ∧
    (At G ow m LX5 qr str ∧ At G ow m LX3 qm stm ∧ qt 0 = qr 10 ∧ qr 0 = qm 3 ∧ RDR str tp hd wr wa ∧ MKR stm) ∧
    (At G ow m LX0 qc stc ∧ At G ow m LX9 qw stw ∧ At G ow m LX4 qk stk ∧ At G ow m LX8 qu stu ∧ qt 6 = qc 11 ∧ qt 7 = qw 7 ∧ qt 8 = qk 3 ∧ qt 9 = qu 15) ∧
    F = fun r => S r ∨ r = qt 10 ∨ r = xi ∨ (∃ j, fi j = some r) ∨ r = xt ∨ (∃ j, ft j = some r) ∨ r = qr 10 ∨ r = qm 3 ∨ r = qc 11 ∨ r = qw 7 ∨ r = qk 3 ∨ r = qu 15
/-- the state after a call -/
def NTP (G : mG) (ow : Nat → Nat) (m : mM) (F : Nat → Prop) (m' : mM) (qt : Nat → Nat) (s : Wst) (tp : Nat → Int32) (hd : Nat) (wr wa : Int32) (ic : Nat → Option Wd) (tc : Nat → Option (Nat × List Int64)) : Prop :=
  ∃ ow' F', NT G ow' m' qt s tp hd wr wa ic tc F' ∧ FrA G F ow m ow' m' ∧ ∀ r, F' r → F r ∨ m r = none
section NTS
variable {G : mG} {ow ow' : Nat → Nat} {m m' : mM} {qt : Nat → Nat} {s : Wst} {tp : Nat → Int32} {hd : Nat} {wr wa : Int32} {ic : Nat → Option Wd} {tc : Nat → Option (Nat × List Int64)} {F T S : Nat → Prop}
theorem NTP.rf (h : NT G ow m qt s tp hd wr wa ic tc F) : NTP G ow m F m qt s tp hd wr wa ic tc := ⟨ow, F, h, FrA.rf, fun _ z => Or.inl z⟩
theorem At.fA {L : LY} {q : Nat → Nat} {st x : OS} (h : At G ow m L q st) : FrA G (fun r => r = q L.2.1) ow m ow (oset L G q x m) := h.fr.A
theorem HR.neC {fb fa : Nat → Option Nat} {bs as : List OS} {qh : Nat → Nat} (hS : Hst G ow m qh fb fa bs as) {a t n : Nat} {f : Nat → Option Nat} (hC : C1 ow m a (aQ G t n f)) (hn : n ≠ 20) : ¬ HR qh fb fa a := by
  obtain ⟨⟨sth, hh, -, -⟩, hRb, hRa, -⟩ := hS
  have key : ∀ {x : va_E}, m a = some x → x = aQ G t n f := fun h => Option.some.inj (h.symm.trans hC.1)
  intro z
  rcases z with z | z | z | ⟨i, z⟩ | ⟨i, z⟩
  · exact hh.neC hC z.symm
  · have h1 := key (z ▸ hRb.1.1)
    injection h1 with h1
    injection h1 with _ h1
    injection h1 with h1 _
    exact hn h1.symm
  · have h1 := key (z ▸ hRa.1.1)
    injection h1 with h1
    injection h1 with _ h1
    injection h1 with h1 _
    exact hn h1.symm
  · exact (hRb.2.1 _ _ z).neC hC rfl
  · exact (hRa.2.1 _ _ z).neC hC rfl
theorem Core.notSC {qn qd qh : Nat → Nat} {w : Wd} {bw aw : List Wd} (hC : Core G qt qn qd qh ow m w bw aw S) {a t n : Nat} {f : Nat → Option Nat} (h : C1 ow m a (aQ G t n f)) (hn : n ≠ 20) : ¬ S a := by
  obtain ⟨stt, stn, std, fb, fa, bs, as, hT, hn1, hw, hd, hS, hb, ha, hx, hk, rfl⟩ := hC
  exact fun z => z.elim (HR.neC hS h hn) (fun z => z.elim (fun z => hn1.neC h z.symm) (fun z => hd.neC h z.symm))
theorem Core.frA {qn qd qh : Nat → Nat} {w : Wd} {bw aw : List Wd} (hC : Core G qt qn qd qh ow m w bw aw S) (hF : FrA G T ow m ow' m') (h1 : ∀ r, S r → ¬ T r) (h2 : ¬ T (qt 10)) : Core G qt qn qd qh ow' m' w bw aw S := by
  obtain ⟨stt, stn, std, fb, fa, bs, as, hT, hn, hw, hd, hS, hb, ha, hx, hk, rfl⟩ := hC
  exact ⟨stt, stn, std, fb, fa, bs, as, hF.1 _ _ _ h2 hT, hF.1 _ _ _ (h1 _ (Or.inr (Or.inl rfl))) hn, hw, hF.1 _ _ _ (h1 _ (Or.inr (Or.inr rfl))) hd, hS.frA hF (fun r z => h1 _ (Or.inl z)), hb, ha, hx, hk, rfl⟩
theorem TRS.frA {ft : Nat → Option Nat} (h : TRS G ow m ft tc) (hF : FrA G T ow m ow' m') (h1 : ∀ j a, ft j = some a → ¬ T a) : TRS G ow' m' ft tc := by
  refine ⟨h.1, fun j a hj => ?_⟩
  obtain ⟨qy, sty, so, row, h2, h3, h4, h5⟩ := h.2 j a hj
  exact ⟨qy, sty, so, row, h2, h3, hF.1 _ _ _ (by show ¬ T (qy 3); rw [h3]; exact h1 j a hj) h4, h5⟩
theorem IMS.frA {fi : Nat → Option Nat} (h : IMS G ow m fi ic) (hF : FrA G T ow m ow' m') (h1 : ∀ j a, fi j = some a → ¬ T a) : IMS G ow' m' fi ic := by
  refine ⟨h.1, fun j a hj => ?_⟩
  obtain ⟨qy, sty, w, h2, h3, h4, h5⟩ := h.2 j a hj
  exact ⟨qy, sty, w, h2, h3, hF.1 _ _ _ (by show ¬ T (qy 5); rw [h3]; exact h1 j a hj) h4, h5⟩
/-- what isn't the class's may change -/
theorem NT.frA (h : NT G ow m qt s tp hd wr wa ic tc F) (hF : FrA G T ow m ow' m') (hT : ∀ r, F r → ¬ T r) : NT G ow' m' qt s tp hd wr wa ic tc F := by
  obtain ⟨qn, qd, qh, S, xi, xt, fi, ft, qr, qm, qc, qw, qk, qu, str, stm, stc, stw, stk, stu, hC, ⟨a1, a2, a3, a4⟩, ⟨b1, b2, b3⟩, ⟨c1, c2, c3, c4, c5, c6⟩, ⟨d1, d2, d3, d4, d5⟩, rfl⟩ := h
  refine ⟨qn, qd, qh, S, xi, xt, fi, ft, qr, qm, qc, qw, qk, qu, str, stm, stc, stw, stk, stu, hC.frA hF (fun r z => hT r (Or.inl z)) (hT _ (Or.inr (Or.inl rfl))), ⟨a1, ?_, ?_, a4⟩, ⟨b1, ?_, ?_⟩, ⟨hF.1 _ _ _ ?_ c1, hF.1 _ _ _ ?_ c2, c3, c4, c5, c6⟩, ⟨hF.1 _ _ _ ?_ d1, hF.1 _ _ _ ?_ d2, hF.1 _ _ _ ?_ d3, hF.1 _ _ _ ?_ d4, d5⟩, rfl⟩
  · exact a2.frA hF (hT _ (by simp)) (fun j a hj => hT _ (Or.inr (Or.inr (Or.inr (Or.inl ⟨j, hj⟩)))))
  · exact a3.frA hF (fun j a hj => hT _ (Or.inr (Or.inr (Or.inr (Or.inl ⟨j, hj⟩)))))
  · exact b2.frA hF (hT _ (by simp)) (fun j a hj => hT _ (Or.inr (Or.inr (Or.inr (Or.inr (Or.inr (Or.inl ⟨j, hj⟩)))))))
  · exact b3.frA hF (fun j a hj => hT _ (Or.inr (Or.inr (Or.inr (Or.inr (Or.inr (Or.inl ⟨j, hj⟩)))))))
  all_goals exact hT _ (by simp [LX5, LX3, LX0, LX9, LX4, LX8])
theorem NTP.then {m1 m2 : mM} {s1 s2 : Wst} {tp1 tp2 : Nat → Int32} {hd1 hd2 : Nat} {wr1 wa1 wr2 wa2 : Int32} {ic1 ic2 : Nat → Option Wd} {tc1 tc2 : Nat → Option (Nat × List Int64)} (h : NTP G ow m F m1 qt s1 tp1 hd1 wr1 wa1 ic1 tc1) (k : ∀ ow1 F1, NT G ow1 m1 qt s1 tp1 hd1 wr1 wa1 ic1 tc1 F1 → NTP G ow1 m1 F1 m2 qt s2 tp2 hd2 wr2 wa2 ic2 tc2) : NTP G ow m F m2 qt s2 tp2 hd2 wr2 wa2 ic2 tc2 := by
  obtain ⟨ow1, F1, h1, h2, h3⟩ := h
  obtain ⟨ow2, F2, k1, k2, k3⟩ := k ow1 F1 h1
  refine ⟨ow2, F2, k1, h2.tr k2 h3, fun r z => ?_⟩
  rcases k3 r z with h | h
  · exact h3 r h
  · refine Or.inr ?_
    false_or_by_contra
    rename_i h9
    exact h2.2.2 r h9 h
/-- an act has changed what the Core has -/
theorem NT.core {qn qd qh : Nat → Nat} {S : Nat → Prop} {xi xt : Nat} {fi ft : Nat → Option Nat} {qr qm qc qw qk qu : Nat → Nat} {str stm stc stw stk stu : OS} (hC : Core G qt qn qd qh ow m s.1 s.2.1 s.2.2 S) (hA : qt 4 = xi ∧ RowT LX10 4 3 G ow m xi fi ∧ IMS G ow m fi ic ∧ ∀ j a, fi j = some a → ¬ S a) (hB : qt 5 = xt ∧ RowT LX7 5 4 G ow m xt ft ∧ TRS G ow m ft tc)
    (hc : At G ow m LX5 qr str ∧ At G ow m LX3 qm stm ∧ qt 0 = qr 10 ∧ qr 0 = qm 3 ∧ RDR str tp hd wr wa ∧ MKR stm) (hD : At G ow m LX0 qc stc ∧ At G ow m LX9 qw stw ∧ At G ow m LX4 qk stk ∧ At G ow m LX8 qu stu ∧ qt 6 = qc 11 ∧ qt 7 = qw 7 ∧ qt 8 = qk 3 ∧ qt 9 = qu 15)
    {s' : Wst} (hP : CoreP G qt qn qd qh ow m S m' s'.1 s'.2.1 s'.2.2) : NTP G ow m (fun r => S r ∨ r = qt 10 ∨ r = xi ∨ (∃ j, fi j = some r) ∨ r = xt ∨ (∃ j, ft j = some r) ∨ r = qr 10 ∨ r = qm 3 ∨ r = qc 11 ∨ r = qw 7 ∨ r = qk 3 ∨ r = qu 15) m' qt s' tp hd wr wa ic tc := by
  obtain ⟨a1, a2, a3, a4⟩ := hA
  obtain ⟨b1, b2, b3⟩ := hB
  obtain ⟨c1, c2, c3, c4, c5, c6⟩ := hc
  obtain ⟨d1, d2, d3, d4, d5⟩ := hD
  obtain ⟨ow1, S1, e1, e2, e3⟩ := hP
  have hb : ∀ j a, ft j = some a → ¬ S a := fun j a hj => by
    obtain ⟨q, st, e, hA⟩ := b2.2.1 j a hj
    rw [← e]
    exact hC.notS hA (by decide) (by decide)
  refine ⟨ow1, _, ⟨qn, qd, qh, S1, xi, xt, fi, ft, qr, qm, qc, qw, qk, qu, str, stm, stc, stw, stk, stu, e1, ⟨a1, ?_, ?_, fun j a hj z => ?_⟩, ⟨b1, ?_, ?_⟩, ⟨e2.1 _ _ _ ?_ c1, e2.1 _ _ _ ?_ c2, c3, c4, c5, c6⟩, ⟨e2.1 _ _ _ ?_ d1, e2.1 _ _ _ ?_ d2, e2.1 _ _ _ ?_ d3, e2.1 _ _ _ ?_ d4, d5⟩, rfl⟩, e2.mono (fun a z => Or.inl z), fun r z => ?_⟩
  · exact a2.frA e2 (hC.notSC a2.1 (by decide)) a4
  · exact a3.frA e2 a4
  · rcases e3 a z with h | h
    · exact a4 j a hj h
    · obtain ⟨q, st, e, hA⟩ := a2.2.1 j a hj
      have := hA.root
      rw [e, h] at this
      cases this
  · exact b2.frA e2 (hC.notSC b2.1 (by decide)) hb
  · exact b3.frA e2 hb
  · exact hC.notS c1 (by decide) (by decide)
  · exact hC.notS c2 (by decide) (by decide)
  · exact hC.notS d1 (by decide) (by decide)
  · exact hC.notS d2 (by decide) (by decide)
  · exact hC.notS d3 (by decide) (by decide)
  · exact hC.notS d4 (by decide) (by decide)
  · rcases z with z | z
    · rcases e3 r z with h | h
      · exact Or.inl (Or.inl h)
      · exact Or.inr h
    · exact Or.inl (Or.inr z)
theorem NT.sc_LX0 {qn qd qh : Nat → Nat} {S : Nat → Prop} {xi xt : Nat} {fi ft : Nat → Option Nat} {qr qm qc qw qk qu : Nat → Nat} {str stm stc stw stk stu x : OS} (hC : Core G qt qn qd qh ow m s.1 s.2.1 s.2.2 S) (hA : qt 4 = xi ∧ RowT LX10 4 3 G ow m xi fi ∧ IMS G ow m fi ic ∧ ∀ j a, fi j = some a → ¬ S a) (hB : qt 5 = xt ∧ RowT LX7 5 4 G ow m xt ft ∧ TRS G ow m ft tc)
    (hc : At G ow m LX5 qr str ∧ At G ow m LX3 qm stm ∧ qt 0 = qr 10 ∧ qr 0 = qm 3 ∧ RDR str tp hd wr wa ∧ MKR stm) (hD : At G ow m LX0 qc stc ∧ At G ow m LX9 qw stw ∧ At G ow m LX4 qk stk ∧ At G ow m LX8 qu stu ∧ qt 6 = qc 11 ∧ qt 7 = qw 7 ∧ qt 8 = qk 3 ∧ qt 9 = qu 15) :
    NTP G ow m (fun r => S r ∨ r = qt 10 ∨ r = xi ∨ (∃ j, fi j = some r) ∨ r = xt ∨ (∃ j, ft j = some r) ∨ r = qr 10 ∨ r = qm 3 ∨ r = qc 11 ∨ r = qw 7 ∨ r = qk 3 ∨ r = qu 15) (oset LX0 G qc x m) qt s tp hd wr wa ic tc := by
  obtain ⟨a1, a2, a3, a4⟩ := hA
  obtain ⟨b1, b2, b3⟩ := hB
  obtain ⟨c1, c2, c3, c4, c5, c6⟩ := hc
  obtain ⟨d1, d2, d3, d4, d5⟩ := hD
  have hF : FrA G (fun r => r = qc 11) ow m ow (oset LX0 G qc x m) := d1.fA
  have hi : ∀ j a, fi j = some a → a ≠ qc 11 := fun j a hj z => by
    obtain ⟨q, st, e, hA⟩ := a2.2.1 j a hj
    exact hA.ne d1 (by decide) (e.trans z)
  have ht : ∀ j a, ft j = some a → a ≠ qc 11 := fun j a hj z => by
    obtain ⟨q, st, e, hA⟩ := b2.2.1 j a hj
    exact hA.ne d1 (by decide) (e.trans z)
  have hT : At G ow m LX11 qt hC.choose := by
    obtain ⟨-, -, -, -, -, -, h, -⟩ := hC.choose_spec
    exact h
  refine ⟨ow, _, ⟨qn, qd, qh, S, xi, xt, fi, ft, qr, qm, qc, qw, qk, qu, str, stm, x, stw, stk, stu, hC.frA hF (fun r z y => hC.notS d1 (by decide) (by decide) (by rw [y] at z; exact z)) (hT.ne d1 (by decide)), ⟨a1, a2.frA hF (fun z => d1.neC a2.1 z.symm) hi, a3.frA hF hi, a4⟩, ⟨b1, b2.frA hF (fun z => d1.neC b2.1 z.symm) ht, b3.frA hF ht⟩, ⟨hF.1 _ _ _ (c1.ne d1 (by decide)) c1, hF.1 _ _ _ (c2.ne d1 (by decide)) c2, c3, c4, c5, c6⟩, ⟨d1.self, hF.1 _ _ _ (d2.ne d1 (by decide)) d2, hF.1 _ _ _ (d3.ne d1 (by decide)) d3, hF.1 _ _ _ (d4.ne d1 (by decide)) d4, d5⟩, rfl⟩, hF.mono (fun a z => by simp [z]), fun r z => Or.inl z⟩
theorem NT.sc_LX9 {qn qd qh : Nat → Nat} {S : Nat → Prop} {xi xt : Nat} {fi ft : Nat → Option Nat} {qr qm qc qw qk qu : Nat → Nat} {str stm stc stw stk stu x : OS} (hC : Core G qt qn qd qh ow m s.1 s.2.1 s.2.2 S) (hA : qt 4 = xi ∧ RowT LX10 4 3 G ow m xi fi ∧ IMS G ow m fi ic ∧ ∀ j a, fi j = some a → ¬ S a) (hB : qt 5 = xt ∧ RowT LX7 5 4 G ow m xt ft ∧ TRS G ow m ft tc)
    (hc : At G ow m LX5 qr str ∧ At G ow m LX3 qm stm ∧ qt 0 = qr 10 ∧ qr 0 = qm 3 ∧ RDR str tp hd wr wa ∧ MKR stm) (hD : At G ow m LX0 qc stc ∧ At G ow m LX9 qw stw ∧ At G ow m LX4 qk stk ∧ At G ow m LX8 qu stu ∧ qt 6 = qc 11 ∧ qt 7 = qw 7 ∧ qt 8 = qk 3 ∧ qt 9 = qu 15) :
    NTP G ow m (fun r => S r ∨ r = qt 10 ∨ r = xi ∨ (∃ j, fi j = some r) ∨ r = xt ∨ (∃ j, ft j = some r) ∨ r = qr 10 ∨ r = qm 3 ∨ r = qc 11 ∨ r = qw 7 ∨ r = qk 3 ∨ r = qu 15) (oset LX9 G qw x m) qt s tp hd wr wa ic tc := by
  obtain ⟨a1, a2, a3, a4⟩ := hA
  obtain ⟨b1, b2, b3⟩ := hB
  obtain ⟨c1, c2, c3, c4, c5, c6⟩ := hc
  obtain ⟨d1, d2, d3, d4, d5⟩ := hD
  have hF : FrA G (fun r => r = qw 7) ow m ow (oset LX9 G qw x m) := d2.fA
  have hi : ∀ j a, fi j = some a → a ≠ qw 7 := fun j a hj z => by
    obtain ⟨q, st, e, hA⟩ := a2.2.1 j a hj
    exact hA.ne d2 (by decide) (e.trans z)
  have ht : ∀ j a, ft j = some a → a ≠ qw 7 := fun j a hj z => by
    obtain ⟨q, st, e, hA⟩ := b2.2.1 j a hj
    exact hA.ne d2 (by decide) (e.trans z)
  have hT : At G ow m LX11 qt hC.choose := by
    obtain ⟨-, -, -, -, -, -, h, -⟩ := hC.choose_spec
    exact h
  refine ⟨ow, _, ⟨qn, qd, qh, S, xi, xt, fi, ft, qr, qm, qc, qw, qk, qu, str, stm, stc, x, stk, stu, hC.frA hF (fun r z y => hC.notS d2 (by decide) (by decide) (by rw [y] at z; exact z)) (hT.ne d2 (by decide)), ⟨a1, a2.frA hF (fun z => d2.neC a2.1 z.symm) hi, a3.frA hF hi, a4⟩, ⟨b1, b2.frA hF (fun z => d2.neC b2.1 z.symm) ht, b3.frA hF ht⟩, ⟨hF.1 _ _ _ (c1.ne d2 (by decide)) c1, hF.1 _ _ _ (c2.ne d2 (by decide)) c2, c3, c4, c5, c6⟩, ⟨hF.1 _ _ _ (d1.ne d2 (by decide)) d1, d2.self, hF.1 _ _ _ (d3.ne d2 (by decide)) d3, hF.1 _ _ _ (d4.ne d2 (by decide)) d4, d5⟩, rfl⟩, hF.mono (fun a z => by simp [z]), fun r z => Or.inl z⟩
theorem NT.sc_LX4 {qn qd qh : Nat → Nat} {S : Nat → Prop} {xi xt : Nat} {fi ft : Nat → Option Nat} {qr qm qc qw qk qu : Nat → Nat} {str stm stc stw stk stu x : OS} (hC : Core G qt qn qd qh ow m s.1 s.2.1 s.2.2 S) (hA : qt 4 = xi ∧ RowT LX10 4 3 G ow m xi fi ∧ IMS G ow m fi ic ∧ ∀ j a, fi j = some a → ¬ S a) (hB : qt 5 = xt ∧ RowT LX7 5 4 G ow m xt ft ∧ TRS G ow m ft tc)
    (hc : At G ow m LX5 qr str ∧ At G ow m LX3 qm stm ∧ qt 0 = qr 10 ∧ qr 0 = qm 3 ∧ RDR str tp hd wr wa ∧ MKR stm) (hD : At G ow m LX0 qc stc ∧ At G ow m LX9 qw stw ∧ At G ow m LX4 qk stk ∧ At G ow m LX8 qu stu ∧ qt 6 = qc 11 ∧ qt 7 = qw 7 ∧ qt 8 = qk 3 ∧ qt 9 = qu 15) :
    NTP G ow m (fun r => S r ∨ r = qt 10 ∨ r = xi ∨ (∃ j, fi j = some r) ∨ r = xt ∨ (∃ j, ft j = some r) ∨ r = qr 10 ∨ r = qm 3 ∨ r = qc 11 ∨ r = qw 7 ∨ r = qk 3 ∨ r = qu 15) (oset LX4 G qk x m) qt s tp hd wr wa ic tc := by
  obtain ⟨a1, a2, a3, a4⟩ := hA
  obtain ⟨b1, b2, b3⟩ := hB
  obtain ⟨c1, c2, c3, c4, c5, c6⟩ := hc
  obtain ⟨d1, d2, d3, d4, d5⟩ := hD
  have hF : FrA G (fun r => r = qk 3) ow m ow (oset LX4 G qk x m) := d3.fA
  have hi : ∀ j a, fi j = some a → a ≠ qk 3 := fun j a hj z => by
    obtain ⟨q, st, e, hA⟩ := a2.2.1 j a hj
    exact hA.ne d3 (by decide) (e.trans z)
  have ht : ∀ j a, ft j = some a → a ≠ qk 3 := fun j a hj z => by
    obtain ⟨q, st, e, hA⟩ := b2.2.1 j a hj
    exact hA.ne d3 (by decide) (e.trans z)
  have hT : At G ow m LX11 qt hC.choose := by
    obtain ⟨-, -, -, -, -, -, h, -⟩ := hC.choose_spec
    exact h
  refine ⟨ow, _, ⟨qn, qd, qh, S, xi, xt, fi, ft, qr, qm, qc, qw, qk, qu, str, stm, stc, stw, x, stu, hC.frA hF (fun r z y => hC.notS d3 (by decide) (by decide) (by rw [y] at z; exact z)) (hT.ne d3 (by decide)), ⟨a1, a2.frA hF (fun z => d3.neC a2.1 z.symm) hi, a3.frA hF hi, a4⟩, ⟨b1, b2.frA hF (fun z => d3.neC b2.1 z.symm) ht, b3.frA hF ht⟩, ⟨hF.1 _ _ _ (c1.ne d3 (by decide)) c1, hF.1 _ _ _ (c2.ne d3 (by decide)) c2, c3, c4, c5, c6⟩, ⟨hF.1 _ _ _ (d1.ne d3 (by decide)) d1, hF.1 _ _ _ (d2.ne d3 (by decide)) d2, d3.self, hF.1 _ _ _ (d4.ne d3 (by decide)) d4, d5⟩, rfl⟩, hF.mono (fun a z => by simp [z]), fun r z => Or.inl z⟩
theorem NT.sc_LX8 {qn qd qh : Nat → Nat} {S : Nat → Prop} {xi xt : Nat} {fi ft : Nat → Option Nat} {qr qm qc qw qk qu : Nat → Nat} {str stm stc stw stk stu x : OS} (hC : Core G qt qn qd qh ow m s.1 s.2.1 s.2.2 S) (hA : qt 4 = xi ∧ RowT LX10 4 3 G ow m xi fi ∧ IMS G ow m fi ic ∧ ∀ j a, fi j = some a → ¬ S a) (hB : qt 5 = xt ∧ RowT LX7 5 4 G ow m xt ft ∧ TRS G ow m ft tc)
    (hc : At G ow m LX5 qr str ∧ At G ow m LX3 qm stm ∧ qt 0 = qr 10 ∧ qr 0 = qm 3 ∧ RDR str tp hd wr wa ∧ MKR stm) (hD : At G ow m LX0 qc stc ∧ At G ow m LX9 qw stw ∧ At G ow m LX4 qk stk ∧ At G ow m LX8 qu stu ∧ qt 6 = qc 11 ∧ qt 7 = qw 7 ∧ qt 8 = qk 3 ∧ qt 9 = qu 15) :
    NTP G ow m (fun r => S r ∨ r = qt 10 ∨ r = xi ∨ (∃ j, fi j = some r) ∨ r = xt ∨ (∃ j, ft j = some r) ∨ r = qr 10 ∨ r = qm 3 ∨ r = qc 11 ∨ r = qw 7 ∨ r = qk 3 ∨ r = qu 15) (oset LX8 G qu x m) qt s tp hd wr wa ic tc := by
  obtain ⟨a1, a2, a3, a4⟩ := hA
  obtain ⟨b1, b2, b3⟩ := hB
  obtain ⟨c1, c2, c3, c4, c5, c6⟩ := hc
  obtain ⟨d1, d2, d3, d4, d5⟩ := hD
  have hF : FrA G (fun r => r = qu 15) ow m ow (oset LX8 G qu x m) := d4.fA
  have hi : ∀ j a, fi j = some a → a ≠ qu 15 := fun j a hj z => by
    obtain ⟨q, st, e, hA⟩ := a2.2.1 j a hj
    exact hA.ne d4 (by decide) (e.trans z)
  have ht : ∀ j a, ft j = some a → a ≠ qu 15 := fun j a hj z => by
    obtain ⟨q, st, e, hA⟩ := b2.2.1 j a hj
    exact hA.ne d4 (by decide) (e.trans z)
  have hT : At G ow m LX11 qt hC.choose := by
    obtain ⟨-, -, -, -, -, -, h, -⟩ := hC.choose_spec
    exact h
  refine ⟨ow, _, ⟨qn, qd, qh, S, xi, xt, fi, ft, qr, qm, qc, qw, qk, qu, str, stm, stc, stw, stk, x, hC.frA hF (fun r z y => hC.notS d4 (by decide) (by decide) (by rw [y] at z; exact z)) (hT.ne d4 (by decide)), ⟨a1, a2.frA hF (fun z => d4.neC a2.1 z.symm) hi, a3.frA hF hi, a4⟩, ⟨b1, b2.frA hF (fun z => d4.neC b2.1 z.symm) ht, b3.frA hF ht⟩, ⟨hF.1 _ _ _ (c1.ne d4 (by decide)) c1, hF.1 _ _ _ (c2.ne d4 (by decide)) c2, c3, c4, c5, c6⟩, ⟨hF.1 _ _ _ (d1.ne d4 (by decide)) d1, hF.1 _ _ _ (d2.ne d4 (by decide)) d2, hF.1 _ _ _ (d3.ne d4 (by decide)) d3, d4.self, d5⟩, rfl⟩, hF.mono (fun a z => by simp [z]), fun r z => Or.inl z⟩
end NTS
