/-! what holds between two calls of the law -/
def WFs (s : Wst) (ic : Nat → Option Wd) : Prop := WFw s.1 ∧ (∀ w ∈ s.2.1, WFw w) ∧ (∀ w ∈ s.2.2, WFw w) ∧ ∀ j w, ic j = some w → WFw w
def LR (G : mG) (a b ao : Nat) (m : mM) (s : Wst) (tp : Nat → Int32) (hd : Nat) (wr wa : Int32) (ic : Nat → Option Wd) (tc : Nat → Option (Nat × List Int64)) (q : Nat → Nat) (st : OS) (fo : Nat → Int64) : Prop :=
  ∃ (ow : Nat → Nat) (F : Nat → Prop) (qt : Nat → Nat), qt 10 = a ∧ q 53 = b ∧ NT G ow m qt s tp hd wr wa ic tc F ∧ At G ow m LX12 q st ∧ C1 ow m ao (aJ G 1 fo) ∧ ¬ F b ∧ ¬ F ao
def LJ (G : mG) (a b ao : Nat) (m : mM) : Prop := ∃ (s : Wst) (tp : Nat → Int32) (hd : Nat) (wr wa : Int32) (ic : Nat → Option Wd) (tc : Nat → Option (Nat × List Int64)) (q : Nat → Nat) (st : OS) (fo : Nat → Int64),
  LR G a b ao m s tp hd wr wa ic tc q st fo ∧ RR st s tp hd wr wa ic tc ∧ WFs s ic
section LRS
variable {G : mG} {a b ao : Nat} {m m' : mM} {s s' : Wst} {tp tp' : Nat → Int32} {hd hd' : Nat} {wr wa wr' wa' : Int32} {ic ic' : Nat → Option Wd} {tc tc' : Nat → Option (Nat × List Int64)} {q qt : Nat → Nat} {st x : OS} {fo fo' : Nat → Int64} {ow : Nat → Nat} {F : Nat → Prop}
theorem NT.root (N : NT G ow m qt s tp hd wr wa ic tc F) : ∃ fs, m (qt 10) = some (.inr (LX11.1, fs)) := by
  obtain ⟨qn, qd, qh, S, xi, xt, fi, ft, qr, qm, qc, qw, qk, qu, str, stm, stc, stw, stk, stu, hC, -⟩ := N
  obtain ⟨stt, stn, std, fb, fa, bs, as, hT, -⟩ := hC
  exact ⟨_, hT.root⟩
theorem LJ.root (h : LJ G a b ao m) : ∃ fs, m a = some (.inr (LX11.1, fs)) := by
  obtain ⟨s, tp, hd, wr, wa, ic, tc, q, st, fo, ⟨ow, F, qt, rfl, -, N, -⟩, -⟩ := h
  exact N.root
theorem LR.fin (h : LR G a b ao m s tp hd wr wa ic tc q st fo) (hR : RR x s tp hd wr wa ic tc) (hW : WFs s ic) : q 53 = b ∧ oinj LX12 q ∧ oset LX12 G q st m = m ∧ oset LX12 G q x m ao = some (aJ G 1 fo) ∧ LJ G a b ao (oset LX12 G q x m) := by
  obtain ⟨ow, F, qt, h1, h2, N, hA, hC, hb, ho⟩ := h
  have hF := hA.fA (x := x)
  have hne : ¬ ao = q 53 := fun z => hA.neC hC z.symm
  have hC2 := hF.2.1 _ _ hne hC
  exact ⟨h2, hA.1, hA.eq, hC2.1, s, tp, hd, wr, wa, ic, tc, q, x, fo, ⟨ow, F, qt, h1, h2, N.frA hF (fun r hr z => hb (by rw [← h2]; exact (show r = q 53 from z) ▸ hr)), hA.self, hC2, hb, ho⟩, hR, hW⟩
theorem LR.out (h : LR G a b ao m s tp hd wr wa ic tc q st fo) : LR G a b ao (va_up m ao (some (aJ G 1 fo'))) s tp hd wr wa ic tc q st fo' := by
  obtain ⟨ow, F, qt, h1, h2, N, hA, hC, hb, ho⟩ := h
  have hF := (hC.fr (e' := aJ G 1 fo')).A (G := G)
  have hne : ¬ q 53 = ao := fun z => hA.neC hC z
  exact ⟨ow, F, qt, h1, h2, N.frA hF (fun r hr z => ho ((show r = ao from z) ▸ hr)), hF.1 _ _ _ hne hA, hC.self, hb, ho⟩
theorem LR.ntp (hA : At G ow m LX12 q st) (hC : C1 ow m ao (aJ G 1 fo)) (hb : ¬ F (q 53)) (ho : ¬ F ao) (hN : NTP G ow m F m' qt s' tp' hd' wr' wa' ic' tc') : LR G (qt 10) (q 53) ao m' s' tp' hd' wr' wa' ic' tc' q st fo := by
  obtain ⟨ow', F', N, hF, hn⟩ := hN
  refine ⟨ow', F', qt, rfl, rfl, N, hF.1 _ _ _ hb hA, hF.2.1 _ _ ho hC, fun z => ?_, fun z => ?_⟩
  · rcases hn _ z with y | y
    · exact hb y
    · have := hA.root
      rw [show q LX12.2.1 = q 53 from rfl, y] at this
      cases this
  · rcases hn _ z with y | y
    · exact ho y
    · have := hC.1
      rw [y] at this
      cases this
theorem LR.out1 (h : LR G a b ao m s tp hd wr wa ic tc q st fo) : m ao = some (aJ G 1 fo) := by
  obtain ⟨ow, F, qt, h1, h2, N, hA, hC, hb, ho⟩ := h
  exact hC.1
end LRS
