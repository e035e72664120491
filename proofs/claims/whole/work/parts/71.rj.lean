/-! the answers agree: questions -/
theorem ag_ring {l : Launch} (hst : l.stackTraces = false) {G : mG} {a b ao : Nat} : Ag_ring l G (LJ G a b ao) a b ao := by
  intro m  hJ 
  obtain ⟨s, tp, hd, wr, wa, ic, tc, q, st, fo, ⟨ow, F, qt, rfl, rfl, N, hA, hC, hb, ho⟩, hR, hW⟩ := hJ
  obtain ⟨k, hk, x, hF, hKt⟩ := q_ring hW.1 hR.1  
  refine ⟨_, n_X11_ring N hk, fun r m9 hp => ?_⟩
  obtain ⟨rfl, e2⟩ := hp
  have L := LR.ntp hA hC hb ho e2
  obtain ⟨f1, f2, f3, f4, f5⟩ := L.fin (hR.kt hKt) hW
  exact ⟨q, st, x, f1, f2, f3, hF, f5⟩
