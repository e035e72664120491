/-! the answers agree: questions -/
theorem ag_turnings {l : Launch} (hst : l.stackTraces = false) {G : mG} {a b ao : Nat} : Ag_turnings l G (LJ G a b ao) a b ao := by
  intro m  hJ 
  obtain ⟨s, tp, hd, wr, wa, ic, tc, q, st, fo, ⟨ow, F, qt, rfl, rfl, N, hA, hC, hb, ho⟩, hR, hW⟩ := hJ
  obtain ⟨k, hk, x, hF, hKt⟩ := q_turnings hW.1 hR.1  
  refine ⟨_, n_X11_turnings N hk, fun r m9 hp => ?_⟩
  obtain ⟨rfl, e2⟩ := hp
  have L := LR.ntp hA hC hb ho e2
  obtain ⟨f1, f2, f3, f4, f5⟩ := L.fin (hR.kt hKt) hW
  exact ⟨q, st, x, f1, f2, f3, hF, f5⟩
theorem ag_orbit {l : Launch} (hst : l.stackTraces = false) {G : mG} {a b ao : Nat} : Ag_orbit l G (LJ G a b ao) a b ao := by
  intro m p0 hJ 
  obtain ⟨s, tp, hd, wr, wa, ic, tc, q, st, fo, ⟨ow, F, qt, rfl, rfl, N, hA, hC, hb, ho⟩, hR, hW⟩ := hJ
  obtain ⟨k, hk, v, x, hF, hKt, hQ⟩ := q_orbit hW.1 hR.1 p0 
  obtain ⟨fs, hroot⟩ := N.root
  have hM := n_X11_orbit hst N hk
  refine ⟨_, c_L_orbit hroot hM (fo := fo) (fun v1 m1 z => (LR.ntp hA hC hb ho z.2).out1) (fun E m1 z => ?_), fun r m9 hp => ?_⟩
  · obtain ⟨⟨j, e1, e2⟩, e3⟩ := z
    rcases hQ with ⟨h1, h2⟩ | ⟨h1, h2⟩
    · rw [h1] at e1
      cases e1
      exact e2
    · rw [h1] at e1
      cases e1
  · rcases hp with ⟨rfl, v1, m1, ⟨e1, e2⟩, rfl⟩ | ⟨E, ⟨⟨j, e1, e2⟩, e3⟩, e4⟩
    · have L := (LR.ntp hA hC hb ho e2).out (fo' := vp_updL fo 0 (v1))
      rcases hQ with ⟨h1, h2⟩ | ⟨h1, h2⟩
      · rw [h1] at e1
        cases e1
      · rw [h1] at e1
        cases e1
        obtain ⟨f1, f2, f3, f4, f5⟩ := L.fin (hR.kt hKt) hW
        exact ⟨q, st, x, v, _, f1, f2, f3, hF, h2, f4, fun _ => by simp [vp_updL], f5⟩
    · subst e3
      have L := LR.ntp hA hC hb ho (NTP.rf N)
      obtain ⟨f1, f2, f3, f4, f5⟩ := L.fin (hR.kt hKt) hW
      rcases hQ with ⟨h1, h2⟩ | ⟨h1, h2⟩
      · rw [h1] at e1
        cases e1
        obtain ⟨-, e5⟩ := e4
        subst e5
        exact ⟨q, st, x, v, fo, f1, f2, f3, hF, h2, f4, fun z => absurd z (by decide), f5⟩
      · rw [h1] at e1
        cases e1
