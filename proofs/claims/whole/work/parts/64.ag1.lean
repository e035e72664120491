/-! the answers agree: questions -/
theorem ag_triads {l : Launch} (hst : l.stackTraces = false) {G : mG} {a b ao : Nat} : Ag_triads l G (LJ G a b ao) a b ao := by
  intro m p0 hJ 
  obtain ⟨s, tp, hd, wr, wa, ic, tc, q, st, fo, ⟨ow, F, qt, rfl, rfl, N, hA, hC, hb, ho⟩, hR, hW⟩ := hJ
  obtain ⟨k, hk, x, hF, hKt⟩ := q_triads hR.1 p0 
  refine ⟨_, n_X11_triads N hk, fun r m9 hp => ?_⟩
  obtain ⟨rfl, e2⟩ := hp
  have L := LR.ntp hA hC hb ho e2
  obtain ⟨f1, f2, f3, f4, f5⟩ := L.fin (hR.kt hKt) hW
  exact ⟨q, st, x, f1, f2, f3, hF, f5⟩
theorem ag_evens {l : Launch} (hst : l.stackTraces = false) {G : mG} {a b ao : Nat} : Ag_evens l G (LJ G a b ao) a b ao := by
  intro m p0 hJ 
  obtain ⟨s, tp, hd, wr, wa, ic, tc, q, st, fo, ⟨ow, F, qt, rfl, rfl, N, hA, hC, hb, ho⟩, hR, hW⟩ := hJ
  obtain ⟨k, hk, x, hF, hKt⟩ := q_evens hR.1 hW.1 p0 
  refine ⟨_, n_X11_evens N hk, fun r m9 hp => ?_⟩
  obtain ⟨rfl, e2⟩ := hp
  have L := LR.ntp hA hC hb ho e2
  obtain ⟨f1, f2, f3, f4, f5⟩ := L.fin (hR.kt hKt) hW
  exact ⟨q, st, x, f1, f2, f3, hF, f5⟩
theorem ag_walks {l : Launch} (hst : l.stackTraces = false) {G : mG} {a b ao : Nat} : Ag_walks l G (LJ G a b ao) a b ao := by
  intro m p0 hJ 
  obtain ⟨s, tp, hd, wr, wa, ic, tc, q, st, fo, ⟨ow, F, qt, rfl, rfl, N, hA, hC, hb, ho⟩, hR, hW⟩ := hJ
  obtain ⟨k, hk, v, x, hF, hKt, hQ⟩ := q_walks hR.1 hW.1 p0 
  obtain ⟨fs, hroot⟩ := N.root
  have hM := n_X11_walks hst N hk
  refine ⟨_, c_L_walks hroot hM (fo := fo) (fun v1 m1 z => (LR.ntp hA hC hb ho z.2).out1) (fun E m1 z => ?_), fun r m9 hp => ?_⟩
  · obtain ⟨⟨j, e1, e2⟩, e3⟩ := z
    rcases hQ with ⟨h1, h2⟩ | ⟨h1, h2⟩
    · rw [h1] at e1
      cases e1
      exact e2
    · rw [h1] at e1
      cases e1
  · rcases hp with ⟨rfl, v1, m1, ⟨e1, e2⟩, rfl⟩ | ⟨E, ⟨⟨j, e1, e2⟩, e3⟩, e4⟩
    · have L := (LR.ntp hA hC hb ho e2).out (fo' := vp_updL fo 0 (v1.toInt64))
      rcases hQ with ⟨h1, h2⟩ | ⟨h1, h2⟩
      · rw [h1] at e1
        cases e1
      · rw [h1] at e1
        cases e1
        obtain ⟨f1, f2, f3, f4, f5⟩ := L.fin (hR.kt hKt) hW
        exact ⟨q, st, x, v, _, f1, f2, f3, hF, h2, f4, fun _ => by simp [vp_updL], f5⟩
    · subst e3
      have L := LR.ntp hA hC hb ho (NTP.rf N)
      obtain ⟨f1, f2, f3, f4, f5⟩ := L.fin (hR.kt hKt) hW
      rcases hQ with ⟨h1, h2⟩ | ⟨h1, h2⟩
      · rw [h1] at e1
        cases e1
        obtain ⟨-, e5⟩ := e4
        subst e5
        exact ⟨q, st, x, v, fo, f1, f2, f3, hF, h2, f4, fun z => absurd z (by decide), f5⟩
      · rw [h1] at e1
        cases e1
theorem ag_code {l : Launch} (hst : l.stackTraces = false) {G : mG} {a b ao : Nat} : Ag_code l G (LJ G a b ao) a b ao := by
  intro m p0 hJ 
  obtain ⟨s, tp, hd, wr, wa, ic, tc, q, st, fo, ⟨ow, F, qt, rfl, rfl, N, hA, hC, hb, ho⟩, hR, hW⟩ := hJ
  obtain ⟨k, hk, v, x, hF, hKt, hQ⟩ := q_code hW.1 hR.1 p0 
  obtain ⟨fs, hroot⟩ := N.root
  have hM := n_X11_code hst N hk
  refine ⟨_, c_L_code hroot hM (fo := fo) (fun v1 m1 z => (LR.ntp hA hC hb ho z.2).out1) (fun E m1 z => ?_), fun r m9 hp => ?_⟩
  · obtain ⟨⟨j, e1, e2⟩, e3⟩ := z
    rcases hQ with ⟨h1, h2⟩ | ⟨h1, h2⟩
    · rw [h1] at e1
      cases e1
      exact e2
    · rw [h1] at e1
      cases e1
  · rcases hp with ⟨rfl, v1, m1, ⟨e1, e2⟩, rfl⟩ | ⟨E, ⟨⟨j, e1, e2⟩, e3⟩, e4⟩
    · have L := (LR.ntp hA hC hb ho e2).out (fo' := vp_updL fo 0 (v1.toInt64))
      rcases hQ with ⟨h1, h2⟩ | ⟨h1, h2⟩
      · rw [h1] at e1
        cases e1
      · rw [h1] at e1
        cases e1
        obtain ⟨f1, f2, f3, f4, f5⟩ := L.fin (hR.kt hKt) hW
        exact ⟨q, st, x, v, _, f1, f2, f3, hF, h2, f4, fun _ => by simp [vp_updL], f5⟩
    · subst e3
      have L := LR.ntp hA hC hb ho (NTP.rf N)
      obtain ⟨f1, f2, f3, f4, f5⟩ := L.fin (hR.kt hKt) hW
      rcases hQ with ⟨h1, h2⟩ | ⟨h1, h2⟩
      · rw [h1] at e1
        cases e1
        obtain ⟨-, e5⟩ := e4
        subst e5
        exact ⟨q, st, x, v, fo, f1, f2, f3, hF, h2, f4, fun z => absurd z (by decide), f5⟩
      · rw [h1] at e1
        cases e1
theorem ag_rank {l : Launch} (hst : l.stackTraces = false) {G : mG} {a b ao : Nat} : Ag_rank l G (LJ G a b ao) a b ao := by
  intro m p0 hJ 
  obtain ⟨s, tp, hd, wr, wa, ic, tc, q, st, fo, ⟨ow, F, qt, rfl, rfl, N, hA, hC, hb, ho⟩, hR, hW⟩ := hJ
  obtain ⟨k, hk, v, x, hF, hKt, hQ⟩ := q_rank hW.1 hR.1 p0 
  obtain ⟨fs, hroot⟩ := N.root
  have hM := n_X11_rank hst N hk
  refine ⟨_, c_L_rank hroot hM (fo := fo) (fun v1 m1 z => (LR.ntp hA hC hb ho z.2).out1) (fun E m1 z => ?_), fun r m9 hp => ?_⟩
  · obtain ⟨⟨j, e1, e2⟩, e3⟩ := z
    rcases hQ with ⟨h1, h2⟩ | ⟨h1, h2⟩
    · rw [h1] at e1
      cases e1
      exact e2
    · rw [h1] at e1
      cases e1
  · rcases hp with ⟨rfl, v1, m1, ⟨e1, e2⟩, rfl⟩ | ⟨E, ⟨⟨j, e1, e2⟩, e3⟩, e4⟩
    · have L := (LR.ntp hA hC hb ho e2).out (fo' := vp_updL fo 0 (v1.toInt64))
      rcases hQ with ⟨h1, h2⟩ | ⟨h1, h2⟩
      · rw [h1] at e1
        cases e1
      · rw [h1] at e1
        cases e1
        obtain ⟨f1, f2, f3, f4, f5⟩ := L.fin (hR.kt hKt) hW
        exact ⟨q, st, x, v, _, f1, f2, f3, hF, h2, f4, fun _ => by simp [vp_updL], f5⟩
    · subst e3
      have L := LR.ntp hA hC hb ho (NTP.rf N)
      obtain ⟨f1, f2, f3, f4, f5⟩ := L.fin (hR.kt hKt) hW
      rcases hQ with ⟨h1, h2⟩ | ⟨h1, h2⟩
      · rw [h1] at e1
        cases e1
        obtain ⟨-, e5⟩ := e4
        subst e5
        exact ⟨q, st, x, v, fo, f1, f2, f3, hF, h2, f4, fun z => absurd z (by decide), f5⟩
      · rw [h1] at e1
        cases e1
theorem ag_far {l : Launch} (hst : l.stackTraces = false) {G : mG} {a b ao : Nat} : Ag_far l G (LJ G a b ao) a b ao := by
  intro m p0 p1 hJ 
  obtain ⟨s, tp, hd, wr, wa, ic, tc, q, st, fo, ⟨ow, F, qt, rfl, rfl, N, hA, hC, hb, ho⟩, hR, hW⟩ := hJ
  obtain ⟨k, hk, v, x, hF, hKt, hQ⟩ := q_far hW.1 hR.1 p0 p1 
  obtain ⟨fs, hroot⟩ := N.root
  have hM := n_X11_far hst N hk
  refine ⟨_, c_L_far hroot hM (fo := fo) (fun v1 m1 z => (LR.ntp hA hC hb ho z.2).out1) (fun E m1 z => ?_), fun r m9 hp => ?_⟩
  · obtain ⟨⟨j, e1, e2⟩, e3⟩ := z
    rcases hQ with ⟨h1, h2⟩ | ⟨h1, h2⟩
    · rw [h1] at e1
      cases e1
      exact e2
    · rw [h1] at e1
      cases e1
  · rcases hp with ⟨rfl, v1, m1, ⟨e1, e2⟩, rfl⟩ | ⟨E, ⟨⟨j, e1, e2⟩, e3⟩, e4⟩
    · have L := (LR.ntp hA hC hb ho e2).out (fo' := vp_updL fo 0 (v1.toInt64))
      rcases hQ with ⟨h1, h2⟩ | ⟨h1, h2⟩
      · rw [h1] at e1
        cases e1
      · rw [h1] at e1
        cases e1
        obtain ⟨f1, f2, f3, f4, f5⟩ := L.fin (hR.kt hKt) hW
        exact ⟨q, st, x, v, _, f1, f2, f3, hF, h2, f4, fun _ => by simp [vp_updL], f5⟩
    · subst e3
      have L := LR.ntp hA hC hb ho (NTP.rf N)
      obtain ⟨f1, f2, f3, f4, f5⟩ := L.fin (hR.kt hKt) hW
      rcases hQ with ⟨h1, h2⟩ | ⟨h1, h2⟩
      · rw [h1] at e1
        cases e1
        obtain ⟨-, e5⟩ := e4
        subst e5
        exact ⟨q, st, x, v, fo, f1, f2, f3, hF, h2, f4, fun z => absurd z (by decide), f5⟩
      · rw [h1] at e1
        cases e1
theorem ag_widest {l : Launch} (hst : l.stackTraces = false) {G : mG} {a b ao : Nat} : Ag_widest l G (LJ G a b ao) a b ao := by
  intro m  hJ 
  obtain ⟨s, tp, hd, wr, wa, ic, tc, q, st, fo, ⟨ow, F, qt, rfl, rfl, N, hA, hC, hb, ho⟩, hR, hW⟩ := hJ
  obtain ⟨k, hk, x, hF, hKt⟩ := q_widest hW.1 hR.1  
  refine ⟨_, n_X11_widest N hk, fun r m9 hp => ?_⟩
  obtain ⟨rfl, e2⟩ := hp
  have L := LR.ntp hA hC hb ho e2
  obtain ⟨f1, f2, f3, f4, f5⟩ := L.fin (hR.kt hKt) hW
  exact ⟨q, st, x, f1, f2, f3, hF, f5⟩
theorem ag_parts {l : Launch} (hst : l.stackTraces = false) {G : mG} {a b ao : Nat} : Ag_parts l G (LJ G a b ao) a b ao := by
  intro m  hJ 
  obtain ⟨s, tp, hd, wr, wa, ic, tc, q, st, fo, ⟨ow, F, qt, rfl, rfl, N, hA, hC, hb, ho⟩, hR, hW⟩ := hJ
  obtain ⟨k, hk, x, hF, hKt⟩ := q_parts hW.1 hR.1  
  refine ⟨_, n_X11_parts N hk, fun r m9 hp => ?_⟩
  obtain ⟨rfl, e2⟩ := hp
  have L := LR.ntp hA hC hb ho e2
  obtain ⟨f1, f2, f3, f4, f5⟩ := L.fin (hR.kt hKt) hW
  exact ⟨q, st, x, f1, f2, f3, hF, f5⟩
theorem ag_ovoid {l : Launch} (hst : l.stackTraces = false) {G : mG} {a b ao : Nat} : Ag_ovoid l G (LJ G a b ao) a b ao := by
  intro m  hJ 
  obtain ⟨s, tp, hd, wr, wa, ic, tc, q, st, fo, ⟨ow, F, qt, rfl, rfl, N, hA, hC, hb, ho⟩, hR, hW⟩ := hJ
  obtain ⟨k, hk, x, hF, hKt⟩ := q_ovoid hW.1 hR.1  
  refine ⟨_, n_X11_ovoid N hk, fun r m9 hp => ?_⟩
  obtain ⟨rfl, e2⟩ := hp
  have L := LR.ntp hA hC hb ho e2
  obtain ⟨f1, f2, f3, f4, f5⟩ := L.fin (hR.kt hKt) hW
  exact ⟨q, st, x, f1, f2, f3, hF, f5⟩
theorem ag_ovoids {l : Launch} (hst : l.stackTraces = false) {G : mG} {a b ao : Nat} : Ag_ovoids l G (LJ G a b ao) a b ao := by
  intro m  hJ 
  obtain ⟨s, tp, hd, wr, wa, ic, tc, q, st, fo, ⟨ow, F, qt, rfl, rfl, N, hA, hC, hb, ho⟩, hR, hW⟩ := hJ
  obtain ⟨k, hk, x, hF, hKt⟩ := q_ovoids hW.1 hR.1  
  refine ⟨_, n_X11_ovoids N hk, fun r m9 hp => ?_⟩
  obtain ⟨rfl, e2⟩ := hp
  have L := LR.ntp hA hC hb ho e2
  obtain ⟨f1, f2, f3, f4, f5⟩ := L.fin (hR.kt hKt) hW
  exact ⟨q, st, x, f1, f2, f3, hF, f5⟩
theorem ag_spread {l : Launch} (hst : l.stackTraces = false) {G : mG} {a b ao : Nat} : Ag_spread l G (LJ G a b ao) a b ao := by
  intro m  hJ 
  obtain ⟨s, tp, hd, wr, wa, ic, tc, q, st, fo, ⟨ow, F, qt, rfl, rfl, N, hA, hC, hb, ho⟩, hR, hW⟩ := hJ
  obtain ⟨k, hk, x, hF, hKt⟩ := q_spread hW.1 hR.1  
  refine ⟨_, n_X11_spread N hk, fun r m9 hp => ?_⟩
  obtain ⟨rfl, e2⟩ := hp
  have L := LR.ntp hA hC hb ho e2
  obtain ⟨f1, f2, f3, f4, f5⟩ := L.fin (hR.kt hKt) hW
  exact ⟨q, st, x, f1, f2, f3, hF, f5⟩
theorem ag_spreads {l : Launch} (hst : l.stackTraces = false) {G : mG} {a b ao : Nat} : Ag_spreads l G (LJ G a b ao) a b ao := by
  intro m  hJ 
  obtain ⟨s, tp, hd, wr, wa, ic, tc, q, st, fo, ⟨ow, F, qt, rfl, rfl, N, hA, hC, hb, ho⟩, hR, hW⟩ := hJ
  obtain ⟨k, hk, x, hF, hKt⟩ := q_spreads hW.1 hR.1  
  refine ⟨_, n_X11_spreads N hk, fun r m9 hp => ?_⟩
  obtain ⟨rfl, e2⟩ := hp
  have L := LR.ntp hA hC hb ho e2
  obtain ⟨f1, f2, f3, f4, f5⟩ := L.fin (hR.kt hKt) hW
  exact ⟨q, st, x, f1, f2, f3, hF, f5⟩
theorem ag_cap {l : Launch} (hst : l.stackTraces = false) {G : mG} {a b ao : Nat} : Ag_cap l G (LJ G a b ao) a b ao := by
  intro m  hJ 
  obtain ⟨s, tp, hd, wr, wa, ic, tc, q, st, fo, ⟨ow, F, qt, rfl, rfl, N, hA, hC, hb, ho⟩, hR, hW⟩ := hJ
  obtain ⟨k, hk, x, hF, hKt⟩ := q_cap hR.1  
  refine ⟨_, n_X11_cap N hk, fun r m9 hp => ?_⟩
  obtain ⟨rfl, e2⟩ := hp
  have L := LR.ntp hA hC hb ho e2
  obtain ⟨f1, f2, f3, f4, f5⟩ := L.fin (hR.kt hKt) hW
  exact ⟨q, st, x, f1, f2, f3, hF, f5⟩
