/-! the answers agree: questions -/
theorem ag_line {l : Launch} (hst : l.stackTraces = false) {G : mG} {a b ao : Nat} : Ag_line l G (LJ G a b ao) a b ao := by
  intro m p0 hJ 
  obtain ⟨s, tp, hd, wr, wa, ic, tc, q, st, fo, ⟨ow, F, qt, rfl, rfl, N, hA, hC, hb, ho⟩, hR, hW⟩ := hJ
  obtain ⟨k, hk, v, x, hF, hKt, hQ⟩ := q_line hR.1 p0 
  obtain ⟨fs, hroot⟩ := N.root
  have hM := n_X11_line hst N hk
  refine ⟨_, c_L_line hroot hM (fo := fo) (fun v1 m1 z => (LR.ntp hA hC hb ho z.2).out1) (fun E m1 z => ?_), fun r m9 hp => ?_⟩
  · obtain ⟨⟨j, e1, e2⟩, e3⟩ := z
    rcases hQ with ⟨h1, h2⟩ | ⟨h1, h2⟩
    · rw [h1] at e1
      cases e1
      exact e2
    · rw [h1] at e1
      cases e1
  · rcases hp with ⟨rfl, v1, m1, ⟨e1, e2⟩, rfl⟩ | ⟨E, ⟨⟨j, e1, e2⟩, e3⟩, e4⟩
    · have L := (LR.ntp hA hC hb ho e2).out (fo' := vp_updL fo 0 (v1))
      rcases hQ with ⟨h1, h2⟩ | ⟨h1, h2⟩
      · rw [h1] at e1
        cases e1
      · rw [h1] at e1
        cases e1
        obtain ⟨f1, f2, f3, f4, f5⟩ := L.fin (hR.kt hKt) hW
        exact ⟨q, st, x, v, _, f1, f2, f3, hF, h2, f4, fun _ => by simp [vp_updL], f5⟩
    · subst e3
      have L := LR.ntp hA hC hb ho (NTP.rf N)
      obtain ⟨f1, f2, f3, f4, f5⟩ := L.fin (hR.kt hKt) hW
      rcases hQ with ⟨h1, h2⟩ | ⟨h1, h2⟩
      · rw [h1] at e1
        cases e1
        obtain ⟨-, e5⟩ := e4
        subst e5
        exact ⟨q, st, x, v, fo, f1, f2, f3, hF, h2, f4, fun z => absurd z (by decide), f5⟩
      · rw [h1] at e1
        cases e1
theorem ag_through {l : Launch} (hst : l.stackTraces = false) {G : mG} {a b ao : Nat} : Ag_through l G (LJ G a b ao) a b ao := by
  intro m p0 hJ 
  obtain ⟨s, tp, hd, wr, wa, ic, tc, q, st, fo, ⟨ow, F, qt, rfl, rfl, N, hA, hC, hb, ho⟩, hR, hW⟩ := hJ
  obtain ⟨k, hk, v, x, hF, hKt, hQ⟩ := q_through hR.1 p0 
  obtain ⟨fs, hroot⟩ := N.root
  have hM := n_X11_through hst N hk
  refine ⟨_, c_L_through hroot hM (fo := fo) (fun v1 m1 z => (LR.ntp hA hC hb ho z.2).out1) (fun E m1 z => ?_), fun r m9 hp => ?_⟩
  · obtain ⟨⟨j, e1, e2⟩, e3⟩ := z
    rcases hQ with ⟨h1, h2⟩ | ⟨h1, h2⟩
    · rw [h1] at e1
      cases e1
      exact e2
    · rw [h1] at e1
      cases e1
  · rcases hp with ⟨rfl, v1, m1, ⟨e1, e2⟩, rfl⟩ | ⟨E, ⟨⟨j, e1, e2⟩, e3⟩, e4⟩
    · have L := (LR.ntp hA hC hb ho e2).out (fo' := vp_updL fo 0 (v1))
      rcases hQ with ⟨h1, h2⟩ | ⟨h1, h2⟩
      · rw [h1] at e1
        cases e1
      · rw [h1] at e1
        cases e1
        obtain ⟨f1, f2, f3, f4, f5⟩ := L.fin (hR.kt hKt) hW
        exact ⟨q, st, x, v, _, f1, f2, f3, hF, h2, f4, fun _ => by simp [vp_updL], f5⟩
    · subst e3
      have L := LR.ntp hA hC hb ho (NTP.rf N)
      obtain ⟨f1, f2, f3, f4, f5⟩ := L.fin (hR.kt hKt) hW
      rcases hQ with ⟨h1, h2⟩ | ⟨h1, h2⟩
      · rw [h1] at e1
        cases e1
        obtain ⟨-, e5⟩ := e4
        subst e5
        exact ⟨q, st, x, v, fo, f1, f2, f3, hF, h2, f4, fun z => absurd z (by decide), f5⟩
      · rw [h1] at e1
        cases e1
theorem ag_joined {l : Launch} (hst : l.stackTraces = false) {G : mG} {a b ao : Nat} : Ag_joined l G (LJ G a b ao) a b ao := by
  intro m p0 p1 hJ 
  obtain ⟨s, tp, hd, wr, wa, ic, tc, q, st, fo, ⟨ow, F, qt, rfl, rfl, N, hA, hC, hb, ho⟩, hR, hW⟩ := hJ
  obtain ⟨k, hk, v, x, hF, hKt, hQ⟩ := q_joined hR.1 p0 p1 
  obtain ⟨fs, hroot⟩ := N.root
  have hM := n_X11_joined hst N hk
  refine ⟨_, c_L_joined hroot hM (fo := fo) (fun v1 m1 z => (LR.ntp hA hC hb ho z.2).out1) (fun E m1 z => ?_), fun r m9 hp => ?_⟩
  · obtain ⟨⟨j, e1, e2⟩, e3⟩ := z
    rcases hQ with ⟨h1, h2⟩ | ⟨h1, h2⟩
    · rw [h1] at e1
      cases e1
      exact e2
    · rw [h1] at e1
      cases e1
  · rcases hp with ⟨rfl, v1, m1, ⟨e1, e2⟩, rfl⟩ | ⟨E, ⟨⟨j, e1, e2⟩, e3⟩, e4⟩
    · have L := (LR.ntp hA hC hb ho e2).out (fo' := vp_updL fo 0 (v1.toInt64))
      rcases hQ with ⟨h1, h2⟩ | ⟨h1, h2⟩
      · rw [h1] at e1
        cases e1
      · rw [h1] at e1
        cases e1
        obtain ⟨f1, f2, f3, f4, f5⟩ := L.fin (hR.kt hKt) hW
        exact ⟨q, st, x, v, _, f1, f2, f3, hF, h2, f4, fun _ => by simp [vp_updL], f5⟩
    · subst e3
      have L := LR.ntp hA hC hb ho (NTP.rf N)
      obtain ⟨f1, f2, f3, f4, f5⟩ := L.fin (hR.kt hKt) hW
      rcases hQ with ⟨h1, h2⟩ | ⟨h1, h2⟩
      · rw [h1] at e1
        cases e1
        obtain ⟨-, e5⟩ := e4
        subst e5
        exact ⟨q, st, x, v, fo, f1, f2, f3, hF, h2, f4, fun z => absurd z (by decide), f5⟩
      · rw [h1] at e1
        cases e1
theorem ag_near {l : Launch} (hst : l.stackTraces = false) {G : mG} {a b ao : Nat} : Ag_near l G (LJ G a b ao) a b ao := by
  intro m p0 hJ 
  obtain ⟨s, tp, hd, wr, wa, ic, tc, q, st, fo, ⟨ow, F, qt, rfl, rfl, N, hA, hC, hb, ho⟩, hR, hW⟩ := hJ
  obtain ⟨k, hk, v, x, hF, hKt, hQ⟩ := q_near hR.1 p0 
  obtain ⟨fs, hroot⟩ := N.root
  have hM := n_X11_near hst N hk
  refine ⟨_, c_L_near hroot hM (fo := fo) (fun v1 m1 z => (LR.ntp hA hC hb ho z.2).out1) (fun E m1 z => ?_), fun r m9 hp => ?_⟩
  · obtain ⟨⟨j, e1, e2⟩, e3⟩ := z
    rcases hQ with ⟨h1, h2⟩ | ⟨h1, h2⟩
    · rw [h1] at e1
      cases e1
      exact e2
    · rw [h1] at e1
      cases e1
  · rcases hp with ⟨rfl, v1, m1, ⟨e1, e2⟩, rfl⟩ | ⟨E, ⟨⟨j, e1, e2⟩, e3⟩, e4⟩
    · have L := (LR.ntp hA hC hb ho e2).out (fo' := vp_updL fo 0 (v1))
      rcases hQ with ⟨h1, h2⟩ | ⟨h1, h2⟩
      · rw [h1] at e1
        cases e1
      · rw [h1] at e1
        cases e1
        obtain ⟨f1, f2, f3, f4, f5⟩ := L.fin (hR.kt hKt) hW
        exact ⟨q, st, x, v, _, f1, f2, f3, hF, h2, f4, fun _ => by simp [vp_updL], f5⟩
    · subst e3
      have L := LR.ntp hA hC hb ho (NTP.rf N)
      obtain ⟨f1, f2, f3, f4, f5⟩ := L.fin (hR.kt hKt) hW
      rcases hQ with ⟨h1, h2⟩ | ⟨h1, h2⟩
      · rw [h1] at e1
        cases e1
        obtain ⟨-, e5⟩ := e4
        subst e5
        exact ⟨q, st, x, v, fo, f1, f2, f3, hF, h2, f4, fun z => absurd z (by decide), f5⟩
      · rw [h1] at e1
        cases e1
theorem ag_across {l : Launch} (hst : l.stackTraces = false) {G : mG} {a b ao : Nat} : Ag_across l G (LJ G a b ao) a b ao := by
  intro m p0 hJ 
  obtain ⟨s, tp, hd, wr, wa, ic, tc, q, st, fo, ⟨ow, F, qt, rfl, rfl, N, hA, hC, hb, ho⟩, hR, hW⟩ := hJ
  obtain ⟨k, hk, v, x, hF, hKt, hQ⟩ := q_across hR.1 p0 
  obtain ⟨fs, hroot⟩ := N.root
  have hM := n_X11_across hst N hk
  refine ⟨_, c_L_across hroot hM (fo := fo) (fun v1 m1 z => (LR.ntp hA hC hb ho z.2).out1) (fun E m1 z => ?_), fun r m9 hp => ?_⟩
  · obtain ⟨⟨j, e1, e2⟩, e3⟩ := z
    rcases hQ with ⟨h1, h2⟩ | ⟨h1, h2⟩
    · rw [h1] at e1
      cases e1
      exact e2
    · rw [h1] at e1
      cases e1
  · rcases hp with ⟨rfl, v1, m1, ⟨e1, e2⟩, rfl⟩ | ⟨E, ⟨⟨j, e1, e2⟩, e3⟩, e4⟩
    · have L := (LR.ntp hA hC hb ho e2).out (fo' := vp_updL fo 0 (v1))
      rcases hQ with ⟨h1, h2⟩ | ⟨h1, h2⟩
      · rw [h1] at e1
        cases e1
      · rw [h1] at e1
        cases e1
        obtain ⟨f1, f2, f3, f4, f5⟩ := L.fin (hR.kt hKt) hW
        exact ⟨q, st, x, v, _, f1, f2, f3, hF, h2, f4, fun _ => by simp [vp_updL], f5⟩
    · subst e3
      have L := LR.ntp hA hC hb ho (NTP.rf N)
      obtain ⟨f1, f2, f3, f4, f5⟩ := L.fin (hR.kt hKt) hW
      rcases hQ with ⟨h1, h2⟩ | ⟨h1, h2⟩
      · rw [h1] at e1
        cases e1
        obtain ⟨-, e5⟩ := e4
        subst e5
        exact ⟨q, st, x, v, fo, f1, f2, f3, hF, h2, f4, fun z => absurd z (by decide), f5⟩
      · rw [h1] at e1
        cases e1
theorem ag_spanned {l : Launch} (hst : l.stackTraces = false) {G : mG} {a b ao : Nat} : Ag_spanned l G (LJ G a b ao) a b ao := by
  intro m p0 hJ 
  obtain ⟨s, tp, hd, wr, wa, ic, tc, q, st, fo, ⟨ow, F, qt, rfl, rfl, N, hA, hC, hb, ho⟩, hR, hW⟩ := hJ
  obtain ⟨k, hk, v, x, hF, hKt, hQ⟩ := q_spanned hR.1 p0 
  obtain ⟨fs, hroot⟩ := N.root
  have hM := n_X11_spanned hst N hk
  refine ⟨_, c_L_spanned hroot hM (fo := fo) (fun v1 m1 z => (LR.ntp hA hC hb ho z.2).out1) (fun E m1 z => ?_), fun r m9 hp => ?_⟩
  · obtain ⟨⟨j, e1, e2⟩, e3⟩ := z
    rcases hQ with ⟨h1, h2⟩ | ⟨h1, h2⟩
    · rw [h1] at e1
      cases e1
      exact e2
    · rw [h1] at e1
      cases e1
  · rcases hp with ⟨rfl, v1, m1, ⟨e1, e2⟩, rfl⟩ | ⟨E, ⟨⟨j, e1, e2⟩, e3⟩, e4⟩
    · have L := (LR.ntp hA hC hb ho e2).out (fo' := vp_updL fo 0 (v1))
      rcases hQ with ⟨h1, h2⟩ | ⟨h1, h2⟩
      · rw [h1] at e1
        cases e1
      · rw [h1] at e1
        cases e1
        obtain ⟨f1, f2, f3, f4, f5⟩ := L.fin (hR.kt hKt) hW
        exact ⟨q, st, x, v, _, f1, f2, f3, hF, h2, f4, fun _ => by simp [vp_updL], f5⟩
    · subst e3
      have L := LR.ntp hA hC hb ho (NTP.rf N)
      obtain ⟨f1, f2, f3, f4, f5⟩ := L.fin (hR.kt hKt) hW
      rcases hQ with ⟨h1, h2⟩ | ⟨h1, h2⟩
      · rw [h1] at e1
        cases e1
        obtain ⟨-, e5⟩ := e4
        subst e5
        exact ⟨q, st, x, v, fo, f1, f2, f3, hF, h2, f4, fun z => absurd z (by decide), f5⟩
      · rw [h1] at e1
        cases e1
theorem ag_hyper {l : Launch} (hst : l.stackTraces = false) {G : mG} {a b ao : Nat} : Ag_hyper l G (LJ G a b ao) a b ao := by
  intro m p0 p1 hJ 
  obtain ⟨s, tp, hd, wr, wa, ic, tc, q, st, fo, ⟨ow, F, qt, rfl, rfl, N, hA, hC, hb, ho⟩, hR, hW⟩ := hJ
  obtain ⟨k, hk, v, x, hF, hKt, hQ⟩ := q_hyper hR.1 p0 p1 
  obtain ⟨fs, hroot⟩ := N.root
  have hM := n_X11_hyper hst N hk
  refine ⟨_, c_L_hyper hroot hM (fo := fo) (fun v1 m1 z => (LR.ntp hA hC hb ho z.2).out1) (fun E m1 z => ?_), fun r m9 hp => ?_⟩
  · obtain ⟨⟨j, e1, e2⟩, e3⟩ := z
    rcases hQ with ⟨h1, h2⟩ | ⟨h1, h2⟩
    · rw [h1] at e1
      cases e1
      exact e2
    · rw [h1] at e1
      cases e1
  · rcases hp with ⟨rfl, v1, m1, ⟨e1, e2⟩, rfl⟩ | ⟨E, ⟨⟨j, e1, e2⟩, e3⟩, e4⟩
    · have L := (LR.ntp hA hC hb ho e2).out (fo' := vp_updL fo 0 (v1))
      rcases hQ with ⟨h1, h2⟩ | ⟨h1, h2⟩
      · rw [h1] at e1
        cases e1
      · rw [h1] at e1
        cases e1
        obtain ⟨f1, f2, f3, f4, f5⟩ := L.fin (hR.kt hKt) hW
        exact ⟨q, st, x, v, _, f1, f2, f3, hF, h2, f4, fun _ => by simp [vp_updL], f5⟩
    · subst e3
      have L := LR.ntp hA hC hb ho (NTP.rf N)
      obtain ⟨f1, f2, f3, f4, f5⟩ := L.fin (hR.kt hKt) hW
      rcases hQ with ⟨h1, h2⟩ | ⟨h1, h2⟩
      · rw [h1] at e1
        cases e1
        obtain ⟨-, e5⟩ := e4
        subst e5
        exact ⟨q, st, x, v, fo, f1, f2, f3, hF, h2, f4, fun z => absurd z (by decide), f5⟩
      · rw [h1] at e1
        cases e1
theorem ag_regular {l : Launch} (hst : l.stackTraces = false) {G : mG} {a b ao : Nat} : Ag_regular l G (LJ G a b ao) a b ao := by
  intro m p0 p1 hJ 
  obtain ⟨s, tp, hd, wr, wa, ic, tc, q, st, fo, ⟨ow, F, qt, rfl, rfl, N, hA, hC, hb, ho⟩, hR, hW⟩ := hJ
  obtain ⟨k, hk, v, x, hF, hKt, hQ⟩ := q_regular hR.1 p0 p1 
  obtain ⟨fs, hroot⟩ := N.root
  have hM := n_X11_regular hst N hk
  refine ⟨_, c_L_regular hroot hM (fo := fo) (fun v1 m1 z => (LR.ntp hA hC hb ho z.2).out1) (fun E m1 z => ?_), fun r m9 hp => ?_⟩
  · obtain ⟨⟨j, e1, e2⟩, e3⟩ := z
    rcases hQ with ⟨h1, h2⟩ | ⟨h1, h2⟩
    · rw [h1] at e1
      cases e1
      exact e2
    · rw [h1] at e1
      cases e1
  · rcases hp with ⟨rfl, v1, m1, ⟨e1, e2⟩, rfl⟩ | ⟨E, ⟨⟨j, e1, e2⟩, e3⟩, e4⟩
    · have L := (LR.ntp hA hC hb ho e2).out (fo' := vp_updL fo 0 ((if v1 = 0 then 0 else 1)))
      rcases hQ with ⟨h1, h2⟩ | ⟨h1, h2⟩
      · rw [h1] at e1
        cases e1
      · rw [h1] at e1
        cases e1
        obtain ⟨f1, f2, f3, f4, f5⟩ := L.fin (hR.kt hKt) hW
        exact ⟨q, st, x, v, _, f1, f2, f3, hF, h2, f4, fun _ => by simp [vp_updL], f5⟩
    · subst e3
      have L := LR.ntp hA hC hb ho (NTP.rf N)
      obtain ⟨f1, f2, f3, f4, f5⟩ := L.fin (hR.kt hKt) hW
      rcases hQ with ⟨h1, h2⟩ | ⟨h1, h2⟩
      · rw [h1] at e1
        cases e1
        obtain ⟨-, e5⟩ := e4
        subst e5
        exact ⟨q, st, x, v, fo, f1, f2, f3, hF, h2, f4, fun z => absurd z (by decide), f5⟩
      · rw [h1] at e1
        cases e1
theorem ag_own {l : Launch} (hst : l.stackTraces = false) {G : mG} {a b ao : Nat} : Ag_own l G (LJ G a b ao) a b ao := by
  intro m p0 p1 hJ hb1
  obtain ⟨s, tp, hd, wr, wa, ic, tc, q, st, fo, ⟨ow, F, qt, rfl, rfl, N, hA, hC, hb, ho⟩, hR, hW⟩ := hJ
  obtain ⟨k, hk, v, x, hF, hKt, hQ⟩ := q_own hR.1 hW.1 p0 p1 
  obtain ⟨fs, hroot⟩ := N.root
  have hM := n_X11_own hst N hk
  refine ⟨_, c_L_own hroot hM (fo := fo) (fun v1 m1 z => (LR.ntp hA hC hb ho z.2).out1) (fun E m1 z => ?_), fun r m9 hp => ?_⟩
  · obtain ⟨⟨j, e1, e2⟩, e3⟩ := z
    rcases hQ with ⟨h1, h2⟩ | ⟨h1, h2⟩
    · rw [h1] at e1
      cases e1
      exact e2
    · rw [h1] at e1
      cases e1
  · rcases hp with ⟨rfl, v1, m1, ⟨e1, e2⟩, rfl⟩ | ⟨E, ⟨⟨j, e1, e2⟩, e3⟩, e4⟩
    · have L := (LR.ntp hA hC hb ho e2).out (fo' := vp_updL fo 0 (v1.toInt64))
      rcases hQ with ⟨h1, h2⟩ | ⟨h1, h2⟩
      · rw [h1] at e1
        cases e1
      · rw [h1] at e1
        cases e1
        obtain ⟨f1, f2, f3, f4, f5⟩ := L.fin (hR.kt hKt) hW
        exact ⟨q, st, x, v, _, f1, f2, f3, hF, h2, f4, fun _ => by simp [vp_updL], f5⟩
    · subst e3
      have L := LR.ntp hA hC hb ho (NTP.rf N)
      obtain ⟨f1, f2, f3, f4, f5⟩ := L.fin (hR.kt hKt) hW
      rcases hQ with ⟨h1, h2⟩ | ⟨h1, h2⟩
      · rw [h1] at e1
        cases e1
        obtain ⟨-, e5⟩ := e4
        subst e5
        exact ⟨q, st, x, v, fo, f1, f2, f3, hF, h2, f4, fun z => absurd z (by decide), f5⟩
      · rw [h1] at e1
        cases e1
theorem ag_law {l : Launch} (hst : l.stackTraces = false) {G : mG} {a b ao : Nat} : Ag_law l G (LJ G a b ao) a b ao := by
  intro m  hJ 
  obtain ⟨s, tp, hd, wr, wa, ic, tc, q, st, fo, ⟨ow, F, qt, rfl, rfl, N, hA, hC, hb, ho⟩, hR, hW⟩ := hJ
  obtain ⟨k, hk, x, hF, hKt⟩ := q_law hR.1  
  refine ⟨_, n_X11_law N hk, fun r m9 hp => ?_⟩
  obtain ⟨rfl, e2⟩ := hp
  have L := LR.ntp hA hC hb ho e2
  obtain ⟨f1, f2, f3, f4, f5⟩ := L.fin (hR.kt hKt) hW
  exact ⟨q, st, x, f1, f2, f3, hF, f5⟩
theorem ag_order {l : Launch} (hst : l.stackTraces = false) {G : mG} {a b ao : Nat} : Ag_order l G (LJ G a b ao) a b ao := by
  intro m p0 hJ hb0
  obtain ⟨s, tp, hd, wr, wa, ic, tc, q, st, fo, ⟨ow, F, qt, rfl, rfl, N, hA, hC, hb, ho⟩, hR, hW⟩ := hJ
  obtain ⟨k, hk, x, hF, hKt⟩ := q_order hR.1 hW.1 p0 hb0
  refine ⟨_, n_X11_order N hk, fun r m9 hp => ?_⟩
  obtain ⟨rfl, e2⟩ := hp
  have L := LR.ntp hA hC hb ho e2
  obtain ⟨f1, f2, f3, f4, f5⟩ := L.fin (hR.kt hKt) hW
  exact ⟨q, st, x, f1, f2, f3, hF, f5⟩
theorem ag_meets {l : Launch} (hst : l.stackTraces = false) {G : mG} {a b ao : Nat} : Ag_meets l G (LJ G a b ao) a b ao := by
  intro m p0 p1 hJ 
  obtain ⟨s, tp, hd, wr, wa, ic, tc, q, st, fo, ⟨ow, F, qt, rfl, rfl, N, hA, hC, hb, ho⟩, hR, hW⟩ := hJ
  obtain ⟨k, hk, v, x, hF, hKt, hQ⟩ := q_meets hR.1 p0 p1 
  obtain ⟨fs, hroot⟩ := N.root
  have hM := n_X11_meets hst N hk
  refine ⟨_, c_L_meets hroot hM (fo := fo) (fun v1 m1 z => (LR.ntp hA hC hb ho z.2).out1) (fun E m1 z => ?_), fun r m9 hp => ?_⟩
  · obtain ⟨⟨j, e1, e2⟩, e3⟩ := z
    rcases hQ with ⟨h1, h2⟩ | ⟨h1, h2⟩ | ⟨h1, h2⟩
    · rw [h1] at e1
      cases e1
      exact Or.inl e2
    · rw [h1] at e1
      cases e1
      exact Or.inr e2
    · rw [h1] at e1
      cases e1
  · rcases hp with ⟨rfl, v1, m1, ⟨e1, e2⟩, rfl⟩ | ⟨E, ⟨⟨j, e1, e2⟩, e3⟩, e4⟩
    · have L := (LR.ntp hA hC hb ho e2).out (fo' := vp_updL fo 0 (v1.toInt64))
      rcases hQ with ⟨h1, h2⟩ | ⟨h1, h2⟩ | ⟨h1, h2⟩
      · rw [h1] at e1
        cases e1
      · rw [h1] at e1
        cases e1
      · rw [h1] at e1
        cases e1
        obtain ⟨f1, f2, f3, f4, f5⟩ := L.fin (hR.kt hKt) hW
        exact ⟨q, st, x, v, _, f1, f2, f3, hF, h2, f4, fun _ => by simp [vp_updL], f5⟩
    · subst e3
      have L := LR.ntp hA hC hb ho (NTP.rf N)
      obtain ⟨f1, f2, f3, f4, f5⟩ := L.fin (hR.kt hKt) hW
      rcases hQ with ⟨h1, h2⟩ | ⟨h1, h2⟩ | ⟨h1, h2⟩
      · rw [h1] at e1
        cases e1
        subst e2
        rcases e4 with ⟨e4, e5⟩ | ⟨e4, e5⟩
        · subst e5
          exact ⟨q, st, x, v, fo, f1, f2, f3, hF, h2, f4, fun z => absurd z (by decide), f5⟩
        · exact absurd e4 (by decide)
      · rw [h1] at e1
        cases e1
        subst e2
        rcases e4 with ⟨e4, e5⟩ | ⟨e4, e5⟩
        · exact absurd e4 (by decide)
        · subst e5
          exact ⟨q, st, x, v, fo, f1, f2, f3, hF, h2, f4, fun z => absurd z (by decide), f5⟩
      · rw [h1] at e1
        cases e1
theorem ag_even {l : Launch} (hst : l.stackTraces = false) {G : mG} {a b ao : Nat} : Ag_even l G (LJ G a b ao) a b ao := by
  intro m p0 hJ 
  obtain ⟨s, tp, hd, wr, wa, ic, tc, q, st, fo, ⟨ow, F, qt, rfl, rfl, N, hA, hC, hb, ho⟩, hR, hW⟩ := hJ
  obtain ⟨k, hk, v, x, hF, hKt, hQ⟩ := q_even hR.1 p0 
  obtain ⟨fs, hroot⟩ := N.root
  have hM := n_X11_even hst N hk
  refine ⟨_, c_L_even hroot hM (fo := fo) (fun v1 m1 z => (LR.ntp hA hC hb ho z.2).out1) (fun E m1 z => ?_), fun r m9 hp => ?_⟩
  · obtain ⟨⟨j, e1, e2⟩, e3⟩ := z
    rcases hQ with ⟨h1, h2⟩ | ⟨h1, h2⟩
    · rw [h1] at e1
      cases e1
      exact e2
    · rw [h1] at e1
      cases e1
  · rcases hp with ⟨rfl, v1, m1, ⟨e1, e2⟩, rfl⟩ | ⟨E, ⟨⟨j, e1, e2⟩, e3⟩, e4⟩
    · have L := (LR.ntp hA hC hb ho e2).out (fo' := vp_updL fo 0 (v1.toInt64))
      rcases hQ with ⟨h1, h2⟩ | ⟨h1, h2⟩
      · rw [h1] at e1
        cases e1
      · rw [h1] at e1
        cases e1
        obtain ⟨f1, f2, f3, f4, f5⟩ := L.fin (hR.kt hKt) hW
        exact ⟨q, st, x, v, _, f1, f2, f3, hF, h2, f4, fun _ => by simp [vp_updL], f5⟩
    · subst e3
      have L := LR.ntp hA hC hb ho (NTP.rf N)
      obtain ⟨f1, f2, f3, f4, f5⟩ := L.fin (hR.kt hKt) hW
      rcases hQ with ⟨h1, h2⟩ | ⟨h1, h2⟩
      · rw [h1] at e1
        cases e1
        obtain ⟨-, e5⟩ := e4
        subst e5
        exact ⟨q, st, x, v, fo, f1, f2, f3, hF, h2, f4, fun z => absurd z (by decide), f5⟩
      · rw [h1] at e1
        cases e1
theorem ag_tight {l : Launch} (hst : l.stackTraces = false) {G : mG} {a b ao : Nat} : Ag_tight l G (LJ G a b ao) a b ao := by
  intro m p0 hJ 
  obtain ⟨s, tp, hd, wr, wa, ic, tc, q, st, fo, ⟨ow, F, qt, rfl, rfl, N, hA, hC, hb, ho⟩, hR, hW⟩ := hJ
  obtain ⟨k, hk, v, x, hF, hKt, hQ⟩ := q_tight hR.1 p0 
  obtain ⟨fs, hroot⟩ := N.root
  have hM := n_X11_tight hst N hk
  refine ⟨_, c_L_tight hroot hM (fo := fo) (fun v1 m1 z => (LR.ntp hA hC hb ho z.2).out1) (fun E m1 z => ?_), fun r m9 hp => ?_⟩
  · obtain ⟨⟨j, e1, e2⟩, e3⟩ := z
    rcases hQ with ⟨h1, h2⟩ | ⟨h1, h2⟩
    · rw [h1] at e1
      cases e1
      exact e2
    · rw [h1] at e1
      cases e1
  · rcases hp with ⟨rfl, v1, m1, ⟨e1, e2⟩, rfl⟩ | ⟨E, ⟨⟨j, e1, e2⟩, e3⟩, e4⟩
    · have L := (LR.ntp hA hC hb ho e2).out (fo' := vp_updL fo 0 (v1.toInt64))
      rcases hQ with ⟨h1, h2⟩ | ⟨h1, h2⟩
      · rw [h1] at e1
        cases e1
      · rw [h1] at e1
        cases e1
        obtain ⟨f1, f2, f3, f4, f5⟩ := L.fin (hR.kt hKt) hW
        exact ⟨q, st, x, v, _, f1, f2, f3, hF, h2, f4, fun _ => by simp [vp_updL], f5⟩
    · subst e3
      have L := LR.ntp hA hC hb ho (NTP.rf N)
      obtain ⟨f1, f2, f3, f4, f5⟩ := L.fin (hR.kt hKt) hW
      rcases hQ with ⟨h1, h2⟩ | ⟨h1, h2⟩
      · rw [h1] at e1
        cases e1
        obtain ⟨-, e5⟩ := e4
        subst e5
        exact ⟨q, st, x, v, fo, f1, f2, f3, hF, h2, f4, fun z => absurd z (by decide), f5⟩
      · rw [h1] at e1
        cases e1
