/-! what all worlds keep -/
def WFm (w : Wd) : Prop := ∀ s ∈ w.2, s &&& (fst64 w.1 ^^^ (-1)) = 0 ∧ 2 ≤ pcn s
theorem WFm.w {w : Wd} (h : WFm w) : WFw w := fun i hi => h _ (wl_mem hi)
theorem WFw.m {w : Wd} (h : WFw w) : WFm w := fun s hs => by
  obtain ⟨i, hi, e⟩ := List.mem_iff_getElem.mp hs
  have h1 := h i hi
  have h2 := wl_lt hi
  rw [List.getElem?_eq_getElem hi, e] at h2
  rw [← Option.some.inj h2] at h1
  exact h1
theorem sub_fst {s : Int64} {n : Nat} (hn : n ≤ 64) (h : ∀ i, tb s i = true → i < n) : s &&& (fst64 n ^^^ (-1)) = 0 := by
  apply tb_ext
  intro i hi
  rw [tb_dif, tb_0, tb_fst64 hn]
  cases hs : tb s i with
  | false => rfl
  | true => rw [decide_eq_true (h i hs)]; rfl
theorem WFw.add {w : Wd} (h : WFw w) {s : Int64} (h1 : s &&& (fst64 w.1 ^^^ (-1)) = 0) (h2 : 2 ≤ pcn s) : WFw (w.1, w.2 ++ [s]) := by
  refine WFm.w (fun t ht => ?_)
  rcases List.mem_append.mp ht with z | z
  · exact h.m t z
  · rw [List.mem_singleton] at z
    subst z
    exact ⟨h1, h2⟩
theorem WFw.drop {w : Wd} (h : WFw w) (i : Nat) : WFw (w.1, w.2.eraseIdx i) := WFm.w (fun t ht => h.m t (List.mem_of_mem_eraseIdx ht))
theorem WFw.nil (n : Nat) : WFw (n, []) := fun i hi => absurd hi (Nat.not_lt_zero i)
theorem WFw.dual {w : Wd} (hl : w.2.length ≤ 64) : WFw (dualW w) := by
  refine WFm.w (fun t ht => ?_)
  have h1 := List.mem_filter.mp ht
  obtain ⟨p, -, rfl⟩ := List.mem_map.mp h1.1
  exact ⟨sub_fst hl (fun i hi => ((tb_thr hl).mp hi).1), of_decide_eq_true h1.2⟩
theorem cnt_lt {p : Nat → Bool} : ∀ {n j : Nat}, j < n → p j = true → cnt p j < cnt p n := by
  intro n
  induction n with
  | zero => intro j h; omega
  | succ n ih =>
    intro j h hp
    simp only [cnt]
    rcases Nat.lt_or_ge j n with q | q
    · have := ih q hp
      split <;> omega
    · have : j = n := by omega
      subst this
      rw [hp]
      simp
theorem ren_pc {set stay : Int64} {i : Nat} (h : tb (ren set stay) i = true) : i < pcn stay := by
  have key : ∀ n, n ≤ 64 → ∀ i, tb (renT set stay n) i = true → ∃ p, p < n ∧ tb stay p = true ∧ i = cnt (tb stay) p := by
    intro n
    induction n with
    | zero => intro _ i h; simp only [renT, tb_0] at h; cases h
    | succ n ih =>
      intro hn i h
      simp only [renT, tb_or, Bool.or_eq_true] at h
      rcases h with h | h
      · obtain ⟨p, h1, h2, h3⟩ := ih (by omega) i h
        exact ⟨p, by omega, h2, h3⟩
      · by_cases hb : (tb stay n && tb set n) = true
        · rw [if_pos hb, tb_bit1 (by have := cnt_le (tb stay) n; omega)] at h
          rw [Bool.and_eq_true] at hb
          exact ⟨n, by omega, hb.1, of_decide_eq_true h⟩
        · rw [if_neg hb, tb_0] at h
          cases h
  obtain ⟨p, h1, h2, h3⟩ := key 64 (Nat.le_refl _) i h
  rw [h3]
  exact cnt_lt h1 h2
theorem WFw.left {w : Wd} {p : Nat} : WFw (leftW w p) := by
  refine WFm.w (fun t ht => ?_)
  have h1 := List.mem_filter.mp ht
  obtain ⟨s, -, rfl⟩ := List.mem_map.mp h1.1
  exact ⟨sub_fst (pcn_le _) (fun i hi => ren_pc hi), of_decide_eq_true h1.2⟩
theorem mem_push {bs : List Wd} {w v : Wd} (h : v ∈ pushW bs w) : v ∈ bs ∨ v = w := by
  unfold pushW at h
  split at h
  · rcases List.mem_append.mp h with z | z
    · exact Or.inl (List.mem_of_mem_tail z)
    · exact Or.inr (List.mem_singleton.mp z)
  · rcases List.mem_append.mp h with z | z
    · exact Or.inl z
    · exact Or.inr (List.mem_singleton.mp z)
theorem WFs.act {s : Wst} {ic : Nat → Option Wd} (h : WFs s ic) {w : Wd} (hw : WFw w) : WFs (w, pushW s.2.1 s.1, []) ic :=
  ⟨hw, fun v hv => (mem_push hv).elim (h.2.1 v) (fun e => by rw [e]; exact h.1), fun v hv => absurd hv List.not_mem_nil, h.2.2.2⟩
theorem WFs.undo {s : Wst} {ic : Nat → Option Wd} (h : WFs s ic) {b0 : List Wd} {v : Wd} (e : s.2.1 = b0 ++ [v]) : WFs (v, b0, s.2.2 ++ [s.1]) ic := by
  have hm : ∀ u ∈ b0 ++ [v], WFw u := fun u hu => h.2.1 u (by rw [e]; exact hu)
  refine ⟨hm v (by simp), fun u hu => hm u (List.mem_append_left _ hu), fun u hu => ?_, h.2.2.2⟩
  rcases List.mem_append.mp hu with z | z
  · exact h.2.2.1 u z
  · rw [List.mem_singleton.mp z]; exact h.1
theorem WFs.again {s : Wst} {ic : Nat → Option Wd} (h : WFs s ic) {a0 : List Wd} {v : Wd} (e : s.2.2 = a0 ++ [v]) : WFs (v, s.2.1 ++ [s.1], a0) ic := by
  have hm : ∀ u ∈ a0 ++ [v], WFw u := fun u hu => h.2.2.1 u (by rw [e]; exact hu)
  refine ⟨hm v (by simp), fun u hu => ?_, fun u hu => hm u (List.mem_append_left _ hu), h.2.2.2⟩
  rcases List.mem_append.mp hu with z | z
  · exact h.2.1 u z
  · rw [List.mem_singleton.mp z]; exact h.1
theorem WFs.redo {s : Wst} {ic : Nat → Option Wd} (h : WFs s ic) {w : Wd} (hw : WFw w) : WFs (w, [], []) ic :=
  ⟨hw, fun v hv => absurd hv List.not_mem_nil, fun v hv => absurd hv List.not_mem_nil, h.2.2.2⟩
theorem WFs.img {s : Wst} {ic : Nat → Option Wd} (h : WFs s ic) (j : Nat) : WFs s (va_up ic j (some s.1)) :=
  ⟨h.1, h.2.1, h.2.2.1, fun k w e => by
    unfold va_up at e
    split at e
    · cases e; exact h.1
    · exact h.2.2.2 k w e⟩
/-! the answers agree: acts, trays, images -/
section AGA
variable {l : Launch} {G : mG} {a b ao : Nat}
theorem ag_fault : Ag_fault l G (LJ G a b ao) a b ao := by
  intro m p0 hJ
  obtain ⟨s, tp, hd, wr, wa, ic, tc, q, st, fo, ⟨ow, F, qt, rfl, rfl, N, hA, hC, hb, ho⟩, hR, hW⟩ := hJ
  obtain ⟨x, hF, -, hX⟩ := r_fault hR p0
  refine ⟨_, n_X11_fault N, fun r m9 hp => ?_⟩
  obtain ⟨rfl, e2⟩ := hp
  obtain ⟨f1, f2, f3, f4, f5⟩ := (LR.ntp hA hC hb ho e2).fin hX hW
  exact ⟨q, st, x, f1, f2, f3, hF, f5⟩
theorem ag_count : Ag_count l G (LJ G a b ao) a b ao := by
  intro m p0 hJ
  obtain ⟨s, tp, hd, wr, wa, ic, tc, q, st, fo, ⟨ow, F, qt, rfl, rfl, N, hA, hC, hb, ho⟩, hR, hW⟩ := hJ
  obtain ⟨x, hF, -, hX⟩ := r_count hR p0
  refine ⟨_, n_X11_count N, fun r m9 hp => ?_⟩
  obtain ⟨rfl, e2⟩ := hp
  obtain ⟨f1, f2, f3, f4, f5⟩ := (LR.ntp hA hC hb ho e2).fin hX hW
  exact ⟨q, st, x, f1, f2, f3, hF, f5⟩
theorem ag_dual : Ag_dual l G (LJ G a b ao) a b ao := by
  intro m hJ
  obtain ⟨s, tp, hd, wr, wa, ic, tc, q, st, fo, ⟨ow, F, qt, rfl, rfl, N, hA, hC, hb, ho⟩, hR, hW⟩ := hJ
  obtain ⟨x, hF, -, hX⟩ := r_dual hR
  refine ⟨_, n_X11_dual N, fun r m9 hp => ?_⟩
  obtain ⟨rfl, e2⟩ := hp
  obtain ⟨f1, f2, f3, f4, f5⟩ := (LR.ntp hA hC hb ho e2).fin hX (hW.act (WFw.dual hR.1.2.2.2.1))
  exact ⟨q, st, x, f1, f2, f3, hF, f5⟩
theorem ag_undo : Ag_undo l G (LJ G a b ao) a b ao := by
  intro m hJ
  obtain ⟨s, tp, hd, wr, wa, ic, tc, q, st, fo, ⟨ow, F, qt, rfl, rfl, N, hA, hC, hb, ho⟩, hR, hW⟩ := hJ
  obtain ⟨v, x, hF, -, hX1, hX2⟩ := r_undo hR
  refine ⟨_, n_X11_undo N, fun r m9 hp => ?_⟩
  rcases hp with ⟨e1, rfl, e2⟩ | ⟨b0, u, e1, rfl, e2⟩
  · obtain ⟨rfl, hX⟩ := hX1 e1
    obtain ⟨f1, f2, f3, f4, f5⟩ := (LR.ntp hA hC hb ho e2).fin hX hW
    exact ⟨q, st, x, f1, f2, f3, hF, f5⟩
  · obtain ⟨rfl, hX⟩ := hX2 b0 u e1
    obtain ⟨f1, f2, f3, f4, f5⟩ := (LR.ntp hA hC hb ho e2).fin hX (hW.undo e1)
    exact ⟨q, st, x, f1, f2, f3, hF, f5⟩
theorem ag_again : Ag_again l G (LJ G a b ao) a b ao := by
  intro m hJ
  obtain ⟨s, tp, hd, wr, wa, ic, tc, q, st, fo, ⟨ow, F, qt, rfl, rfl, N, hA, hC, hb, ho⟩, hR, hW⟩ := hJ
  obtain ⟨v, x, hF, -, hX1, hX2⟩ := r_again hR
  refine ⟨_, n_X11_again N, fun r m9 hp => ?_⟩
  rcases hp with ⟨e1, rfl, e2⟩ | ⟨b0, u, e1, rfl, e2⟩
  · obtain ⟨rfl, hX⟩ := hX1 e1
    obtain ⟨f1, f2, f3, f4, f5⟩ := (LR.ntp hA hC hb ho e2).fin hX hW
    exact ⟨q, st, x, f1, f2, f3, hF, f5⟩
  · obtain ⟨rfl, hX⟩ := hX2 b0 u e1
    obtain ⟨f1, f2, f3, f4, f5⟩ := (LR.ntp hA hC hb ho e2).fin hX (hW.again e1)
    exact ⟨q, st, x, f1, f2, f3, hF, f5⟩
theorem ag_add (hst : l.stackTraces = false) : Ag_add l G (LJ G a b ao) a b ao := by
  intro m p0 hJ
  obtain ⟨s, tp, hd, wr, wa, ic, tc, q, st, fo, ⟨ow, F, qt, rfl, rfl, N, hA, hC, hb, ho⟩, hR, hW⟩ := hJ
  obtain ⟨v, x, hF, hX1, hX2⟩ := r_add hR p0
  obtain ⟨fs, hroot⟩ := N.root
  refine ⟨_, c_L_add hroot (n_X11_add hst N) (fo := fo) (fun v1 m1 z => ?_) (fun E m1 z => z.1), fun r m9 hp => ?_⟩
  · obtain ⟨-, -, ⟨-, -, z⟩ | ⟨-, -, z⟩⟩ := z
    · exact (LR.ntp hA hC hb ho z).out1
    · exact (LR.ntp hA hC hb ho z).out1
  · rcases hp with ⟨rfl, v1, m1, ⟨e1, e2, e3⟩, rfl⟩ | ⟨E, ⟨e1, e2, e3⟩, e4, e5⟩
    · obtain ⟨h1, h2⟩ := hX2 e1 e2
      rcases e3 with ⟨e3, rfl, e4⟩ | ⟨e3, rfl, e4⟩
      · rcases h2 with ⟨-, rfl, hX⟩ | ⟨h3, -⟩
        · obtain ⟨f1, f2, f3, f4, f5⟩ := (LR.ntp hA hC hb ho e4).out (fo' := vp_updL fo 0 ((-1 : Int32).toInt64)) |>.fin hX hW
          exact ⟨q, st, x, _, _, f1, f2, f3, hF, h1, f4, fun _ => by simp [vp_updL], f5⟩
        · omega
      · rcases h2 with ⟨h3, -⟩ | ⟨-, rfl, hX⟩
        · omega
        · obtain ⟨f1, f2, f3, f4, f5⟩ := (LR.ntp hA hC hb ho e4).out (fo' := vp_updL fo 0 ((nI s.1.2.length).toInt64)) |>.fin hX (hW.act (hW.1.add e1 e2))
          exact ⟨q, st, x, _, _, f1, f2, f3, hF, h1, f4, fun _ => by simp [vp_updL], f5⟩
    · subst e3
      subst e5
      obtain ⟨h1, hX⟩ := hX1 e2
      obtain ⟨f1, f2, f3, f4, f5⟩ := (LR.ntp hA hC hb ho (NTP.rf N)).fin hX hW
      exact ⟨q, st, x, v, fo, f1, f2, f3, hF, h1, f4, fun z => absurd z (by decide), f5⟩
theorem ag_drop (hst : l.stackTraces = false) : Ag_drop l G (LJ G a b ao) a b ao := by
  intro m p0 hJ
  obtain ⟨s, tp, hd, wr, wa, ic, tc, q, st, fo, ⟨ow, F, qt, rfl, rfl, N, hA, hC, hb, ho⟩, hR, hW⟩ := hJ
  obtain ⟨v, x, hF, hX1, hX2⟩ := r_drop hR p0
  obtain ⟨fs, hroot⟩ := N.root
  refine ⟨_, c_L_drop hroot (n_X11_drop hst N) (fo := fo) (fun v1 m1 ⟨_, _, _, _, z⟩ => (LR.ntp hA hC hb ho z).out1) (fun E m1 z => z.1), fun r m9 hp => ?_⟩
  rcases hp with ⟨rfl, v1, m1, ⟨j, e1, e2, rfl, e4⟩, rfl⟩ | ⟨E, ⟨e1, e2, e3⟩, e4, e5⟩
  · obtain ⟨h1, h2, hX⟩ := hX2 j e1 e2
    obtain ⟨f1, f2, f3, f4, f5⟩ := (LR.ntp hA hC hb ho e4).out (fo' := vp_updL fo 0 (wl s.1.2 j)) |>.fin hX (hW.act (hW.1.drop j))
    exact ⟨q, st, x, _, _, f1, f2, f3, hF, h1, f4, fun _ => by rw [h2]; simp [vp_updL], f5⟩
  · subst e3
    subst e5
    obtain ⟨h1, hX⟩ := hX1 e2
    obtain ⟨f1, f2, f3, f4, f5⟩ := (LR.ntp hA hC hb ho (NTP.rf N)).fin hX hW
    exact ⟨q, st, x, v, fo, f1, f2, f3, hF, h1, f4, fun z => absurd z (by decide), f5⟩
theorem ag_left (hst : l.stackTraces = false) : Ag_left l G (LJ G a b ao) a b ao := by
  intro m p0 hJ
  obtain ⟨s, tp, hd, wr, wa, ic, tc, q, st, fo, ⟨ow, F, qt, rfl, rfl, N, hA, hC, hb, ho⟩, hR, hW⟩ := hJ
  obtain ⟨v, x, hF, hX1, hX2⟩ := r_left hR p0
  obtain ⟨fs, hroot⟩ := N.root
  refine ⟨_, c_L_left hroot (n_X11_left hst N) (fo := fo) (fun v1 m1 ⟨_, _, _, _, z⟩ => (LR.ntp hA hC hb ho z).out1) (fun E m1 z => z.1), fun r m9 hp => ?_⟩
  rcases hp with ⟨rfl, v1, m1, ⟨j, e1, e2, rfl, e4⟩, rfl⟩ | ⟨E, ⟨e1, e2, e3⟩, e4, e5⟩
  · obtain ⟨h1, h2, hX⟩ := hX2 j e1 e2
    obtain ⟨f1, f2, f3, f4, f5⟩ := (LR.ntp hA hC hb ho e4).out (fo' := vp_updL fo 0 ((nI (leftW s.1 j).1).toInt64)) |>.fin hX (hW.act WFw.left)
    exact ⟨q, st, x, _, _, f1, f2, f3, hF, h1, f4, fun _ => by rw [h2]; simp [vp_updL], f5⟩
  · subst e3
    subst e5
    obtain ⟨h1, hX⟩ := hX1 e2
    obtain ⟨f1, f2, f3, f4, f5⟩ := (LR.ntp hA hC hb ho (NTP.rf N)).fin hX hW
    exact ⟨q, st, x, v, fo, f1, f2, f3, hF, h1, f4, fun z => absurd z (by decide), f5⟩
theorem NoC.ex {α : Type} {N : Nat} {c : Nat → Option α} {i : Int32} {k : Nat} (h : NoC N c i k) : k = 0 ∨ k = 2 := h.elim (fun z => Or.inl z.1) (fun z => Or.inr z.1)
theorem NoC.E {α : Type} {N : Nat} {c : Nat → Option α} {i : Int32} {E : String} (h : ∃ k, E = exN k ∧ NoC N c i k) : E = exN 0 ∨ E = exN 2 := by
  obtain ⟨k, h1, h2⟩ := h
  rcases h2.ex with rfl | rfl
  · exact Or.inl h1
  · exact Or.inr h1
theorem ex02 : ¬ exN 0 = exN 2 := by decide
theorem ex20 : ¬ exN 2 = exN 0 := by decide
theorem ag_pour (hst : l.stackTraces = false) : Ag_pour l G (LJ G a b ao) a b ao := by
  intro m p0 hJ
  obtain ⟨s, tp, hd, wr, wa, ic, tc, q, st, fo, ⟨ow, F, qt, rfl, rfl, N, hA, hC, hb, ho⟩, hR, hW⟩ := hJ
  obtain ⟨v, x, hF, hX1, hX2⟩ := r_pour hR p0
  obtain ⟨fs, hroot⟩ := N.root
  refine ⟨_, c_L_pour hroot (n_X11_pour hst N) (fo := fo) (fun v1 m1 ⟨_, _, _, _, _, _, _, _, _, z⟩ => (LR.ntp hA hC hb ho z).out1) (fun E m1 z => NoC.E z.1), fun r m9 hp => ?_⟩
  rcases hp with ⟨rfl, v1, m1, ⟨j, so, row, e1, e2, e3, e4, e5, rfl, e7⟩, rfl⟩ | ⟨E, ⟨⟨k, e1, e2⟩, e3⟩, e4⟩
  · obtain ⟨h1, h2, hX⟩ := hX2 j so row e1 e2 e3
    obtain ⟨f1, f2, f3, f4, f5⟩ := (LR.ntp hA hC hb ho e7).out (fo' := vp_updL fo 0 ((nI (min row.length s.1.2.length)).toInt64)) |>.fin hX hW
    exact ⟨q, st, x, _, _, f1, f2, f3, hF, h1, f4, fun _ => by rw [h2]; simp [vp_updL], f5⟩
  · subst e3
    obtain ⟨h1, hX⟩ := hX1 k e2
    obtain ⟨f1, f2, f3, f4, f5⟩ := (LR.ntp hA hC hb ho (NTP.rf N)).fin hX hW
    rcases e2.ex with rfl | rfl
    · rcases e4 with ⟨e4, rfl⟩ | ⟨e4, rfl⟩
      · exact ⟨q, st, x, v, fo, f1, f2, f3, hF, h1, f4, fun z => absurd z (by decide), f5⟩
      · exact absurd (e1.symm.trans e4) ex02
    · rcases e4 with ⟨e4, rfl⟩ | ⟨e4, rfl⟩
      · exact absurd (e1.symm.trans e4) ex20
      · exact ⟨q, st, x, v, fo, f1, f2, f3, hF, h1, f4, fun z => absurd z (by decide), f5⟩
theorem ag_restore (hst : l.stackTraces = false) : Ag_restore l G (LJ G a b ao) a b ao := by
  intro m p0 hJ
  obtain ⟨s, tp, hd, wr, wa, ic, tc, q, st, fo, ⟨ow, F, qt, rfl, rfl, N, hA, hC, hb, ho⟩, hR, hW⟩ := hJ
  obtain ⟨x, hF, hX1, hX2⟩ := r_restore hR p0
  obtain ⟨fs, hroot⟩ := N.root
  refine ⟨_, c_L_restore hroot (n_X11_restore hst N) (fun E m1 z => NoC.E z.1), fun r m9 hp => ?_⟩
  rcases hp with ⟨rfl, j, w, e1, e2, e3, e4⟩ | ⟨E, ⟨⟨k, e1, e2⟩, e3⟩, e4⟩
  · obtain ⟨h1, hX⟩ := hX2 j w e1 e2 e3
    obtain ⟨f1, f2, f3, f4, f5⟩ := (LR.ntp hA hC hb ho e4).fin hX (hW.redo (hW.2.2.2 j w e3))
    exact ⟨q, st, x, f1, f2, f3, hF, h1, f5⟩
  · subst e3
    obtain ⟨h1, hX⟩ := hX1 k e2
    obtain ⟨f1, f2, f3, f4, f5⟩ := (LR.ntp hA hC hb ho (NTP.rf N)).fin hX hW
    rcases e2.ex with rfl | rfl
    · rcases e4 with ⟨e4, rfl⟩ | ⟨e4, rfl⟩
      · exact ⟨q, st, x, f1, f2, f3, hF, h1, f5⟩
      · exact absurd (e1.symm.trans e4) ex02
    · rcases e4 with ⟨e4, rfl⟩ | ⟨e4, rfl⟩
      · exact absurd (e1.symm.trans e4) ex20
      · exact ⟨q, st, x, f1, f2, f3, hF, h1, f5⟩
theorem ag_image (hst : l.stackTraces = false) : Ag_image l G (LJ G a b ao) a b ao := by
  intro m p0 hJ
  obtain ⟨s, tp, hd, wr, wa, ic, tc, q, st, fo, ⟨ow, F, qt, rfl, rfl, N, hA, hC, hb, ho⟩, hR, hW⟩ := hJ
  obtain ⟨x, hF, hX1, hX2⟩ := r_image hR p0
  obtain ⟨fs, hroot⟩ := N.root
  refine ⟨_, c_L_image hroot (n_X11_image hst N) (fun E m1 z => z.1), fun r m9 hp => ?_⟩
  rcases hp with ⟨rfl, j, e1, e2, e4⟩ | ⟨E, ⟨e1, e2, e3⟩, e4, rfl⟩
  · obtain ⟨h1, hX⟩ := hX2 j e1 e2
    obtain ⟨f1, f2, f3, f4, f5⟩ := (LR.ntp hA hC hb ho e4).fin hX (hW.img j)
    exact ⟨q, st, x, f1, f2, f3, hF, h1, f5⟩
  · subst e3
    obtain ⟨h1, hX⟩ := hX1 e2
    obtain ⟨f1, f2, f3, f4, f5⟩ := (LR.ntp hA hC hb ho (NTP.rf N)).fin hX hW
    exact ⟨q, st, x, f1, f2, f3, hF, h1, f5⟩
theorem ex01 : ¬ exN 0 = exN 1 := by decide
theorem ex10 : ¬ exN 1 = exN 0 := by decide
theorem ag_tray (hst : l.stackTraces = false) : Ag_tray l G (LJ G a b ao) a b ao := by
  intro m p0 p1 p2 hJ
  obtain ⟨s, tp, hd, wr, wa, ic, tc, q, st, fo, ⟨ow, F, qt, rfl, rfl, N, hA, hC, hb, ho⟩, hR, hW⟩ := hJ
  obtain ⟨x, hF, hX1, hX2, hX3⟩ := r_tray hR p0 p1 p2
  obtain ⟨fs, hroot⟩ := N.root
  refine ⟨_, c_L_tray hroot (n_X11_tray hst N) (fun E m1 z => z.1.elim (fun y => Or.inl y.1) (fun y => Or.inr y.1)), fun r m9 hp => ?_⟩
  rcases hp with ⟨rfl, j, so', n', e1, e2, e3, e4, e5, e6, e7⟩ | ⟨E, ⟨e1, e3⟩, e4⟩
  · obtain ⟨h1, hX⟩ := hX3 j so' n' e1 e2 e3 e4 e5 e6
    obtain ⟨f1, f2, f3, f4, f5⟩ := (LR.ntp hA hC hb ho e7).fin hX hW
    exact ⟨q, st, x, f1, f2, f3, hF, h1, f5⟩
  · subst e3
    rcases e1 with ⟨e1, e2⟩ | ⟨e1, e2, e3, e5⟩
    · obtain ⟨h1, hX⟩ := hX1 e2
      obtain ⟨f1, f2, f3, f4, f5⟩ := (LR.ntp hA hC hb ho (NTP.rf N)).fin hX hW
      rcases e4 with ⟨e4, rfl⟩ | ⟨e4, rfl⟩
      · exact ⟨q, st, x, f1, f2, f3, hF, h1, f5⟩
      · exact absurd (e1.symm.trans e4) ex01
    · obtain ⟨h1, hX⟩ := hX2 e2 e3 e5
      obtain ⟨f1, f2, f3, f4, f5⟩ := (LR.ntp hA hC hb ho (NTP.rf N)).fin hX hW
      rcases e4 with ⟨e4, rfl⟩ | ⟨e4, rfl⟩
      · exact absurd (e1.symm.trans e4) ex10
      · exact ⟨q, st, x, f1, f2, f3, hF, h1, f5⟩
end AGA
