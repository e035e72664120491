-- X11_like
abbrev rm_X11_like : Room := { frames := 28, cells := 1, slots := 6, locals := 721 }
theorem hd_X11_like : mHd yX11_like 1 := ⟨by decide +kernel, by decide +kernel, by decide +kernel⟩
theorem DX11_like_0 : ∀ t ∈ ([(0, .aload_n 0, 1), (1, .iload_n 1, 1), (2, .invokevirtual 250, 3), (5, .astore_n 2, 1), (6, .aload_n 0, 1), (7, .getfield 19, 3), (10, .getfield 239, 3), (13, .bipush 16, 2), (15, .if_icmp .gt 12, 3), (18, .aload_n 2, 1), (19, .getfield 239, 3), (22, .bipush 16, 2), (24, .if_icmp .le 5, 3), (27, .iconst (-1), 1), (28, .ireturn, 1), (29, .aload_n 0, 1), (30, .getfield 67, 3), (33, .aload_n 0, 1), (34, .getfield 19, 3), (37, .invokevirtual 244, 3), (40, .pop2, 1), (41, .aload_n 0, 1), (42, .getfield 67, 3), (45, .aload_n 0, 1), (46, .getfield 19, 3), (49, .aload_n 2, 1), (50, .invokevirtual 254, 3), (53, .ifCond .eq 7, 3), (56, .iconst 1, 1), (57, .goto 4, 3), (60, .iconst 0, 1), (61, .ireturn, 1)] : List (Nat × Instr × Nat)), decode cX11_like t.1 = .ok (t.2.1, t.2.2) := by decide +kernel
noncomputable def f_X11_like (st : OS) (st_n : OS) (st_u : OS) (st_y : OS) (a0 : Int32) : Option (Nat ⊕ (Int32 × OS)) := (if 16 < (st_n.1 0) then some (.inr (((-1), st_u))) else (if (st_y.1 0) ≤ 16 then (f_X8_countTurnings st_u st_n).bind (fun x3 => match x3 with | (v5, t6) => (f_X8_areAlike t6 st_n st_y).bind (fun x7 => match x7 with | (v9, t10) => (if v9 = 0 then some (.inr ((0, t10))) else some (.inr ((1, t10)))))) else some (.inr (((-1), st_u)))))
set_option maxHeartbeats 4000000 in
set_option maxRecDepth 100000 in
theorem c_X11_like {l : Launch} (hst : l.stackTraces = false) {G : mG} {h : mM} {q : Nat → Nat} {q_n : Nat → Nat} {q_u : Nat → Nat} {q_y : Nat → Nat} (hq : oinj LX11 q) (hq_n : oinj LX10 q_n) (hq_u : oinj LX8 q_u) (hq_y : oinj LX10 q_y) (ha : oap [(LX11, q), (LX10, q_n), (LX8, q_u), (LX10, q_y)]) (lk_n : q 1 = q_n 5) (lk_u : q 9 = q_u 15) {st : OS} {st_n : OS} {st_u : OS} {st_y : OS} {a0 : Int32} {x : Nat ⊕ (Int32 × OS)} {xi j9 : Nat} {fi : Nat → Option Nat} (hk9 : q 4 = xi) (hxt : (oset LX11 G q st (oset LX10 G q_n st_n (oset LX8 G q_u st_u (oset LX10 G q_y st_y h)))) xi = some (aQ G 4 3 fi)) (hj9 : j9 < 3) (hjy : fi j9 = some (q_y 5)) (ha9 : a0 = nI j9) (hF : f_X11_like st st_n st_u st_y a0 = some x) : xQ l G yX11_like cX11_like 3 (some FieldType.int) rm_X11_like [.ref (q 10), .int a0] (oset LX11 G q st (oset LX10 G q_n st_n (oset LX8 G q_u st_u (oset LX10 G q_y st_y h)))) (mQi G (fun r h1 => ∃ y, x = .inr y ∧ r = y.1 ∧ h1 = oset LX11 G q st (oset LX10 G q_n st_n (oset LX8 G q_u y.2 (oset LX10 G q_y st_y h))))) (fun E h1 => ∃ k, x = .inl k ∧ E = exN k ∧ h1 = oset LX11 G q st (oset LX10 G q_n st_n (oset LX8 G q_u st_u (oset LX10 G q_y st_y h)))) := by
  refine xp_of (by decide +kernel) (Nat.le_of_ble_eq_true rfl) ?_
  intro p e s m below meth c X hr hlk hno hH ls hl
  dsimp only [f_X11_like] at hF
  replace hl : lv_has ls 3 [(0, .ref (q 10)), (1, .int a0)] := hl
  refine lv_aload_n X.x X.b (dk DX11_like_0 0 rfl) rfl (lv_at hl 0 rfl) ?_
  refine lv_iload_n X.x X.b (dk DX11_like_0 1 rfl) rfl (lv_at hl 1 rfl) ?_
  refine mr_xr hH (mr_xrunV (As := [.int a0]) (rest := []) X hH (c_X11_imageAt hst hq hk9 hxt) ((oset_at hq (Nat.le_refl _) ohas_N).trans (congrArg some ocell_N)) OX11.1 kM_X11_250 kI_X11_imageAt kS_X11_imageAt kN_X11 kC_X11_imageAt hd_X11_imageAt ⟨Nat.le_of_ble_eq_true rfl, Nat.le_of_ble_eq_true rfl⟩ rfl hl.1 (Nat.le_of_ble_eq_true rfl) (dk DX11_like_0 2 rfl) ⟨Nat.le_of_ble_eq_true rfl, Nat.le_of_ble_eq_true rfl⟩) (fun E h1 q9 H locs hp hH hth => ?_) (fun ra h1 H locs hp hH => ?_)
  · exfalso
    rw [ha9] at hp
    exact hp.1.no (N := 3) (by decide) hj9 hjy
  · obtain ⟨j8, hj1, hj2, hj3, hh⟩ := hp
    rw [hh] at hH
    have hj4 : j8 = j9 := ((nI_eq (by omega) (by omega)).mp (hj1.symm.trans ha9))
    rw [hj4, hjy] at hj3
    cases hj3
    refine lv_astore_n (lv' := [(2, .ref (q_y 5)), (0, .ref (q 10)), (1, .int a0)]) X.x X.b (dk DX11_like_0 3 rfl) rfl hl (by decide) rfl (fun ls hl => ?_)
    replace hl : lv_has ls 3 [(0, .ref (q 10)), (2, .ref (q_y 5))] := lv_sub hl [1, 0] rfl
    refine lv_aload_n X.x X.b (dk DX11_like_0 4 rfl) rfl (lv_at hl 0 rfl) ?_
    refine og_getR (t := 4) OX11 X hq hH 1 (by decide) rfl kF_X11_19 (dk DX11_like_0 5 rfl) ?_
    rw [lk_n]
    refine og_getIN OX10 X hq_n (mH_perm (l1 := [(LX11, q, st), (LX10, q_n, st_n), (LX8, q_u, st_u), (LX10, q_y, st_y)]) (l2 := [(LX10, q_n, st_n), (LX11, q, st), (LX8, q_u, st_u), (LX10, q_y, st_y)]) ha [1, 0, 2, 3] [1, 0, 2, 3] rfl rfl rfl hH) 0 (by decide) rfl kFN_X11_239 (dk DX11_like_0 6 rfl) ?_
    refine lv_bipush (v := 16) X.x X.b (dk DX11_like_0 7 rfl) (by decide) ?_
    refine lv_icmp_gt (tgt := 27) X.x X.b (dk DX11_like_0 8 rfl) (by decide) (fun c1 => ?_) (fun c1 => ?_)
    · replace hF := if_t hF c1
      refine lv_iconst (v := (-1)) X.x X.b (dk DX11_like_0 13 rfl) (by decide) ?_
      cases sm hF
      exact vx_ret (W.widen (k := (rm_X11_like).cells) (n := (rm_X11_like).slots) (Nat.le_of_ble_eq_true rfl) (Nat.le_of_ble_eq_true rfl) (mr_iret X hr hlk hH ⟨_, rfl, rfl, rfl⟩ (dk DX11_like_0 14 rfl)))
    · replace hF := if_f hF c1
      refine lv_aload_n X.x X.b (dk DX11_like_0 9 rfl) rfl (lv_at hl 1 rfl) ?_
      refine og_getIN OX10 X hq_y (mH_perm (l1 := [(LX11, q, st), (LX10, q_n, st_n), (LX8, q_u, st_u), (LX10, q_y, st_y)]) (l2 := [(LX10, q_y, st_y), (LX11, q, st), (LX10, q_n, st_n), (LX8, q_u, st_u)]) ha [3, 0, 1, 2] [1, 2, 3, 0] rfl rfl rfl hH) 0 (by decide) rfl kFN_X11_239 (dk DX11_like_0 10 rfl) ?_
      refine lv_bipush (v := 16) X.x X.b (dk DX11_like_0 11 rfl) (by decide) ?_
      refine lv_icmp_le (tgt := 29) X.x X.b (dk DX11_like_0 12 rfl) (by decide) (fun c2 => ?_) (fun c2 => ?_)
      · replace hF := if_t hF c2
        refine lv_aload_n X.x X.b (dk DX11_like_0 15 rfl) rfl (lv_at hl 0 rfl) ?_
        refine og_getR (t := 4) OX11 X hq hH 9 (by decide) rfl kF_X11_67 (dk DX11_like_0 16 rfl) ?_
        rw [lk_u]
        refine lv_aload_n X.x X.b (dk DX11_like_0 17 rfl) rfl (lv_at hl 0 rfl) ?_
        refine og_getR (t := 4) OX11 X hq hH 1 (by decide) rfl kF_X11_19 (dk DX11_like_0 18 rfl) ?_
        rw [lk_n]
        obtain ⟨x3, e4, hF⟩ := bd hF
        refine mr_cl0 (mH_perm (l1 := [(LX11, q, st), (LX10, q_n, st_n), (LX8, q_u, st_u), (LX10, q_y, st_y)]) (l2 := [(LX8, q_u, st_u), (LX10, q_n, st_n), (LX11, q, st), (LX10, q_y, st_y)]) ha [2, 1, 0, 3] [2, 1, 0, 3] rfl rfl rfl hH) ⟨rfl, rfl⟩ (mr_runV (As := [.ref (q_n 5)]) (rest := []) X (mH_perm (l1 := [(LX11, q, st), (LX10, q_n, st_n), (LX8, q_u, st_u), (LX10, q_y, st_y)]) (l2 := [(LX8, q_u, st_u), (LX10, q_n, st_n), (LX11, q, st), (LX10, q_y, st_y)]) ha [2, 1, 0, 3] [2, 1, 0, 3] rfl rfl rfl hH) (c_X8_countTurnings hq_u hq_n (oap_sub ha [2, 1] rfl rfl) e4) ((oset_at hq_u (Nat.le_refl _) ohas_N).trans (congrArg some ocell_N)) OX8.1 kM_X11_244 kI_X8_countTurnings kS_X8_countTurnings kN_X8 kC_X8_countTurnings hd_X8_countTurnings ⟨Nat.le_of_ble_eq_true rfl, Nat.le_of_ble_eq_true rfl⟩ rfl hl.1 (Nat.le_of_ble_eq_true rfl) (dk DX11_like_0 19 rfl) ⟨Nat.le_of_ble_eq_true rfl, Nat.le_of_ble_eq_true rfl⟩) (fun r h1 H locs hp hH => ?_)
        obtain ⟨hr1, hr2⟩ := hp; rw [hr1]; rw [hr2] at hH; clear hr1 hr2
        obtain ⟨v5, t6⟩ := x3
        try dsimp only at hF hH ⊢
        replace hH : mH G (oset LX11 G q st (oset LX10 G q_n st_n (oset LX8 G q_u t6 (oset LX10 G q_y st_y h)))) s.heap H locs := mH_unperm (l1 := [(LX11, q, st), (LX10, q_n, st_n), (LX8, q_u, t6), (LX10, q_y, st_y)]) (l2 := [(LX8, q_u, t6), (LX10, q_n, st_n), (LX11, q, st), (LX10, q_y, st_y)]) ha [2, 1, 0, 3] [2, 1, 0, 3] rfl rfl rfl hH
        refine lv_pop2_2 X.x X.b (dk DX11_like_0 20 rfl) rfl ?_
        refine lv_aload_n X.x X.b (dk DX11_like_0 21 rfl) rfl (lv_at hl 0 rfl) ?_
        refine og_getR (t := 4) OX11 X hq hH 9 (by decide) rfl kF_X11_67 (dk DX11_like_0 22 rfl) ?_
        rw [lk_u]
        refine lv_aload_n X.x X.b (dk DX11_like_0 23 rfl) rfl (lv_at hl 0 rfl) ?_
        refine og_getR (t := 4) OX11 X hq hH 1 (by decide) rfl kF_X11_19 (dk DX11_like_0 24 rfl) ?_
        rw [lk_n]
        refine lv_aload_n X.x X.b (dk DX11_like_0 25 rfl) rfl (lv_at hl 1 rfl) ?_
        obtain ⟨x7, e8, hF⟩ := bd hF
        refine mr_ci0 (mH_perm (l1 := [(LX11, q, st), (LX10, q_n, st_n), (LX8, q_u, t6), (LX10, q_y, st_y)]) (l2 := [(LX8, q_u, t6), (LX10, q_n, st_n), (LX10, q_y, st_y), (LX11, q, st)]) ha [2, 1, 3, 0] [3, 1, 0, 2] rfl rfl rfl hH) ⟨rfl, rfl⟩ (mr_runV (As := [.ref (q_n 5), .ref (q_y 5)]) (rest := []) X (mH_perm (l1 := [(LX11, q, st), (LX10, q_n, st_n), (LX8, q_u, t6), (LX10, q_y, st_y)]) (l2 := [(LX8, q_u, t6), (LX10, q_n, st_n), (LX10, q_y, st_y), (LX11, q, st)]) ha [2, 1, 3, 0] [3, 1, 0, 2] rfl rfl rfl hH) (c_X8_areAlike hq_u hq_n hq_y (oap_sub ha [2, 1, 3] rfl rfl) e8) ((oset_at hq_u (Nat.le_refl _) ohas_N).trans (congrArg some ocell_N)) OX8.1 kM_X11_254 kI_X8_areAlike kS_X8_areAlike kN_X8 kC_X8_areAlike hd_X8_areAlike ⟨Nat.le_of_ble_eq_true rfl, Nat.le_of_ble_eq_true rfl⟩ rfl hl.1 (Nat.le_of_ble_eq_true rfl) (dk DX11_like_0 26 rfl) ⟨Nat.le_of_ble_eq_true rfl, Nat.le_of_ble_eq_true rfl⟩) (fun r h1 H locs hp hH => ?_)
        obtain ⟨hr1, hr2⟩ := hp; rw [hr1]; rw [hr2] at hH; clear hr1 hr2
        obtain ⟨v9, t10⟩ := x7
        try dsimp only at hF hH ⊢
        replace hH : mH G (oset LX11 G q st (oset LX10 G q_n st_n (oset LX8 G q_u t10 (oset LX10 G q_y st_y h)))) s.heap H locs := mH_unperm (l1 := [(LX11, q, st), (LX10, q_n, st_n), (LX8, q_u, t10), (LX10, q_y, st_y)]) (l2 := [(LX8, q_u, t10), (LX10, q_n, st_n), (LX10, q_y, st_y), (LX11, q, st)]) ha [2, 1, 3, 0] [3, 1, 0, 2] rfl rfl rfl hH
        refine lv_if_eq (tgt := 60) X.x X.b (dk DX11_like_0 27 rfl) (by decide) (fun c11 => ?_) (fun c11 => ?_)
        · replace hF := if_t hF c11
          refine lv_iconst (v := 0) X.x X.b (dk DX11_like_0 30 rfl) (by decide) ?_
          cases sm hF
          exact vx_ret (W.widen (k := (rm_X11_like).cells) (n := (rm_X11_like).slots) (Nat.le_of_ble_eq_true rfl) (Nat.le_of_ble_eq_true rfl) (mr_iret X hr hlk hH ⟨_, rfl, rfl, rfl⟩ (dk DX11_like_0 31 rfl)))
        · replace hF := if_f hF c11
          refine lv_iconst (v := 1) X.x X.b (dk DX11_like_0 28 rfl) (by decide) ?_
          refine lv_goto (tgt := 61) X.x X.b (dk DX11_like_0 29 rfl) (by decide) ?_
          cases sm hF
          exact vx_ret (W.widen (k := (rm_X11_like).cells) (n := (rm_X11_like).slots) (Nat.le_of_ble_eq_true rfl) (Nat.le_of_ble_eq_true rfl) (mr_iret X hr hlk hH ⟨_, rfl, rfl, rfl⟩ (dk DX11_like_0 31 rfl)))
      · replace hF := if_f hF c2
        refine lv_iconst (v := (-1)) X.x X.b (dk DX11_like_0 13 rfl) (by decide) ?_
        cases sm hF
        exact vx_ret (W.widen (k := (rm_X11_like).cells) (n := (rm_X11_like).slots) (Nat.le_of_ble_eq_true rfl) (Nat.le_of_ble_eq_true rfl) (mr_iret X hr hlk hH ⟨_, rfl, rfl, rfl⟩ (dk DX11_like_0 14 rfl)))
-- X11_restore
abbrev rm_X11_restore : Room := { frames := 7, cells := 1, slots := 6, locals := 112 }
theorem hd_X11_restore : mHd yX11_restore 1 := ⟨by decide +kernel, by decide +kernel, by decide +kernel⟩
theorem DX11_restore_0 : ∀ t ∈ ([(0, .aload_n 0, 1), (1, .getfield 19, 3), (4, .aload_n 0, 1), (5, .iload_n 1, 1), (6, .invokevirtual 250, 3), (9, .invokevirtual 97, 3), (12, .aload_n 0, 1), (13, .getfield 29, 3), (16, .invokevirtual 101, 3), (19, .return_, 1)] : List (Nat × Instr × Nat)), decode cX11_restore t.1 = .ok (t.2.1, t.2.2) := by decide +kernel
noncomputable def f_X11_restore (st : OS) (st_n : OS) (st_hs : OS) (st_y : OS) (a0 : Int32) : Option (Nat ⊕ (OS × OS)) := (f_X10_copy st_n st_y).bind (fun x1 => (f_X1_forget st_hs).bind (fun x4 => some (.inr ((x1, x4)))))
set_option maxHeartbeats 4000000 in
set_option maxRecDepth 100000 in
theorem c_X11_restore {l : Launch} (hst : l.stackTraces = false) {G : mG} {h : mM} {q : Nat → Nat} {q_n : Nat → Nat} {q_hs : Nat → Nat} {q_y : Nat → Nat} (hq : oinj LX11 q) (hq_n : oinj LX10 q_n) (hq_hs : oinj LX1 q_hs) (hq_y : oinj LX10 q_y) (ha : oap [(LX11, q), (LX10, q_n), (LX1, q_hs), (LX10, q_y)]) (lk_n : q 1 = q_n 5) (lk_hs : q 3 = q_hs 4) {st : OS} {st_n : OS} {st_hs : OS} {st_y : OS} {a0 : Int32} {x : Nat ⊕ (OS × OS)} {xi j9 : Nat} {fi : Nat → Option Nat} (hk9 : q 4 = xi) (hxt : (oset LX11 G q st (oset LX10 G q_n st_n (oset LX1 G q_hs st_hs (oset LX10 G q_y st_y h)))) xi = some (aQ G 4 3 fi)) (hj9 : j9 < 3) (hjy : fi j9 = some (q_y 5)) (ha9 : a0 = nI j9) (hF : f_X11_restore st st_n st_hs st_y a0 = some x) : xQ l G yX11_restore cX11_restore 2 none rm_X11_restore [.ref (q 10), .int a0] (oset LX11 G q st (oset LX10 G q_n st_n (oset LX1 G q_hs st_hs (oset LX10 G q_y st_y h)))) (mQv G (fun h1 => ∃ y, x = .inr y ∧ h1 = oset LX11 G q st (oset LX10 G q_n y.1 (oset LX1 G q_hs y.2 (oset LX10 G q_y st_y h))))) (fun E h1 => ∃ k, x = .inl k ∧ E = exN k ∧ h1 = oset LX11 G q st (oset LX10 G q_n st_n (oset LX1 G q_hs st_hs (oset LX10 G q_y st_y h)))) := by
  refine xp_of (by decide +kernel) (Nat.le_of_ble_eq_true rfl) ?_
  intro p e s m below meth c X hr hlk hno hH ls hl
  dsimp only [f_X11_restore] at hF
  replace hl : lv_has ls 2 [(0, .ref (q 10)), (1, .int a0)] := hl
  refine lv_aload_n X.x X.b (dk DX11_restore_0 0 rfl) rfl (lv_at hl 0 rfl) ?_
  refine og_getR (t := 4) OX11 X hq hH 1 (by decide) rfl kF_X11_19 (dk DX11_restore_0 1 rfl) ?_
  rw [lk_n]
  refine lv_aload_n X.x X.b (dk DX11_restore_0 2 rfl) rfl (lv_at hl 0 rfl) ?_
  refine lv_iload_n X.x X.b (dk DX11_restore_0 3 rfl) rfl (lv_at hl 1 rfl) ?_
  refine mr_xr hH (mr_xrunV (As := [.int a0]) (rest := [.ref (q_n 5)]) X hH (c_X11_imageAt hst hq hk9 hxt) ((oset_at hq (Nat.le_refl _) ohas_N).trans (congrArg some ocell_N)) OX11.1 kM_X11_250 kI_X11_imageAt kS_X11_imageAt kN_X11 kC_X11_imageAt hd_X11_imageAt ⟨Nat.le_of_ble_eq_true rfl, Nat.le_of_ble_eq_true rfl⟩ rfl hl.1 (Nat.le_of_ble_eq_true rfl) (dk DX11_restore_0 4 rfl) ⟨Nat.le_of_ble_eq_true rfl, Nat.le_of_ble_eq_true rfl⟩) (fun E h1 q9 H locs hp hH hth => ?_) (fun ra h1 H locs hp hH => ?_)
  · exfalso
    rw [ha9] at hp
    exact hp.1.no (N := 3) (by decide) hj9 hjy
  · obtain ⟨j8, hj1, hj2, hj3, hh⟩ := hp
    rw [hh] at hH
    have hj4 : j8 = j9 := ((nI_eq (by omega) (by omega)).mp (hj1.symm.trans ha9))
    rw [hj4, hjy] at hj3
    cases hj3
    obtain ⟨x1, e2, hF⟩ := bd hF
    refine mr_cv0 (mH_perm (l1 := [(LX11, q, st), (LX10, q_n, st_n), (LX1, q_hs, st_hs), (LX10, q_y, st_y)]) (l2 := [(LX10, q_n, st_n), (LX10, q_y, st_y), (LX11, q, st), (LX1, q_hs, st_hs)]) ha [1, 3, 0, 2] [2, 0, 3, 1] rfl rfl rfl hH) ⟨rfl, rfl⟩ (mr_runV (As := [.ref (q_y 5)]) (rest := []) X (mH_perm (l1 := [(LX11, q, st), (LX10, q_n, st_n), (LX1, q_hs, st_hs), (LX10, q_y, st_y)]) (l2 := [(LX10, q_n, st_n), (LX10, q_y, st_y), (LX11, q, st), (LX1, q_hs, st_hs)]) ha [1, 3, 0, 2] [2, 0, 3, 1] rfl rfl rfl hH) (c_X10_copy hq_n hq_y (oap_sub ha [1, 3] rfl rfl) e2) ((oset_at hq_n (Nat.le_refl _) ohas_N).trans (congrArg some ocell_N)) OX10.1 kM_X11_97 kI_X10_copy kS_X10_copy kN_X10 kC_X10_copy hd_X10_copy ⟨Nat.le_of_ble_eq_true rfl, Nat.le_of_ble_eq_true rfl⟩ rfl hl.1 (Nat.le_of_ble_eq_true rfl) (dk DX11_restore_0 5 rfl) ⟨Nat.le_of_ble_eq_true rfl, Nat.le_of_ble_eq_true rfl⟩) (fun h1 H locs hp hH => ?_)
    rw [hp] at hH; clear hp
    replace hH : mH G (oset LX11 G q st (oset LX10 G q_n x1 (oset LX1 G q_hs st_hs (oset LX10 G q_y st_y h)))) s.heap H locs := mH_unperm (l1 := [(LX11, q, st), (LX10, q_n, x1), (LX1, q_hs, st_hs), (LX10, q_y, st_y)]) (l2 := [(LX10, q_n, x1), (LX10, q_y, st_y), (LX11, q, st), (LX1, q_hs, st_hs)]) ha [1, 3, 0, 2] [2, 0, 3, 1] rfl rfl rfl hH
    refine lv_aload_n X.x X.b (dk DX11_restore_0 6 rfl) rfl (lv_at hl 0 rfl) ?_
    refine og_getR (t := 4) OX11 X hq hH 3 (by decide) rfl kF_X11_29 (dk DX11_restore_0 7 rfl) ?_
    rw [lk_hs]
    obtain ⟨x4, e5, hF⟩ := bd hF
    refine mr_cv0 (mH_perm (l1 := [(LX11, q, st), (LX10, q_n, x1), (LX1, q_hs, st_hs), (LX10, q_y, st_y)]) (l2 := [(LX1, q_hs, st_hs), (LX11, q, st), (LX10, q_n, x1), (LX10, q_y, st_y)]) ha [2, 0, 1, 3] [1, 2, 0, 3] rfl rfl rfl hH) ⟨rfl, rfl⟩ (mr_runV (As := []) (rest := []) X (mH_perm (l1 := [(LX11, q, st), (LX10, q_n, x1), (LX1, q_hs, st_hs), (LX10, q_y, st_y)]) (l2 := [(LX1, q_hs, st_hs), (LX11, q, st), (LX10, q_n, x1), (LX10, q_y, st_y)]) ha [2, 0, 1, 3] [1, 2, 0, 3] rfl rfl rfl hH) (c_X1_forget hq_hs e5) ((oset_at hq_hs (Nat.le_refl _) ohas_N).trans (congrArg some ocell_N)) OX1.1 kM_X11_101 kI_X1_forget kS_X1_forget kN_X1 kC_X1_forget hd_X1_forget ⟨Nat.le_of_ble_eq_true rfl, Nat.le_of_ble_eq_true rfl⟩ rfl hl.1 (Nat.le_of_ble_eq_true rfl) (dk DX11_restore_0 8 rfl) ⟨Nat.le_of_ble_eq_true rfl, Nat.le_of_ble_eq_true rfl⟩) (fun h1 H locs hp hH => ?_)
    rw [hp] at hH; clear hp
    replace hH : mH G (oset LX11 G q st (oset LX10 G q_n x1 (oset LX1 G q_hs x4 (oset LX10 G q_y st_y h)))) s.heap H locs := mH_unperm (l1 := [(LX11, q, st), (LX10, q_n, x1), (LX1, q_hs, x4), (LX10, q_y, st_y)]) (l2 := [(LX1, q_hs, x4), (LX11, q, st), (LX10, q_n, x1), (LX10, q_y, st_y)]) ha [2, 0, 1, 3] [1, 2, 0, 3] rfl rfl rfl hH
    cases sm hF
    exact vx_ret (W.widen (k := (rm_X11_restore).cells) (n := (rm_X11_restore).slots) (Nat.le_of_ble_eq_true rfl) (Nat.le_of_ble_eq_true rfl) (mr_vret X hr hlk hH ⟨_, rfl, rfl⟩ (dk DX11_restore_0 9 rfl)))
-- X11_write
abbrev rm_X11_write : Room := { frames := 7, cells := 2, slots := 12, locals := 112 }
theorem hd_X11_write : mHd yX11_write 3 := ⟨by decide +kernel, by decide +kernel, by decide +kernel⟩
theorem DX11_write_0 : ∀ t ∈ ([(0, .aload_n 0, 1), (1, .iload_n 1, 1), (2, .invokevirtual 280, 3), (5, .astore 5, 2), (7, .iload_n 2, 1), (8, .ifCond .lt 12, 3), (11, .iload_n 2, 1), (12, .aload 5, 2), (14, .getfield 284, 3), (17, .if_icmp .lt 14, 3), (20, .new 303, 3), (23, .dup, 1), (24, .ldc_w 305, 3), (27, .invokespecial 307, 3), (30, .athrow, 1), (31, .aload 5, 2), (33, .iload_n 2, 1), (34, .lload_n 3, 1), (35, .invokevirtual 308, 3), (38, .aload 5, 2), (40, .iload_n 2, 1), (41, .invokevirtual 311, 3), (44, .lreturn, 1)] : List (Nat × Instr × Nat)), decode cX11_write t.1 = .ok (t.2.1, t.2.2) := by decide +kernel
noncomputable def f_X11_write (st : OS) (st_y : OS) (a0 : Int32) (a1 : Int32) (a2 : Int64) : Option (Nat ⊕ (Int64 × OS)) := (if a1 < 0 then some (.inl 3) else (if a1 < (st_y.1 1) then (f_X7_put st_y a1 a2).bind (fun x3 => (f_X7_cellAt x3 a1).bind (fun x6 => some (.inr ((x6, x3))))) else some (.inl 3)))
set_option maxHeartbeats 4000000 in
set_option maxRecDepth 100000 in
theorem c_X11_write {l : Launch} (hst : l.stackTraces = false) {G : mG} {h : mM} {q : Nat → Nat} {q_y : Nat → Nat} (hq : oinj LX11 q) (hq_y : oinj LX7 q_y) (ha : oap [(LX11, q), (LX7, q_y)]) {st : OS} {st_y : OS} {a0 : Int32} {a1 : Int32} {a2 : Int64} {x : Nat ⊕ (Int64 × OS)} {xi j9 : Nat} {fi : Nat → Option Nat} (hk9 : q 5 = xi) (hxt : (oset LX11 G q st (oset LX7 G q_y st_y h)) xi = some (aQ G 5 4 fi)) (hj9 : j9 < 4) (hjy : fi j9 = some (q_y 3)) (ha9 : a0 = nI j9) (hF : f_X11_write st st_y a0 a1 a2 = some x) : xQ l G yX11_write cX11_write 6 (some FieldType.long) rm_X11_write [.ref (q 10), .int a0, .int a1, .long a2] (oset LX11 G q st (oset LX7 G q_y st_y h)) (mQl G (fun r h1 => ∃ y, x = .inr y ∧ r = y.1 ∧ h1 = oset LX11 G q st (oset LX7 G q_y y.2 h))) (fun E h1 => ∃ k, x = .inl k ∧ E = exN k ∧ h1 = oset LX11 G q st (oset LX7 G q_y st_y h)) := by
  refine xp_of (by decide +kernel) (Nat.le_of_ble_eq_true rfl) ?_
  intro p e s m below meth c X hr hlk hno hH ls hl
  dsimp only [f_X11_write] at hF
  replace hl : lv_has ls 6 [(0, .ref (q 10)), (1, .int a0), (2, .int a1), (3, .long a2)] := hl
  refine lv_aload_n X.x X.b (dk DX11_write_0 0 rfl) rfl (lv_at hl 0 rfl) ?_
  refine lv_iload_n X.x X.b (dk DX11_write_0 1 rfl) rfl (lv_at hl 1 rfl) ?_
  refine mr_xr hH (mr_xrunV (As := [.int a0]) (rest := []) X hH (c_X11_trayAt hst hq hk9 hxt) ((oset_at hq (Nat.le_refl _) ohas_N).trans (congrArg some ocell_N)) OX11.1 kM_X11_280 kI_X11_trayAt kS_X11_trayAt kN_X11 kC_X11_trayAt hd_X11_trayAt ⟨Nat.le_of_ble_eq_true rfl, Nat.le_of_ble_eq_true rfl⟩ rfl hl.1 (Nat.le_of_ble_eq_true rfl) (dk DX11_write_0 2 rfl) ⟨Nat.le_of_ble_eq_true rfl, Nat.le_of_ble_eq_true rfl⟩) (fun E h1 q9 H locs hp hH hth => ?_) (fun ra h1 H locs hp hH => ?_)
  · exfalso
    rw [ha9] at hp
    exact hp.1.no (N := 4) (by decide) hj9 hjy
  · obtain ⟨j8, hj1, hj2, hj3, hh⟩ := hp
    rw [hh] at hH
    have hj4 : j8 = j9 := ((nI_eq (by omega) (by omega)).mp (hj1.symm.trans ha9))
    rw [hj4, hjy] at hj3
    cases hj3
    refine lv_astore (lv' := [(5, .ref (q_y 3)), (0, .ref (q 10)), (1, .int a0), (2, .int a1), (3, .long a2)]) X.x X.b (dk DX11_write_0 3 rfl) hl (by decide) rfl (fun ls hl => ?_)
    replace hl : lv_has ls 6 [(2, .int a1), (3, .long a2), (5, .ref (q_y 3))] := lv_sub hl [3, 4, 0] rfl
    refine lv_iload_n X.x X.b (dk DX11_write_0 4 rfl) rfl (lv_at hl 0 rfl) ?_
    refine lv_if_lt (tgt := 20) X.x X.b (dk DX11_write_0 5 rfl) (by decide) (fun c1 => ?_) (fun c1 => ?_)
    · replace hF := if_t hF c1
      cases sm hF
      exact mr_throwSW X hno hlk hl.1 hst hH 3 20 (by decide +kernel) (by decide +kernel) (by decide +kernel) exT_X11_307 kL_X11_303 kN_ex3 (dk DX11_write_0 10 rfl) (dk DX11_write_0 11 rfl) (dk DX11_write_0 12 rfl) (dk DX11_write_0 13 rfl) (dk DX11_write_0 14 rfl) ⟨Nat.le_of_ble_eq_true rfl, Nat.le_of_ble_eq_true rfl, Nat.le_of_ble_eq_true rfl, Nat.le_of_ble_eq_true rfl⟩ (Nat.le_of_ble_eq_true rfl) (Nat.le_of_ble_eq_true rfl) ⟨_, rfl, rfl, rfl⟩
    · replace hF := if_f hF c1
      refine lv_iload_n X.x X.b (dk DX11_write_0 6 rfl) rfl (lv_at hl 0 rfl) ?_
      refine lv_aload X.x X.b (dk DX11_write_0 7 rfl) (lv_at hl 2 rfl) ?_
      refine og_getIN OX7 X hq_y (mH_perm (l1 := [(LX11, q, st), (LX7, q_y, st_y)]) (l2 := [(LX7, q_y, st_y), (LX11, q, st)]) ha [1, 0] [1, 0] rfl rfl rfl hH) 1 (by decide) rfl kFN_X11_284 (dk DX11_write_0 8 rfl) ?_
      refine lv_icmp_lt (tgt := 31) X.x X.b (dk DX11_write_0 9 rfl) (by decide) (fun c2 => ?_) (fun c2 => ?_)
      · replace hF := if_t hF c2
        refine lv_aload X.x X.b (dk DX11_write_0 15 rfl) (lv_at hl 2 rfl) ?_
        refine lv_iload_n X.x X.b (dk DX11_write_0 16 rfl) rfl (lv_at hl 0 rfl) ?_
        refine lv_lload_n X.x X.b (dk DX11_write_0 17 rfl) rfl (lv_at hl 1 rfl) ?_
        obtain ⟨x3, e4, hF⟩ := bd hF
        refine mr_cv0 (mH_perm (l1 := [(LX11, q, st), (LX7, q_y, st_y)]) (l2 := [(LX7, q_y, st_y), (LX11, q, st)]) ha [1, 0] [1, 0] rfl rfl rfl hH) ⟨rfl, rfl⟩ (mr_runV (As := [.int a1, .long a2]) (rest := []) X (mH_perm (l1 := [(LX11, q, st), (LX7, q_y, st_y)]) (l2 := [(LX7, q_y, st_y), (LX11, q, st)]) ha [1, 0] [1, 0] rfl rfl rfl hH) (c_X7_put hq_y e4) ((oset_at hq_y (Nat.le_refl _) ohas_N).trans (congrArg some ocell_N)) OX7.1 kM_X11_308 kI_X7_put kS_X7_put kN_X7 kC_X7_put hd_X7_put ⟨Nat.le_of_ble_eq_true rfl, Nat.le_of_ble_eq_true rfl⟩ rfl hl.1 (Nat.le_of_ble_eq_true rfl) (dk DX11_write_0 18 rfl) ⟨Nat.le_of_ble_eq_true rfl, Nat.le_of_ble_eq_true rfl⟩) (fun h1 H locs hp hH => ?_)
        rw [hp] at hH; clear hp
        replace hH : mH G (oset LX11 G q st (oset LX7 G q_y x3 h)) s.heap H locs := mH_unperm (l1 := [(LX11, q, st), (LX7, q_y, x3)]) (l2 := [(LX7, q_y, x3), (LX11, q, st)]) ha [1, 0] [1, 0] rfl rfl rfl hH
        refine lv_aload X.x X.b (dk DX11_write_0 19 rfl) (lv_at hl 2 rfl) ?_
        refine lv_iload_n X.x X.b (dk DX11_write_0 20 rfl) rfl (lv_at hl 0 rfl) ?_
        obtain ⟨x6, e7, hF⟩ := bd hF
        refine mr_cl0 (mH_perm (l1 := [(LX11, q, st), (LX7, q_y, x3)]) (l2 := [(LX7, q_y, x3), (LX11, q, st)]) ha [1, 0] [1, 0] rfl rfl rfl hH) ⟨rfl, rfl⟩ (mr_runV (As := [.int a1]) (rest := []) X (mH_perm (l1 := [(LX11, q, st), (LX7, q_y, x3)]) (l2 := [(LX7, q_y, x3), (LX11, q, st)]) ha [1, 0] [1, 0] rfl rfl rfl hH) (c_X7_cellAt hq_y e7) ((oset_at hq_y (Nat.le_refl _) ohas_N).trans (congrArg some ocell_N)) OX7.1 kM_X11_311 kI_X7_cellAt kS_X7_cellAt kN_X7 kC_X7_cellAt hd_X7_cellAt ⟨Nat.le_of_ble_eq_true rfl, Nat.le_of_ble_eq_true rfl⟩ rfl hl.1 (Nat.le_of_ble_eq_true rfl) (dk DX11_write_0 21 rfl) ⟨Nat.le_of_ble_eq_true rfl, Nat.le_of_ble_eq_true rfl⟩) (fun r h1 H locs hp hH => ?_)
        obtain ⟨hr1, hr2⟩ := hp; rw [hr1]; rw [hr2] at hH; clear hr1 hr2
        replace hH : mH G (oset LX11 G q st (oset LX7 G q_y x3 h)) s.heap H locs := mH_unperm (l1 := [(LX11, q, st), (LX7, q_y, x3)]) (l2 := [(LX7, q_y, x3), (LX11, q, st)]) ha [1, 0] [1, 0] rfl rfl rfl hH
        cases sm hF
        exact vx_ret (W.widen (k := (rm_X11_write).cells) (n := (rm_X11_write).slots) (Nat.le_of_ble_eq_true rfl) (Nat.le_of_ble_eq_true rfl) (mr_lret X hr hlk hH ⟨_, rfl, rfl, rfl⟩ (dk DX11_write_0 22 rfl)))
      · replace hF := if_f hF c2
        cases sm hF
        exact mr_throwSW X hno hlk hl.1 hst hH 3 20 (by decide +kernel) (by decide +kernel) (by decide +kernel) exT_X11_307 kL_X11_303 kN_ex3 (dk DX11_write_0 10 rfl) (dk DX11_write_0 11 rfl) (dk DX11_write_0 12 rfl) (dk DX11_write_0 13 rfl) (dk DX11_write_0 14 rfl) ⟨Nat.le_of_ble_eq_true rfl, Nat.le_of_ble_eq_true rfl, Nat.le_of_ble_eq_true rfl, Nat.le_of_ble_eq_true rfl⟩ (Nat.le_of_ble_eq_true rfl) (Nat.le_of_ble_eq_true rfl) ⟨_, rfl, rfl, rfl⟩
-- X11_pour
abbrev rm_X11_pour : Room := { frames := 7, cells := 1, slots := 6, locals := 112 }
theorem hd_X11_pour : mHd yX11_pour 1 := ⟨by decide +kernel, by decide +kernel, by decide +kernel⟩
theorem DX11_pour_0 : ∀ t ∈ ([(0, .aload_n 0, 1), (1, .iload_n 1, 1), (2, .invokevirtual 280, 3), (5, .astore_n 2, 1), (6, .aload_n 2, 1), (7, .getfield 284, 3), (10, .aload_n 0, 1), (11, .getfield 19, 3), (14, .getfield 104, 3), (17, .invokestatic 314, 3), (20, .istore_n 3, 1), (21, .iconst 0, 1), (22, .istore 4, 2), (24, .iload 4, 2), (26, .iload_n 3, 1), (27, .if_icmp .ge 24, 3), (30, .aload_n 2, 1), (31, .iload 4, 2), (33, .aload_n 0, 1), (34, .getfield 19, 3), (37, .iload 4, 2), (39, .invokevirtual 113, 3), (42, .invokevirtual 308, 3), (45, .iinc 4 1, 3), (48, .goto (-24), 3), (51, .iload_n 3, 1), (52, .ireturn, 1)] : List (Nat × Instr × Nat)), decode cX11_pour t.1 = .ok (t.2.1, t.2.2) := by decide +kernel
noncomputable def f_X11_pour_24 (s_t : OS) (s_n : OS) (b3 : Int32) : (OS × Int32) → Option ((OS × Int32) ⊕ (OS)) := fun z => match z with | (s_y, b4) => (if b3 ≤ b4 then some (.inr s_y) else (f_X10_setAt s_n b4).bind (fun x5 => (f_X7_put s_y b4 x5).bind (fun x8 => bnd (b4 + 1 : Int32) (fun v11 => some (.inl ((x8, v11)))))))
noncomputable def f_X11_pour (st : OS) (st_n : OS) (st_y : OS) (a0 : Int32) : Option (Nat ⊕ (Int32 × OS)) := (f_J9_min_7cf53 (st_y.1 1) (st_n.1 1)).bind (fun x1 => (lpv (f_X11_pour_24 st st_n x1) ((st_y, 0))).bind (fun x13 => some (.inr ((x1, x13)))))
set_option maxHeartbeats 4000000 in
set_option maxRecDepth 100000 in
theorem w_X11_pour_24 {p : Program} {l : Launch} {e : Env} {s : State} {m : MethodId} {args : Array Value} {below : List Frame} {meth : Method} {c : Code} {Q : State → Prop} {G : mG} {h : mM} {q : Nat → Nat} {q_n : Nat → Nat} {q_y : Nat → Nat} (hq : oinj LX11 q) (hq_n : oinj LX10 q_n) (hq_y : oinj LX7 q_y) (ha : oap [(LX11, q), (LX10, q_n), (LX7, q_y)]) (lk_n : q 1 = q_n 5) (X : mX G p m c cX11_pour 5 s args RX11) (s_t : OS) (s_n : OS) (b3 : Int32) : ∀ (z : OS × Int32) (r : OS), lpv (f_X11_pour_24 s_t s_n b3) z = some r → ∀ (H : Heap) (locs : List Loc) (ls : Array Slot), mH G (oset LX11 G q s_t (oset LX10 G q_n s_n (oset LX7 G q_y z.1 h))) s.heap H locs → lv_has ls 5 [(0, .ref (q 10)), (2, .ref (q_y 3)), (3, .int b3), (4, .int z.2)] → (∀ (H : Heap) (locs : List Loc) (ls : Array Slot), mH G (oset LX11 G q s_t (oset LX10 G q_n s_n (oset LX7 G q_y r h))) s.heap H locs → lv_has ls 5 [(3, .int b3)] → W p l e rm_X11_pour s m args below meth c H locs (0 + rm_X11_trayAt.cells) (0 + rm_X11_trayAt.slots) Q (F0 m 51 ls [])) → W p l e rm_X11_pour s m args below meth c H locs (0 + rm_X11_trayAt.cells) (0 + rm_X11_trayAt.slots) Q (F0 m 24 ls []) := by
  refine lpv_rec ?_
  intro z r x hF hx H locs ls hH hl K0
  obtain ⟨s_y, b4⟩ := z
  dsimp only [f_X11_pour_24] at hF
  try dsimp only at hH hl
  refine lv_iload X.x X.b (dk DX11_pour_0 13 rfl) (lv_at hl 3 rfl) ?_
  refine lv_iload_n X.x X.b (dk DX11_pour_0 14 rfl) rfl (lv_at hl 2 rfl) ?_
  refine lv_icmp_ge (tgt := 51) X.x X.b (dk DX11_pour_0 15 rfl) (by decide) (fun c4 => ?_) (fun c4 => ?_)
  · replace hF := if_t hF c4
    have hr9 := lp_r hF hx
    subst hr9
    exact K0 _ _ _ hH (lv_sub hl [2] rfl)
  · replace hF := if_f hF c4
    refine lv_aload_n X.x X.b (dk DX11_pour_0 16 rfl) rfl (lv_at hl 1 rfl) ?_
    refine lv_iload X.x X.b (dk DX11_pour_0 17 rfl) (lv_at hl 3 rfl) ?_
    refine lv_aload_n X.x X.b (dk DX11_pour_0 18 rfl) rfl (lv_at hl 0 rfl) ?_
    refine og_getR (t := 4) OX11 X hq hH 1 (by decide) rfl kF_X11_19 (dk DX11_pour_0 19 rfl) ?_
    rw [lk_n]
    refine lv_iload X.x X.b (dk DX11_pour_0 20 rfl) (lv_at hl 3 rfl) ?_
    obtain ⟨x5, e6, hF⟩ := bd hF
    refine mr_cl0 (mH_perm (l1 := [(LX11, q, s_t), (LX10, q_n, s_n), (LX7, q_y, s_y)]) (l2 := [(LX10, q_n, s_n), (LX11, q, s_t), (LX7, q_y, s_y)]) ha [1, 0, 2] [1, 0, 2] rfl rfl rfl hH) ⟨rfl, rfl⟩ (mr_runV (As := [.int b4]) (rest := [.int b4, .ref (q_y 3)]) X (mH_perm (l1 := [(LX11, q, s_t), (LX10, q_n, s_n), (LX7, q_y, s_y)]) (l2 := [(LX10, q_n, s_n), (LX11, q, s_t), (LX7, q_y, s_y)]) ha [1, 0, 2] [1, 0, 2] rfl rfl rfl hH) (c_X10_setAt hq_n e6) ((oset_at hq_n (Nat.le_refl _) ohas_N).trans (congrArg some ocell_N)) OX10.1 kM_X11_113 kI_X10_setAt kS_X10_setAt kN_X10 kC_X10_setAt hd_X10_setAt ⟨Nat.le_of_ble_eq_true rfl, Nat.le_of_ble_eq_true rfl⟩ rfl hl.1 (Nat.le_of_ble_eq_true rfl) (dk DX11_pour_0 21 rfl) ⟨Nat.le_of_ble_eq_true rfl, Nat.le_of_ble_eq_true rfl⟩) (fun r h1 H locs hp hH => ?_)
    obtain ⟨hr1, hr2⟩ := hp; rw [hr1]; rw [hr2] at hH; clear hr1 hr2
    replace hH : mH G (oset LX11 G q s_t (oset LX10 G q_n s_n (oset LX7 G q_y s_y h))) s.heap H locs := mH_unperm (l1 := [(LX11, q, s_t), (LX10, q_n, s_n), (LX7, q_y, s_y)]) (l2 := [(LX10, q_n, s_n), (LX11, q, s_t), (LX7, q_y, s_y)]) ha [1, 0, 2] [1, 0, 2] rfl rfl rfl hH
    obtain ⟨x8, e9, hF⟩ := bd hF
    refine mr_cv0 (mH_perm (l1 := [(LX11, q, s_t), (LX10, q_n, s_n), (LX7, q_y, s_y)]) (l2 := [(LX7, q_y, s_y), (LX11, q, s_t), (LX10, q_n, s_n)]) ha [2, 0, 1] [1, 2, 0] rfl rfl rfl hH) ⟨rfl, rfl⟩ (mr_runV (As := [.int b4, .long x5]) (rest := []) X (mH_perm (l1 := [(LX11, q, s_t), (LX10, q_n, s_n), (LX7, q_y, s_y)]) (l2 := [(LX7, q_y, s_y), (LX11, q, s_t), (LX10, q_n, s_n)]) ha [2, 0, 1] [1, 2, 0] rfl rfl rfl hH) (c_X7_put hq_y e9) ((oset_at hq_y (Nat.le_refl _) ohas_N).trans (congrArg some ocell_N)) OX7.1 kM_X11_308 kI_X7_put kS_X7_put kN_X7 kC_X7_put hd_X7_put ⟨Nat.le_of_ble_eq_true rfl, Nat.le_of_ble_eq_true rfl⟩ rfl hl.1 (Nat.le_of_ble_eq_true rfl) (dk DX11_pour_0 22 rfl) ⟨Nat.le_of_ble_eq_true rfl, Nat.le_of_ble_eq_true rfl⟩) (fun h1 H locs hp hH => ?_)
    rw [hp] at hH; clear hp
    replace hH : mH G (oset LX11 G q s_t (oset LX10 G q_n s_n (oset LX7 G q_y x8 h))) s.heap H locs := mH_unperm (l1 := [(LX11, q, s_t), (LX10, q_n, s_n), (LX7, q_y, x8)]) (l2 := [(LX7, q_y, x8), (LX11, q, s_t), (LX10, q_n, s_n)]) ha [2, 0, 1] [1, 2, 0] rfl rfl rfl hH
    obtain ⟨v11, e12⟩ : ∃ y : Int32, y = b4 + 1 := ⟨_, rfl⟩
    replace hF := bnd_e hF e12
    refine lv_iinc (v := v11) (lv' := [(4, .int v11), (0, .ref (q 10)), (2, .ref (q_y 3)), (3, .int b3)]) X.x X.b (dk DX11_pour_0 23 rfl) hl (k := 3) rfl (by rw [e12]; rfl) (by decide) rfl (fun ls hl => ?_)
    replace hl : lv_has ls 5 [(0, .ref (q 10)), (2, .ref (q_y 3)), (3, .int b3), (4, .int v11)] := lv_sub hl [1, 2, 3, 0] rfl
    refine lv_goto (tgt := 24) X.x X.b (dk DX11_pour_0 24 rfl) (by decide) ?_
    exact (lp_l hF hx) _ _ _ hH (lv_sub hl [0, 1, 2, 3] rfl) K0
set_option maxHeartbeats 4000000 in
set_option maxRecDepth 100000 in
theorem c_X11_pour {l : Launch} (hst : l.stackTraces = false) {G : mG} {h : mM} {q : Nat → Nat} {q_n : Nat → Nat} {q_y : Nat → Nat} (hq : oinj LX11 q) (hq_n : oinj LX10 q_n) (hq_y : oinj LX7 q_y) (ha : oap [(LX11, q), (LX10, q_n), (LX7, q_y)]) (lk_n : q 1 = q_n 5) {st : OS} {st_n : OS} {st_y : OS} {a0 : Int32} {x : Nat ⊕ (Int32 × OS)} {xi j9 : Nat} {fi : Nat → Option Nat} (hk9 : q 5 = xi) (hxt : (oset LX11 G q st (oset LX10 G q_n st_n (oset LX7 G q_y st_y h))) xi = some (aQ G 5 4 fi)) (hj9 : j9 < 4) (hjy : fi j9 = some (q_y 3)) (ha9 : a0 = nI j9) (hF : f_X11_pour st st_n st_y a0 = some x) : xQ l G yX11_pour cX11_pour 5 (some FieldType.int) rm_X11_pour [.ref (q 10), .int a0] (oset LX11 G q st (oset LX10 G q_n st_n (oset LX7 G q_y st_y h))) (mQi G (fun r h1 => ∃ y, x = .inr y ∧ r = y.1 ∧ h1 = oset LX11 G q st (oset LX10 G q_n st_n (oset LX7 G q_y y.2 h)))) (fun E h1 => ∃ k, x = .inl k ∧ E = exN k ∧ h1 = oset LX11 G q st (oset LX10 G q_n st_n (oset LX7 G q_y st_y h))) := by
  refine xp_of (by decide +kernel) (Nat.le_of_ble_eq_true rfl) ?_
  intro p e s m below meth c X hr hlk hno hH ls hl
  dsimp only [f_X11_pour] at hF
  replace hl : lv_has ls 5 [(0, .ref (q 10)), (1, .int a0)] := hl
  refine lv_aload_n X.x X.b (dk DX11_pour_0 0 rfl) rfl (lv_at hl 0 rfl) ?_
  refine lv_iload_n X.x X.b (dk DX11_pour_0 1 rfl) rfl (lv_at hl 1 rfl) ?_
  refine mr_xr hH (mr_xrunV (As := [.int a0]) (rest := []) X hH (c_X11_trayAt hst hq hk9 hxt) ((oset_at hq (Nat.le_refl _) ohas_N).trans (congrArg some ocell_N)) OX11.1 kM_X11_280 kI_X11_trayAt kS_X11_trayAt kN_X11 kC_X11_trayAt hd_X11_trayAt ⟨Nat.le_of_ble_eq_true rfl, Nat.le_of_ble_eq_true rfl⟩ rfl hl.1 (Nat.le_of_ble_eq_true rfl) (dk DX11_pour_0 2 rfl) ⟨Nat.le_of_ble_eq_true rfl, Nat.le_of_ble_eq_true rfl⟩) (fun E h1 q9 H locs hp hH hth => ?_) (fun ra h1 H locs hp hH => ?_)
  · exfalso
    rw [ha9] at hp
    exact hp.1.no (N := 4) (by decide) hj9 hjy
  · obtain ⟨j8, hj1, hj2, hj3, hh⟩ := hp
    rw [hh] at hH
    have hj4 : j8 = j9 := ((nI_eq (by omega) (by omega)).mp (hj1.symm.trans ha9))
    rw [hj4, hjy] at hj3
    cases hj3
    refine lv_astore_n (lv' := [(2, .ref (q_y 3)), (0, .ref (q 10)), (1, .int a0)]) X.x X.b (dk DX11_pour_0 3 rfl) rfl hl (by decide) rfl (fun ls hl => ?_)
    replace hl : lv_has ls 5 [(0, .ref (q 10)), (2, .ref (q_y 3))] := lv_sub hl [1, 0] rfl
    refine lv_aload_n X.x X.b (dk DX11_pour_0 4 rfl) rfl (lv_at hl 1 rfl) ?_
    refine og_getIN OX7 X hq_y (mH_perm (l1 := [(LX11, q, st), (LX10, q_n, st_n), (LX7, q_y, st_y)]) (l2 := [(LX7, q_y, st_y), (LX11, q, st), (LX10, q_n, st_n)]) ha [2, 0, 1] [1, 2, 0] rfl rfl rfl hH) 1 (by decide) rfl kFN_X11_284 (dk DX11_pour_0 5 rfl) ?_
    refine lv_aload_n X.x X.b (dk DX11_pour_0 6 rfl) rfl (lv_at hl 0 rfl) ?_
    refine og_getR (t := 4) OX11 X hq hH 1 (by decide) rfl kF_X11_19 (dk DX11_pour_0 7 rfl) ?_
    rw [lk_n]
    refine og_getIN OX10 X hq_n (mH_perm (l1 := [(LX11, q, st), (LX10, q_n, st_n), (LX7, q_y, st_y)]) (l2 := [(LX10, q_n, st_n), (LX11, q, st), (LX7, q_y, st_y)]) ha [1, 0, 2] [1, 0, 2] rfl rfl rfl hH) 1 (by decide) rfl kFN_X11_104 (dk DX11_pour_0 8 rfl) ?_
    obtain ⟨x1, e2, hF⟩ := bd hF
    refine mr_ci0 hH ⟨rfl, rfl⟩ (mr_runS (As := [.int (st_y.1 1), .int (st_n.1 1)]) (rest := []) X hH (c_J9_min_7cf53 e2) kM_X11_314 kT_J9_min_7cf53 kN_J9 kC_J9_min_7cf53 hd_J9_min_7cf53 ⟨Nat.le_of_ble_eq_true rfl, Nat.le_of_ble_eq_true rfl⟩ rfl hl.1 (Nat.le_of_ble_eq_true rfl) (dk DX11_pour_0 9 rfl) ⟨Nat.le_of_ble_eq_true rfl, Nat.le_of_ble_eq_true rfl⟩) (fun r h1 H locs hp hH => ?_)
    obtain ⟨hr1, hr2⟩ := hp; rw [hr1]; rw [hr2] at hH; clear hr1 hr2
    refine lv_istore_n (lv' := [(3, .int x1), (0, .ref (q 10)), (2, .ref (q_y 3))]) X.x X.b (dk DX11_pour_0 10 rfl) rfl hl (by decide) rfl (fun ls hl => ?_)
    replace hl : lv_has ls 5 [(0, .ref (q 10)), (2, .ref (q_y 3)), (3, .int x1)] := lv_sub hl [1, 2, 0] rfl
    refine lv_iconst (v := 0) X.x X.b (dk DX11_pour_0 11 rfl) (by decide) ?_
    refine lv_istore (lv' := [(4, .int 0), (0, .ref (q 10)), (2, .ref (q_y 3)), (3, .int x1)]) X.x X.b (dk DX11_pour_0 12 rfl) hl (by decide) rfl (fun ls hl => ?_)
    replace hl : lv_has ls 5 [(0, .ref (q 10)), (2, .ref (q_y 3)), (3, .int x1), (4, .int 0)] := lv_sub hl [1, 2, 3, 0] rfl
    obtain ⟨x13, e14, hF⟩ := bd hF
    replace hl : lv_has ls 5 [(0, .ref (q 10)), (2, .ref (q_y 3)), (3, .int x1), (4, .int 0)] := lv_sub hl [0, 1, 2, 3] rfl
    refine w_X11_pour_24 hq hq_n hq_y ha lk_n X st st_n x1 _ _ e14 _ _ _ hH hl (fun H locs ls hH hl => ?_)
    refine lv_iload_n X.x X.b (dk DX11_pour_0 25 rfl) rfl (lv_at hl 0 rfl) ?_
    cases sm hF
    exact vx_ret (W.widen (k := (rm_X11_pour).cells) (n := (rm_X11_pour).slots) (Nat.le_of_ble_eq_true rfl) (Nat.le_of_ble_eq_true rfl) (mr_iret X hr hlk hH ⟨_, rfl, rfl, rfl⟩ (dk DX11_pour_0 26 rfl)))
