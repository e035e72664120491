-- X11_tight
abbrev rm_X11_tight : Room := { frames := 7, cells := 1, slots := 6, locals := 112 }
theorem hd_X11_tight : mHd yX11_tight 1 := ⟨by decide +kernel, by decide +kernel, by decide +kernel⟩
theorem DX11_tight_0 : ∀ t ∈ ([(0, .aload_n 0, 1), (1, .lload_n 1, 1), (2, .invokevirtual 130, 3), (5, .aload_n 0, 1), (6, .getfield 19, 3), (9, .lload_n 1, 1), (10, .invokestatic 180, 3), (13, .ireturn, 1)] : List (Nat × Instr × Nat)), decode cX11_tight t.1 = .ok (t.2.1, t.2.2) := by decide +kernel
noncomputable def f_X11_tight (st : OS) (st_n : OS) (a0 : Int64) : Option (Nat ⊕ (Int32)) := (f_X11_needPoints st st_n a0).bind (fun x1 => match x1 with | .inl k9 => some (.inl k9) | .inr y3 => (f_X6_tightBy st_n a0).bind (fun x4 => some (.inr x4)))
set_option maxHeartbeats 4000000 in
set_option maxRecDepth 100000 in
theorem c_X11_tight {l : Launch} (hst : l.stackTraces = false) {G : mG} {h : mM} {q : Nat → Nat} {q_n : Nat → Nat} (hq : oinj LX11 q) (hq_n : oinj LX10 q_n) (ha : oap [(LX11, q), (LX10, q_n)]) (lk_n : q 1 = q_n 5) {st : OS} {st_n : OS} {a0 : Int64} {x : Nat ⊕ (Int32)} (hF : f_X11_tight st st_n a0 = some x) : xQ l G yX11_tight cX11_tight 3 (some FieldType.int) rm_X11_tight [.ref (q 10), .long a0] (oset LX11 G q st (oset LX10 G q_n st_n h)) (mQi G (fun r h1 => ∃ y, x = .inr y ∧ r = y ∧ h1 = oset LX11 G q st (oset LX10 G q_n st_n h))) (fun E h1 => ∃ k, x = .inl k ∧ E = exN k ∧ h1 = oset LX11 G q st (oset LX10 G q_n st_n h)) := by
  refine xp_of (by decide +kernel) (Nat.le_of_ble_eq_true rfl) ?_
  intro p e s m below meth c X hr hlk hno hH ls hl
  dsimp only [f_X11_tight] at hF
  replace hl : lv_has ls 3 [(0, .ref (q 10)), (1, .long a0)] := hl
  refine lv_aload_n X.x X.b (dk DX11_tight_0 0 rfl) rfl (lv_at hl 0 rfl) ?_
  refine lv_lload_n X.x X.b (dk DX11_tight_0 1 rfl) rfl (lv_at hl 1 rfl) ?_
  obtain ⟨x1, e2, hF⟩ := bd hF
  refine mr_xv hH (mr_xrunV (As := [.long a0]) (rest := []) X hH (c_X11_needPoints hst hq hq_n ha lk_n e2) ((oset_at hq (Nat.le_refl _) ohas_N).trans (congrArg some ocell_N)) OX11.1 kM_X11_130 kI_X11_needPoints kS_X11_needPoints kN_X11 kC_X11_needPoints hd_X11_needPoints ⟨Nat.le_of_ble_eq_true rfl, Nat.le_of_ble_eq_true rfl⟩ rfl hl.1 (Nat.le_of_ble_eq_true rfl) (dk DX11_tight_0 2 rfl) ⟨Nat.le_of_ble_eq_true rfl, Nat.le_of_ble_eq_true rfl⟩) (fun E h1 q9 H locs hp hH hth => ?_) (fun h1 H locs hp hH => ?_)
  · obtain ⟨k9, hk9, hE, hh9⟩ := hp
    subst hk9
    rw [hh9] at hH
    cases sm hF
    exact mr_xout hno hlk hH hth ⟨_, rfl, hE, rfl⟩ (Nat.le_of_ble_eq_true rfl) (Nat.le_of_ble_eq_true rfl)
  · obtain ⟨y3, hy9, hr2⟩ := hp
    subst hy9
    rw [hr2] at hH; clear hr2
    try dsimp only at hF
    refine lv_aload_n X.x X.b (dk DX11_tight_0 3 rfl) rfl (lv_at hl 0 rfl) ?_
    refine og_getR (t := 4) OX11 X hq hH 1 (by decide) rfl kF_X11_19 (dk DX11_tight_0 4 rfl) ?_
    rw [lk_n]
    refine lv_lload_n X.x X.b (dk DX11_tight_0 5 rfl) rfl (lv_at hl 1 rfl) ?_
    obtain ⟨x4, e5, hF⟩ := bd hF
    refine mr_ci0 (mH_perm (l1 := [(LX11, q, st), (LX10, q_n, st_n)]) (l2 := [(LX10, q_n, st_n), (LX11, q, st)]) ha [1, 0] [1, 0] rfl rfl rfl hH) ⟨rfl, rfl⟩ (mr_runS (As := [.ref (q_n 5), .long a0]) (rest := []) X (mH_perm (l1 := [(LX11, q, st), (LX10, q_n, st_n)]) (l2 := [(LX10, q_n, st_n), (LX11, q, st)]) ha [1, 0] [1, 0] rfl rfl rfl hH) (c_X6_tightBy hq_n e5) kM_X11_180 kT_X6_tightBy kN_X6 kC_X6_tightBy hd_X6_tightBy ⟨Nat.le_of_ble_eq_true rfl, Nat.le_of_ble_eq_true rfl⟩ rfl hl.1 (Nat.le_of_ble_eq_true rfl) (dk DX11_tight_0 6 rfl) ⟨Nat.le_of_ble_eq_true rfl, Nat.le_of_ble_eq_true rfl⟩) (fun r h1 H locs hp hH => ?_)
    obtain ⟨hr1, hr2⟩ := hp; rw [hr1]; rw [hr2] at hH; clear hr1 hr2
    replace hH : mH G (oset LX11 G q st (oset LX10 G q_n st_n h)) s.heap H locs := mH_unperm (l1 := [(LX11, q, st), (LX10, q_n, st_n)]) (l2 := [(LX10, q_n, st_n), (LX11, q, st)]) ha [1, 0] [1, 0] rfl rfl rfl hH
    cases sm hF
    exact vx_ret (W.widen (k := (rm_X11_tight).cells) (n := (rm_X11_tight).slots) (Nat.le_of_ble_eq_true rfl) (Nat.le_of_ble_eq_true rfl) (mr_iret X hr hlk hH ⟨_, rfl, rfl, rfl⟩ (dk DX11_tight_0 7 rfl)))
-- X11_ovoid
abbrev rm_X11_ovoid : Room := { frames := 6, cells := 0, slots := 0, locals := 144 }
theorem hd_X11_ovoid : mHd yX11_ovoid 0 := ⟨by decide +kernel, by decide +kernel, by decide +kernel⟩
theorem DX11_ovoid_0 : ∀ t ∈ ([(0, .aload_n 0, 1), (1, .getfield 46, 3), (4, .aload_n 0, 1), (5, .getfield 19, 3), (8, .invokevirtual 183, 3), (11, .aload_n 0, 1), (12, .getfield 46, 3), (15, .iconst 1, 1), (16, .invokevirtual 186, 3), (19, .aload_n 0, 1), (20, .getfield 46, 3), (23, .invokevirtual 190, 3), (26, .lreturn, 1)] : List (Nat × Instr × Nat)), decode cX11_ovoid t.1 = .ok (t.2.1, t.2.2) := by decide +kernel
noncomputable def f_X11_ovoid (st : OS) (st_n : OS) (st_c : OS) : Option (Int64 × OS) := (f_X0_takePoints st_c st_n).bind (fun x1 => (f_X0_seek x1 1).bind (fun x4 => (f_X0_firstFound x4).bind (fun x7 => some ((x7, x4)))))
set_option maxHeartbeats 4000000 in
set_option maxRecDepth 100000 in
theorem c_X11_ovoid {l : Launch} {G : mG} {h : mM} {q : Nat → Nat} {q_n : Nat → Nat} {q_c : Nat → Nat} (hq : oinj LX11 q) (hq_n : oinj LX10 q_n) (hq_c : oinj LX0 q_c) (ha : oap [(LX11, q), (LX10, q_n), (LX0, q_c)]) (lk_n : q 1 = q_n 5) (lk_c : q 6 = q_c 11) {st : OS} {st_n : OS} {st_c : OS} {x : Int64 × OS} (hF : f_X11_ovoid st st_n st_c = some x) : cQ l G yX11_ovoid cX11_ovoid 1 (some FieldType.long) rm_X11_ovoid [.ref (q 10)] (oset LX11 G q st (oset LX10 G q_n st_n (oset LX0 G q_c st_c h))) (mQl G (fun r h1 => r = x.1 ∧ h1 = oset LX11 G q st (oset LX10 G q_n st_n (oset LX0 G q_c x.2 h)))) := by
  refine mp_of (by decide +kernel) (Nat.le_of_ble_eq_true rfl) ?_
  intro p e s m below meth c X hr hlk hH hname ls hl
  dsimp only [f_X11_ovoid] at hF
  replace hl : lv_has ls 1 [(0, .ref (q 10))] := hl
  refine lv_aload_n X.x X.b (dk DX11_ovoid_0 0 rfl) rfl (lv_at hl 0 rfl) ?_
  refine og_getR (t := 4) OX11 X hq hH 6 (by decide) rfl kF_X11_46 (dk DX11_ovoid_0 1 rfl) ?_
  rw [lk_c]
  refine lv_aload_n X.x X.b (dk DX11_ovoid_0 2 rfl) rfl (lv_at hl 0 rfl) ?_
  refine og_getR (t := 4) OX11 X hq hH 1 (by decide) rfl kF_X11_19 (dk DX11_ovoid_0 3 rfl) ?_
  rw [lk_n]
  obtain ⟨x1, e2, hF⟩ := bd hF
  refine mr_cv0 (mH_perm (l1 := [(LX11, q, st), (LX10, q_n, st_n), (LX0, q_c, st_c)]) (l2 := [(LX0, q_c, st_c), (LX10, q_n, st_n), (LX11, q, st)]) ha [2, 1, 0] [2, 1, 0] rfl rfl rfl hH) ⟨rfl, rfl⟩ (mr_runV (As := [.ref (q_n 5)]) (rest := []) X (mH_perm (l1 := [(LX11, q, st), (LX10, q_n, st_n), (LX0, q_c, st_c)]) (l2 := [(LX0, q_c, st_c), (LX10, q_n, st_n), (LX11, q, st)]) ha [2, 1, 0] [2, 1, 0] rfl rfl rfl hH) (c_X0_takePoints hq_c hq_n (oap_sub ha [2, 1] rfl rfl) e2) ((oset_at hq_c (Nat.le_refl _) ohas_N).trans (congrArg some ocell_N)) OX0.1 kM_X11_183 kI_X0_takePoints kS_X0_takePoints kN_X0 kC_X0_takePoints hd_X0_takePoints ⟨Nat.le_of_ble_eq_true rfl, Nat.le_of_ble_eq_true rfl⟩ rfl hl.1 (Nat.le_of_ble_eq_true rfl) (dk DX11_ovoid_0 4 rfl) ⟨Nat.zero_le _, Nat.zero_le _⟩) (fun h1 H locs hp hH => ?_)
  rw [hp] at hH; clear hp
  replace hH : mH G (oset LX11 G q st (oset LX10 G q_n st_n (oset LX0 G q_c x1 h))) s.heap H locs := mH_unperm (l1 := [(LX11, q, st), (LX10, q_n, st_n), (LX0, q_c, x1)]) (l2 := [(LX0, q_c, x1), (LX10, q_n, st_n), (LX11, q, st)]) ha [2, 1, 0] [2, 1, 0] rfl rfl rfl hH
  refine lv_aload_n X.x X.b (dk DX11_ovoid_0 5 rfl) rfl (lv_at hl 0 rfl) ?_
  refine og_getR (t := 4) OX11 X hq hH 6 (by decide) rfl kF_X11_46 (dk DX11_ovoid_0 6 rfl) ?_
  rw [lk_c]
  refine lv_iconst (v := 1) X.x X.b (dk DX11_ovoid_0 7 rfl) (by decide) ?_
  obtain ⟨x4, e5, hF⟩ := bd hF
  refine mr_cv0 (mH_perm (l1 := [(LX11, q, st), (LX10, q_n, st_n), (LX0, q_c, x1)]) (l2 := [(LX0, q_c, x1), (LX11, q, st), (LX10, q_n, st_n)]) ha [2, 0, 1] [1, 2, 0] rfl rfl rfl hH) ⟨rfl, rfl⟩ (mr_runV (As := [.int 1]) (rest := []) X (mH_perm (l1 := [(LX11, q, st), (LX10, q_n, st_n), (LX0, q_c, x1)]) (l2 := [(LX0, q_c, x1), (LX11, q, st), (LX10, q_n, st_n)]) ha [2, 0, 1] [1, 2, 0] rfl rfl rfl hH) (c_X0_seek hq_c e5) ((oset_at hq_c (Nat.le_refl _) ohas_N).trans (congrArg some ocell_N)) OX0.1 kM_X11_186 kI_X0_seek kS_X0_seek kN_X0 kC_X0_seek hd_X0_seek ⟨Nat.le_of_ble_eq_true rfl, Nat.le_of_ble_eq_true rfl⟩ rfl hl.1 (Nat.le_of_ble_eq_true rfl) (dk DX11_ovoid_0 8 rfl) ⟨Nat.zero_le _, Nat.zero_le _⟩) (fun h1 H locs hp hH => ?_)
  rw [hp] at hH; clear hp
  replace hH : mH G (oset LX11 G q st (oset LX10 G q_n st_n (oset LX0 G q_c x4 h))) s.heap H locs := mH_unperm (l1 := [(LX11, q, st), (LX10, q_n, st_n), (LX0, q_c, x4)]) (l2 := [(LX0, q_c, x4), (LX11, q, st), (LX10, q_n, st_n)]) ha [2, 0, 1] [1, 2, 0] rfl rfl rfl hH
  refine lv_aload_n X.x X.b (dk DX11_ovoid_0 9 rfl) rfl (lv_at hl 0 rfl) ?_
  refine og_getR (t := 4) OX11 X hq hH 6 (by decide) rfl kF_X11_46 (dk DX11_ovoid_0 10 rfl) ?_
  rw [lk_c]
  obtain ⟨x7, e8, hF⟩ := bd hF
  refine mr_cl0 (mH_perm (l1 := [(LX11, q, st), (LX10, q_n, st_n), (LX0, q_c, x4)]) (l2 := [(LX0, q_c, x4), (LX11, q, st), (LX10, q_n, st_n)]) ha [2, 0, 1] [1, 2, 0] rfl rfl rfl hH) ⟨rfl, rfl⟩ (mr_runV (As := []) (rest := []) X (mH_perm (l1 := [(LX11, q, st), (LX10, q_n, st_n), (LX0, q_c, x4)]) (l2 := [(LX0, q_c, x4), (LX11, q, st), (LX10, q_n, st_n)]) ha [2, 0, 1] [1, 2, 0] rfl rfl rfl hH) (c_X0_firstFound hq_c e8) ((oset_at hq_c (Nat.le_refl _) ohas_N).trans (congrArg some ocell_N)) OX0.1 kM_X11_190 kI_X0_firstFound kS_X0_firstFound kN_X0 kC_X0_firstFound hd_X0_firstFound ⟨Nat.le_of_ble_eq_true rfl, Nat.le_of_ble_eq_true rfl⟩ rfl hl.1 (Nat.le_of_ble_eq_true rfl) (dk DX11_ovoid_0 11 rfl) ⟨Nat.zero_le _, Nat.zero_le _⟩) (fun r h1 H locs hp hH => ?_)
  obtain ⟨hr1, hr2⟩ := hp; rw [hr1]; rw [hr2] at hH; clear hr1 hr2
  replace hH : mH G (oset LX11 G q st (oset LX10 G q_n st_n (oset LX0 G q_c x4 h))) s.heap H locs := mH_unperm (l1 := [(LX11, q, st), (LX10, q_n, st_n), (LX0, q_c, x4)]) (l2 := [(LX0, q_c, x4), (LX11, q, st), (LX10, q_n, st_n)]) ha [2, 0, 1] [1, 2, 0] rfl rfl rfl hH
  cases sm hF
  exact mr_lret X hr hlk hH ⟨rfl, rfl⟩ (dk DX11_ovoid_0 12 rfl)
-- X11_ovoids
abbrev rm_X11_ovoids : Room := { frames := 6, cells := 0, slots := 0, locals := 144 }
theorem hd_X11_ovoids : mHd yX11_ovoids 0 := ⟨by decide +kernel, by decide +kernel, by decide +kernel⟩
theorem DX11_ovoids_0 : ∀ t ∈ ([(0, .aload_n 0, 1), (1, .getfield 46, 3), (4, .aload_n 0, 1), (5, .getfield 19, 3), (8, .invokevirtual 183, 3), (11, .aload_n 0, 1), (12, .getfield 46, 3), (15, .iconst 0, 1), (16, .invokevirtual 186, 3), (19, .aload_n 0, 1), (20, .getfield 46, 3), (23, .invokevirtual 194, 3), (26, .ireturn, 1)] : List (Nat × Instr × Nat)), decode cX11_ovoids t.1 = .ok (t.2.1, t.2.2) := by decide +kernel
noncomputable def f_X11_ovoids (st : OS) (st_n : OS) (st_c : OS) : Option (Int32 × OS) := (f_X0_takePoints st_c st_n).bind (fun x1 => (f_X0_seek x1 0).bind (fun x4 => (f_X0_manyFound x4).bind (fun x7 => some ((x7, x4)))))
set_option maxHeartbeats 4000000 in
set_option maxRecDepth 100000 in
theorem c_X11_ovoids {l : Launch} {G : mG} {h : mM} {q : Nat → Nat} {q_n : Nat → Nat} {q_c : Nat → Nat} (hq : oinj LX11 q) (hq_n : oinj LX10 q_n) (hq_c : oinj LX0 q_c) (ha : oap [(LX11, q), (LX10, q_n), (LX0, q_c)]) (lk_n : q 1 = q_n 5) (lk_c : q 6 = q_c 11) {st : OS} {st_n : OS} {st_c : OS} {x : Int32 × OS} (hF : f_X11_ovoids st st_n st_c = some x) : cQ l G yX11_ovoids cX11_ovoids 1 (some FieldType.int) rm_X11_ovoids [.ref (q 10)] (oset LX11 G q st (oset LX10 G q_n st_n (oset LX0 G q_c st_c h))) (mQi G (fun r h1 => r = x.1 ∧ h1 = oset LX11 G q st (oset LX10 G q_n st_n (oset LX0 G q_c x.2 h)))) := by
  refine mp_of (by decide +kernel) (Nat.le_of_ble_eq_true rfl) ?_
  intro p e s m below meth c X hr hlk hH hname ls hl
  dsimp only [f_X11_ovoids] at hF
  replace hl : lv_has ls 1 [(0, .ref (q 10))] := hl
  refine lv_aload_n X.x X.b (dk DX11_ovoids_0 0 rfl) rfl (lv_at hl 0 rfl) ?_
  refine og_getR (t := 4) OX11 X hq hH 6 (by decide) rfl kF_X11_46 (dk DX11_ovoids_0 1 rfl) ?_
  rw [lk_c]
  refine lv_aload_n X.x X.b (dk DX11_ovoids_0 2 rfl) rfl (lv_at hl 0 rfl) ?_
  refine og_getR (t := 4) OX11 X hq hH 1 (by decide) rfl kF_X11_19 (dk DX11_ovoids_0 3 rfl) ?_
  rw [lk_n]
  obtain ⟨x1, e2, hF⟩ := bd hF
  refine mr_cv0 (mH_perm (l1 := [(LX11, q, st), (LX10, q_n, st_n), (LX0, q_c, st_c)]) (l2 := [(LX0, q_c, st_c), (LX10, q_n, st_n), (LX11, q, st)]) ha [2, 1, 0] [2, 1, 0] rfl rfl rfl hH) ⟨rfl, rfl⟩ (mr_runV (As := [.ref (q_n 5)]) (rest := []) X (mH_perm (l1 := [(LX11, q, st), (LX10, q_n, st_n), (LX0, q_c, st_c)]) (l2 := [(LX0, q_c, st_c), (LX10, q_n, st_n), (LX11, q, st)]) ha [2, 1, 0] [2, 1, 0] rfl rfl rfl hH) (c_X0_takePoints hq_c hq_n (oap_sub ha [2, 1] rfl rfl) e2) ((oset_at hq_c (Nat.le_refl _) ohas_N).trans (congrArg some ocell_N)) OX0.1 kM_X11_183 kI_X0_takePoints kS_X0_takePoints kN_X0 kC_X0_takePoints hd_X0_takePoints ⟨Nat.le_of_ble_eq_true rfl, Nat.le_of_ble_eq_true rfl⟩ rfl hl.1 (Nat.le_of_ble_eq_true rfl) (dk DX11_ovoids_0 4 rfl) ⟨Nat.zero_le _, Nat.zero_le _⟩) (fun h1 H locs hp hH => ?_)
  rw [hp] at hH; clear hp
  replace hH : mH G (oset LX11 G q st (oset LX10 G q_n st_n (oset LX0 G q_c x1 h))) s.heap H locs := mH_unperm (l1 := [(LX11, q, st), (LX10, q_n, st_n), (LX0, q_c, x1)]) (l2 := [(LX0, q_c, x1), (LX10, q_n, st_n), (LX11, q, st)]) ha [2, 1, 0] [2, 1, 0] rfl rfl rfl hH
  refine lv_aload_n X.x X.b (dk DX11_ovoids_0 5 rfl) rfl (lv_at hl 0 rfl) ?_
  refine og_getR (t := 4) OX11 X hq hH 6 (by decide) rfl kF_X11_46 (dk DX11_ovoids_0 6 rfl) ?_
  rw [lk_c]
  refine lv_iconst (v := 0) X.x X.b (dk DX11_ovoids_0 7 rfl) (by decide) ?_
  obtain ⟨x4, e5, hF⟩ := bd hF
  refine mr_cv0 (mH_perm (l1 := [(LX11, q, st), (LX10, q_n, st_n), (LX0, q_c, x1)]) (l2 := [(LX0, q_c, x1), (LX11, q, st), (LX10, q_n, st_n)]) ha [2, 0, 1] [1, 2, 0] rfl rfl rfl hH) ⟨rfl, rfl⟩ (mr_runV (As := [.int 0]) (rest := []) X (mH_perm (l1 := [(LX11, q, st), (LX10, q_n, st_n), (LX0, q_c, x1)]) (l2 := [(LX0, q_c, x1), (LX11, q, st), (LX10, q_n, st_n)]) ha [2, 0, 1] [1, 2, 0] rfl rfl rfl hH) (c_X0_seek hq_c e5) ((oset_at hq_c (Nat.le_refl _) ohas_N).trans (congrArg some ocell_N)) OX0.1 kM_X11_186 kI_X0_seek kS_X0_seek kN_X0 kC_X0_seek hd_X0_seek ⟨Nat.le_of_ble_eq_true rfl, Nat.le_of_ble_eq_true rfl⟩ rfl hl.1 (Nat.le_of_ble_eq_true rfl) (dk DX11_ovoids_0 8 rfl) ⟨Nat.zero_le _, Nat.zero_le _⟩) (fun h1 H locs hp hH => ?_)
  rw [hp] at hH; clear hp
  replace hH : mH G (oset LX11 G q st (oset LX10 G q_n st_n (oset LX0 G q_c x4 h))) s.heap H locs := mH_unperm (l1 := [(LX11, q, st), (LX10, q_n, st_n), (LX0, q_c, x4)]) (l2 := [(LX0, q_c, x4), (LX11, q, st), (LX10, q_n, st_n)]) ha [2, 0, 1] [1, 2, 0] rfl rfl rfl hH
  refine lv_aload_n X.x X.b (dk DX11_ovoids_0 9 rfl) rfl (lv_at hl 0 rfl) ?_
  refine og_getR (t := 4) OX11 X hq hH 6 (by decide) rfl kF_X11_46 (dk DX11_ovoids_0 10 rfl) ?_
  rw [lk_c]
  obtain ⟨x7, e8, hF⟩ := bd hF
  refine mr_ci0 (mH_perm (l1 := [(LX11, q, st), (LX10, q_n, st_n), (LX0, q_c, x4)]) (l2 := [(LX0, q_c, x4), (LX11, q, st), (LX10, q_n, st_n)]) ha [2, 0, 1] [1, 2, 0] rfl rfl rfl hH) ⟨rfl, rfl⟩ (mr_runV (As := []) (rest := []) X (mH_perm (l1 := [(LX11, q, st), (LX10, q_n, st_n), (LX0, q_c, x4)]) (l2 := [(LX0, q_c, x4), (LX11, q, st), (LX10, q_n, st_n)]) ha [2, 0, 1] [1, 2, 0] rfl rfl rfl hH) (c_X0_manyFound hq_c e8) ((oset_at hq_c (Nat.le_refl _) ohas_N).trans (congrArg some ocell_N)) OX0.1 kM_X11_194 kI_X0_manyFound kS_X0_manyFound kN_X0 kC_X0_manyFound hd_X0_manyFound ⟨Nat.le_of_ble_eq_true rfl, Nat.le_of_ble_eq_true rfl⟩ rfl hl.1 (Nat.le_of_ble_eq_true rfl) (dk DX11_ovoids_0 11 rfl) ⟨Nat.zero_le _, Nat.zero_le _⟩) (fun r h1 H locs hp hH => ?_)
  obtain ⟨hr1, hr2⟩ := hp; rw [hr1]; rw [hr2] at hH; clear hr1 hr2
  replace hH : mH G (oset LX11 G q st (oset LX10 G q_n st_n (oset LX0 G q_c x4 h))) s.heap H locs := mH_unperm (l1 := [(LX11, q, st), (LX10, q_n, st_n), (LX0, q_c, x4)]) (l2 := [(LX0, q_c, x4), (LX11, q, st), (LX10, q_n, st_n)]) ha [2, 0, 1] [1, 2, 0] rfl rfl rfl hH
  cases sm hF
  exact mr_iret X hr hlk hH ⟨rfl, rfl⟩ (dk DX11_ovoids_0 12 rfl)
-- X11_spread
abbrev rm_X11_spread : Room := { frames := 6, cells := 0, slots := 0, locals := 144 }
theorem hd_X11_spread : mHd yX11_spread 0 := ⟨by decide +kernel, by decide +kernel, by decide +kernel⟩
theorem DX11_spread_0 : ∀ t ∈ ([(0, .aload_n 0, 1), (1, .getfield 46, 3), (4, .aload_n 0, 1), (5, .getfield 19, 3), (8, .invokevirtual 198, 3), (11, .aload_n 0, 1), (12, .getfield 46, 3), (15, .iconst 1, 1), (16, .invokevirtual 186, 3), (19, .aload_n 0, 1), (20, .getfield 46, 3), (23, .invokevirtual 190, 3), (26, .lreturn, 1)] : List (Nat × Instr × Nat)), decode cX11_spread t.1 = .ok (t.2.1, t.2.2) := by decide +kernel
noncomputable def f_X11_spread (st : OS) (st_n : OS) (st_c : OS) : Option (Int64 × OS) := (f_X0_takeLines st_c st_n).bind (fun x1 => (f_X0_seek x1 1).bind (fun x4 => (f_X0_firstFound x4).bind (fun x7 => some ((x7, x4)))))
set_option maxHeartbeats 4000000 in
set_option maxRecDepth 100000 in
theorem c_X11_spread {l : Launch} {G : mG} {h : mM} {q : Nat → Nat} {q_n : Nat → Nat} {q_c : Nat → Nat} (hq : oinj LX11 q) (hq_n : oinj LX10 q_n) (hq_c : oinj LX0 q_c) (ha : oap [(LX11, q), (LX10, q_n), (LX0, q_c)]) (lk_n : q 1 = q_n 5) (lk_c : q 6 = q_c 11) {st : OS} {st_n : OS} {st_c : OS} {x : Int64 × OS} (hF : f_X11_spread st st_n st_c = some x) : cQ l G yX11_spread cX11_spread 1 (some FieldType.long) rm_X11_spread [.ref (q 10)] (oset LX11 G q st (oset LX10 G q_n st_n (oset LX0 G q_c st_c h))) (mQl G (fun r h1 => r = x.1 ∧ h1 = oset LX11 G q st (oset LX10 G q_n st_n (oset LX0 G q_c x.2 h)))) := by
  refine mp_of (by decide +kernel) (Nat.le_of_ble_eq_true rfl) ?_
  intro p e s m below meth c X hr hlk hH hname ls hl
  dsimp only [f_X11_spread] at hF
  replace hl : lv_has ls 1 [(0, .ref (q 10))] := hl
  refine lv_aload_n X.x X.b (dk DX11_spread_0 0 rfl) rfl (lv_at hl 0 rfl) ?_
  refine og_getR (t := 4) OX11 X hq hH 6 (by decide) rfl kF_X11_46 (dk DX11_spread_0 1 rfl) ?_
  rw [lk_c]
  refine lv_aload_n X.x X.b (dk DX11_spread_0 2 rfl) rfl (lv_at hl 0 rfl) ?_
  refine og_getR (t := 4) OX11 X hq hH 1 (by decide) rfl kF_X11_19 (dk DX11_spread_0 3 rfl) ?_
  rw [lk_n]
  obtain ⟨x1, e2, hF⟩ := bd hF
  refine mr_cv0 (mH_perm (l1 := [(LX11, q, st), (LX10, q_n, st_n), (LX0, q_c, st_c)]) (l2 := [(LX0, q_c, st_c), (LX10, q_n, st_n), (LX11, q, st)]) ha [2, 1, 0] [2, 1, 0] rfl rfl rfl hH) ⟨rfl, rfl⟩ (mr_runV (As := [.ref (q_n 5)]) (rest := []) X (mH_perm (l1 := [(LX11, q, st), (LX10, q_n, st_n), (LX0, q_c, st_c)]) (l2 := [(LX0, q_c, st_c), (LX10, q_n, st_n), (LX11, q, st)]) ha [2, 1, 0] [2, 1, 0] rfl rfl rfl hH) (c_X0_takeLines hq_c hq_n (oap_sub ha [2, 1] rfl rfl) e2) ((oset_at hq_c (Nat.le_refl _) ohas_N).trans (congrArg some ocell_N)) OX0.1 kM_X11_198 kI_X0_takeLines kS_X0_takeLines kN_X0 kC_X0_takeLines hd_X0_takeLines ⟨Nat.le_of_ble_eq_true rfl, Nat.le_of_ble_eq_true rfl⟩ rfl hl.1 (Nat.le_of_ble_eq_true rfl) (dk DX11_spread_0 4 rfl) ⟨Nat.zero_le _, Nat.zero_le _⟩) (fun h1 H locs hp hH => ?_)
  rw [hp] at hH; clear hp
  replace hH : mH G (oset LX11 G q st (oset LX10 G q_n st_n (oset LX0 G q_c x1 h))) s.heap H locs := mH_unperm (l1 := [(LX11, q, st), (LX10, q_n, st_n), (LX0, q_c, x1)]) (l2 := [(LX0, q_c, x1), (LX10, q_n, st_n), (LX11, q, st)]) ha [2, 1, 0] [2, 1, 0] rfl rfl rfl hH
  refine lv_aload_n X.x X.b (dk DX11_spread_0 5 rfl) rfl (lv_at hl 0 rfl) ?_
  refine og_getR (t := 4) OX11 X hq hH 6 (by decide) rfl kF_X11_46 (dk DX11_spread_0 6 rfl) ?_
  rw [lk_c]
  refine lv_iconst (v := 1) X.x X.b (dk DX11_spread_0 7 rfl) (by decide) ?_
  obtain ⟨x4, e5, hF⟩ := bd hF
  refine mr_cv0 (mH_perm (l1 := [(LX11, q, st), (LX10, q_n, st_n), (LX0, q_c, x1)]) (l2 := [(LX0, q_c, x1), (LX11, q, st), (LX10, q_n, st_n)]) ha [2, 0, 1] [1, 2, 0] rfl rfl rfl hH) ⟨rfl, rfl⟩ (mr_runV (As := [.int 1]) (rest := []) X (mH_perm (l1 := [(LX11, q, st), (LX10, q_n, st_n), (LX0, q_c, x1)]) (l2 := [(LX0, q_c, x1), (LX11, q, st), (LX10, q_n, st_n)]) ha [2, 0, 1] [1, 2, 0] rfl rfl rfl hH) (c_X0_seek hq_c e5) ((oset_at hq_c (Nat.le_refl _) ohas_N).trans (congrArg some ocell_N)) OX0.1 kM_X11_186 kI_X0_seek kS_X0_seek kN_X0 kC_X0_seek hd_X0_seek ⟨Nat.le_of_ble_eq_true rfl, Nat.le_of_ble_eq_true rfl⟩ rfl hl.1 (Nat.le_of_ble_eq_true rfl) (dk DX11_spread_0 8 rfl) ⟨Nat.zero_le _, Nat.zero_le _⟩) (fun h1 H locs hp hH => ?_)
  rw [hp] at hH; clear hp
  replace hH : mH G (oset LX11 G q st (oset LX10 G q_n st_n (oset LX0 G q_c x4 h))) s.heap H locs := mH_unperm (l1 := [(LX11, q, st), (LX10, q_n, st_n), (LX0, q_c, x4)]) (l2 := [(LX0, q_c, x4), (LX11, q, st), (LX10, q_n, st_n)]) ha [2, 0, 1] [1, 2, 0] rfl rfl rfl hH
  refine lv_aload_n X.x X.b (dk DX11_spread_0 9 rfl) rfl (lv_at hl 0 rfl) ?_
  refine og_getR (t := 4) OX11 X hq hH 6 (by decide) rfl kF_X11_46 (dk DX11_spread_0 10 rfl) ?_
  rw [lk_c]
  obtain ⟨x7, e8, hF⟩ := bd hF
  refine mr_cl0 (mH_perm (l1 := [(LX11, q, st), (LX10, q_n, st_n), (LX0, q_c, x4)]) (l2 := [(LX0, q_c, x4), (LX11, q, st), (LX10, q_n, st_n)]) ha [2, 0, 1] [1, 2, 0] rfl rfl rfl hH) ⟨rfl, rfl⟩ (mr_runV (As := []) (rest := []) X (mH_perm (l1 := [(LX11, q, st), (LX10, q_n, st_n), (LX0, q_c, x4)]) (l2 := [(LX0, q_c, x4), (LX11, q, st), (LX10, q_n, st_n)]) ha [2, 0, 1] [1, 2, 0] rfl rfl rfl hH) (c_X0_firstFound hq_c e8) ((oset_at hq_c (Nat.le_refl _) ohas_N).trans (congrArg some ocell_N)) OX0.1 kM_X11_190 kI_X0_firstFound kS_X0_firstFound kN_X0 kC_X0_firstFound hd_X0_firstFound ⟨Nat.le_of_ble_eq_true rfl, Nat.le_of_ble_eq_true rfl⟩ rfl hl.1 (Nat.le_of_ble_eq_true rfl) (dk DX11_spread_0 11 rfl) ⟨Nat.zero_le _, Nat.zero_le _⟩) (fun r h1 H locs hp hH => ?_)
  obtain ⟨hr1, hr2⟩ := hp; rw [hr1]; rw [hr2] at hH; clear hr1 hr2
  replace hH : mH G (oset LX11 G q st (oset LX10 G q_n st_n (oset LX0 G q_c x4 h))) s.heap H locs := mH_unperm (l1 := [(LX11, q, st), (LX10, q_n, st_n), (LX0, q_c, x4)]) (l2 := [(LX0, q_c, x4), (LX11, q, st), (LX10, q_n, st_n)]) ha [2, 0, 1] [1, 2, 0] rfl rfl rfl hH
  cases sm hF
  exact mr_lret X hr hlk hH ⟨rfl, rfl⟩ (dk DX11_spread_0 12 rfl)
-- X11_spreads
abbrev rm_X11_spreads : Room := { frames := 6, cells := 0, slots := 0, locals := 144 }
theorem hd_X11_spreads : mHd yX11_spreads 0 := ⟨by decide +kernel, by decide +kernel, by decide +kernel⟩
theorem DX11_spreads_0 : ∀ t ∈ ([(0, .aload_n 0, 1), (1, .getfield 46, 3), (4, .aload_n 0, 1), (5, .getfield 19, 3), (8, .invokevirtual 198, 3), (11, .aload_n 0, 1), (12, .getfield 46, 3), (15, .iconst 0, 1), (16, .invokevirtual 186, 3), (19, .aload_n 0, 1), (20, .getfield 46, 3), (23, .invokevirtual 194, 3), (26, .ireturn, 1)] : List (Nat × Instr × Nat)), decode cX11_spreads t.1 = .ok (t.2.1, t.2.2) := by decide +kernel
noncomputable def f_X11_spreads (st : OS) (st_n : OS) (st_c : OS) : Option (Int32 × OS) := (f_X0_takeLines st_c st_n).bind (fun x1 => (f_X0_seek x1 0).bind (fun x4 => (f_X0_manyFound x4).bind (fun x7 => some ((x7, x4)))))
set_option maxHeartbeats 4000000 in
set_option maxRecDepth 100000 in
theorem c_X11_spreads {l : Launch} {G : mG} {h : mM} {q : Nat → Nat} {q_n : Nat → Nat} {q_c : Nat → Nat} (hq : oinj LX11 q) (hq_n : oinj LX10 q_n) (hq_c : oinj LX0 q_c) (ha : oap [(LX11, q), (LX10, q_n), (LX0, q_c)]) (lk_n : q 1 = q_n 5) (lk_c : q 6 = q_c 11) {st : OS} {st_n : OS} {st_c : OS} {x : Int32 × OS} (hF : f_X11_spreads st st_n st_c = some x) : cQ l G yX11_spreads cX11_spreads 1 (some FieldType.int) rm_X11_spreads [.ref (q 10)] (oset LX11 G q st (oset LX10 G q_n st_n (oset LX0 G q_c st_c h))) (mQi G (fun r h1 => r = x.1 ∧ h1 = oset LX11 G q st (oset LX10 G q_n st_n (oset LX0 G q_c x.2 h)))) := by
  refine mp_of (by decide +kernel) (Nat.le_of_ble_eq_true rfl) ?_
  intro p e s m below meth c X hr hlk hH hname ls hl
  dsimp only [f_X11_spreads] at hF
  replace hl : lv_has ls 1 [(0, .ref (q 10))] := hl
  refine lv_aload_n X.x X.b (dk DX11_spreads_0 0 rfl) rfl (lv_at hl 0 rfl) ?_
  refine og_getR (t := 4) OX11 X hq hH 6 (by decide) rfl kF_X11_46 (dk DX11_spreads_0 1 rfl) ?_
  rw [lk_c]
  refine lv_aload_n X.x X.b (dk DX11_spreads_0 2 rfl) rfl (lv_at hl 0 rfl) ?_
  refine og_getR (t := 4) OX11 X hq hH 1 (by decide) rfl kF_X11_19 (dk DX11_spreads_0 3 rfl) ?_
  rw [lk_n]
  obtain ⟨x1, e2, hF⟩ := bd hF
  refine mr_cv0 (mH_perm (l1 := [(LX11, q, st), (LX10, q_n, st_n), (LX0, q_c, st_c)]) (l2 := [(LX0, q_c, st_c), (LX10, q_n, st_n), (LX11, q, st)]) ha [2, 1, 0] [2, 1, 0] rfl rfl rfl hH) ⟨rfl, rfl⟩ (mr_runV (As := [.ref (q_n 5)]) (rest := []) X (mH_perm (l1 := [(LX11, q, st), (LX10, q_n, st_n), (LX0, q_c, st_c)]) (l2 := [(LX0, q_c, st_c), (LX10, q_n, st_n), (LX11, q, st)]) ha [2, 1, 0] [2, 1, 0] rfl rfl rfl hH) (c_X0_takeLines hq_c hq_n (oap_sub ha [2, 1] rfl rfl) e2) ((oset_at hq_c (Nat.le_refl _) ohas_N).trans (congrArg some ocell_N)) OX0.1 kM_X11_198 kI_X0_takeLines kS_X0_takeLines kN_X0 kC_X0_takeLines hd_X0_takeLines ⟨Nat.le_of_ble_eq_true rfl, Nat.le_of_ble_eq_true rfl⟩ rfl hl.1 (Nat.le_of_ble_eq_true rfl) (dk DX11_spreads_0 4 rfl) ⟨Nat.zero_le _, Nat.zero_le _⟩) (fun h1 H locs hp hH => ?_)
  rw [hp] at hH; clear hp
  replace hH : mH G (oset LX11 G q st (oset LX10 G q_n st_n (oset LX0 G q_c x1 h))) s.heap H locs := mH_unperm (l1 := [(LX11, q, st), (LX10, q_n, st_n), (LX0, q_c, x1)]) (l2 := [(LX0, q_c, x1), (LX10, q_n, st_n), (LX11, q, st)]) ha [2, 1, 0] [2, 1, 0] rfl rfl rfl hH
  refine lv_aload_n X.x X.b (dk DX11_spreads_0 5 rfl) rfl (lv_at hl 0 rfl) ?_
  refine og_getR (t := 4) OX11 X hq hH 6 (by decide) rfl kF_X11_46 (dk DX11_spreads_0 6 rfl) ?_
  rw [lk_c]
  refine lv_iconst (v := 0) X.x X.b (dk DX11_spreads_0 7 rfl) (by decide) ?_
  obtain ⟨x4, e5, hF⟩ := bd hF
  refine mr_cv0 (mH_perm (l1 := [(LX11, q, st), (LX10, q_n, st_n), (LX0, q_c, x1)]) (l2 := [(LX0, q_c, x1), (LX11, q, st), (LX10, q_n, st_n)]) ha [2, 0, 1] [1, 2, 0] rfl rfl rfl hH) ⟨rfl, rfl⟩ (mr_runV (As := [.int 0]) (rest := []) X (mH_perm (l1 := [(LX11, q, st), (LX10, q_n, st_n), (LX0, q_c, x1)]) (l2 := [(LX0, q_c, x1), (LX11, q, st), (LX10, q_n, st_n)]) ha [2, 0, 1] [1, 2, 0] rfl rfl rfl hH) (c_X0_seek hq_c e5) ((oset_at hq_c (Nat.le_refl _) ohas_N).trans (congrArg some ocell_N)) OX0.1 kM_X11_186 kI_X0_seek kS_X0_seek kN_X0 kC_X0_seek hd_X0_seek ⟨Nat.le_of_ble_eq_true rfl, Nat.le_of_ble_eq_true rfl⟩ rfl hl.1 (Nat.le_of_ble_eq_true rfl) (dk DX11_spreads_0 8 rfl) ⟨Nat.zero_le _, Nat.zero_le _⟩) (fun h1 H locs hp hH => ?_)
  rw [hp] at hH; clear hp
  replace hH : mH G (oset LX11 G q st (oset LX10 G q_n st_n (oset LX0 G q_c x4 h))) s.heap H locs := mH_unperm (l1 := [(LX11, q, st), (LX10, q_n, st_n), (LX0, q_c, x4)]) (l2 := [(LX0, q_c, x4), (LX11, q, st), (LX10, q_n, st_n)]) ha [2, 0, 1] [1, 2, 0] rfl rfl rfl hH
  refine lv_aload_n X.x X.b (dk DX11_spreads_0 9 rfl) rfl (lv_at hl 0 rfl) ?_
  refine og_getR (t := 4) OX11 X hq hH 6 (by decide) rfl kF_X11_46 (dk DX11_spreads_0 10 rfl) ?_
  rw [lk_c]
  obtain ⟨x7, e8, hF⟩ := bd hF
  refine mr_ci0 (mH_perm (l1 := [(LX11, q, st), (LX10, q_n, st_n), (LX0, q_c, x4)]) (l2 := [(LX0, q_c, x4), (LX11, q, st), (LX10, q_n, st_n)]) ha [2, 0, 1] [1, 2, 0] rfl rfl rfl hH) ⟨rfl, rfl⟩ (mr_runV (As := []) (rest := []) X (mH_perm (l1 := [(LX11, q, st), (LX10, q_n, st_n), (LX0, q_c, x4)]) (l2 := [(LX0, q_c, x4), (LX11, q, st), (LX10, q_n, st_n)]) ha [2, 0, 1] [1, 2, 0] rfl rfl rfl hH) (c_X0_manyFound hq_c e8) ((oset_at hq_c (Nat.le_refl _) ohas_N).trans (congrArg some ocell_N)) OX0.1 kM_X11_194 kI_X0_manyFound kS_X0_manyFound kN_X0 kC_X0_manyFound hd_X0_manyFound ⟨Nat.le_of_ble_eq_true rfl, Nat.le_of_ble_eq_true rfl⟩ rfl hl.1 (Nat.le_of_ble_eq_true rfl) (dk DX11_spreads_0 11 rfl) ⟨Nat.zero_le _, Nat.zero_le _⟩) (fun r h1 H locs hp hH => ?_)
  obtain ⟨hr1, hr2⟩ := hp; rw [hr1]; rw [hr2] at hH; clear hr1 hr2
  replace hH : mH G (oset LX11 G q st (oset LX10 G q_n st_n (oset LX0 G q_c x4 h))) s.heap H locs := mH_unperm (l1 := [(LX11, q, st), (LX10, q_n, st_n), (LX0, q_c, x4)]) (l2 := [(LX0, q_c, x4), (LX11, q, st), (LX10, q_n, st_n)]) ha [2, 0, 1] [1, 2, 0] rfl rfl rfl hH
  cases sm hF
  exact mr_iret X hr hlk hH ⟨rfl, rfl⟩ (dk DX11_spreads_0 12 rfl)
-- X11_cap
abbrev rm_X11_cap : Room := { frames := 46, cells := 0, slots := 0, locals := 1510 }
theorem hd_X11_cap : mHd yX11_cap 0 := ⟨by decide +kernel, by decide +kernel, by decide +kernel⟩
theorem DX11_cap_0 : ∀ t ∈ ([(0, .aload_n 0, 1), (1, .getfield 19, 3), (4, .invokestatic 201, 3), (7, .lreturn, 1)] : List (Nat × Instr × Nat)), decode cX11_cap t.1 = .ok (t.2.1, t.2.2) := by decide +kernel
noncomputable def f_X11_cap (st : OS) (st_n : OS) : Option (Int64) := (f_X6_greatestCap st_n).bind (fun x1 => some x1)
set_option maxHeartbeats 4000000 in
set_option maxRecDepth 100000 in
theorem c_X11_cap {l : Launch} {G : mG} {h : mM} {q : Nat → Nat} {q_n : Nat → Nat} (hq : oinj LX11 q) (hq_n : oinj LX10 q_n) (ha : oap [(LX11, q), (LX10, q_n)]) (lk_n : q 1 = q_n 5) {st : OS} {st_n : OS} {x : Int64} (hF : f_X11_cap st st_n = some x) : cQ l G yX11_cap cX11_cap 1 (some FieldType.long) rm_X11_cap [.ref (q 10)] (oset LX11 G q st (oset LX10 G q_n st_n h)) (mQl G (fun r h1 => r = x ∧ h1 = oset LX11 G q st (oset LX10 G q_n st_n h))) := by
  refine mp_of (by decide +kernel) (Nat.le_of_ble_eq_true rfl) ?_
  intro p e s m below meth c X hr hlk hH hname ls hl
  dsimp only [f_X11_cap] at hF
  replace hl : lv_has ls 1 [(0, .ref (q 10))] := hl
  refine lv_aload_n X.x X.b (dk DX11_cap_0 0 rfl) rfl (lv_at hl 0 rfl) ?_
  refine og_getR (t := 4) OX11 X hq hH 1 (by decide) rfl kF_X11_19 (dk DX11_cap_0 1 rfl) ?_
  rw [lk_n]
  obtain ⟨x1, e2, hF⟩ := bd hF
  refine mr_cl0 (mH_perm (l1 := [(LX11, q, st), (LX10, q_n, st_n)]) (l2 := [(LX10, q_n, st_n), (LX11, q, st)]) ha [1, 0] [1, 0] rfl rfl rfl hH) ⟨rfl, rfl⟩ (mr_runS (As := [.ref (q_n 5)]) (rest := []) X (mH_perm (l1 := [(LX11, q, st), (LX10, q_n, st_n)]) (l2 := [(LX10, q_n, st_n), (LX11, q, st)]) ha [1, 0] [1, 0] rfl rfl rfl hH) (c_X6_greatestCap hq_n e2) kM_X11_201 kT_X6_greatestCap kN_X6 kC_X6_greatestCap hd_X6_greatestCap ⟨Nat.le_of_ble_eq_true rfl, Nat.le_of_ble_eq_true rfl⟩ rfl hl.1 (Nat.le_of_ble_eq_true rfl) (dk DX11_cap_0 2 rfl) ⟨Nat.zero_le _, Nat.zero_le _⟩) (fun r h1 H locs hp hH => ?_)
  obtain ⟨hr1, hr2⟩ := hp; rw [hr1]; rw [hr2] at hH; clear hr1 hr2
  replace hH : mH G (oset LX11 G q st (oset LX10 G q_n st_n h)) s.heap H locs := mH_unperm (l1 := [(LX11, q, st), (LX10, q_n, st_n)]) (l2 := [(LX10, q_n, st_n), (LX11, q, st)]) ha [1, 0] [1, 0] rfl rfl rfl hH
  cases sm hF
  exact mr_lret X hr hlk hH ⟨rfl, rfl⟩ (dk DX11_cap_0 3 rfl)
-- X11_triads
abbrev rm_X11_triads : Room := { frames := 4, cells := 0, slots := 0, locals := 93 }
theorem hd_X11_triads : mHd yX11_triads 1 := ⟨by decide +kernel, by decide +kernel, by decide +kernel⟩
theorem DX11_triads_0 : ∀ t ∈ ([(0, .aload_n 0, 1), (1, .getfield 19, 3), (4, .iload_n 1, 1), (5, .invokestatic 205, 3), (8, .ireturn, 1)] : List (Nat × Instr × Nat)), decode cX11_triads t.1 = .ok (t.2.1, t.2.2) := by decide +kernel
noncomputable def f_X11_triads (st : OS) (st_n : OS) (a0 : Int32) : Option (Int32) := (f_X6_triadsWith st_n a0).bind (fun x1 => some x1)
set_option maxHeartbeats 4000000 in
set_option maxRecDepth 100000 in
theorem c_X11_triads {l : Launch} {G : mG} {h : mM} {q : Nat → Nat} {q_n : Nat → Nat} (hq : oinj LX11 q) (hq_n : oinj LX10 q_n) (ha : oap [(LX11, q), (LX10, q_n)]) (lk_n : q 1 = q_n 5) {st : OS} {st_n : OS} {a0 : Int32} {x : Int32} (hF : f_X11_triads st st_n a0 = some x) : cQ l G yX11_triads cX11_triads 2 (some FieldType.int) rm_X11_triads [.ref (q 10), .int a0] (oset LX11 G q st (oset LX10 G q_n st_n h)) (mQi G (fun r h1 => r = x ∧ h1 = oset LX11 G q st (oset LX10 G q_n st_n h))) := by
  refine mp_of (by decide +kernel) (Nat.le_of_ble_eq_true rfl) ?_
  intro p e s m below meth c X hr hlk hH hname ls hl
  dsimp only [f_X11_triads] at hF
  replace hl : lv_has ls 2 [(0, .ref (q 10)), (1, .int a0)] := hl
  refine lv_aload_n X.x X.b (dk DX11_triads_0 0 rfl) rfl (lv_at hl 0 rfl) ?_
  refine og_getR (t := 4) OX11 X hq hH 1 (by decide) rfl kF_X11_19 (dk DX11_triads_0 1 rfl) ?_
  rw [lk_n]
  refine lv_iload_n X.x X.b (dk DX11_triads_0 2 rfl) rfl (lv_at hl 1 rfl) ?_
  obtain ⟨x1, e2, hF⟩ := bd hF
  refine mr_ci0 (mH_perm (l1 := [(LX11, q, st), (LX10, q_n, st_n)]) (l2 := [(LX10, q_n, st_n), (LX11, q, st)]) ha [1, 0] [1, 0] rfl rfl rfl hH) ⟨rfl, rfl⟩ (mr_runS (As := [.ref (q_n 5), .int a0]) (rest := []) X (mH_perm (l1 := [(LX11, q, st), (LX10, q_n, st_n)]) (l2 := [(LX10, q_n, st_n), (LX11, q, st)]) ha [1, 0] [1, 0] rfl rfl rfl hH) (c_X6_triadsWith hq_n e2) kM_X11_205 kT_X6_triadsWith kN_X6 kC_X6_triadsWith hd_X6_triadsWith ⟨Nat.le_of_ble_eq_true rfl, Nat.le_of_ble_eq_true rfl⟩ rfl hl.1 (Nat.le_of_ble_eq_true rfl) (dk DX11_triads_0 3 rfl) ⟨Nat.zero_le _, Nat.zero_le _⟩) (fun r h1 H locs hp hH => ?_)
  obtain ⟨hr1, hr2⟩ := hp; rw [hr1]; rw [hr2] at hH; clear hr1 hr2
  replace hH : mH G (oset LX11 G q st (oset LX10 G q_n st_n h)) s.heap H locs := mH_unperm (l1 := [(LX11, q, st), (LX10, q_n, st_n)]) (l2 := [(LX10, q_n, st_n), (LX11, q, st)]) ha [1, 0] [1, 0] rfl rfl rfl hH
  cases sm hF
  exact mr_iret X hr hlk hH ⟨rfl, rfl⟩ (dk DX11_triads_0 4 rfl)
-- X11_walks
abbrev rm_X11_walks : Room := { frames := 6, cells := 1, slots := 6, locals := 122 }
theorem hd_X11_walks : mHd yX11_walks 1 := ⟨by decide +kernel, by decide +kernel, by decide +kernel⟩
theorem DX11_walks_0 : ∀ t ∈ ([(0, .iload_n 1, 1), (1, .ifCond .lt 9, 3), (4, .iload_n 1, 1), (5, .bipush 8, 2), (7, .if_icmp .le 13, 3), (10, .new 83, 3), (13, .dup, 1), (14, .ldc 208, 2), (16, .invokespecial 87, 3), (19, .athrow, 1), (20, .aload_n 0, 1), (21, .getfield 53, 3), (24, .aload_n 0, 1), (25, .getfield 19, 3), (28, .iload_n 1, 1), (29, .invokevirtual 210, 3), (32, .ireturn, 1)] : List (Nat × Instr × Nat)), decode cX11_walks t.1 = .ok (t.2.1, t.2.2) := by decide +kernel
noncomputable def f_X11_walks (st : OS) (st_n : OS) (st_w : OS) (a0 : Int32) : Option (Nat ⊕ (Int32 × OS)) := (if a0 < 0 then some (.inl 1) else (if a0 ≤ 8 then (f_X9_closedWalks st_w st_n a0).bind (fun x3 => match x3 with | (v5, t6) => some (.inr ((v5, t6)))) else some (.inl 1)))
set_option maxHeartbeats 4000000 in
set_option maxRecDepth 100000 in
theorem c_X11_walks {l : Launch} (hst : l.stackTraces = false) {G : mG} {h : mM} {q : Nat → Nat} {q_n : Nat → Nat} {q_w : Nat → Nat} (hq : oinj LX11 q) (hq_n : oinj LX10 q_n) (hq_w : oinj LX9 q_w) (ha : oap [(LX11, q), (LX10, q_n), (LX9, q_w)]) (lk_n : q 1 = q_n 5) (lk_w : q 7 = q_w 7) {st : OS} {st_n : OS} {st_w : OS} {a0 : Int32} {x : Nat ⊕ (Int32 × OS)} (hF : f_X11_walks st st_n st_w a0 = some x) : xQ l G yX11_walks cX11_walks 2 (some FieldType.int) rm_X11_walks [.ref (q 10), .int a0] (oset LX11 G q st (oset LX10 G q_n st_n (oset LX9 G q_w st_w h))) (mQi G (fun r h1 => ∃ y, x = .inr y ∧ r = y.1 ∧ h1 = oset LX11 G q st (oset LX10 G q_n st_n (oset LX9 G q_w y.2 h)))) (fun E h1 => ∃ k, x = .inl k ∧ E = exN k ∧ h1 = oset LX11 G q st (oset LX10 G q_n st_n (oset LX9 G q_w st_w h))) := by
  refine xp_of (by decide +kernel) (Nat.le_of_ble_eq_true rfl) ?_
  intro p e s m below meth c X hr hlk hno hH ls hl
  dsimp only [f_X11_walks] at hF
  replace hl : lv_has ls 2 [(0, .ref (q 10)), (1, .int a0)] := hl
  refine lv_iload_n X.x X.b (dk DX11_walks_0 0 rfl) rfl (lv_at hl 1 rfl) ?_
  refine lv_if_lt (tgt := 10) X.x X.b (dk DX11_walks_0 1 rfl) (by decide) (fun c1 => ?_) (fun c1 => ?_)
  · replace hF := if_t hF c1
    cases sm hF
    exact mr_throwS X hno hlk hl.1 hst hH 1 11 (by decide +kernel) (by decide +kernel) (by decide +kernel) exT_X11_87 kL_X11_83 kN_ex1 (dk DX11_walks_0 5 rfl) (dk DX11_walks_0 6 rfl) (dk DX11_walks_0 7 rfl) (dk DX11_walks_0 8 rfl) (dk DX11_walks_0 9 rfl) ⟨Nat.le_of_ble_eq_true rfl, Nat.le_of_ble_eq_true rfl, Nat.le_of_ble_eq_true rfl, Nat.le_of_ble_eq_true rfl⟩ (Nat.le_of_ble_eq_true rfl) (Nat.le_of_ble_eq_true rfl) ⟨_, rfl, rfl, rfl⟩
  · replace hF := if_f hF c1
    refine lv_iload_n X.x X.b (dk DX11_walks_0 2 rfl) rfl (lv_at hl 1 rfl) ?_
    refine lv_bipush (v := 8) X.x X.b (dk DX11_walks_0 3 rfl) (by decide) ?_
    refine lv_icmp_le (tgt := 20) X.x X.b (dk DX11_walks_0 4 rfl) (by decide) (fun c2 => ?_) (fun c2 => ?_)
    · replace hF := if_t hF c2
      refine lv_aload_n X.x X.b (dk DX11_walks_0 10 rfl) rfl (lv_at hl 0 rfl) ?_
      refine og_getR (t := 4) OX11 X hq hH 7 (by decide) rfl kF_X11_53 (dk DX11_walks_0 11 rfl) ?_
      rw [lk_w]
      refine lv_aload_n X.x X.b (dk DX11_walks_0 12 rfl) rfl (lv_at hl 0 rfl) ?_
      refine og_getR (t := 4) OX11 X hq hH 1 (by decide) rfl kF_X11_19 (dk DX11_walks_0 13 rfl) ?_
      rw [lk_n]
      refine lv_iload_n X.x X.b (dk DX11_walks_0 14 rfl) rfl (lv_at hl 1 rfl) ?_
      obtain ⟨x3, e4, hF⟩ := bd hF
      refine mr_ci0 (mH_perm (l1 := [(LX11, q, st), (LX10, q_n, st_n), (LX9, q_w, st_w)]) (l2 := [(LX9, q_w, st_w), (LX10, q_n, st_n), (LX11, q, st)]) ha [2, 1, 0] [2, 1, 0] rfl rfl rfl hH) ⟨rfl, rfl⟩ (mr_runV (As := [.ref (q_n 5), .int a0]) (rest := []) X (mH_perm (l1 := [(LX11, q, st), (LX10, q_n, st_n), (LX9, q_w, st_w)]) (l2 := [(LX9, q_w, st_w), (LX10, q_n, st_n), (LX11, q, st)]) ha [2, 1, 0] [2, 1, 0] rfl rfl rfl hH) (c_X9_closedWalks hq_w hq_n (oap_sub ha [2, 1] rfl rfl) e4) ((oset_at hq_w (Nat.le_refl _) ohas_N).trans (congrArg some ocell_N)) OX9.1 kM_X11_210 kI_X9_closedWalks kS_X9_closedWalks kN_X9 kC_X9_closedWalks hd_X9_closedWalks ⟨Nat.le_of_ble_eq_true rfl, Nat.le_of_ble_eq_true rfl⟩ rfl hl.1 (Nat.le_of_ble_eq_true rfl) (dk DX11_walks_0 15 rfl) ⟨Nat.le_of_ble_eq_true rfl, Nat.le_of_ble_eq_true rfl⟩) (fun r h1 H locs hp hH => ?_)
      obtain ⟨hr1, hr2⟩ := hp; rw [hr1]; rw [hr2] at hH; clear hr1 hr2
      obtain ⟨v5, t6⟩ := x3
      try dsimp only at hF hH ⊢
      replace hH : mH G (oset LX11 G q st (oset LX10 G q_n st_n (oset LX9 G q_w t6 h))) s.heap H locs := mH_unperm (l1 := [(LX11, q, st), (LX10, q_n, st_n), (LX9, q_w, t6)]) (l2 := [(LX9, q_w, t6), (LX10, q_n, st_n), (LX11, q, st)]) ha [2, 1, 0] [2, 1, 0] rfl rfl rfl hH
      cases sm hF
      exact vx_ret (W.widen (k := (rm_X11_walks).cells) (n := (rm_X11_walks).slots) (Nat.le_of_ble_eq_true rfl) (Nat.le_of_ble_eq_true rfl) (mr_iret X hr hlk hH ⟨_, rfl, rfl, rfl⟩ (dk DX11_walks_0 16 rfl)))
    · replace hF := if_f hF c2
      cases sm hF
      exact mr_throwS X hno hlk hl.1 hst hH 1 11 (by decide +kernel) (by decide +kernel) (by decide +kernel) exT_X11_87 kL_X11_83 kN_ex1 (dk DX11_walks_0 5 rfl) (dk DX11_walks_0 6 rfl) (dk DX11_walks_0 7 rfl) (dk DX11_walks_0 8 rfl) (dk DX11_walks_0 9 rfl) ⟨Nat.le_of_ble_eq_true rfl, Nat.le_of_ble_eq_true rfl, Nat.le_of_ble_eq_true rfl, Nat.le_of_ble_eq_true rfl⟩ (Nat.le_of_ble_eq_true rfl) (Nat.le_of_ble_eq_true rfl) ⟨_, rfl, rfl, rfl⟩
-- X11_far
abbrev rm_X11_far : Room := { frames := 7, cells := 2, slots := 12, locals := 111 }
theorem hd_X11_far : mHd yX11_far 2 := ⟨by decide +kernel, by decide +kernel, by decide +kernel⟩
theorem DX11_far_0 : ∀ t ∈ ([(0, .aload_n 0, 1), (1, .iload_n 1, 1), (2, .invokevirtual 117, 3), (5, .aload_n 0, 1), (6, .iload_n 2, 1), (7, .invokevirtual 117, 3), (10, .aload_n 0, 1), (11, .getfield 19, 3), (14, .iload_n 1, 1), (15, .iload_n 2, 1), (16, .invokestatic 213, 3), (19, .ireturn, 1)] : List (Nat × Instr × Nat)), decode cX11_far t.1 = .ok (t.2.1, t.2.2) := by decide +kernel
noncomputable def f_X11_far (st : OS) (st_n : OS) (a0 : Int32) (a1 : Int32) : Option (Nat ⊕ (Int32)) := (f_X11_needPoint st st_n a0).bind (fun x1 => match x1 with | .inl k9 => some (.inl k9) | .inr y3 => (f_X11_needPoint st st_n a1).bind (fun x4 => match x4 with | .inl k9 => some (.inl k9) | .inr y6 => (f_X9_between st_n a0 a1).bind (fun x7 => some (.inr x7))))
set_option maxHeartbeats 4000000 in
set_option maxRecDepth 100000 in
theorem c_X11_far {l : Launch} (hst : l.stackTraces = false) {G : mG} {h : mM} {q : Nat → Nat} {q_n : Nat → Nat} (hq : oinj LX11 q) (hq_n : oinj LX10 q_n) (ha : oap [(LX11, q), (LX10, q_n)]) (lk_n : q 1 = q_n 5) {st : OS} {st_n : OS} {a0 : Int32} {a1 : Int32} {x : Nat ⊕ (Int32)} (hF : f_X11_far st st_n a0 a1 = some x) : xQ l G yX11_far cX11_far 3 (some FieldType.int) rm_X11_far [.ref (q 10), .int a0, .int a1] (oset LX11 G q st (oset LX10 G q_n st_n h)) (mQi G (fun r h1 => ∃ y, x = .inr y ∧ r = y ∧ h1 = oset LX11 G q st (oset LX10 G q_n st_n h))) (fun E h1 => ∃ k, x = .inl k ∧ E = exN k ∧ h1 = oset LX11 G q st (oset LX10 G q_n st_n h)) := by
  refine xp_of (by decide +kernel) (Nat.le_of_ble_eq_true rfl) ?_
  intro p e s m below meth c X hr hlk hno hH ls hl
  dsimp only [f_X11_far] at hF
  replace hl : lv_has ls 3 [(0, .ref (q 10)), (1, .int a0), (2, .int a1)] := hl
  refine lv_aload_n X.x X.b (dk DX11_far_0 0 rfl) rfl (lv_at hl 0 rfl) ?_
  refine lv_iload_n X.x X.b (dk DX11_far_0 1 rfl) rfl (lv_at hl 1 rfl) ?_
  obtain ⟨x1, e2, hF⟩ := bd hF
  refine mr_xv hH (mr_xrunV (As := [.int a0]) (rest := []) X hH (c_X11_needPoint hst hq hq_n ha lk_n e2) ((oset_at hq (Nat.le_refl _) ohas_N).trans (congrArg some ocell_N)) OX11.1 kM_X11_117 kI_X11_needPoint kS_X11_needPoint kN_X11 kC_X11_needPoint hd_X11_needPoint ⟨Nat.le_of_ble_eq_true rfl, Nat.le_of_ble_eq_true rfl⟩ rfl hl.1 (Nat.le_of_ble_eq_true rfl) (dk DX11_far_0 2 rfl) ⟨Nat.le_of_ble_eq_true rfl, Nat.le_of_ble_eq_true rfl⟩) (fun E h1 q9 H locs hp hH hth => ?_) (fun h1 H locs hp hH => ?_)
  · obtain ⟨k9, hk9, hE, hh9⟩ := hp
    subst hk9
    rw [hh9] at hH
    cases sm hF
    exact mr_xout hno hlk hH hth ⟨_, rfl, hE, rfl⟩ (Nat.le_of_ble_eq_true rfl) (Nat.le_of_ble_eq_true rfl)
  · obtain ⟨y3, hy9, hr2⟩ := hp
    subst hy9
    rw [hr2] at hH; clear hr2
    try dsimp only at hF
    refine lv_aload_n X.x X.b (dk DX11_far_0 3 rfl) rfl (lv_at hl 0 rfl) ?_
    refine lv_iload_n X.x X.b (dk DX11_far_0 4 rfl) rfl (lv_at hl 2 rfl) ?_
    obtain ⟨x4, e5, hF⟩ := bd hF
    refine mr_xv hH (mr_xrunV (As := [.int a1]) (rest := []) X hH (c_X11_needPoint hst hq hq_n ha lk_n e5) ((oset_at hq (Nat.le_refl _) ohas_N).trans (congrArg some ocell_N)) OX11.1 kM_X11_117 kI_X11_needPoint kS_X11_needPoint kN_X11 kC_X11_needPoint hd_X11_needPoint ⟨Nat.le_of_ble_eq_true rfl, Nat.le_of_ble_eq_true rfl⟩ rfl hl.1 (Nat.le_of_ble_eq_true rfl) (dk DX11_far_0 5 rfl) ⟨Nat.le_of_ble_eq_true rfl, Nat.le_of_ble_eq_true rfl⟩) (fun E h1 q9 H locs hp hH hth => ?_) (fun h1 H locs hp hH => ?_)
    · obtain ⟨k9, hk9, hE, hh9⟩ := hp
      subst hk9
      rw [hh9] at hH
      cases sm hF
      exact mr_xout hno hlk hH hth ⟨_, rfl, hE, rfl⟩ (Nat.le_of_ble_eq_true rfl) (Nat.le_of_ble_eq_true rfl)
    · obtain ⟨y6, hy9, hr2⟩ := hp
      subst hy9
      rw [hr2] at hH; clear hr2
      try dsimp only at hF
      refine lv_aload_n X.x X.b (dk DX11_far_0 6 rfl) rfl (lv_at hl 0 rfl) ?_
      refine og_getR (t := 4) OX11 X hq hH 1 (by decide) rfl kF_X11_19 (dk DX11_far_0 7 rfl) ?_
      rw [lk_n]
      refine lv_iload_n X.x X.b (dk DX11_far_0 8 rfl) rfl (lv_at hl 1 rfl) ?_
      refine lv_iload_n X.x X.b (dk DX11_far_0 9 rfl) rfl (lv_at hl 2 rfl) ?_
      obtain ⟨x7, e8, hF⟩ := bd hF
      refine mr_ci0 (mH_perm (l1 := [(LX11, q, st), (LX10, q_n, st_n)]) (l2 := [(LX10, q_n, st_n), (LX11, q, st)]) ha [1, 0] [1, 0] rfl rfl rfl hH) ⟨rfl, rfl⟩ (mr_runS (As := [.ref (q_n 5), .int a0, .int a1]) (rest := []) X (mH_perm (l1 := [(LX11, q, st), (LX10, q_n, st_n)]) (l2 := [(LX10, q_n, st_n), (LX11, q, st)]) ha [1, 0] [1, 0] rfl rfl rfl hH) (c_X9_between hq_n e8) kM_X11_213 kT_X9_between kN_X9 kC_X9_between hd_X9_between ⟨Nat.le_of_ble_eq_true rfl, Nat.le_of_ble_eq_true rfl⟩ rfl hl.1 (Nat.le_of_ble_eq_true rfl) (dk DX11_far_0 10 rfl) ⟨Nat.le_of_ble_eq_true rfl, Nat.le_of_ble_eq_true rfl⟩) (fun r h1 H locs hp hH => ?_)
      obtain ⟨hr1, hr2⟩ := hp; rw [hr1]; rw [hr2] at hH; clear hr1 hr2
      replace hH : mH G (oset LX11 G q st (oset LX10 G q_n st_n h)) s.heap H locs := mH_unperm (l1 := [(LX11, q, st), (LX10, q_n, st_n)]) (l2 := [(LX10, q_n, st_n), (LX11, q, st)]) ha [1, 0] [1, 0] rfl rfl rfl hH
      cases sm hF
      exact vx_ret (W.widen (k := (rm_X11_far).cells) (n := (rm_X11_far).slots) (Nat.le_of_ble_eq_true rfl) (Nat.le_of_ble_eq_true rfl) (mr_iret X hr hlk hH ⟨_, rfl, rfl, rfl⟩ (dk DX11_far_0 11 rfl)))
-- X11_widest
abbrev rm_X11_widest : Room := { frames := 3, cells := 0, slots := 0, locals := 74 }
theorem hd_X11_widest : mHd yX11_widest 0 := ⟨by decide +kernel, by decide +kernel, by decide +kernel⟩
theorem DX11_widest_0 : ∀ t ∈ ([(0, .aload_n 0, 1), (1, .getfield 19, 3), (4, .invokestatic 217, 3), (7, .ireturn, 1)] : List (Nat × Instr × Nat)), decode cX11_widest t.1 = .ok (t.2.1, t.2.2) := by decide +kernel
noncomputable def f_X11_widest (st : OS) (st_n : OS) : Option (Int32) := (f_X9_greatestBetween st_n).bind (fun x1 => some x1)
set_option maxHeartbeats 4000000 in
set_option maxRecDepth 100000 in
theorem c_X11_widest {l : Launch} {G : mG} {h : mM} {q : Nat → Nat} {q_n : Nat → Nat} (hq : oinj LX11 q) (hq_n : oinj LX10 q_n) (ha : oap [(LX11, q), (LX10, q_n)]) (lk_n : q 1 = q_n 5) {st : OS} {st_n : OS} {x : Int32} (hF : f_X11_widest st st_n = some x) : cQ l G yX11_widest cX11_widest 1 (some FieldType.int) rm_X11_widest [.ref (q 10)] (oset LX11 G q st (oset LX10 G q_n st_n h)) (mQi G (fun r h1 => r = x ∧ h1 = oset LX11 G q st (oset LX10 G q_n st_n h))) := by
  refine mp_of (by decide +kernel) (Nat.le_of_ble_eq_true rfl) ?_
  intro p e s m below meth c X hr hlk hH hname ls hl
  dsimp only [f_X11_widest] at hF
  replace hl : lv_has ls 1 [(0, .ref (q 10))] := hl
  refine lv_aload_n X.x X.b (dk DX11_widest_0 0 rfl) rfl (lv_at hl 0 rfl) ?_
  refine og_getR (t := 4) OX11 X hq hH 1 (by decide) rfl kF_X11_19 (dk DX11_widest_0 1 rfl) ?_
  rw [lk_n]
  obtain ⟨x1, e2, hF⟩ := bd hF
  refine mr_ci0 (mH_perm (l1 := [(LX11, q, st), (LX10, q_n, st_n)]) (l2 := [(LX10, q_n, st_n), (LX11, q, st)]) ha [1, 0] [1, 0] rfl rfl rfl hH) ⟨rfl, rfl⟩ (mr_runS (As := [.ref (q_n 5)]) (rest := []) X (mH_perm (l1 := [(LX11, q, st), (LX10, q_n, st_n)]) (l2 := [(LX10, q_n, st_n), (LX11, q, st)]) ha [1, 0] [1, 0] rfl rfl rfl hH) (c_X9_greatestBetween hq_n e2) kM_X11_217 kT_X9_greatestBetween kN_X9 kC_X9_greatestBetween hd_X9_greatestBetween ⟨Nat.le_of_ble_eq_true rfl, Nat.le_of_ble_eq_true rfl⟩ rfl hl.1 (Nat.le_of_ble_eq_true rfl) (dk DX11_widest_0 2 rfl) ⟨Nat.zero_le _, Nat.zero_le _⟩) (fun r h1 H locs hp hH => ?_)
  obtain ⟨hr1, hr2⟩ := hp; rw [hr1]; rw [hr2] at hH; clear hr1 hr2
  replace hH : mH G (oset LX11 G q st (oset LX10 G q_n st_n h)) s.heap H locs := mH_unperm (l1 := [(LX11, q, st), (LX10, q_n, st_n)]) (l2 := [(LX10, q_n, st_n), (LX11, q, st)]) ha [1, 0] [1, 0] rfl rfl rfl hH
  cases sm hF
  exact mr_iret X hr hlk hH ⟨rfl, rfl⟩ (dk DX11_widest_0 3 rfl)
-- X11_ring
abbrev rm_X11_ring : Room := { frames := 4, cells := 0, slots := 0, locals := 97 }
theorem hd_X11_ring : mHd yX11_ring 0 := ⟨by decide +kernel, by decide +kernel, by decide +kernel⟩
theorem DX11_ring_0 : ∀ t ∈ ([(0, .aload_n 0, 1), (1, .getfield 53, 3), (4, .aload_n 0, 1), (5, .getfield 19, 3), (8, .invokevirtual 220, 3), (11, .ireturn, 1)] : List (Nat × Instr × Nat)), decode cX11_ring t.1 = .ok (t.2.1, t.2.2) := by decide +kernel
noncomputable def f_X11_ring (st : OS) (st_n : OS) (st_w : OS) : Option (Int32 × OS) := (f_X9_shortestRing st_w st_n).bind (fun x1 => match x1 with | (v3, t4) => some ((v3, t4)))
set_option maxHeartbeats 4000000 in
set_option maxRecDepth 100000 in
theorem c_X11_ring {l : Launch} {G : mG} {h : mM} {q : Nat → Nat} {q_n : Nat → Nat} {q_w : Nat → Nat} (hq : oinj LX11 q) (hq_n : oinj LX10 q_n) (hq_w : oinj LX9 q_w) (ha : oap [(LX11, q), (LX10, q_n), (LX9, q_w)]) (lk_n : q 1 = q_n 5) (lk_w : q 7 = q_w 7) {st : OS} {st_n : OS} {st_w : OS} {x : Int32 × OS} (hF : f_X11_ring st st_n st_w = some x) : cQ l G yX11_ring cX11_ring 1 (some FieldType.int) rm_X11_ring [.ref (q 10)] (oset LX11 G q st (oset LX10 G q_n st_n (oset LX9 G q_w st_w h))) (mQi G (fun r h1 => r = x.1 ∧ h1 = oset LX11 G q st (oset LX10 G q_n st_n (oset LX9 G q_w x.2 h)))) := by
  refine mp_of (by decide +kernel) (Nat.le_of_ble_eq_true rfl) ?_
  intro p e s m below meth c X hr hlk hH hname ls hl
  dsimp only [f_X11_ring] at hF
  replace hl : lv_has ls 1 [(0, .ref (q 10))] := hl
  refine lv_aload_n X.x X.b (dk DX11_ring_0 0 rfl) rfl (lv_at hl 0 rfl) ?_
  refine og_getR (t := 4) OX11 X hq hH 7 (by decide) rfl kF_X11_53 (dk DX11_ring_0 1 rfl) ?_
  rw [lk_w]
  refine lv_aload_n X.x X.b (dk DX11_ring_0 2 rfl) rfl (lv_at hl 0 rfl) ?_
  refine og_getR (t := 4) OX11 X hq hH 1 (by decide) rfl kF_X11_19 (dk DX11_ring_0 3 rfl) ?_
  rw [lk_n]
  obtain ⟨x1, e2, hF⟩ := bd hF
  refine mr_ci0 (mH_perm (l1 := [(LX11, q, st), (LX10, q_n, st_n), (LX9, q_w, st_w)]) (l2 := [(LX9, q_w, st_w), (LX10, q_n, st_n), (LX11, q, st)]) ha [2, 1, 0] [2, 1, 0] rfl rfl rfl hH) ⟨rfl, rfl⟩ (mr_runV (As := [.ref (q_n 5)]) (rest := []) X (mH_perm (l1 := [(LX11, q, st), (LX10, q_n, st_n), (LX9, q_w, st_w)]) (l2 := [(LX9, q_w, st_w), (LX10, q_n, st_n), (LX11, q, st)]) ha [2, 1, 0] [2, 1, 0] rfl rfl rfl hH) (c_X9_shortestRing hq_w hq_n (oap_sub ha [2, 1] rfl rfl) e2) ((oset_at hq_w (Nat.le_refl _) ohas_N).trans (congrArg some ocell_N)) OX9.1 kM_X11_220 kI_X9_shortestRing kS_X9_shortestRing kN_X9 kC_X9_shortestRing hd_X9_shortestRing ⟨Nat.le_of_ble_eq_true rfl, Nat.le_of_ble_eq_true rfl⟩ rfl hl.1 (Nat.le_of_ble_eq_true rfl) (dk DX11_ring_0 4 rfl) ⟨Nat.zero_le _, Nat.zero_le _⟩) (fun r h1 H locs hp hH => ?_)
  obtain ⟨hr1, hr2⟩ := hp; rw [hr1]; rw [hr2] at hH; clear hr1 hr2
  obtain ⟨v3, t4⟩ := x1
  try dsimp only at hF hH ⊢
  replace hH : mH G (oset LX11 G q st (oset LX10 G q_n st_n (oset LX9 G q_w t4 h))) s.heap H locs := mH_unperm (l1 := [(LX11, q, st), (LX10, q_n, st_n), (LX9, q_w, t4)]) (l2 := [(LX9, q_w, t4), (LX10, q_n, st_n), (LX11, q, st)]) ha [2, 1, 0] [2, 1, 0] rfl rfl rfl hH
  cases sm hF
  exact mr_iret X hr hlk hH ⟨rfl, rfl⟩ (dk DX11_ring_0 5 rfl)
-- X11_parts
abbrev rm_X11_parts : Room := { frames := 4, cells := 0, slots := 0, locals := 98 }
theorem hd_X11_parts : mHd yX11_parts 0 := ⟨by decide +kernel, by decide +kernel, by decide +kernel⟩
theorem DX11_parts_0 : ∀ t ∈ ([(0, .aload_n 0, 1), (1, .getfield 19, 3), (4, .invokestatic 223, 3), (7, .ireturn, 1)] : List (Nat × Instr × Nat)), decode cX11_parts t.1 = .ok (t.2.1, t.2.2) := by decide +kernel
noncomputable def f_X11_parts (st : OS) (st_n : OS) : Option (Int32) := (f_X9_pieces st_n).bind (fun x1 => some x1)
set_option maxHeartbeats 4000000 in
set_option maxRecDepth 100000 in
theorem c_X11_parts {l : Launch} {G : mG} {h : mM} {q : Nat → Nat} {q_n : Nat → Nat} (hq : oinj LX11 q) (hq_n : oinj LX10 q_n) (ha : oap [(LX11, q), (LX10, q_n)]) (lk_n : q 1 = q_n 5) {st : OS} {st_n : OS} {x : Int32} (hF : f_X11_parts st st_n = some x) : cQ l G yX11_parts cX11_parts 1 (some FieldType.int) rm_X11_parts [.ref (q 10)] (oset LX11 G q st (oset LX10 G q_n st_n h)) (mQi G (fun r h1 => r = x ∧ h1 = oset LX11 G q st (oset LX10 G q_n st_n h))) := by
  refine mp_of (by decide +kernel) (Nat.le_of_ble_eq_true rfl) ?_
  intro p e s m below meth c X hr hlk hH hname ls hl
  dsimp only [f_X11_parts] at hF
  replace hl : lv_has ls 1 [(0, .ref (q 10))] := hl
  refine lv_aload_n X.x X.b (dk DX11_parts_0 0 rfl) rfl (lv_at hl 0 rfl) ?_
  refine og_getR (t := 4) OX11 X hq hH 1 (by decide) rfl kF_X11_19 (dk DX11_parts_0 1 rfl) ?_
  rw [lk_n]
  obtain ⟨x1, e2, hF⟩ := bd hF
  refine mr_ci0 (mH_perm (l1 := [(LX11, q, st), (LX10, q_n, st_n)]) (l2 := [(LX10, q_n, st_n), (LX11, q, st)]) ha [1, 0] [1, 0] rfl rfl rfl hH) ⟨rfl, rfl⟩ (mr_runS (As := [.ref (q_n 5)]) (rest := []) X (mH_perm (l1 := [(LX11, q, st), (LX10, q_n, st_n)]) (l2 := [(LX10, q_n, st_n), (LX11, q, st)]) ha [1, 0] [1, 0] rfl rfl rfl hH) (c_X9_pieces hq_n e2) kM_X11_223 kT_X9_pieces kN_X9 kC_X9_pieces hd_X9_pieces ⟨Nat.le_of_ble_eq_true rfl, Nat.le_of_ble_eq_true rfl⟩ rfl hl.1 (Nat.le_of_ble_eq_true rfl) (dk DX11_parts_0 2 rfl) ⟨Nat.zero_le _, Nat.zero_le _⟩) (fun r h1 H locs hp hH => ?_)
  obtain ⟨hr1, hr2⟩ := hp; rw [hr1]; rw [hr2] at hH; clear hr1 hr2
  replace hH : mH G (oset LX11 G q st (oset LX10 G q_n st_n h)) s.heap H locs := mH_unperm (l1 := [(LX11, q, st), (LX10, q_n, st_n)]) (l2 := [(LX10, q_n, st_n), (LX11, q, st)]) ha [1, 0] [1, 0] rfl rfl rfl hH
  cases sm hF
  exact mr_iret X hr hlk hH ⟨rfl, rfl⟩ (dk DX11_parts_0 3 rfl)
-- X11_rank
abbrev rm_X11_rank : Room := { frames := 6, cells := 1, slots := 6, locals := 115 }
theorem hd_X11_rank : mHd yX11_rank 1 := ⟨by decide +kernel, by decide +kernel, by decide +kernel⟩
theorem DX11_rank_0 : ∀ t ∈ ([(0, .iload_n 1, 1), (1, .iconst 2, 1), (2, .if_icmp .eq 29, 3), (5, .iload_n 1, 1), (6, .iconst 3, 1), (7, .if_icmp .eq 24, 3), (10, .iload_n 1, 1), (11, .iconst 5, 1), (12, .if_icmp .eq 19, 3), (15, .iload_n 1, 1), (16, .bipush 7, 2), (18, .if_icmp .eq 13, 3), (21, .new 83, 3), (24, .dup, 1), (25, .ldc 226, 2), (27, .invokespecial 87, 3), (30, .athrow, 1), (31, .aload_n 0, 1), (32, .getfield 60, 3), (35, .aload_n 0, 1), (36, .getfield 19, 3), (39, .iload_n 1, 1), (40, .invokevirtual 228, 3), (43, .ireturn, 1)] : List (Nat × Instr × Nat)), decode cX11_rank t.1 = .ok (t.2.1, t.2.2) := by decide +kernel
noncomputable def f_X11_rank (st : OS) (st_n : OS) (st_k : OS) (a0 : Int32) : Option (Nat ⊕ (Int32 × OS)) := (if a0 = 2 then (f_X4_rankOver st_k st_n a0).bind (fun x2 => match x2 with | (v4, t5) => some (.inr ((v4, t5)))) else (if a0 = 3 then (f_X4_rankOver st_k st_n a0).bind (fun x7 => match x7 with | (v9, t10) => some (.inr ((v9, t10)))) else (if a0 = 5 then (f_X4_rankOver st_k st_n a0).bind (fun x12 => match x12 with | (v14, t15) => some (.inr ((v14, t15)))) else (if a0 = 7 then (f_X4_rankOver st_k st_n a0).bind (fun x17 => match x17 with | (v19, t20) => some (.inr ((v19, t20)))) else some (.inl 1)))))
set_option maxHeartbeats 4000000 in
set_option maxRecDepth 100000 in
theorem c_X11_rank {l : Launch} (hst : l.stackTraces = false) {G : mG} {h : mM} {q : Nat → Nat} {q_n : Nat → Nat} {q_k : Nat → Nat} (hq : oinj LX11 q) (hq_n : oinj LX10 q_n) (hq_k : oinj LX4 q_k) (ha : oap [(LX11, q), (LX10, q_n), (LX4, q_k)]) (lk_n : q 1 = q_n 5) (lk_k : q 8 = q_k 3) {st : OS} {st_n : OS} {st_k : OS} {a0 : Int32} {x : Nat ⊕ (Int32 × OS)} (hF : f_X11_rank st st_n st_k a0 = some x) : xQ l G yX11_rank cX11_rank 2 (some FieldType.int) rm_X11_rank [.ref (q 10), .int a0] (oset LX11 G q st (oset LX10 G q_n st_n (oset LX4 G q_k st_k h))) (mQi G (fun r h1 => ∃ y, x = .inr y ∧ r = y.1 ∧ h1 = oset LX11 G q st (oset LX10 G q_n st_n (oset LX4 G q_k y.2 h)))) (fun E h1 => ∃ k, x = .inl k ∧ E = exN k ∧ h1 = oset LX11 G q st (oset LX10 G q_n st_n (oset LX4 G q_k st_k h))) := by
  refine xp_of (by decide +kernel) (Nat.le_of_ble_eq_true rfl) ?_
  intro p e s m below meth c X hr hlk hno hH ls hl
  dsimp only [f_X11_rank] at hF
  replace hl : lv_has ls 2 [(0, .ref (q 10)), (1, .int a0)] := hl
  refine lv_iload_n X.x X.b (dk DX11_rank_0 0 rfl) rfl (lv_at hl 1 rfl) ?_
  refine lv_iconst (v := 2) X.x X.b (dk DX11_rank_0 1 rfl) (by decide) ?_
  refine lv_icmp_eq (tgt := 31) X.x X.b (dk DX11_rank_0 2 rfl) (by decide) (fun c1 => ?_) (fun c1 => ?_)
  · replace hF := if_t hF c1
    refine lv_aload_n X.x X.b (dk DX11_rank_0 17 rfl) rfl (lv_at hl 0 rfl) ?_
    refine og_getR (t := 4) OX11 X hq hH 8 (by decide) rfl kF_X11_60 (dk DX11_rank_0 18 rfl) ?_
    rw [lk_k]
    refine lv_aload_n X.x X.b (dk DX11_rank_0 19 rfl) rfl (lv_at hl 0 rfl) ?_
    refine og_getR (t := 4) OX11 X hq hH 1 (by decide) rfl kF_X11_19 (dk DX11_rank_0 20 rfl) ?_
    rw [lk_n]
    refine lv_iload_n X.x X.b (dk DX11_rank_0 21 rfl) rfl (lv_at hl 1 rfl) ?_
    obtain ⟨x2, e3, hF⟩ := bd hF
    refine mr_ci0 (mH_perm (l1 := [(LX11, q, st), (LX10, q_n, st_n), (LX4, q_k, st_k)]) (l2 := [(LX4, q_k, st_k), (LX10, q_n, st_n), (LX11, q, st)]) ha [2, 1, 0] [2, 1, 0] rfl rfl rfl hH) ⟨rfl, rfl⟩ (mr_runV (As := [.ref (q_n 5), .int a0]) (rest := []) X (mH_perm (l1 := [(LX11, q, st), (LX10, q_n, st_n), (LX4, q_k, st_k)]) (l2 := [(LX4, q_k, st_k), (LX10, q_n, st_n), (LX11, q, st)]) ha [2, 1, 0] [2, 1, 0] rfl rfl rfl hH) (c_X4_rankOver hq_k hq_n (oap_sub ha [2, 1] rfl rfl) e3) ((oset_at hq_k (Nat.le_refl _) ohas_N).trans (congrArg some ocell_N)) OX4.1 kM_X11_228 kI_X4_rankOver kS_X4_rankOver kN_X4 kC_X4_rankOver hd_X4_rankOver ⟨Nat.le_of_ble_eq_true rfl, Nat.le_of_ble_eq_true rfl⟩ rfl hl.1 (Nat.le_of_ble_eq_true rfl) (dk DX11_rank_0 22 rfl) ⟨Nat.le_of_ble_eq_true rfl, Nat.le_of_ble_eq_true rfl⟩) (fun r h1 H locs hp hH => ?_)
    obtain ⟨hr1, hr2⟩ := hp; rw [hr1]; rw [hr2] at hH; clear hr1 hr2
    obtain ⟨v4, t5⟩ := x2
    try dsimp only at hF hH ⊢
    replace hH : mH G (oset LX11 G q st (oset LX10 G q_n st_n (oset LX4 G q_k t5 h))) s.heap H locs := mH_unperm (l1 := [(LX11, q, st), (LX10, q_n, st_n), (LX4, q_k, t5)]) (l2 := [(LX4, q_k, t5), (LX10, q_n, st_n), (LX11, q, st)]) ha [2, 1, 0] [2, 1, 0] rfl rfl rfl hH
    cases sm hF
    exact vx_ret (W.widen (k := (rm_X11_rank).cells) (n := (rm_X11_rank).slots) (Nat.le_of_ble_eq_true rfl) (Nat.le_of_ble_eq_true rfl) (mr_iret X hr hlk hH ⟨_, rfl, rfl, rfl⟩ (dk DX11_rank_0 23 rfl)))
  · replace hF := if_f hF c1
    refine lv_iload_n X.x X.b (dk DX11_rank_0 3 rfl) rfl (lv_at hl 1 rfl) ?_
    refine lv_iconst (v := 3) X.x X.b (dk DX11_rank_0 4 rfl) (by decide) ?_
    refine lv_icmp_eq (tgt := 31) X.x X.b (dk DX11_rank_0 5 rfl) (by decide) (fun c6 => ?_) (fun c6 => ?_)
    · replace hF := if_t hF c6
      refine lv_aload_n X.x X.b (dk DX11_rank_0 17 rfl) rfl (lv_at hl 0 rfl) ?_
      refine og_getR (t := 4) OX11 X hq hH 8 (by decide) rfl kF_X11_60 (dk DX11_rank_0 18 rfl) ?_
      rw [lk_k]
      refine lv_aload_n X.x X.b (dk DX11_rank_0 19 rfl) rfl (lv_at hl 0 rfl) ?_
      refine og_getR (t := 4) OX11 X hq hH 1 (by decide) rfl kF_X11_19 (dk DX11_rank_0 20 rfl) ?_
      rw [lk_n]
      refine lv_iload_n X.x X.b (dk DX11_rank_0 21 rfl) rfl (lv_at hl 1 rfl) ?_
      obtain ⟨x7, e8, hF⟩ := bd hF
      refine mr_ci0 (mH_perm (l1 := [(LX11, q, st), (LX10, q_n, st_n), (LX4, q_k, st_k)]) (l2 := [(LX4, q_k, st_k), (LX10, q_n, st_n), (LX11, q, st)]) ha [2, 1, 0] [2, 1, 0] rfl rfl rfl hH) ⟨rfl, rfl⟩ (mr_runV (As := [.ref (q_n 5), .int a0]) (rest := []) X (mH_perm (l1 := [(LX11, q, st), (LX10, q_n, st_n), (LX4, q_k, st_k)]) (l2 := [(LX4, q_k, st_k), (LX10, q_n, st_n), (LX11, q, st)]) ha [2, 1, 0] [2, 1, 0] rfl rfl rfl hH) (c_X4_rankOver hq_k hq_n (oap_sub ha [2, 1] rfl rfl) e8) ((oset_at hq_k (Nat.le_refl _) ohas_N).trans (congrArg some ocell_N)) OX4.1 kM_X11_228 kI_X4_rankOver kS_X4_rankOver kN_X4 kC_X4_rankOver hd_X4_rankOver ⟨Nat.le_of_ble_eq_true rfl, Nat.le_of_ble_eq_true rfl⟩ rfl hl.1 (Nat.le_of_ble_eq_true rfl) (dk DX11_rank_0 22 rfl) ⟨Nat.le_of_ble_eq_true rfl, Nat.le_of_ble_eq_true rfl⟩) (fun r h1 H locs hp hH => ?_)
      obtain ⟨hr1, hr2⟩ := hp; rw [hr1]; rw [hr2] at hH; clear hr1 hr2
      obtain ⟨v9, t10⟩ := x7
      try dsimp only at hF hH ⊢
      replace hH : mH G (oset LX11 G q st (oset LX10 G q_n st_n (oset LX4 G q_k t10 h))) s.heap H locs := mH_unperm (l1 := [(LX11, q, st), (LX10, q_n, st_n), (LX4, q_k, t10)]) (l2 := [(LX4, q_k, t10), (LX10, q_n, st_n), (LX11, q, st)]) ha [2, 1, 0] [2, 1, 0] rfl rfl rfl hH
      cases sm hF
      exact vx_ret (W.widen (k := (rm_X11_rank).cells) (n := (rm_X11_rank).slots) (Nat.le_of_ble_eq_true rfl) (Nat.le_of_ble_eq_true rfl) (mr_iret X hr hlk hH ⟨_, rfl, rfl, rfl⟩ (dk DX11_rank_0 23 rfl)))
    · replace hF := if_f hF c6
      refine lv_iload_n X.x X.b (dk DX11_rank_0 6 rfl) rfl (lv_at hl 1 rfl) ?_
      refine lv_iconst (v := 5) X.x X.b (dk DX11_rank_0 7 rfl) (by decide) ?_
      refine lv_icmp_eq (tgt := 31) X.x X.b (dk DX11_rank_0 8 rfl) (by decide) (fun c11 => ?_) (fun c11 => ?_)
      · replace hF := if_t hF c11
        refine lv_aload_n X.x X.b (dk DX11_rank_0 17 rfl) rfl (lv_at hl 0 rfl) ?_
        refine og_getR (t := 4) OX11 X hq hH 8 (by decide) rfl kF_X11_60 (dk DX11_rank_0 18 rfl) ?_
        rw [lk_k]
        refine lv_aload_n X.x X.b (dk DX11_rank_0 19 rfl) rfl (lv_at hl 0 rfl) ?_
        refine og_getR (t := 4) OX11 X hq hH 1 (by decide) rfl kF_X11_19 (dk DX11_rank_0 20 rfl) ?_
        rw [lk_n]
        refine lv_iload_n X.x X.b (dk DX11_rank_0 21 rfl) rfl (lv_at hl 1 rfl) ?_
        obtain ⟨x12, e13, hF⟩ := bd hF
        refine mr_ci0 (mH_perm (l1 := [(LX11, q, st), (LX10, q_n, st_n), (LX4, q_k, st_k)]) (l2 := [(LX4, q_k, st_k), (LX10, q_n, st_n), (LX11, q, st)]) ha [2, 1, 0] [2, 1, 0] rfl rfl rfl hH) ⟨rfl, rfl⟩ (mr_runV (As := [.ref (q_n 5), .int a0]) (rest := []) X (mH_perm (l1 := [(LX11, q, st), (LX10, q_n, st_n), (LX4, q_k, st_k)]) (l2 := [(LX4, q_k, st_k), (LX10, q_n, st_n), (LX11, q, st)]) ha [2, 1, 0] [2, 1, 0] rfl rfl rfl hH) (c_X4_rankOver hq_k hq_n (oap_sub ha [2, 1] rfl rfl) e13) ((oset_at hq_k (Nat.le_refl _) ohas_N).trans (congrArg some ocell_N)) OX4.1 kM_X11_228 kI_X4_rankOver kS_X4_rankOver kN_X4 kC_X4_rankOver hd_X4_rankOver ⟨Nat.le_of_ble_eq_true rfl, Nat.le_of_ble_eq_true rfl⟩ rfl hl.1 (Nat.le_of_ble_eq_true rfl) (dk DX11_rank_0 22 rfl) ⟨Nat.le_of_ble_eq_true rfl, Nat.le_of_ble_eq_true rfl⟩) (fun r h1 H locs hp hH => ?_)
        obtain ⟨hr1, hr2⟩ := hp; rw [hr1]; rw [hr2] at hH; clear hr1 hr2
        obtain ⟨v14, t15⟩ := x12
        try dsimp only at hF hH ⊢
        replace hH : mH G (oset LX11 G q st (oset LX10 G q_n st_n (oset LX4 G q_k t15 h))) s.heap H locs := mH_unperm (l1 := [(LX11, q, st), (LX10, q_n, st_n), (LX4, q_k, t15)]) (l2 := [(LX4, q_k, t15), (LX10, q_n, st_n), (LX11, q, st)]) ha [2, 1, 0] [2, 1, 0] rfl rfl rfl hH
        cases sm hF
        exact vx_ret (W.widen (k := (rm_X11_rank).cells) (n := (rm_X11_rank).slots) (Nat.le_of_ble_eq_true rfl) (Nat.le_of_ble_eq_true rfl) (mr_iret X hr hlk hH ⟨_, rfl, rfl, rfl⟩ (dk DX11_rank_0 23 rfl)))
      · replace hF := if_f hF c11
        refine lv_iload_n X.x X.b (dk DX11_rank_0 9 rfl) rfl (lv_at hl 1 rfl) ?_
        refine lv_bipush (v := 7) X.x X.b (dk DX11_rank_0 10 rfl) (by decide) ?_
        refine lv_icmp_eq (tgt := 31) X.x X.b (dk DX11_rank_0 11 rfl) (by decide) (fun c16 => ?_) (fun c16 => ?_)
        · replace hF := if_t hF c16
          refine lv_aload_n X.x X.b (dk DX11_rank_0 17 rfl) rfl (lv_at hl 0 rfl) ?_
          refine og_getR (t := 4) OX11 X hq hH 8 (by decide) rfl kF_X11_60 (dk DX11_rank_0 18 rfl) ?_
          rw [lk_k]
          refine lv_aload_n X.x X.b (dk DX11_rank_0 19 rfl) rfl (lv_at hl 0 rfl) ?_
          refine og_getR (t := 4) OX11 X hq hH 1 (by decide) rfl kF_X11_19 (dk DX11_rank_0 20 rfl) ?_
          rw [lk_n]
          refine lv_iload_n X.x X.b (dk DX11_rank_0 21 rfl) rfl (lv_at hl 1 rfl) ?_
          obtain ⟨x17, e18, hF⟩ := bd hF
          refine mr_ci0 (mH_perm (l1 := [(LX11, q, st), (LX10, q_n, st_n), (LX4, q_k, st_k)]) (l2 := [(LX4, q_k, st_k), (LX10, q_n, st_n), (LX11, q, st)]) ha [2, 1, 0] [2, 1, 0] rfl rfl rfl hH) ⟨rfl, rfl⟩ (mr_runV (As := [.ref (q_n 5), .int a0]) (rest := []) X (mH_perm (l1 := [(LX11, q, st), (LX10, q_n, st_n), (LX4, q_k, st_k)]) (l2 := [(LX4, q_k, st_k), (LX10, q_n, st_n), (LX11, q, st)]) ha [2, 1, 0] [2, 1, 0] rfl rfl rfl hH) (c_X4_rankOver hq_k hq_n (oap_sub ha [2, 1] rfl rfl) e18) ((oset_at hq_k (Nat.le_refl _) ohas_N).trans (congrArg some ocell_N)) OX4.1 kM_X11_228 kI_X4_rankOver kS_X4_rankOver kN_X4 kC_X4_rankOver hd_X4_rankOver ⟨Nat.le_of_ble_eq_true rfl, Nat.le_of_ble_eq_true rfl⟩ rfl hl.1 (Nat.le_of_ble_eq_true rfl) (dk DX11_rank_0 22 rfl) ⟨Nat.le_of_ble_eq_true rfl, Nat.le_of_ble_eq_true rfl⟩) (fun r h1 H locs hp hH => ?_)
          obtain ⟨hr1, hr2⟩ := hp; rw [hr1]; rw [hr2] at hH; clear hr1 hr2
          obtain ⟨v19, t20⟩ := x17
          try dsimp only at hF hH ⊢
          replace hH : mH G (oset LX11 G q st (oset LX10 G q_n st_n (oset LX4 G q_k t20 h))) s.heap H locs := mH_unperm (l1 := [(LX11, q, st), (LX10, q_n, st_n), (LX4, q_k, t20)]) (l2 := [(LX4, q_k, t20), (LX10, q_n, st_n), (LX11, q, st)]) ha [2, 1, 0] [2, 1, 0] rfl rfl rfl hH
          cases sm hF
          exact vx_ret (W.widen (k := (rm_X11_rank).cells) (n := (rm_X11_rank).slots) (Nat.le_of_ble_eq_true rfl) (Nat.le_of_ble_eq_true rfl) (mr_iret X hr hlk hH ⟨_, rfl, rfl, rfl⟩ (dk DX11_rank_0 23 rfl)))
        · replace hF := if_f hF c16
          cases sm hF
          exact mr_throwS X hno hlk hl.1 hst hH 1 12 (by decide +kernel) (by decide +kernel) (by decide +kernel) exT_X11_87 kL_X11_83 kN_ex1 (dk DX11_rank_0 12 rfl) (dk DX11_rank_0 13 rfl) (dk DX11_rank_0 14 rfl) (dk DX11_rank_0 15 rfl) (dk DX11_rank_0 16 rfl) ⟨Nat.le_of_ble_eq_true rfl, Nat.le_of_ble_eq_true rfl, Nat.le_of_ble_eq_true rfl, Nat.le_of_ble_eq_true rfl⟩ (Nat.le_of_ble_eq_true rfl) (Nat.le_of_ble_eq_true rfl) ⟨_, rfl, rfl, rfl⟩
-- X11_code
abbrev rm_X11_code : Room := { frames := 6, cells := 1, slots := 6, locals := 140 }
theorem hd_X11_code : mHd yX11_code 1 := ⟨by decide +kernel, by decide +kernel, by decide +kernel⟩
theorem DX11_code_0 : ∀ t ∈ ([(0, .iload_n 1, 1), (1, .ifCond .eq 18, 3), (4, .iload_n 1, 1), (5, .iconst 1, 1), (6, .if_icmp .eq 13, 3), (9, .new 83, 3), (12, .dup, 1), (13, .ldc 231, 2), (15, .invokespecial 87, 3), (18, .athrow, 1), (19, .iload_n 1, 1), (20, .ifCond .ne 17, 3), (23, .aload_n 0, 1), (24, .getfield 60, 3), (27, .aload_n 0, 1), (28, .getfield 19, 3), (31, .invokevirtual 233, 3), (34, .goto 14, 3), (37, .aload_n 0, 1), (38, .getfield 60, 3), (41, .aload_n 0, 1), (42, .getfield 19, 3), (45, .invokevirtual 236, 3), (48, .ireturn, 1)] : List (Nat × Instr × Nat)), decode cX11_code t.1 = .ok (t.2.1, t.2.2) := by decide +kernel
noncomputable def f_X11_code (st : OS) (st_n : OS) (st_k : OS) (a0 : Int32) : Option (Nat ⊕ (Int32 × OS)) := (if a0 = 0 then (if a0 = 0 then (f_X4_dimension st_k st_n).bind (fun x7 => match x7 with | (v9, t10) => some (.inr ((v9, t10)))) else (f_X4_leastWord st_k st_n).bind (fun x3 => match x3 with | (v5, t6) => some (.inr ((v5, t6))))) else (if a0 = 1 then (if a0 = 0 then (f_X4_dimension st_k st_n).bind (fun x17 => match x17 with | (v19, t20) => some (.inr ((v19, t20)))) else (f_X4_leastWord st_k st_n).bind (fun x13 => match x13 with | (v15, t16) => some (.inr ((v15, t16))))) else some (.inl 1)))
set_option maxHeartbeats 4000000 in
set_option maxRecDepth 100000 in
theorem c_X11_code {l : Launch} (hst : l.stackTraces = false) {G : mG} {h : mM} {q : Nat → Nat} {q_n : Nat → Nat} {q_k : Nat → Nat} (hq : oinj LX11 q) (hq_n : oinj LX10 q_n) (hq_k : oinj LX4 q_k) (ha : oap [(LX11, q), (LX10, q_n), (LX4, q_k)]) (lk_n : q 1 = q_n 5) (lk_k : q 8 = q_k 3) {st : OS} {st_n : OS} {st_k : OS} {a0 : Int32} {x : Nat ⊕ (Int32 × OS)} (hF : f_X11_code st st_n st_k a0 = some x) : xQ l G yX11_code cX11_code 2 (some FieldType.int) rm_X11_code [.ref (q 10), .int a0] (oset LX11 G q st (oset LX10 G q_n st_n (oset LX4 G q_k st_k h))) (mQi G (fun r h1 => ∃ y, x = .inr y ∧ r = y.1 ∧ h1 = oset LX11 G q st (oset LX10 G q_n st_n (oset LX4 G q_k y.2 h)))) (fun E h1 => ∃ k, x = .inl k ∧ E = exN k ∧ h1 = oset LX11 G q st (oset LX10 G q_n st_n (oset LX4 G q_k st_k h))) := by
  refine xp_of (by decide +kernel) (Nat.le_of_ble_eq_true rfl) ?_
  intro p e s m below meth c X hr hlk hno hH ls hl
  dsimp only [f_X11_code] at hF
  replace hl : lv_has ls 2 [(0, .ref (q 10)), (1, .int a0)] := hl
  refine lv_iload_n X.x X.b (dk DX11_code_0 0 rfl) rfl (lv_at hl 1 rfl) ?_
  refine lv_if_eq (tgt := 19) X.x X.b (dk DX11_code_0 1 rfl) (by decide) (fun c1 => ?_) (fun c1 => ?_)
  · replace hF := if_t hF c1
    refine lv_iload_n X.x X.b (dk DX11_code_0 10 rfl) rfl (lv_at hl 1 rfl) ?_
    refine lv_if_ne (tgt := 37) X.x X.b (dk DX11_code_0 11 rfl) (by decide) (fun c2 => ?_) (fun c2 => ?_)
    · replace hF := if_f hF c2
      refine lv_aload_n X.x X.b (dk DX11_code_0 18 rfl) rfl (lv_at hl 0 rfl) ?_
      refine og_getR (t := 4) OX11 X hq hH 8 (by decide) rfl kF_X11_60 (dk DX11_code_0 19 rfl) ?_
      rw [lk_k]
      refine lv_aload_n X.x X.b (dk DX11_code_0 20 rfl) rfl (lv_at hl 0 rfl) ?_
      refine og_getR (t := 4) OX11 X hq hH 1 (by decide) rfl kF_X11_19 (dk DX11_code_0 21 rfl) ?_
      rw [lk_n]
      obtain ⟨x3, e4, hF⟩ := bd hF
      refine mr_ci0 (mH_perm (l1 := [(LX11, q, st), (LX10, q_n, st_n), (LX4, q_k, st_k)]) (l2 := [(LX4, q_k, st_k), (LX10, q_n, st_n), (LX11, q, st)]) ha [2, 1, 0] [2, 1, 0] rfl rfl rfl hH) ⟨rfl, rfl⟩ (mr_runV (As := [.ref (q_n 5)]) (rest := []) X (mH_perm (l1 := [(LX11, q, st), (LX10, q_n, st_n), (LX4, q_k, st_k)]) (l2 := [(LX4, q_k, st_k), (LX10, q_n, st_n), (LX11, q, st)]) ha [2, 1, 0] [2, 1, 0] rfl rfl rfl hH) (c_X4_leastWord hq_k hq_n (oap_sub ha [2, 1] rfl rfl) e4) ((oset_at hq_k (Nat.le_refl _) ohas_N).trans (congrArg some ocell_N)) OX4.1 kM_X11_236 kI_X4_leastWord kS_X4_leastWord kN_X4 kC_X4_leastWord hd_X4_leastWord ⟨Nat.le_of_ble_eq_true rfl, Nat.le_of_ble_eq_true rfl⟩ rfl hl.1 (Nat.le_of_ble_eq_true rfl) (dk DX11_code_0 22 rfl) ⟨Nat.le_of_ble_eq_true rfl, Nat.le_of_ble_eq_true rfl⟩) (fun r h1 H locs hp hH => ?_)
      obtain ⟨hr1, hr2⟩ := hp; rw [hr1]; rw [hr2] at hH; clear hr1 hr2
      obtain ⟨v5, t6⟩ := x3
      try dsimp only at hF hH ⊢
      replace hH : mH G (oset LX11 G q st (oset LX10 G q_n st_n (oset LX4 G q_k t6 h))) s.heap H locs := mH_unperm (l1 := [(LX11, q, st), (LX10, q_n, st_n), (LX4, q_k, t6)]) (l2 := [(LX4, q_k, t6), (LX10, q_n, st_n), (LX11, q, st)]) ha [2, 1, 0] [2, 1, 0] rfl rfl rfl hH
      cases sm hF
      exact vx_ret (W.widen (k := (rm_X11_code).cells) (n := (rm_X11_code).slots) (Nat.le_of_ble_eq_true rfl) (Nat.le_of_ble_eq_true rfl) (mr_iret X hr hlk hH ⟨_, rfl, rfl, rfl⟩ (dk DX11_code_0 23 rfl)))
    · replace hF := if_t hF c2
      refine lv_aload_n X.x X.b (dk DX11_code_0 12 rfl) rfl (lv_at hl 0 rfl) ?_
      refine og_getR (t := 4) OX11 X hq hH 8 (by decide) rfl kF_X11_60 (dk DX11_code_0 13 rfl) ?_
      rw [lk_k]
      refine lv_aload_n X.x X.b (dk DX11_code_0 14 rfl) rfl (lv_at hl 0 rfl) ?_
      refine og_getR (t := 4) OX11 X hq hH 1 (by decide) rfl kF_X11_19 (dk DX11_code_0 15 rfl) ?_
      rw [lk_n]
      obtain ⟨x7, e8, hF⟩ := bd hF
      refine mr_ci0 (mH_perm (l1 := [(LX11, q, st), (LX10, q_n, st_n), (LX4, q_k, st_k)]) (l2 := [(LX4, q_k, st_k), (LX10, q_n, st_n), (LX11, q, st)]) ha [2, 1, 0] [2, 1, 0] rfl rfl rfl hH) ⟨rfl, rfl⟩ (mr_runV (As := [.ref (q_n 5)]) (rest := []) X (mH_perm (l1 := [(LX11, q, st), (LX10, q_n, st_n), (LX4, q_k, st_k)]) (l2 := [(LX4, q_k, st_k), (LX10, q_n, st_n), (LX11, q, st)]) ha [2, 1, 0] [2, 1, 0] rfl rfl rfl hH) (c_X4_dimension hq_k hq_n (oap_sub ha [2, 1] rfl rfl) e8) ((oset_at hq_k (Nat.le_refl _) ohas_N).trans (congrArg some ocell_N)) OX4.1 kM_X11_233 kI_X4_dimension kS_X4_dimension kN_X4 kC_X4_dimension hd_X4_dimension ⟨Nat.le_of_ble_eq_true rfl, Nat.le_of_ble_eq_true rfl⟩ rfl hl.1 (Nat.le_of_ble_eq_true rfl) (dk DX11_code_0 16 rfl) ⟨Nat.le_of_ble_eq_true rfl, Nat.le_of_ble_eq_true rfl⟩) (fun r h1 H locs hp hH => ?_)
      obtain ⟨hr1, hr2⟩ := hp; rw [hr1]; rw [hr2] at hH; clear hr1 hr2
      obtain ⟨v9, t10⟩ := x7
      try dsimp only at hF hH ⊢
      replace hH : mH G (oset LX11 G q st (oset LX10 G q_n st_n (oset LX4 G q_k t10 h))) s.heap H locs := mH_unperm (l1 := [(LX11, q, st), (LX10, q_n, st_n), (LX4, q_k, t10)]) (l2 := [(LX4, q_k, t10), (LX10, q_n, st_n), (LX11, q, st)]) ha [2, 1, 0] [2, 1, 0] rfl rfl rfl hH
      refine lv_goto (tgt := 48) X.x X.b (dk DX11_code_0 17 rfl) (by decide) ?_
      cases sm hF
      exact vx_ret (W.widen (k := (rm_X11_code).cells) (n := (rm_X11_code).slots) (Nat.le_of_ble_eq_true rfl) (Nat.le_of_ble_eq_true rfl) (mr_iret X hr hlk hH ⟨_, rfl, rfl, rfl⟩ (dk DX11_code_0 23 rfl)))
  · replace hF := if_f hF c1
    refine lv_iload_n X.x X.b (dk DX11_code_0 2 rfl) rfl (lv_at hl 1 rfl) ?_
    refine lv_iconst (v := 1) X.x X.b (dk DX11_code_0 3 rfl) (by decide) ?_
    refine lv_icmp_eq (tgt := 19) X.x X.b (dk DX11_code_0 4 rfl) (by decide) (fun c11 => ?_) (fun c11 => ?_)
    · replace hF := if_t hF c11
      refine lv_iload_n X.x X.b (dk DX11_code_0 10 rfl) rfl (lv_at hl 1 rfl) ?_
      refine lv_if_ne (tgt := 37) X.x X.b (dk DX11_code_0 11 rfl) (by decide) (fun c12 => ?_) (fun c12 => ?_)
      · replace hF := if_f hF c12
        refine lv_aload_n X.x X.b (dk DX11_code_0 18 rfl) rfl (lv_at hl 0 rfl) ?_
        refine og_getR (t := 4) OX11 X hq hH 8 (by decide) rfl kF_X11_60 (dk DX11_code_0 19 rfl) ?_
        rw [lk_k]
        refine lv_aload_n X.x X.b (dk DX11_code_0 20 rfl) rfl (lv_at hl 0 rfl) ?_
        refine og_getR (t := 4) OX11 X hq hH 1 (by decide) rfl kF_X11_19 (dk DX11_code_0 21 rfl) ?_
        rw [lk_n]
        obtain ⟨x13, e14, hF⟩ := bd hF
        refine mr_ci0 (mH_perm (l1 := [(LX11, q, st), (LX10, q_n, st_n), (LX4, q_k, st_k)]) (l2 := [(LX4, q_k, st_k), (LX10, q_n, st_n), (LX11, q, st)]) ha [2, 1, 0] [2, 1, 0] rfl rfl rfl hH) ⟨rfl, rfl⟩ (mr_runV (As := [.ref (q_n 5)]) (rest := []) X (mH_perm (l1 := [(LX11, q, st), (LX10, q_n, st_n), (LX4, q_k, st_k)]) (l2 := [(LX4, q_k, st_k), (LX10, q_n, st_n), (LX11, q, st)]) ha [2, 1, 0] [2, 1, 0] rfl rfl rfl hH) (c_X4_leastWord hq_k hq_n (oap_sub ha [2, 1] rfl rfl) e14) ((oset_at hq_k (Nat.le_refl _) ohas_N).trans (congrArg some ocell_N)) OX4.1 kM_X11_236 kI_X4_leastWord kS_X4_leastWord kN_X4 kC_X4_leastWord hd_X4_leastWord ⟨Nat.le_of_ble_eq_true rfl, Nat.le_of_ble_eq_true rfl⟩ rfl hl.1 (Nat.le_of_ble_eq_true rfl) (dk DX11_code_0 22 rfl) ⟨Nat.le_of_ble_eq_true rfl, Nat.le_of_ble_eq_true rfl⟩) (fun r h1 H locs hp hH => ?_)
        obtain ⟨hr1, hr2⟩ := hp; rw [hr1]; rw [hr2] at hH; clear hr1 hr2
        obtain ⟨v15, t16⟩ := x13
        try dsimp only at hF hH ⊢
        replace hH : mH G (oset LX11 G q st (oset LX10 G q_n st_n (oset LX4 G q_k t16 h))) s.heap H locs := mH_unperm (l1 := [(LX11, q, st), (LX10, q_n, st_n), (LX4, q_k, t16)]) (l2 := [(LX4, q_k, t16), (LX10, q_n, st_n), (LX11, q, st)]) ha [2, 1, 0] [2, 1, 0] rfl rfl rfl hH
        cases sm hF
        exact vx_ret (W.widen (k := (rm_X11_code).cells) (n := (rm_X11_code).slots) (Nat.le_of_ble_eq_true rfl) (Nat.le_of_ble_eq_true rfl) (mr_iret X hr hlk hH ⟨_, rfl, rfl, rfl⟩ (dk DX11_code_0 23 rfl)))
      · replace hF := if_t hF c12
        refine lv_aload_n X.x X.b (dk DX11_code_0 12 rfl) rfl (lv_at hl 0 rfl) ?_
        refine og_getR (t := 4) OX11 X hq hH 8 (by decide) rfl kF_X11_60 (dk DX11_code_0 13 rfl) ?_
        rw [lk_k]
        refine lv_aload_n X.x X.b (dk DX11_code_0 14 rfl) rfl (lv_at hl 0 rfl) ?_
        refine og_getR (t := 4) OX11 X hq hH 1 (by decide) rfl kF_X11_19 (dk DX11_code_0 15 rfl) ?_
        rw [lk_n]
        obtain ⟨x17, e18, hF⟩ := bd hF
        refine mr_ci0 (mH_perm (l1 := [(LX11, q, st), (LX10, q_n, st_n), (LX4, q_k, st_k)]) (l2 := [(LX4, q_k, st_k), (LX10, q_n, st_n), (LX11, q, st)]) ha [2, 1, 0] [2, 1, 0] rfl rfl rfl hH) ⟨rfl, rfl⟩ (mr_runV (As := [.ref (q_n 5)]) (rest := []) X (mH_perm (l1 := [(LX11, q, st), (LX10, q_n, st_n), (LX4, q_k, st_k)]) (l2 := [(LX4, q_k, st_k), (LX10, q_n, st_n), (LX11, q, st)]) ha [2, 1, 0] [2, 1, 0] rfl rfl rfl hH) (c_X4_dimension hq_k hq_n (oap_sub ha [2, 1] rfl rfl) e18) ((oset_at hq_k (Nat.le_refl _) ohas_N).trans (congrArg some ocell_N)) OX4.1 kM_X11_233 kI_X4_dimension kS_X4_dimension kN_X4 kC_X4_dimension hd_X4_dimension ⟨Nat.le_of_ble_eq_true rfl, Nat.le_of_ble_eq_true rfl⟩ rfl hl.1 (Nat.le_of_ble_eq_true rfl) (dk DX11_code_0 16 rfl) ⟨Nat.le_of_ble_eq_true rfl, Nat.le_of_ble_eq_true rfl⟩) (fun r h1 H locs hp hH => ?_)
        obtain ⟨hr1, hr2⟩ := hp; rw [hr1]; rw [hr2] at hH; clear hr1 hr2
        obtain ⟨v19, t20⟩ := x17
        try dsimp only at hF hH ⊢
        replace hH : mH G (oset LX11 G q st (oset LX10 G q_n st_n (oset LX4 G q_k t20 h))) s.heap H locs := mH_unperm (l1 := [(LX11, q, st), (LX10, q_n, st_n), (LX4, q_k, t20)]) (l2 := [(LX4, q_k, t20), (LX10, q_n, st_n), (LX11, q, st)]) ha [2, 1, 0] [2, 1, 0] rfl rfl rfl hH
        refine lv_goto (tgt := 48) X.x X.b (dk DX11_code_0 17 rfl) (by decide) ?_
        cases sm hF
        exact vx_ret (W.widen (k := (rm_X11_code).cells) (n := (rm_X11_code).slots) (Nat.le_of_ble_eq_true rfl) (Nat.le_of_ble_eq_true rfl) (mr_iret X hr hlk hH ⟨_, rfl, rfl, rfl⟩ (dk DX11_code_0 23 rfl)))
    · replace hF := if_f hF c11
      cases sm hF
      exact mr_throwS X hno hlk hl.1 hst hH 1 13 (by decide +kernel) (by decide +kernel) (by decide +kernel) exT_X11_87 kL_X11_83 kN_ex1 (dk DX11_code_0 5 rfl) (dk DX11_code_0 6 rfl) (dk DX11_code_0 7 rfl) (dk DX11_code_0 8 rfl) (dk DX11_code_0 9 rfl) ⟨Nat.le_of_ble_eq_true rfl, Nat.le_of_ble_eq_true rfl, Nat.le_of_ble_eq_true rfl, Nat.le_of_ble_eq_true rfl⟩ (Nat.le_of_ble_eq_true rfl) (Nat.le_of_ble_eq_true rfl) ⟨_, rfl, rfl, rfl⟩
-- X11_turnings
abbrev rm_X11_turnings : Room := { frames := 28, cells := 0, slots := 0, locals := 721 }
theorem hd_X11_turnings : mHd yX11_turnings 0 := ⟨by decide +kernel, by decide +kernel, by decide +kernel⟩
theorem DX11_turnings_0 : ∀ t ∈ ([(0, .aload_n 0, 1), (1, .getfield 19, 3), (4, .getfield 239, 3), (7, .bipush 16, 2), (9, .if_icmp .le 9, 3), (12, .ldc2_w 242, 3), (15, .goto 14, 3), (18, .aload_n 0, 1), (19, .getfield 67, 3), (22, .aload_n 0, 1), (23, .getfield 19, 3), (26, .invokevirtual 244, 3), (29, .lreturn, 1)] : List (Nat × Instr × Nat)), decode cX11_turnings t.1 = .ok (t.2.1, t.2.2) := by decide +kernel
noncomputable def f_X11_turnings (st : OS) (st_n : OS) (st_u : OS) : Option (Int64 × OS) := (if (st_n.1 0) ≤ 16 then (f_X8_countTurnings st_u st_n).bind (fun x2 => match x2 with | (v4, t5) => some ((v4, t5))) else some (((-1), st_u)))
set_option maxHeartbeats 4000000 in
set_option maxRecDepth 100000 in
theorem c_X11_turnings {l : Launch} {G : mG} {h : mM} {q : Nat → Nat} {q_n : Nat → Nat} {q_u : Nat → Nat} (hq : oinj LX11 q) (hq_n : oinj LX10 q_n) (hq_u : oinj LX8 q_u) (ha : oap [(LX11, q), (LX10, q_n), (LX8, q_u)]) (lk_n : q 1 = q_n 5) (lk_u : q 9 = q_u 15) {st : OS} {st_n : OS} {st_u : OS} {x : Int64 × OS} (hF : f_X11_turnings st st_n st_u = some x) : cQ l G yX11_turnings cX11_turnings 1 (some FieldType.long) rm_X11_turnings [.ref (q 10)] (oset LX11 G q st (oset LX10 G q_n st_n (oset LX8 G q_u st_u h))) (mQl G (fun r h1 => r = x.1 ∧ h1 = oset LX11 G q st (oset LX10 G q_n st_n (oset LX8 G q_u x.2 h)))) := by
  refine mp_of (by decide +kernel) (Nat.le_of_ble_eq_true rfl) ?_
  intro p e s m below meth c X hr hlk hH hname ls hl
  dsimp only [f_X11_turnings] at hF
  replace hl : lv_has ls 1 [(0, .ref (q 10))] := hl
  refine lv_aload_n X.x X.b (dk DX11_turnings_0 0 rfl) rfl (lv_at hl 0 rfl) ?_
  refine og_getR (t := 4) OX11 X hq hH 1 (by decide) rfl kF_X11_19 (dk DX11_turnings_0 1 rfl) ?_
  rw [lk_n]
  refine og_getIN OX10 X hq_n (mH_perm (l1 := [(LX11, q, st), (LX10, q_n, st_n), (LX8, q_u, st_u)]) (l2 := [(LX10, q_n, st_n), (LX11, q, st), (LX8, q_u, st_u)]) ha [1, 0, 2] [1, 0, 2] rfl rfl rfl hH) 0 (by decide) rfl kFN_X11_239 (dk DX11_turnings_0 2 rfl) ?_
  refine lv_bipush (v := 16) X.x X.b (dk DX11_turnings_0 3 rfl) (by decide) ?_
  refine lv_icmp_le (tgt := 18) X.x X.b (dk DX11_turnings_0 4 rfl) (by decide) (fun c1 => ?_) (fun c1 => ?_)
  · replace hF := if_t hF c1
    refine lv_aload_n X.x X.b (dk DX11_turnings_0 7 rfl) rfl (lv_at hl 0 rfl) ?_
    refine og_getR (t := 4) OX11 X hq hH 9 (by decide) rfl kF_X11_67 (dk DX11_turnings_0 8 rfl) ?_
    rw [lk_u]
    refine lv_aload_n X.x X.b (dk DX11_turnings_0 9 rfl) rfl (lv_at hl 0 rfl) ?_
    refine og_getR (t := 4) OX11 X hq hH 1 (by decide) rfl kF_X11_19 (dk DX11_turnings_0 10 rfl) ?_
    rw [lk_n]
    obtain ⟨x2, e3, hF⟩ := bd hF
    refine mr_cl0 (mH_perm (l1 := [(LX11, q, st), (LX10, q_n, st_n), (LX8, q_u, st_u)]) (l2 := [(LX8, q_u, st_u), (LX10, q_n, st_n), (LX11, q, st)]) ha [2, 1, 0] [2, 1, 0] rfl rfl rfl hH) ⟨rfl, rfl⟩ (mr_runV (As := [.ref (q_n 5)]) (rest := []) X (mH_perm (l1 := [(LX11, q, st), (LX10, q_n, st_n), (LX8, q_u, st_u)]) (l2 := [(LX8, q_u, st_u), (LX10, q_n, st_n), (LX11, q, st)]) ha [2, 1, 0] [2, 1, 0] rfl rfl rfl hH) (c_X8_countTurnings hq_u hq_n (oap_sub ha [2, 1] rfl rfl) e3) ((oset_at hq_u (Nat.le_refl _) ohas_N).trans (congrArg some ocell_N)) OX8.1 kM_X11_244 kI_X8_countTurnings kS_X8_countTurnings kN_X8 kC_X8_countTurnings hd_X8_countTurnings ⟨Nat.le_of_ble_eq_true rfl, Nat.le_of_ble_eq_true rfl⟩ rfl hl.1 (Nat.le_of_ble_eq_true rfl) (dk DX11_turnings_0 11 rfl) ⟨Nat.zero_le _, Nat.zero_le _⟩) (fun r h1 H locs hp hH => ?_)
    obtain ⟨hr1, hr2⟩ := hp; rw [hr1]; rw [hr2] at hH; clear hr1 hr2
    obtain ⟨v4, t5⟩ := x2
    try dsimp only at hF hH ⊢
    replace hH : mH G (oset LX11 G q st (oset LX10 G q_n st_n (oset LX8 G q_u t5 h))) s.heap H locs := mH_unperm (l1 := [(LX11, q, st), (LX10, q_n, st_n), (LX8, q_u, t5)]) (l2 := [(LX8, q_u, t5), (LX10, q_n, st_n), (LX11, q, st)]) ha [2, 1, 0] [2, 1, 0] rfl rfl rfl hH
    cases sm hF
    exact mr_lret X hr hlk hH ⟨rfl, rfl⟩ (dk DX11_turnings_0 12 rfl)
  · replace hF := if_f hF c1
    refine lv_ldc2 (v := (-1)) X.x X.b X.ow (X.ts _ kK_X11_242) (dk DX11_turnings_0 5 rfl) ?_
    refine lv_goto (tgt := 29) X.x X.b (dk DX11_turnings_0 6 rfl) (by decide) ?_
    cases sm hF
    exact mr_lret X hr hlk hH ⟨rfl, rfl⟩ (dk DX11_turnings_0 12 rfl)
-- X11_orbit
abbrev rm_X11_orbit : Room := { frames := 28, cells := 1, slots := 6, locals := 721 }
theorem hd_X11_orbit : mHd yX11_orbit 1 := ⟨by decide +kernel, by decide +kernel, by decide +kernel⟩
theorem DX11_orbit_0 : ∀ t ∈ ([(0, .aload_n 0, 1), (1, .iload_n 1, 1), (2, .invokevirtual 117, 3), (5, .aload_n 0, 1), (6, .getfield 19, 3), (9, .getfield 239, 3), (12, .bipush 16, 2), (14, .if_icmp .le 5, 3), (17, .lconst 0, 1), (18, .lreturn, 1), (19, .aload_n 0, 1), (20, .getfield 67, 3), (23, .aload_n 0, 1), (24, .getfield 19, 3), (27, .invokevirtual 244, 3), (30, .pop2, 1), (31, .aload_n 0, 1), (32, .getfield 67, 3), (35, .iload_n 1, 1), (36, .invokevirtual 247, 3), (39, .lreturn, 1)] : List (Nat × Instr × Nat)), decode cX11_orbit t.1 = .ok (t.2.1, t.2.2) := by decide +kernel
noncomputable def f_X11_orbit (st : OS) (st_n : OS) (st_u : OS) (a0 : Int32) : Option (Nat ⊕ (Int64 × OS)) := (f_X11_needPoint st st_n a0).bind (fun x1 => match x1 with | .inl k9 => some (.inl k9) | .inr y3 => (if (st_n.1 0) ≤ 16 then (f_X8_countTurnings st_u st_n).bind (fun x5 => match x5 with | (v7, t8) => (f_X8_classOf t8 a0).bind (fun x9 => some (.inr ((x9, t8))))) else some (.inr ((0, st_u)))))
set_option maxHeartbeats 4000000 in
set_option maxRecDepth 100000 in
theorem c_X11_orbit {l : Launch} (hst : l.stackTraces = false) {G : mG} {h : mM} {q : Nat → Nat} {q_n : Nat → Nat} {q_u : Nat → Nat} (hq : oinj LX11 q) (hq_n : oinj LX10 q_n) (hq_u : oinj LX8 q_u) (ha : oap [(LX11, q), (LX10, q_n), (LX8, q_u)]) (lk_n : q 1 = q_n 5) (lk_u : q 9 = q_u 15) {st : OS} {st_n : OS} {st_u : OS} {a0 : Int32} {x : Nat ⊕ (Int64 × OS)} (hF : f_X11_orbit st st_n st_u a0 = some x) : xQ l G yX11_orbit cX11_orbit 2 (some FieldType.long) rm_X11_orbit [.ref (q 10), .int a0] (oset LX11 G q st (oset LX10 G q_n st_n (oset LX8 G q_u st_u h))) (mQl G (fun r h1 => ∃ y, x = .inr y ∧ r = y.1 ∧ h1 = oset LX11 G q st (oset LX10 G q_n st_n (oset LX8 G q_u y.2 h)))) (fun E h1 => ∃ k, x = .inl k ∧ E = exN k ∧ h1 = oset LX11 G q st (oset LX10 G q_n st_n (oset LX8 G q_u st_u h))) := by
  refine xp_of (by decide +kernel) (Nat.le_of_ble_eq_true rfl) ?_
  intro p e s m below meth c X hr hlk hno hH ls hl
  dsimp only [f_X11_orbit] at hF
  replace hl : lv_has ls 2 [(0, .ref (q 10)), (1, .int a0)] := hl
  refine lv_aload_n X.x X.b (dk DX11_orbit_0 0 rfl) rfl (lv_at hl 0 rfl) ?_
  refine lv_iload_n X.x X.b (dk DX11_orbit_0 1 rfl) rfl (lv_at hl 1 rfl) ?_
  obtain ⟨x1, e2, hF⟩ := bd hF
  refine mr_xv hH (mr_xrunV (As := [.int a0]) (rest := []) X hH (c_X11_needPoint hst hq hq_n (oap_sub ha [0, 1] rfl rfl) lk_n e2) ((oset_at hq (Nat.le_refl _) ohas_N).trans (congrArg some ocell_N)) OX11.1 kM_X11_117 kI_X11_needPoint kS_X11_needPoint kN_X11 kC_X11_needPoint hd_X11_needPoint ⟨Nat.le_of_ble_eq_true rfl, Nat.le_of_ble_eq_true rfl⟩ rfl hl.1 (Nat.le_of_ble_eq_true rfl) (dk DX11_orbit_0 2 rfl) ⟨Nat.le_of_ble_eq_true rfl, Nat.le_of_ble_eq_true rfl⟩) (fun E h1 q9 H locs hp hH hth => ?_) (fun h1 H locs hp hH => ?_)
  · obtain ⟨k9, hk9, hE, hh9⟩ := hp
    subst hk9
    rw [hh9] at hH
    cases sm hF
    exact mr_xout hno hlk hH hth ⟨_, rfl, hE, rfl⟩ (Nat.le_of_ble_eq_true rfl) (Nat.le_of_ble_eq_true rfl)
  · obtain ⟨y3, hy9, hr2⟩ := hp
    subst hy9
    rw [hr2] at hH; clear hr2
    try dsimp only at hF
    refine lv_aload_n X.x X.b (dk DX11_orbit_0 3 rfl) rfl (lv_at hl 0 rfl) ?_
    refine og_getR (t := 4) OX11 X hq hH 1 (by decide) rfl kF_X11_19 (dk DX11_orbit_0 4 rfl) ?_
    rw [lk_n]
    refine og_getIN OX10 X hq_n (mH_perm (l1 := [(LX11, q, st), (LX10, q_n, st_n), (LX8, q_u, st_u)]) (l2 := [(LX10, q_n, st_n), (LX11, q, st), (LX8, q_u, st_u)]) ha [1, 0, 2] [1, 0, 2] rfl rfl rfl hH) 0 (by decide) rfl kFN_X11_239 (dk DX11_orbit_0 5 rfl) ?_
    refine lv_bipush (v := 16) X.x X.b (dk DX11_orbit_0 6 rfl) (by decide) ?_
    refine lv_icmp_le (tgt := 19) X.x X.b (dk DX11_orbit_0 7 rfl) (by decide) (fun c4 => ?_) (fun c4 => ?_)
    · replace hF := if_t hF c4
      refine lv_aload_n X.x X.b (dk DX11_orbit_0 10 rfl) rfl (lv_at hl 0 rfl) ?_
      refine og_getR (t := 4) OX11 X hq hH 9 (by decide) rfl kF_X11_67 (dk DX11_orbit_0 11 rfl) ?_
      rw [lk_u]
      refine lv_aload_n X.x X.b (dk DX11_orbit_0 12 rfl) rfl (lv_at hl 0 rfl) ?_
      refine og_getR (t := 4) OX11 X hq hH 1 (by decide) rfl kF_X11_19 (dk DX11_orbit_0 13 rfl) ?_
      rw [lk_n]
      obtain ⟨x5, e6, hF⟩ := bd hF
      refine mr_cl0 (mH_perm (l1 := [(LX11, q, st), (LX10, q_n, st_n), (LX8, q_u, st_u)]) (l2 := [(LX8, q_u, st_u), (LX10, q_n, st_n), (LX11, q, st)]) ha [2, 1, 0] [2, 1, 0] rfl rfl rfl hH) ⟨rfl, rfl⟩ (mr_runV (As := [.ref (q_n 5)]) (rest := []) X (mH_perm (l1 := [(LX11, q, st), (LX10, q_n, st_n), (LX8, q_u, st_u)]) (l2 := [(LX8, q_u, st_u), (LX10, q_n, st_n), (LX11, q, st)]) ha [2, 1, 0] [2, 1, 0] rfl rfl rfl hH) (c_X8_countTurnings hq_u hq_n (oap_sub ha [2, 1] rfl rfl) e6) ((oset_at hq_u (Nat.le_refl _) ohas_N).trans (congrArg some ocell_N)) OX8.1 kM_X11_244 kI_X8_countTurnings kS_X8_countTurnings kN_X8 kC_X8_countTurnings hd_X8_countTurnings ⟨Nat.le_of_ble_eq_true rfl, Nat.le_of_ble_eq_true rfl⟩ rfl hl.1 (Nat.le_of_ble_eq_true rfl) (dk DX11_orbit_0 14 rfl) ⟨Nat.le_of_ble_eq_true rfl, Nat.le_of_ble_eq_true rfl⟩) (fun r h1 H locs hp hH => ?_)
      obtain ⟨hr1, hr2⟩ := hp; rw [hr1]; rw [hr2] at hH; clear hr1 hr2
      obtain ⟨v7, t8⟩ := x5
      try dsimp only at hF hH ⊢
      replace hH : mH G (oset LX11 G q st (oset LX10 G q_n st_n (oset LX8 G q_u t8 h))) s.heap H locs := mH_unperm (l1 := [(LX11, q, st), (LX10, q_n, st_n), (LX8, q_u, t8)]) (l2 := [(LX8, q_u, t8), (LX10, q_n, st_n), (LX11, q, st)]) ha [2, 1, 0] [2, 1, 0] rfl rfl rfl hH
      refine lv_pop2_2 X.x X.b (dk DX11_orbit_0 15 rfl) rfl ?_
      refine lv_aload_n X.x X.b (dk DX11_orbit_0 16 rfl) rfl (lv_at hl 0 rfl) ?_
      refine og_getR (t := 4) OX11 X hq hH 9 (by decide) rfl kF_X11_67 (dk DX11_orbit_0 17 rfl) ?_
      rw [lk_u]
      refine lv_iload_n X.x X.b (dk DX11_orbit_0 18 rfl) rfl (lv_at hl 1 rfl) ?_
      obtain ⟨x9, e10, hF⟩ := bd hF
      refine mr_cl0 (mH_perm (l1 := [(LX11, q, st), (LX10, q_n, st_n), (LX8, q_u, t8)]) (l2 := [(LX8, q_u, t8), (LX11, q, st), (LX10, q_n, st_n)]) ha [2, 0, 1] [1, 2, 0] rfl rfl rfl hH) ⟨rfl, rfl⟩ (mr_runV (As := [.int a0]) (rest := []) X (mH_perm (l1 := [(LX11, q, st), (LX10, q_n, st_n), (LX8, q_u, t8)]) (l2 := [(LX8, q_u, t8), (LX11, q, st), (LX10, q_n, st_n)]) ha [2, 0, 1] [1, 2, 0] rfl rfl rfl hH) (c_X8_classOf hq_u e10) ((oset_at hq_u (Nat.le_refl _) ohas_N).trans (congrArg some ocell_N)) OX8.1 kM_X11_247 kI_X8_classOf kS_X8_classOf kN_X8 kC_X8_classOf hd_X8_classOf ⟨Nat.le_of_ble_eq_true rfl, Nat.le_of_ble_eq_true rfl⟩ rfl hl.1 (Nat.le_of_ble_eq_true rfl) (dk DX11_orbit_0 19 rfl) ⟨Nat.le_of_ble_eq_true rfl, Nat.le_of_ble_eq_true rfl⟩) (fun r h1 H locs hp hH => ?_)
      obtain ⟨hr1, hr2⟩ := hp; rw [hr1]; rw [hr2] at hH; clear hr1 hr2
      replace hH : mH G (oset LX11 G q st (oset LX10 G q_n st_n (oset LX8 G q_u t8 h))) s.heap H locs := mH_unperm (l1 := [(LX11, q, st), (LX10, q_n, st_n), (LX8, q_u, t8)]) (l2 := [(LX8, q_u, t8), (LX11, q, st), (LX10, q_n, st_n)]) ha [2, 0, 1] [1, 2, 0] rfl rfl rfl hH
      cases sm hF
      exact vx_ret (W.widen (k := (rm_X11_orbit).cells) (n := (rm_X11_orbit).slots) (Nat.le_of_ble_eq_true rfl) (Nat.le_of_ble_eq_true rfl) (mr_lret X hr hlk hH ⟨_, rfl, rfl, rfl⟩ (dk DX11_orbit_0 20 rfl)))
    · replace hF := if_f hF c4
      refine lv_lconst (v := 0) X.x X.b (dk DX11_orbit_0 8 rfl) (by decide) ?_
      cases sm hF
      exact vx_ret (W.widen (k := (rm_X11_orbit).cells) (n := (rm_X11_orbit).slots) (Nat.le_of_ble_eq_true rfl) (Nat.le_of_ble_eq_true rfl) (mr_lret X hr hlk hH ⟨_, rfl, rfl, rfl⟩ (dk DX11_orbit_0 9 rfl)))
-- X11_count
abbrev rm_X11_count : Room := { frames := 0, cells := 0, slots := 0, locals := 0 }
theorem hd_X11_count : mHd yX11_count 1 := ⟨by decide +kernel, by decide +kernel, by decide +kernel⟩
theorem DX11_count_0 : ∀ t ∈ ([(0, .iload_n 1, 1), (1, .tableswitch 75 0 4 #[35, 43, 51, 59, 67], 35), (36, .aload_n 0, 1), (37, .getfield 19, 3), (40, .getfield 239, 3), (43, .ireturn, 1), (44, .aload_n 0, 1), (45, .getfield 19, 3), (48, .getfield 104, 3), (51, .ireturn, 1), (52, .aload_n 0, 1), (53, .getfield 10, 3), (56, .getfield 79, 3), (59, .ireturn, 1), (60, .aload_n 0, 1), (61, .getfield 29, 3), (64, .getfield 322, 3), (67, .ireturn, 1), (68, .aload_n 0, 1), (69, .getfield 29, 3), (72, .getfield 325, 3), (75, .ireturn, 1), (76, .iconst (-1), 1), (77, .ireturn, 1)] : List (Nat × Instr × Nat)), decode cX11_count t.1 = .ok (t.2.1, t.2.2) := by decide +kernel
noncomputable def f_X11_count (st : OS) (st_r : OS) (st_n : OS) (st_hs : OS) (a0 : Int32) : Option (Int32) := (if a0 = 0 then some (st_n.1 0) else (if a0 = 1 then some (st_n.1 1) else (if a0 = 2 then some (st_r.1 2) else (if a0 = 3 then some (st_hs.1 2) else (if a0 = 4 then some (st_hs.1 3) else some ((-1)))))))
set_option maxHeartbeats 4000000 in
set_option maxRecDepth 100000 in
theorem c_X11_count {l : Launch} {G : mG} {h : mM} {q : Nat → Nat} {q_r : Nat → Nat} {q_n : Nat → Nat} {q_hs : Nat → Nat} (hq : oinj LX11 q) (hq_r : oinj LX5 q_r) (hq_n : oinj LX10 q_n) (hq_hs : oinj LX1 q_hs) (ha : oap [(LX11, q), (LX5, q_r), (LX10, q_n), (LX1, q_hs)]) (lk_r : q 0 = q_r 10) (lk_n : q 1 = q_n 5) (lk_hs : q 3 = q_hs 4) {st : OS} {st_r : OS} {st_n : OS} {st_hs : OS} {a0 : Int32} {x : Int32} (hF : f_X11_count st st_r st_n st_hs a0 = some x) : cQ l G yX11_count cX11_count 2 (some FieldType.int) rm_X11_count [.ref (q 10), .int a0] (oset LX11 G q st (oset LX5 G q_r st_r (oset LX10 G q_n st_n (oset LX1 G q_hs st_hs h)))) (mQi G (fun r h1 => r = x ∧ h1 = oset LX11 G q st (oset LX5 G q_r st_r (oset LX10 G q_n st_n (oset LX1 G q_hs st_hs h))))) := by
  refine mp_of (by decide +kernel) (Nat.le_of_ble_eq_true rfl) ?_
  intro p e s m below meth c X hr hlk hH hname ls hl
  dsimp only [f_X11_count] at hF
  replace hl : lv_has ls 2 [(0, .ref (q 10)), (1, .int a0)] := hl
  refine lv_iload_n X.x X.b (dk DX11_count_0 0 rfl) rfl (lv_at hl 1 rfl) ?_
  by_cases c1 : a0 = 0
  · refine lv_tableIn (tgt := 36) X.x X.b (dk DX11_count_0 1 rfl) (by rw [c1]; decide) (by rw [c1]; decide) (by rw [c1]; rfl) (by decide) ?_
    replace hF := if_t hF c1
    refine lv_aload_n X.x X.b (dk DX11_count_0 2 rfl) rfl (lv_at hl 0 rfl) ?_
    refine og_getR (t := 4) OX11 X hq hH 1 (by decide) rfl kF_X11_19 (dk DX11_count_0 3 rfl) ?_
    rw [lk_n]
    refine og_getIN OX10 X hq_n (mH_perm (l1 := [(LX11, q, st), (LX5, q_r, st_r), (LX10, q_n, st_n), (LX1, q_hs, st_hs)]) (l2 := [(LX10, q_n, st_n), (LX11, q, st), (LX5, q_r, st_r), (LX1, q_hs, st_hs)]) ha [2, 0, 1, 3] [1, 2, 0, 3] rfl rfl rfl hH) 0 (by decide) rfl kFN_X11_239 (dk DX11_count_0 4 rfl) ?_
    cases sm hF
    exact mr_iret X hr hlk hH ⟨rfl, rfl⟩ (dk DX11_count_0 5 rfl)
  · replace hF := if_f hF c1
    by_cases c2 : a0 = 1
    · refine lv_tableIn (tgt := 44) X.x X.b (dk DX11_count_0 1 rfl) (by rw [c2]; decide) (by rw [c2]; decide) (by rw [c2]; rfl) (by decide) ?_
      replace hF := if_t hF c2
      refine lv_aload_n X.x X.b (dk DX11_count_0 6 rfl) rfl (lv_at hl 0 rfl) ?_
      refine og_getR (t := 4) OX11 X hq hH 1 (by decide) rfl kF_X11_19 (dk DX11_count_0 7 rfl) ?_
      rw [lk_n]
      refine og_getIN OX10 X hq_n (mH_perm (l1 := [(LX11, q, st), (LX5, q_r, st_r), (LX10, q_n, st_n), (LX1, q_hs, st_hs)]) (l2 := [(LX10, q_n, st_n), (LX11, q, st), (LX5, q_r, st_r), (LX1, q_hs, st_hs)]) ha [2, 0, 1, 3] [1, 2, 0, 3] rfl rfl rfl hH) 1 (by decide) rfl kFN_X11_104 (dk DX11_count_0 8 rfl) ?_
      cases sm hF
      exact mr_iret X hr hlk hH ⟨rfl, rfl⟩ (dk DX11_count_0 9 rfl)
    · replace hF := if_f hF c2
      by_cases c3 : a0 = 2
      · refine lv_tableIn (tgt := 52) X.x X.b (dk DX11_count_0 1 rfl) (by rw [c3]; decide) (by rw [c3]; decide) (by rw [c3]; rfl) (by decide) ?_
        replace hF := if_t hF c3
        refine lv_aload_n X.x X.b (dk DX11_count_0 10 rfl) rfl (lv_at hl 0 rfl) ?_
        refine og_getR (t := 4) OX11 X hq hH 0 (by decide) rfl kF_X11_10 (dk DX11_count_0 11 rfl) ?_
        rw [lk_r]
        refine og_getIN OX5 X hq_r (mH_perm (l1 := [(LX11, q, st), (LX5, q_r, st_r), (LX10, q_n, st_n), (LX1, q_hs, st_hs)]) (l2 := [(LX5, q_r, st_r), (LX11, q, st), (LX10, q_n, st_n), (LX1, q_hs, st_hs)]) ha [1, 0, 2, 3] [1, 0, 2, 3] rfl rfl rfl hH) 2 (by decide) rfl kFN_X11_79 (dk DX11_count_0 12 rfl) ?_
        cases sm hF
        exact mr_iret X hr hlk hH ⟨rfl, rfl⟩ (dk DX11_count_0 13 rfl)
      · replace hF := if_f hF c3
        by_cases c4 : a0 = 3
        · refine lv_tableIn (tgt := 60) X.x X.b (dk DX11_count_0 1 rfl) (by rw [c4]; decide) (by rw [c4]; decide) (by rw [c4]; rfl) (by decide) ?_
          replace hF := if_t hF c4
          refine lv_aload_n X.x X.b (dk DX11_count_0 14 rfl) rfl (lv_at hl 0 rfl) ?_
          refine og_getR (t := 4) OX11 X hq hH 3 (by decide) rfl kF_X11_29 (dk DX11_count_0 15 rfl) ?_
          rw [lk_hs]
          refine og_getIN OX1 X hq_hs (mH_perm (l1 := [(LX11, q, st), (LX5, q_r, st_r), (LX10, q_n, st_n), (LX1, q_hs, st_hs)]) (l2 := [(LX1, q_hs, st_hs), (LX11, q, st), (LX5, q_r, st_r), (LX10, q_n, st_n)]) ha [3, 0, 1, 2] [1, 2, 3, 0] rfl rfl rfl hH) 2 (by decide) rfl kFN_X11_322 (dk DX11_count_0 16 rfl) ?_
          cases sm hF
          exact mr_iret X hr hlk hH ⟨rfl, rfl⟩ (dk DX11_count_0 17 rfl)
        · replace hF := if_f hF c4
          by_cases c5 : a0 = 4
          · refine lv_tableIn (tgt := 68) X.x X.b (dk DX11_count_0 1 rfl) (by rw [c5]; decide) (by rw [c5]; decide) (by rw [c5]; rfl) (by decide) ?_
            replace hF := if_t hF c5
            refine lv_aload_n X.x X.b (dk DX11_count_0 18 rfl) rfl (lv_at hl 0 rfl) ?_
            refine og_getR (t := 4) OX11 X hq hH 3 (by decide) rfl kF_X11_29 (dk DX11_count_0 19 rfl) ?_
            rw [lk_hs]
            refine og_getIN OX1 X hq_hs (mH_perm (l1 := [(LX11, q, st), (LX5, q_r, st_r), (LX10, q_n, st_n), (LX1, q_hs, st_hs)]) (l2 := [(LX1, q_hs, st_hs), (LX11, q, st), (LX5, q_r, st_r), (LX10, q_n, st_n)]) ha [3, 0, 1, 2] [1, 2, 3, 0] rfl rfl rfl hH) 3 (by decide) rfl kFN_X11_325 (dk DX11_count_0 20 rfl) ?_
            cases sm hF
            exact mr_iret X hr hlk hH ⟨rfl, rfl⟩ (dk DX11_count_0 21 rfl)
          · replace hF := if_f hF c5
            refine lv_tableOut (tgt := 76) X.x X.b (dk DX11_count_0 1 rfl) (by have := lv_neT (k := 0) (a := 0) c1 (by decide); have := lv_neT (k := 1) (a := 1) c2 (by decide); have := lv_neT (k := 2) (a := 2) c3 (by decide); have := lv_neT (k := 3) (a := 3) c4 (by decide); have := lv_neT (k := 4) (a := 4) c5 (by decide); omega) (by decide) ?_
            refine lv_iconst (v := (-1)) X.x X.b (dk DX11_count_0 22 rfl) (by decide) ?_
            cases sm hF
            exact mr_iret X hr hlk hH ⟨rfl, rfl⟩ (dk DX11_count_0 23 rfl)
