-- X12_readFirst
abbrev rm_X12_readFirst : Room := { frames := 8, cells := 0, slots := 0, locals := 191 }
theorem hd_X12_readFirst : mHd yX12_readFirst 0 := ⟨by decide +kernel, by decide +kernel, by decide +kernel⟩
theorem DX12_readFirst_0 : ∀ t ∈ ([(0, .aload_n 0, 1), (1, .ldc 209, 2), (3, .invokevirtual 211, 3), (6, .ifCond .eq 17, 3), (9, .aload_n 0, 1), (10, .aload_n 0, 1), (11, .iconst 1, 1), (12, .bipush 64, 2), (14, .invokevirtual 214, 3), (17, .putfield 189, 3), (20, .goto 110, 3), (23, .aload_n 0, 1), (24, .ldc 217, 2), (26, .invokevirtual 211, 3), (29, .ifCond .eq 35, 3), (32, .aload_n 0, 1), (33, .iconst 2, 1), (34, .bipush 8, 2), (36, .invokevirtual 214, 3), (39, .istore_n 1, 1), (40, .aload_n 0, 1), (41, .iconst 2, 1), (42, .bipush 8, 2), (44, .invokevirtual 214, 3), (47, .istore_n 2, 1), (48, .aload_n 0, 1), (49, .getfield 144, 3), (52, .ifCond .ne 9, 3), (55, .aload_n 0, 1), (56, .iload_n 1, 1), (57, .iload_n 2, 1), (58, .invokevirtual 219, 3), (61, .goto 69, 3), (64, .aload_n 0, 1), (65, .ldc 222, 2), (67, .invokevirtual 211, 3), (70, .ifCond .eq 17, 3), (73, .aload_n 0, 1), (74, .bipush 15, 2), (76, .putfield 189, 3), (79, .aload_n 0, 1), (80, .iconst 0, 1), (81, .invokevirtual 186, 3), (84, .goto 46, 3), (87, .aload_n 0, 1), (88, .ldc 223, 2), (90, .invokevirtual 211, 3), (93, .ifCond .eq 16, 3), (96, .aload_n 0, 1), (97, .bipush 27, 2), (99, .putfield 189, 3), (102, .aload_n 0, 1), (103, .invokevirtual 225, 3), (106, .goto 24, 3), (109, .aload_n 0, 1), (110, .ldc 227, 2), (112, .invokevirtual 211, 3), (115, .ifCond .eq 10, 3), (118, .aload_n 0, 1), (119, .invokevirtual 229, 3)] : List (Nat × Instr × Nat)), decode cX12_readFirst t.1 = .ok (t.2.1, t.2.2) := by decide +kernel
theorem DX12_readFirst_1 : ∀ t ∈ ([(122, .goto 8, 3), (125, .aload_n 0, 1), (126, .iconst 2, 1), (127, .invokevirtual 167, 3), (130, .return_, 1)] : List (Nat × Instr × Nat)), decode cX12_readFirst t.1 = .ok (t.2.1, t.2.2) := by decide +kernel
noncomputable def f_X12_readFirst (st : OS) : Option (OS) := (f_X12_took st 21).bind (fun x1 => match x1 with | (v3, t4) => (if v3 = 0 then (f_X12_took t4 22).bind (fun x6 => match x6 with | (v8, t9) => (if v8 = 0 then (f_X12_took t9 23).bind (fun x11 => match x11 with | (v13, t14) => (if v13 = 0 then (f_X12_took t14 24).bind (fun x16 => match x16 with | (v18, t19) => (if v18 = 0 then (f_X12_took t19 25).bind (fun x21 => match x21 with | (v23, t24) => (if v23 = 0 then (f_X12_blames t24 2).bind (fun x26 => some x26) else (f_X12_threes t24).bind (fun x29 => some x29))) else bnd (oI t19 15 27) (fun t32 => (f_X12_sixes t32).bind (fun x34 => some x34)))) else bnd (oI t14 15 15) (fun t37 => (f_X12_duads t37 0).bind (fun x39 => some x39)))) else (f_X12_number t9 2 8).bind (fun x42 => match x42 with | (v44, t45) => (f_X12_number t45 2 8).bind (fun x46 => match x46 with | (v48, t49) => (if (t49.1 11) = 0 then (f_X12_grid t49 v44 v48).bind (fun x51 => some x51) else some t49))))) else (f_X12_number t4 1 64).bind (fun x54 => match x54 with | (v56, t57) => bnd (oI t57 15 v56) (fun t58 => some t58))))
set_option maxHeartbeats 4000000 in
set_option maxRecDepth 100000 in
theorem c_X12_readFirst {l : Launch} {G : mG} {h : mM} {q : Nat → Nat} (hq : oinj LX12 q) {st : OS} {x : OS} (hF : f_X12_readFirst st = some x) : cQ l G yX12_readFirst cX12_readFirst 3 none rm_X12_readFirst [.ref (q 53)] (oset LX12 G q st h) (mQv G (fun h1 => h1 = oset LX12 G q x h)) := by
  refine mp_of (by decide +kernel) (Nat.le_of_ble_eq_true rfl) ?_
  intro p e s m below meth c X hr hlk hH hname ls hl
  dsimp only [f_X12_readFirst] at hF
  replace hl : lv_has ls 3 [(0, .ref (q 53))] := hl
  refine lv_aload_n X.x X.b (dk DX12_readFirst_0 0 rfl) rfl (lv_at hl 0 rfl) ?_
  refine mr_ldcS X 21 (by decide +kernel) rfl rfl (dk DX12_readFirst_0 1 rfl) ?_
  obtain ⟨x1, e2, hF⟩ := bd hF
  refine mr_ci0 hH ⟨rfl, rfl⟩ (mr_runV (As := [.ref (sAd G 21)]) (rest := []) X hH (c_X12_took hq (by decide +kernel) e2) ((oset_at hq (Nat.le_refl _) ohas_N).trans (congrArg some ocell_N)) OX12.1 kM_X12_211 kI_X12_took kS_X12_took kN_X12 kC_X12_took hd_X12_took ⟨Nat.le_of_ble_eq_true rfl, Nat.le_of_ble_eq_true rfl⟩ rfl hl.1 (Nat.le_of_ble_eq_true rfl) (dk DX12_readFirst_0 2 rfl) ⟨Nat.zero_le _, Nat.zero_le _⟩) (fun r h1 H locs hp hH => ?_)
  obtain ⟨hr1, hr2⟩ := hp; rw [hr1]; rw [hr2] at hH; clear hr1 hr2
  obtain ⟨v3, t4⟩ := x1
  try dsimp only at hF hH ⊢
  refine lv_if_eq (tgt := 23) X.x X.b (dk DX12_readFirst_0 3 rfl) (by decide) (fun c5 => ?_) (fun c5 => ?_)
  · replace hF := if_t hF c5
    refine lv_aload_n X.x X.b (dk DX12_readFirst_0 11 rfl) rfl (lv_at hl 0 rfl) ?_
    refine mr_ldcS X 22 (by decide +kernel) rfl rfl (dk DX12_readFirst_0 12 rfl) ?_
    obtain ⟨x6, e7, hF⟩ := bd hF
    refine mr_ci0 hH ⟨rfl, rfl⟩ (mr_runV (As := [.ref (sAd G 22)]) (rest := []) X hH (c_X12_took hq (by decide +kernel) e7) ((oset_at hq (Nat.le_refl _) ohas_N).trans (congrArg some ocell_N)) OX12.1 kM_X12_211 kI_X12_took kS_X12_took kN_X12 kC_X12_took hd_X12_took ⟨Nat.le_of_ble_eq_true rfl, Nat.le_of_ble_eq_true rfl⟩ rfl hl.1 (Nat.le_of_ble_eq_true rfl) (dk DX12_readFirst_0 13 rfl) ⟨Nat.zero_le _, Nat.zero_le _⟩) (fun r h1 H locs hp hH => ?_)
    obtain ⟨hr1, hr2⟩ := hp; rw [hr1]; rw [hr2] at hH; clear hr1 hr2
    obtain ⟨v8, t9⟩ := x6
    try dsimp only at hF hH ⊢
    refine lv_if_eq (tgt := 64) X.x X.b (dk DX12_readFirst_0 14 rfl) (by decide) (fun c10 => ?_) (fun c10 => ?_)
    · replace hF := if_t hF c10
      refine lv_aload_n X.x X.b (dk DX12_readFirst_0 33 rfl) rfl (lv_at hl 0 rfl) ?_
      refine mr_ldcS X 23 (by decide +kernel) rfl rfl (dk DX12_readFirst_0 34 rfl) ?_
      obtain ⟨x11, e12, hF⟩ := bd hF
      refine mr_ci0 hH ⟨rfl, rfl⟩ (mr_runV (As := [.ref (sAd G 23)]) (rest := []) X hH (c_X12_took hq (by decide +kernel) e12) ((oset_at hq (Nat.le_refl _) ohas_N).trans (congrArg some ocell_N)) OX12.1 kM_X12_211 kI_X12_took kS_X12_took kN_X12 kC_X12_took hd_X12_took ⟨Nat.le_of_ble_eq_true rfl, Nat.le_of_ble_eq_true rfl⟩ rfl hl.1 (Nat.le_of_ble_eq_true rfl) (dk DX12_readFirst_0 35 rfl) ⟨Nat.zero_le _, Nat.zero_le _⟩) (fun r h1 H locs hp hH => ?_)
      obtain ⟨hr1, hr2⟩ := hp; rw [hr1]; rw [hr2] at hH; clear hr1 hr2
      obtain ⟨v13, t14⟩ := x11
      try dsimp only at hF hH ⊢
      refine lv_if_eq (tgt := 87) X.x X.b (dk DX12_readFirst_0 36 rfl) (by decide) (fun c15 => ?_) (fun c15 => ?_)
      · replace hF := if_t hF c15
        refine lv_aload_n X.x X.b (dk DX12_readFirst_0 44 rfl) rfl (lv_at hl 0 rfl) ?_
        refine mr_ldcS X 24 (by decide +kernel) rfl rfl (dk DX12_readFirst_0 45 rfl) ?_
        obtain ⟨x16, e17, hF⟩ := bd hF
        refine mr_ci0 hH ⟨rfl, rfl⟩ (mr_runV (As := [.ref (sAd G 24)]) (rest := []) X hH (c_X12_took hq (by decide +kernel) e17) ((oset_at hq (Nat.le_refl _) ohas_N).trans (congrArg some ocell_N)) OX12.1 kM_X12_211 kI_X12_took kS_X12_took kN_X12 kC_X12_took hd_X12_took ⟨Nat.le_of_ble_eq_true rfl, Nat.le_of_ble_eq_true rfl⟩ rfl hl.1 (Nat.le_of_ble_eq_true rfl) (dk DX12_readFirst_0 46 rfl) ⟨Nat.zero_le _, Nat.zero_le _⟩) (fun r h1 H locs hp hH => ?_)
        obtain ⟨hr1, hr2⟩ := hp; rw [hr1]; rw [hr2] at hH; clear hr1 hr2
        obtain ⟨v18, t19⟩ := x16
        try dsimp only at hF hH ⊢
        refine lv_if_eq (tgt := 109) X.x X.b (dk DX12_readFirst_0 47 rfl) (by decide) (fun c20 => ?_) (fun c20 => ?_)
        · replace hF := if_t hF c20
          refine lv_aload_n X.x X.b (dk DX12_readFirst_0 54 rfl) rfl (lv_at hl 0 rfl) ?_
          refine mr_ldcS X 25 (by decide +kernel) rfl rfl (dk DX12_readFirst_0 55 rfl) ?_
          obtain ⟨x21, e22, hF⟩ := bd hF
          refine mr_ci0 hH ⟨rfl, rfl⟩ (mr_runV (As := [.ref (sAd G 25)]) (rest := []) X hH (c_X12_took hq (by decide +kernel) e22) ((oset_at hq (Nat.le_refl _) ohas_N).trans (congrArg some ocell_N)) OX12.1 kM_X12_211 kI_X12_took kS_X12_took kN_X12 kC_X12_took hd_X12_took ⟨Nat.le_of_ble_eq_true rfl, Nat.le_of_ble_eq_true rfl⟩ rfl hl.1 (Nat.le_of_ble_eq_true rfl) (dk DX12_readFirst_0 56 rfl) ⟨Nat.zero_le _, Nat.zero_le _⟩) (fun r h1 H locs hp hH => ?_)
          obtain ⟨hr1, hr2⟩ := hp; rw [hr1]; rw [hr2] at hH; clear hr1 hr2
          obtain ⟨v23, t24⟩ := x21
          try dsimp only at hF hH ⊢
          refine lv_if_eq (tgt := 125) X.x X.b (dk DX12_readFirst_0 57 rfl) (by decide) (fun c25 => ?_) (fun c25 => ?_)
          · replace hF := if_t hF c25
            refine lv_aload_n X.x X.b (dk DX12_readFirst_1 1 rfl) rfl (lv_at hl 0 rfl) ?_
            refine lv_iconst (v := 2) X.x X.b (dk DX12_readFirst_1 2 rfl) (by decide) ?_
            obtain ⟨x26, e27, hF⟩ := bd hF
            refine mr_cv0 hH ⟨rfl, rfl⟩ (mr_runV (As := [.int 2]) (rest := []) X hH (c_X12_blames hq e27) ((oset_at hq (Nat.le_refl _) ohas_N).trans (congrArg some ocell_N)) OX12.1 kM_X12_167 kI_X12_blames kS_X12_blames kN_X12 kC_X12_blames hd_X12_blames ⟨Nat.le_of_ble_eq_true rfl, Nat.le_of_ble_eq_true rfl⟩ rfl hl.1 (Nat.le_of_ble_eq_true rfl) (dk DX12_readFirst_1 3 rfl) ⟨Nat.zero_le _, Nat.zero_le _⟩) (fun h1 H locs hp hH => ?_)
            rw [hp] at hH; clear hp
            cases sm hF
            exact mr_vret X hr hlk hH rfl (dk DX12_readFirst_1 4 rfl)
          · replace hF := if_f hF c25
            refine lv_aload_n X.x X.b (dk DX12_readFirst_0 58 rfl) rfl (lv_at hl 0 rfl) ?_
            obtain ⟨x29, e30, hF⟩ := bd hF
            refine mr_cv0 hH ⟨rfl, rfl⟩ (mr_runV (As := []) (rest := []) X hH (c_X12_threes hq e30) ((oset_at hq (Nat.le_refl _) ohas_N).trans (congrArg some ocell_N)) OX12.1 kM_X12_229 kI_X12_threes kS_X12_threes kN_X12 kC_X12_threes hd_X12_threes ⟨Nat.le_of_ble_eq_true rfl, Nat.le_of_ble_eq_true rfl⟩ rfl hl.1 (Nat.le_of_ble_eq_true rfl) (dk DX12_readFirst_0 59 rfl) ⟨Nat.zero_le _, Nat.zero_le _⟩) (fun h1 H locs hp hH => ?_)
            rw [hp] at hH; clear hp
            refine lv_goto (tgt := 130) X.x X.b (dk DX12_readFirst_1 0 rfl) (by decide) ?_
            cases sm hF
            exact mr_vret X hr hlk hH rfl (dk DX12_readFirst_1 4 rfl)
        · replace hF := if_f hF c20
          refine lv_aload_n X.x X.b (dk DX12_readFirst_0 48 rfl) rfl (lv_at hl 0 rfl) ?_
          refine lv_bipush (v := 27) X.x X.b (dk DX12_readFirst_0 49 rfl) (by decide) ?_
          refine og_putI OX12 X hq hH 15 (by decide) rfl kF_X12_189 rfl rfl rfl (dk DX12_readFirst_0 50 rfl) (fun H locs hH => ?_)
          obtain ⟨t32, e33⟩ : ∃ y, y = oI t19 15 27 := ⟨_, rfl⟩
          rw [← e33] at hH
          replace hF := bnd_e hF e33
          refine lv_aload_n X.x X.b (dk DX12_readFirst_0 51 rfl) rfl (lv_at hl 0 rfl) ?_
          obtain ⟨x34, e35, hF⟩ := bd hF
          refine mr_cv0 hH ⟨rfl, rfl⟩ (mr_runV (As := []) (rest := []) X hH (c_X12_sixes hq e35) ((oset_at hq (Nat.le_refl _) ohas_N).trans (congrArg some ocell_N)) OX12.1 kM_X12_225 kI_X12_sixes kS_X12_sixes kN_X12 kC_X12_sixes hd_X12_sixes ⟨Nat.le_of_ble_eq_true rfl, Nat.le_of_ble_eq_true rfl⟩ rfl hl.1 (Nat.le_of_ble_eq_true rfl) (dk DX12_readFirst_0 52 rfl) ⟨Nat.zero_le _, Nat.zero_le _⟩) (fun h1 H locs hp hH => ?_)
          rw [hp] at hH; clear hp
          refine lv_goto (tgt := 130) X.x X.b (dk DX12_readFirst_0 53 rfl) (by decide) ?_
          cases sm hF
          exact mr_vret X hr hlk hH rfl (dk DX12_readFirst_1 4 rfl)
      · replace hF := if_f hF c15
        refine lv_aload_n X.x X.b (dk DX12_readFirst_0 37 rfl) rfl (lv_at hl 0 rfl) ?_
        refine lv_bipush (v := 15) X.x X.b (dk DX12_readFirst_0 38 rfl) (by decide) ?_
        refine og_putI OX12 X hq hH 15 (by decide) rfl kF_X12_189 rfl rfl rfl (dk DX12_readFirst_0 39 rfl) (fun H locs hH => ?_)
        obtain ⟨t37, e38⟩ : ∃ y, y = oI t14 15 15 := ⟨_, rfl⟩
        rw [← e38] at hH
        replace hF := bnd_e hF e38
        refine lv_aload_n X.x X.b (dk DX12_readFirst_0 40 rfl) rfl (lv_at hl 0 rfl) ?_
        refine lv_iconst (v := 0) X.x X.b (dk DX12_readFirst_0 41 rfl) (by decide) ?_
        obtain ⟨x39, e40, hF⟩ := bd hF
        refine mr_cv0 hH ⟨rfl, rfl⟩ (mr_runV (As := [.int 0]) (rest := []) X hH (c_X12_duads hq e40) ((oset_at hq (Nat.le_refl _) ohas_N).trans (congrArg some ocell_N)) OX12.1 kM_X12_186 kI_X12_duads kS_X12_duads kN_X12 kC_X12_duads hd_X12_duads ⟨Nat.le_of_ble_eq_true rfl, Nat.le_of_ble_eq_true rfl⟩ rfl hl.1 (Nat.le_of_ble_eq_true rfl) (dk DX12_readFirst_0 42 rfl) ⟨Nat.zero_le _, Nat.zero_le _⟩) (fun h1 H locs hp hH => ?_)
        rw [hp] at hH; clear hp
        refine lv_goto (tgt := 130) X.x X.b (dk DX12_readFirst_0 43 rfl) (by decide) ?_
        cases sm hF
        exact mr_vret X hr hlk hH rfl (dk DX12_readFirst_1 4 rfl)
    · replace hF := if_f hF c10
      refine lv_aload_n X.x X.b (dk DX12_readFirst_0 15 rfl) rfl (lv_at hl 0 rfl) ?_
      refine lv_iconst (v := 2) X.x X.b (dk DX12_readFirst_0 16 rfl) (by decide) ?_
      refine lv_bipush (v := 8) X.x X.b (dk DX12_readFirst_0 17 rfl) (by decide) ?_
      obtain ⟨x42, e43, hF⟩ := bd hF
      refine mr_ci0 hH ⟨rfl, rfl⟩ (mr_runV (As := [.int 2, .int 8]) (rest := []) X hH (c_X12_number hq e43) ((oset_at hq (Nat.le_refl _) ohas_N).trans (congrArg some ocell_N)) OX12.1 kM_X12_214 kI_X12_number kS_X12_number kN_X12 kC_X12_number hd_X12_number ⟨Nat.le_of_ble_eq_true rfl, Nat.le_of_ble_eq_true rfl⟩ rfl hl.1 (Nat.le_of_ble_eq_true rfl) (dk DX12_readFirst_0 18 rfl) ⟨Nat.zero_le _, Nat.zero_le _⟩) (fun r h1 H locs hp hH => ?_)
      obtain ⟨hr1, hr2⟩ := hp; rw [hr1]; rw [hr2] at hH; clear hr1 hr2
      obtain ⟨v44, t45⟩ := x42
      try dsimp only at hF hH ⊢
      refine lv_istore_n (lv' := [(1, .int v44), (0, .ref (q 53))]) X.x X.b (dk DX12_readFirst_0 19 rfl) rfl hl (by decide) rfl (fun ls hl => ?_)
      replace hl : lv_has ls 3 [(0, .ref (q 53)), (1, .int v44)] := lv_sub hl [1, 0] rfl
      refine lv_aload_n X.x X.b (dk DX12_readFirst_0 20 rfl) rfl (lv_at hl 0 rfl) ?_
      refine lv_iconst (v := 2) X.x X.b (dk DX12_readFirst_0 21 rfl) (by decide) ?_
      refine lv_bipush (v := 8) X.x X.b (dk DX12_readFirst_0 22 rfl) (by decide) ?_
      obtain ⟨x46, e47, hF⟩ := bd hF
      refine mr_ci0 hH ⟨rfl, rfl⟩ (mr_runV (As := [.int 2, .int 8]) (rest := []) X hH (c_X12_number hq e47) ((oset_at hq (Nat.le_refl _) ohas_N).trans (congrArg some ocell_N)) OX12.1 kM_X12_214 kI_X12_number kS_X12_number kN_X12 kC_X12_number hd_X12_number ⟨Nat.le_of_ble_eq_true rfl, Nat.le_of_ble_eq_true rfl⟩ rfl hl.1 (Nat.le_of_ble_eq_true rfl) (dk DX12_readFirst_0 23 rfl) ⟨Nat.zero_le _, Nat.zero_le _⟩) (fun r h1 H locs hp hH => ?_)
      obtain ⟨hr1, hr2⟩ := hp; rw [hr1]; rw [hr2] at hH; clear hr1 hr2
      obtain ⟨v48, t49⟩ := x46
      try dsimp only at hF hH ⊢
      refine lv_istore_n (lv' := [(2, .int v48), (0, .ref (q 53)), (1, .int v44)]) X.x X.b (dk DX12_readFirst_0 24 rfl) rfl hl (by decide) rfl (fun ls hl => ?_)
      replace hl : lv_has ls 3 [(0, .ref (q 53)), (1, .int v44), (2, .int v48)] := lv_sub hl [1, 2, 0] rfl
      refine lv_aload_n X.x X.b (dk DX12_readFirst_0 25 rfl) rfl (lv_at hl 0 rfl) ?_
      refine og_getI OX12 X hq hH 11 (by decide) rfl kF_X12_144 (dk DX12_readFirst_0 26 rfl) ?_
      refine lv_if_ne (tgt := 61) X.x X.b (dk DX12_readFirst_0 27 rfl) (by decide) (fun c50 => ?_) (fun c50 => ?_)
      · replace hF := if_f hF c50
        refine lv_goto (tgt := 130) X.x X.b (dk DX12_readFirst_0 32 rfl) (by decide) ?_
        cases sm hF
        exact mr_vret X hr hlk hH rfl (dk DX12_readFirst_1 4 rfl)
      · replace hF := if_t hF c50
        refine lv_aload_n X.x X.b (dk DX12_readFirst_0 28 rfl) rfl (lv_at hl 0 rfl) ?_
        refine lv_iload_n X.x X.b (dk DX12_readFirst_0 29 rfl) rfl (lv_at hl 1 rfl) ?_
        refine lv_iload_n X.x X.b (dk DX12_readFirst_0 30 rfl) rfl (lv_at hl 2 rfl) ?_
        obtain ⟨x51, e52, hF⟩ := bd hF
        refine mr_cv0 hH ⟨rfl, rfl⟩ (mr_runV (As := [.int v44, .int v48]) (rest := []) X hH (c_X12_grid hq e52) ((oset_at hq (Nat.le_refl _) ohas_N).trans (congrArg some ocell_N)) OX12.1 kM_X12_219 kI_X12_grid kS_X12_grid kN_X12 kC_X12_grid hd_X12_grid ⟨Nat.le_of_ble_eq_true rfl, Nat.le_of_ble_eq_true rfl⟩ rfl hl.1 (Nat.le_of_ble_eq_true rfl) (dk DX12_readFirst_0 31 rfl) ⟨Nat.zero_le _, Nat.zero_le _⟩) (fun h1 H locs hp hH => ?_)
        rw [hp] at hH; clear hp
        refine lv_goto (tgt := 130) X.x X.b (dk DX12_readFirst_0 32 rfl) (by decide) ?_
        cases sm hF
        exact mr_vret X hr hlk hH rfl (dk DX12_readFirst_1 4 rfl)
  · replace hF := if_f hF c5
    refine lv_aload_n X.x X.b (dk DX12_readFirst_0 4 rfl) rfl (lv_at hl 0 rfl) ?_
    refine lv_aload_n X.x X.b (dk DX12_readFirst_0 5 rfl) rfl (lv_at hl 0 rfl) ?_
    refine lv_iconst (v := 1) X.x X.b (dk DX12_readFirst_0 6 rfl) (by decide) ?_
    refine lv_bipush (v := 64) X.x X.b (dk DX12_readFirst_0 7 rfl) (by decide) ?_
    obtain ⟨x54, e55, hF⟩ := bd hF
    refine mr_ci0 hH ⟨rfl, rfl⟩ (mr_runV (As := [.int 1, .int 64]) (rest := [.ref (q 53)]) X hH (c_X12_number hq e55) ((oset_at hq (Nat.le_refl _) ohas_N).trans (congrArg some ocell_N)) OX12.1 kM_X12_214 kI_X12_number kS_X12_number kN_X12 kC_X12_number hd_X12_number ⟨Nat.le_of_ble_eq_true rfl, Nat.le_of_ble_eq_true rfl⟩ rfl hl.1 (Nat.le_of_ble_eq_true rfl) (dk DX12_readFirst_0 8 rfl) ⟨Nat.zero_le _, Nat.zero_le _⟩) (fun r h1 H locs hp hH => ?_)
    obtain ⟨hr1, hr2⟩ := hp; rw [hr1]; rw [hr2] at hH; clear hr1 hr2
    obtain ⟨v56, t57⟩ := x54
    try dsimp only at hF hH ⊢
    refine og_putI OX12 X hq hH 15 (by decide) rfl kF_X12_189 rfl rfl rfl (dk DX12_readFirst_0 9 rfl) (fun H locs hH => ?_)
    obtain ⟨t58, e59⟩ : ∃ y, y = oI t57 15 v56 := ⟨_, rfl⟩
    rw [← e59] at hH
    replace hF := bnd_e hF e59
    refine lv_goto (tgt := 130) X.x X.b (dk DX12_readFirst_0 10 rfl) (by decide) ?_
    cases sm hF
    exact mr_vret X hr hlk hH rfl (dk DX12_readFirst_1 4 rfl)
-- X12_readLine
abbrev rm_X12_readLine : Room := { frames := 5, cells := 0, slots := 0, locals := 108 }
theorem hd_X12_readLine : mHd yX12_readLine 0 := ⟨by decide +kernel, by decide +kernel, by decide +kernel⟩
theorem DX12_readLine_0 : ∀ t ∈ ([(0, .aload_n 0, 1), (1, .ldc 231, 2), (3, .invokevirtual 160, 3), (6, .ifCond .ne 8, 3), (9, .aload_n 0, 1), (10, .iconst 2, 1), (11, .invokevirtual 167, 3), (14, .aload_n 0, 1), (15, .getfield 175, 3), (18, .bipush 64, 2), (20, .if_icmp .ne 8, 3), (23, .aload_n 0, 1), (24, .iconst 4, 1), (25, .invokevirtual 167, 3), (28, .aload_n 0, 1), (29, .getfield 144, 3), (32, .ifCond .eq 4, 3), (35, .return_, 1), (36, .aload_n 0, 1), (37, .invokevirtual 164, 3), (40, .lconst 0, 1), (41, .lstore_n 1, 1), (42, .iconst 0, 1), (43, .istore_n 3, 1), (44, .aload_n 0, 1), (45, .getfield 144, 3), (48, .ifCond .ne 86, 3), (51, .iload_n 3, 1), (52, .iconst 2, 1), (53, .if_icmp .lt 11, 3), (56, .aload_n 0, 1), (57, .getfield 127, 3), (60, .iconst 2, 1), (61, .if_icmp .ne 73, 3), (64, .aload_n 0, 1), (65, .getfield 127, 3), (68, .iconst 2, 1), (69, .if_icmp .ne 38, 3), (72, .aload_n 0, 1), (73, .getfield 141, 3), (76, .i2l, 1), (77, .lconst 0, 1), (78, .aload_n 0, 1), (79, .getfield 189, 3), (82, .iconst 1, 1), (83, .isub, 1), (84, .i2l, 1), (85, .invokestatic 171, 3), (88, .ifCond .eq 19, 3), (91, .lload_n 1, 1), (92, .aload_n 0, 1), (93, .getfield 141, 3), (96, .invokestatic 232, 3), (99, .ifCond .eq 8, 3), (102, .aload_n 0, 1), (103, .iconst 3, 1), (104, .invokevirtual 167, 3), (107, .aload_n 0, 1), (108, .iconst 0, 1), (109, .aload_n 0, 1)] : List (Nat × Instr × Nat)), decode cX12_readLine t.1 = .ok (t.2.1, t.2.2) := by decide +kernel
theorem DX12_readLine_1 : ∀ t ∈ ([(110, .getfield 189, 3), (113, .iconst 1, 1), (114, .isub, 1), (115, .invokevirtual 214, 3), (118, .istore 4, 2), (120, .lload_n 1, 1), (121, .iload 4, 2), (123, .invokestatic 111, 3), (126, .lor, 1), (127, .lstore_n 1, 1), (128, .iinc 3 1, 3), (131, .goto (-87), 3), (134, .aload_n 0, 1), (135, .getfield 144, 3), (138, .ifCond .ne 8, 3), (141, .aload_n 0, 1), (142, .lload_n 1, 1), (143, .invokevirtual 182, 3), (146, .return_, 1)] : List (Nat × Instr × Nat)), decode cX12_readLine t.1 = .ok (t.2.1, t.2.2) := by decide +kernel
noncomputable def f_X12_readLine_44 : (OS × Int64 × Int32) → Option ((OS × Int64 × Int32) ⊕ (OS × Int64)) := fun z => match z with | (s_t, b1, b3) => (if (s_t.1 11) = 0 then (if b3 < 2 then (if (s_t.1 9) = 2 then (f_X12_within ((s_t.1 10 : Int32).toInt64) 0 (((s_t.1 15) - 1 : Int32).toInt64)).bind (fun x24 => (if x24 = 0 then (f_X12_number s_t 0 ((s_t.1 15) - 1)).bind (fun x28 => match x28 with | (v30, t31) => (f_X12_bit v30).bind (fun x32 => bnd (b1 ||| x32 : Int64) (fun v35 => bnd (b3 + 1 : Int32) (fun v37 => some (.inl ((t31, v35, v37))))))) else (f_X12_has b1 (s_t.1 10)).bind (fun x39 => (if x39 = 0 then (f_X12_number s_t 0 ((s_t.1 15) - 1)).bind (fun x43 => match x43 with | (v45, t46) => (f_X12_bit v45).bind (fun x47 => bnd (b1 ||| x47 : Int64) (fun v50 => bnd (b3 + 1 : Int32) (fun v52 => some (.inl ((t46, v50, v52))))))) else (f_X12_blames s_t 3).bind (fun x54 => (f_X12_number x54 0 ((x54.1 15) - 1)).bind (fun x57 => match x57 with | (v59, t60) => (f_X12_bit v59).bind (fun x61 => bnd (b1 ||| x61 : Int64) (fun v64 => bnd (b3 + 1 : Int32) (fun v66 => some (.inl ((t60, v64, v66)))))))))))) else (f_X12_number s_t 0 ((s_t.1 15) - 1)).bind (fun x13 => match x13 with | (v15, t16) => (f_X12_bit v15).bind (fun x17 => bnd (b1 ||| x17 : Int64) (fun v20 => bnd (b3 + 1 : Int32) (fun v22 => some (.inl ((t16, v20, v22)))))))) else (if (s_t.1 9) = 2 then (if (s_t.1 9) = 2 then (f_X12_within ((s_t.1 10 : Int32).toInt64) 0 (((s_t.1 15) - 1 : Int32).toInt64)).bind (fun x81 => (if x81 = 0 then (f_X12_number s_t 0 ((s_t.1 15) - 1)).bind (fun x85 => match x85 with | (v87, t88) => (f_X12_bit v87).bind (fun x89 => bnd (b1 ||| x89 : Int64) (fun v92 => bnd (b3 + 1 : Int32) (fun v94 => some (.inl ((t88, v92, v94))))))) else (f_X12_has b1 (s_t.1 10)).bind (fun x96 => (if x96 = 0 then (f_X12_number s_t 0 ((s_t.1 15) - 1)).bind (fun x100 => match x100 with | (v102, t103) => (f_X12_bit v102).bind (fun x104 => bnd (b1 ||| x104 : Int64) (fun v107 => bnd (b3 + 1 : Int32) (fun v109 => some (.inl ((t103, v107, v109))))))) else (f_X12_blames s_t 3).bind (fun x111 => (f_X12_number x111 0 ((x111.1 15) - 1)).bind (fun x114 => match x114 with | (v116, t117) => (f_X12_bit v116).bind (fun x118 => bnd (b1 ||| x118 : Int64) (fun v121 => bnd (b3 + 1 : Int32) (fun v123 => some (.inl ((t117, v121, v123)))))))))))) else (f_X12_number s_t 0 ((s_t.1 15) - 1)).bind (fun x70 => match x70 with | (v72, t73) => (f_X12_bit v72).bind (fun x74 => bnd (b1 ||| x74 : Int64) (fun v77 => bnd (b3 + 1 : Int32) (fun v79 => some (.inl ((t73, v77, v79)))))))) else some (.inr ((s_t, b1))))) else some (.inr ((s_t, b1))))
noncomputable def f_X12_readLine (st : OS) : Option (OS) := (f_X12_isWord st 26).bind (fun x1 => (if x1 = 0 then (f_X12_blames st 2).bind (fun x148 => (if (x148.1 16) = 64 then (f_X12_blames x148 4).bind (fun x164 => (if (x164.1 11) = 0 then (f_X12_reads x164).bind (fun x168 => (lpv (f_X12_readLine_44) ((x168, 0, 0))).bind (fun x171 => match x171 with | (t173, v174) => (if (t173.1 11) = 0 then (f_X12_puts t173 v174).bind (fun x176 => some x176) else some t173))) else some x164)) else (if (x148.1 11) = 0 then (f_X12_reads x148).bind (fun x153 => (lpv (f_X12_readLine_44) ((x153, 0, 0))).bind (fun x156 => match x156 with | (t158, v159) => (if (t158.1 11) = 0 then (f_X12_puts t158 v159).bind (fun x161 => some x161) else some t158))) else some x148))) else (if (st.1 16) = 64 then (f_X12_blames st 4).bind (fun x133 => (if (x133.1 11) = 0 then (f_X12_reads x133).bind (fun x137 => (lpv (f_X12_readLine_44) ((x137, 0, 0))).bind (fun x140 => match x140 with | (t142, v143) => (if (t142.1 11) = 0 then (f_X12_puts t142 v143).bind (fun x145 => some x145) else some t142))) else some x133)) else (if (st.1 11) = 0 then (f_X12_reads st).bind (fun x7 => (lpv (f_X12_readLine_44) ((x7, 0, 0))).bind (fun x125 => match x125 with | (t127, v128) => (if (t127.1 11) = 0 then (f_X12_puts t127 v128).bind (fun x130 => some x130) else some t127))) else some st))))
set_option maxHeartbeats 4000000 in
set_option maxRecDepth 100000 in
theorem w_X12_readLine_44 {p : Program} {l : Launch} {e : Env} {s : State} {m : MethodId} {args : Array Value} {below : List Frame} {meth : Method} {c : Code} {Q : State → Prop} {G : mG} {h : mM} {q : Nat → Nat} (hq : oinj LX12 q) (X : mX G p m c cX12_readLine 5 s args RX12) : ∀ (z : OS × Int64 × Int32) (r : OS × Int64), lpv (f_X12_readLine_44) z = some r → ∀ (H : Heap) (locs : List Loc) (ls : Array Slot), mH G (oset LX12 G q z.1 h) s.heap H locs → lv_has ls 5 [(0, .ref (q 53)), (1, .long z.2.1), (3, .int z.2.2)] → (∀ (H : Heap) (locs : List Loc) (ls : Array Slot), mH G (oset LX12 G q r.1 h) s.heap H locs → lv_has ls 5 [(0, .ref (q 53)), (1, .long r.2)] → W p l e rm_X12_readLine s m args below meth c H locs 0 0 Q (F0 m 134 ls [])) → W p l e rm_X12_readLine s m args below meth c H locs 0 0 Q (F0 m 44 ls []) := by
  refine lpv_rec ?_
  intro z r x hF hx H locs ls hH hl K0
  obtain ⟨s_t, b1, b3⟩ := z
  dsimp only [f_X12_readLine_44] at hF
  try dsimp only at hH hl
  refine lv_aload_n X.x X.b (dk DX12_readLine_0 24 rfl) rfl (lv_at hl 0 rfl) ?_
  refine og_getI OX12 X hq hH 11 (by decide) rfl kF_X12_144 (dk DX12_readLine_0 25 rfl) ?_
  refine lv_if_ne (tgt := 134) X.x X.b (dk DX12_readLine_0 26 rfl) (by decide) (fun c10 => ?_) (fun c10 => ?_)
  · replace hF := if_f hF c10
    have hr9 := lp_r hF hx
    subst hr9
    exact K0 _ _ _ hH (lv_sub hl [0, 1] rfl)
  · replace hF := if_t hF c10
    refine lv_iload_n X.x X.b (dk DX12_readLine_0 27 rfl) rfl (lv_at hl 2 rfl) ?_
    refine lv_iconst (v := 2) X.x X.b (dk DX12_readLine_0 28 rfl) (by decide) ?_
    refine lv_icmp_lt (tgt := 64) X.x X.b (dk DX12_readLine_0 29 rfl) (by decide) (fun c11 => ?_) (fun c11 => ?_)
    · replace hF := if_t hF c11
      refine lv_aload_n X.x X.b (dk DX12_readLine_0 34 rfl) rfl (lv_at hl 0 rfl) ?_
      refine og_getI OX12 X hq hH 9 (by decide) rfl kF_X12_127 (dk DX12_readLine_0 35 rfl) ?_
      refine lv_iconst (v := 2) X.x X.b (dk DX12_readLine_0 36 rfl) (by decide) ?_
      refine lv_icmp_ne (tgt := 107) X.x X.b (dk DX12_readLine_0 37 rfl) (by decide) (fun c12 => ?_) (fun c12 => ?_)
      · replace hF := if_f hF c12
        refine lv_aload_n X.x X.b (dk DX12_readLine_0 57 rfl) rfl (lv_at hl 0 rfl) ?_
        refine lv_iconst (v := 0) X.x X.b (dk DX12_readLine_0 58 rfl) (by decide) ?_
        refine lv_aload_n X.x X.b (dk DX12_readLine_0 59 rfl) rfl (lv_at hl 0 rfl) ?_
        refine og_getI OX12 X hq hH 15 (by decide) rfl kF_X12_189 (dk DX12_readLine_1 0 rfl) ?_
        refine lv_iconst (v := 1) X.x X.b (dk DX12_readLine_1 1 rfl) (by decide) ?_
        refine lv_isub X.x X.b (dk DX12_readLine_1 2 rfl) ?_
        obtain ⟨x13, e14, hF⟩ := bd hF
        refine mr_ci0 hH ⟨rfl, rfl⟩ (mr_runV (As := [.int 0, .int ((s_t.1 15) - 1)]) (rest := []) X hH (c_X12_number hq e14) ((oset_at hq (Nat.le_refl _) ohas_N).trans (congrArg some ocell_N)) OX12.1 kM_X12_214 kI_X12_number kS_X12_number kN_X12 kC_X12_number hd_X12_number ⟨Nat.le_of_ble_eq_true rfl, Nat.le_of_ble_eq_true rfl⟩ rfl hl.1 (Nat.le_of_ble_eq_true rfl) (dk DX12_readLine_1 3 rfl) ⟨Nat.zero_le _, Nat.zero_le _⟩) (fun r h1 H locs hp hH => ?_)
        obtain ⟨hr1, hr2⟩ := hp; rw [hr1]; rw [hr2] at hH; clear hr1 hr2
        obtain ⟨v15, t16⟩ := x13
        try dsimp only at hF hH ⊢
        refine lv_istore (lv' := [(4, .int v15), (0, .ref (q 53)), (1, .long b1), (3, .int b3)]) X.x X.b (dk DX12_readLine_1 4 rfl) hl (by decide) rfl (fun ls hl => ?_)
        replace hl : lv_has ls 5 [(0, .ref (q 53)), (1, .long b1), (3, .int b3), (4, .int v15)] := lv_sub hl [1, 2, 3, 0] rfl
        refine lv_lload_n X.x X.b (dk DX12_readLine_1 5 rfl) rfl (lv_at hl 1 rfl) ?_
        refine lv_iload X.x X.b (dk DX12_readLine_1 6 rfl) (lv_at hl 3 rfl) ?_
        obtain ⟨x17, e18, hF⟩ := bd hF
        refine mr_cl0 hH ⟨rfl, rfl⟩ (mr_runS (As := [.int v15]) (rest := [.long b1]) X hH (c_X12_bit e18) kM_X12_111 kT_X12_bit kN_X12 kC_X12_bit hd_X12_bit ⟨Nat.le_of_ble_eq_true rfl, Nat.le_of_ble_eq_true rfl⟩ rfl hl.1 (Nat.le_of_ble_eq_true rfl) (dk DX12_readLine_1 7 rfl) ⟨Nat.zero_le _, Nat.zero_le _⟩) (fun r h1 H locs hp hH => ?_)
        obtain ⟨hr1, hr2⟩ := hp; rw [hr1]; rw [hr2] at hH; clear hr1 hr2
        refine lv_lor X.x X.b (dk DX12_readLine_1 8 rfl) ?_
        refine lv_topl (fun v20 e21 => ?_)
        replace hF := bnd_e hF e21
        refine lv_lstore_n (lv' := [(1, .long v20), (0, .ref (q 53)), (3, .int b3), (4, .int v15)]) X.x X.b (dk DX12_readLine_1 9 rfl) rfl hl (by decide) rfl (fun ls hl => ?_)
        replace hl : lv_has ls 5 [(0, .ref (q 53)), (1, .long v20), (3, .int b3)] := lv_sub hl [1, 0, 2] rfl
        obtain ⟨v22, e23⟩ : ∃ y : Int32, y = b3 + 1 := ⟨_, rfl⟩
        replace hF := bnd_e hF e23
        refine lv_iinc (v := v22) (lv' := [(3, .int v22), (0, .ref (q 53)), (1, .long v20)]) X.x X.b (dk DX12_readLine_1 10 rfl) hl (k := 2) rfl (by rw [e23]; rfl) (by decide) rfl (fun ls hl => ?_)
        replace hl : lv_has ls 5 [(0, .ref (q 53)), (1, .long v20), (3, .int v22)] := lv_sub hl [1, 2, 0] rfl
        refine lv_goto (tgt := 44) X.x X.b (dk DX12_readLine_1 11 rfl) (by decide) ?_
        exact (lp_l hF hx) _ _ _ hH (lv_sub hl [0, 1, 2] rfl) K0
      · replace hF := if_t hF c12
        refine lv_aload_n X.x X.b (dk DX12_readLine_0 38 rfl) rfl (lv_at hl 0 rfl) ?_
        refine og_getI OX12 X hq hH 10 (by decide) rfl kF_X12_141 (dk DX12_readLine_0 39 rfl) ?_
        refine lv_i2l X.x X.b (dk DX12_readLine_0 40 rfl) rfl ?_
        refine lv_lconst (v := 0) X.x X.b (dk DX12_readLine_0 41 rfl) (by decide) ?_
        refine lv_aload_n X.x X.b (dk DX12_readLine_0 42 rfl) rfl (lv_at hl 0 rfl) ?_
        refine og_getI OX12 X hq hH 15 (by decide) rfl kF_X12_189 (dk DX12_readLine_0 43 rfl) ?_
        refine lv_iconst (v := 1) X.x X.b (dk DX12_readLine_0 44 rfl) (by decide) ?_
        refine lv_isub X.x X.b (dk DX12_readLine_0 45 rfl) ?_
        refine lv_i2l X.x X.b (dk DX12_readLine_0 46 rfl) rfl ?_
        obtain ⟨x24, e25, hF⟩ := bd hF
        refine mr_ci0 hH ⟨rfl, rfl⟩ (mr_runS (As := [.long ((s_t.1 10 : Int32).toInt64), .long 0, .long (((s_t.1 15) - 1 : Int32).toInt64)]) (rest := []) X hH (c_X12_within e25) kM_X12_171 kT_X12_within kN_X12 kC_X12_within hd_X12_within ⟨Nat.le_of_ble_eq_true rfl, Nat.le_of_ble_eq_true rfl⟩ rfl hl.1 (Nat.le_of_ble_eq_true rfl) (dk DX12_readLine_0 47 rfl) ⟨Nat.zero_le _, Nat.zero_le _⟩) (fun r h1 H locs hp hH => ?_)
        obtain ⟨hr1, hr2⟩ := hp; rw [hr1]; rw [hr2] at hH; clear hr1 hr2
        refine lv_if_eq (tgt := 107) X.x X.b (dk DX12_readLine_0 48 rfl) (by decide) (fun c27 => ?_) (fun c27 => ?_)
        · replace hF := if_t hF c27
          refine lv_aload_n X.x X.b (dk DX12_readLine_0 57 rfl) rfl (lv_at hl 0 rfl) ?_
          refine lv_iconst (v := 0) X.x X.b (dk DX12_readLine_0 58 rfl) (by decide) ?_
          refine lv_aload_n X.x X.b (dk DX12_readLine_0 59 rfl) rfl (lv_at hl 0 rfl) ?_
          refine og_getI OX12 X hq hH 15 (by decide) rfl kF_X12_189 (dk DX12_readLine_1 0 rfl) ?_
          refine lv_iconst (v := 1) X.x X.b (dk DX12_readLine_1 1 rfl) (by decide) ?_
          refine lv_isub X.x X.b (dk DX12_readLine_1 2 rfl) ?_
          obtain ⟨x28, e29, hF⟩ := bd hF
          refine mr_ci0 hH ⟨rfl, rfl⟩ (mr_runV (As := [.int 0, .int ((s_t.1 15) - 1)]) (rest := []) X hH (c_X12_number hq e29) ((oset_at hq (Nat.le_refl _) ohas_N).trans (congrArg some ocell_N)) OX12.1 kM_X12_214 kI_X12_number kS_X12_number kN_X12 kC_X12_number hd_X12_number ⟨Nat.le_of_ble_eq_true rfl, Nat.le_of_ble_eq_true rfl⟩ rfl hl.1 (Nat.le_of_ble_eq_true rfl) (dk DX12_readLine_1 3 rfl) ⟨Nat.zero_le _, Nat.zero_le _⟩) (fun r h1 H locs hp hH => ?_)
          obtain ⟨hr1, hr2⟩ := hp; rw [hr1]; rw [hr2] at hH; clear hr1 hr2
          obtain ⟨v30, t31⟩ := x28
          try dsimp only at hF hH ⊢
          refine lv_istore (lv' := [(4, .int v30), (0, .ref (q 53)), (1, .long b1), (3, .int b3)]) X.x X.b (dk DX12_readLine_1 4 rfl) hl (by decide) rfl (fun ls hl => ?_)
          replace hl : lv_has ls 5 [(0, .ref (q 53)), (1, .long b1), (3, .int b3), (4, .int v30)] := lv_sub hl [1, 2, 3, 0] rfl
          refine lv_lload_n X.x X.b (dk DX12_readLine_1 5 rfl) rfl (lv_at hl 1 rfl) ?_
          refine lv_iload X.x X.b (dk DX12_readLine_1 6 rfl) (lv_at hl 3 rfl) ?_
          obtain ⟨x32, e33, hF⟩ := bd hF
          refine mr_cl0 hH ⟨rfl, rfl⟩ (mr_runS (As := [.int v30]) (rest := [.long b1]) X hH (c_X12_bit e33) kM_X12_111 kT_X12_bit kN_X12 kC_X12_bit hd_X12_bit ⟨Nat.le_of_ble_eq_true rfl, Nat.le_of_ble_eq_true rfl⟩ rfl hl.1 (Nat.le_of_ble_eq_true rfl) (dk DX12_readLine_1 7 rfl) ⟨Nat.zero_le _, Nat.zero_le _⟩) (fun r h1 H locs hp hH => ?_)
          obtain ⟨hr1, hr2⟩ := hp; rw [hr1]; rw [hr2] at hH; clear hr1 hr2
          refine lv_lor X.x X.b (dk DX12_readLine_1 8 rfl) ?_
          refine lv_topl (fun v35 e36 => ?_)
          replace hF := bnd_e hF e36
          refine lv_lstore_n (lv' := [(1, .long v35), (0, .ref (q 53)), (3, .int b3), (4, .int v30)]) X.x X.b (dk DX12_readLine_1 9 rfl) rfl hl (by decide) rfl (fun ls hl => ?_)
          replace hl : lv_has ls 5 [(0, .ref (q 53)), (1, .long v35), (3, .int b3)] := lv_sub hl [1, 0, 2] rfl
          obtain ⟨v37, e38⟩ : ∃ y : Int32, y = b3 + 1 := ⟨_, rfl⟩
          replace hF := bnd_e hF e38
          refine lv_iinc (v := v37) (lv' := [(3, .int v37), (0, .ref (q 53)), (1, .long v35)]) X.x X.b (dk DX12_readLine_1 10 rfl) hl (k := 2) rfl (by rw [e38]; rfl) (by decide) rfl (fun ls hl => ?_)
          replace hl : lv_has ls 5 [(0, .ref (q 53)), (1, .long v35), (3, .int v37)] := lv_sub hl [1, 2, 0] rfl
          refine lv_goto (tgt := 44) X.x X.b (dk DX12_readLine_1 11 rfl) (by decide) ?_
          exact (lp_l hF hx) _ _ _ hH (lv_sub hl [0, 1, 2] rfl) K0
        · replace hF := if_f hF c27
          refine lv_lload_n X.x X.b (dk DX12_readLine_0 49 rfl) rfl (lv_at hl 1 rfl) ?_
          refine lv_aload_n X.x X.b (dk DX12_readLine_0 50 rfl) rfl (lv_at hl 0 rfl) ?_
          refine og_getI OX12 X hq hH 10 (by decide) rfl kF_X12_141 (dk DX12_readLine_0 51 rfl) ?_
          obtain ⟨x39, e40, hF⟩ := bd hF
          refine mr_ci0 hH ⟨rfl, rfl⟩ (mr_runS (As := [.long b1, .int (s_t.1 10)]) (rest := []) X hH (c_X12_has e40) kM_X12_232 kT_X12_has kN_X12 kC_X12_has hd_X12_has ⟨Nat.le_of_ble_eq_true rfl, Nat.le_of_ble_eq_true rfl⟩ rfl hl.1 (Nat.le_of_ble_eq_true rfl) (dk DX12_readLine_0 52 rfl) ⟨Nat.zero_le _, Nat.zero_le _⟩) (fun r h1 H locs hp hH => ?_)
          obtain ⟨hr1, hr2⟩ := hp; rw [hr1]; rw [hr2] at hH; clear hr1 hr2
          refine lv_if_eq (tgt := 107) X.x X.b (dk DX12_readLine_0 53 rfl) (by decide) (fun c42 => ?_) (fun c42 => ?_)
          · replace hF := if_t hF c42
            refine lv_aload_n X.x X.b (dk DX12_readLine_0 57 rfl) rfl (lv_at hl 0 rfl) ?_
            refine lv_iconst (v := 0) X.x X.b (dk DX12_readLine_0 58 rfl) (by decide) ?_
            refine lv_aload_n X.x X.b (dk DX12_readLine_0 59 rfl) rfl (lv_at hl 0 rfl) ?_
            refine og_getI OX12 X hq hH 15 (by decide) rfl kF_X12_189 (dk DX12_readLine_1 0 rfl) ?_
            refine lv_iconst (v := 1) X.x X.b (dk DX12_readLine_1 1 rfl) (by decide) ?_
            refine lv_isub X.x X.b (dk DX12_readLine_1 2 rfl) ?_
            obtain ⟨x43, e44, hF⟩ := bd hF
            refine mr_ci0 hH ⟨rfl, rfl⟩ (mr_runV (As := [.int 0, .int ((s_t.1 15) - 1)]) (rest := []) X hH (c_X12_number hq e44) ((oset_at hq (Nat.le_refl _) ohas_N).trans (congrArg some ocell_N)) OX12.1 kM_X12_214 kI_X12_number kS_X12_number kN_X12 kC_X12_number hd_X12_number ⟨Nat.le_of_ble_eq_true rfl, Nat.le_of_ble_eq_true rfl⟩ rfl hl.1 (Nat.le_of_ble_eq_true rfl) (dk DX12_readLine_1 3 rfl) ⟨Nat.zero_le _, Nat.zero_le _⟩) (fun r h1 H locs hp hH => ?_)
            obtain ⟨hr1, hr2⟩ := hp; rw [hr1]; rw [hr2] at hH; clear hr1 hr2
            obtain ⟨v45, t46⟩ := x43
            try dsimp only at hF hH ⊢
            refine lv_istore (lv' := [(4, .int v45), (0, .ref (q 53)), (1, .long b1), (3, .int b3)]) X.x X.b (dk DX12_readLine_1 4 rfl) hl (by decide) rfl (fun ls hl => ?_)
            replace hl : lv_has ls 5 [(0, .ref (q 53)), (1, .long b1), (3, .int b3), (4, .int v45)] := lv_sub hl [1, 2, 3, 0] rfl
            refine lv_lload_n X.x X.b (dk DX12_readLine_1 5 rfl) rfl (lv_at hl 1 rfl) ?_
            refine lv_iload X.x X.b (dk DX12_readLine_1 6 rfl) (lv_at hl 3 rfl) ?_
            obtain ⟨x47, e48, hF⟩ := bd hF
            refine mr_cl0 hH ⟨rfl, rfl⟩ (mr_runS (As := [.int v45]) (rest := [.long b1]) X hH (c_X12_bit e48) kM_X12_111 kT_X12_bit kN_X12 kC_X12_bit hd_X12_bit ⟨Nat.le_of_ble_eq_true rfl, Nat.le_of_ble_eq_true rfl⟩ rfl hl.1 (Nat.le_of_ble_eq_true rfl) (dk DX12_readLine_1 7 rfl) ⟨Nat.zero_le _, Nat.zero_le _⟩) (fun r h1 H locs hp hH => ?_)
            obtain ⟨hr1, hr2⟩ := hp; rw [hr1]; rw [hr2] at hH; clear hr1 hr2
            refine lv_lor X.x X.b (dk DX12_readLine_1 8 rfl) ?_
            refine lv_topl (fun v50 e51 => ?_)
            replace hF := bnd_e hF e51
            refine lv_lstore_n (lv' := [(1, .long v50), (0, .ref (q 53)), (3, .int b3), (4, .int v45)]) X.x X.b (dk DX12_readLine_1 9 rfl) rfl hl (by decide) rfl (fun ls hl => ?_)
            replace hl : lv_has ls 5 [(0, .ref (q 53)), (1, .long v50), (3, .int b3)] := lv_sub hl [1, 0, 2] rfl
            obtain ⟨v52, e53⟩ : ∃ y : Int32, y = b3 + 1 := ⟨_, rfl⟩
            replace hF := bnd_e hF e53
            refine lv_iinc (v := v52) (lv' := [(3, .int v52), (0, .ref (q 53)), (1, .long v50)]) X.x X.b (dk DX12_readLine_1 10 rfl) hl (k := 2) rfl (by rw [e53]; rfl) (by decide) rfl (fun ls hl => ?_)
            replace hl : lv_has ls 5 [(0, .ref (q 53)), (1, .long v50), (3, .int v52)] := lv_sub hl [1, 2, 0] rfl
            refine lv_goto (tgt := 44) X.x X.b (dk DX12_readLine_1 11 rfl) (by decide) ?_
            exact (lp_l hF hx) _ _ _ hH (lv_sub hl [0, 1, 2] rfl) K0
          · replace hF := if_f hF c42
            refine lv_aload_n X.x X.b (dk DX12_readLine_0 54 rfl) rfl (lv_at hl 0 rfl) ?_
            refine lv_iconst (v := 3) X.x X.b (dk DX12_readLine_0 55 rfl) (by decide) ?_
            obtain ⟨x54, e55, hF⟩ := bd hF
            refine mr_cv0 hH ⟨rfl, rfl⟩ (mr_runV (As := [.int 3]) (rest := []) X hH (c_X12_blames hq e55) ((oset_at hq (Nat.le_refl _) ohas_N).trans (congrArg some ocell_N)) OX12.1 kM_X12_167 kI_X12_blames kS_X12_blames kN_X12 kC_X12_blames hd_X12_blames ⟨Nat.le_of_ble_eq_true rfl, Nat.le_of_ble_eq_true rfl⟩ rfl hl.1 (Nat.le_of_ble_eq_true rfl) (dk DX12_readLine_0 56 rfl) ⟨Nat.zero_le _, Nat.zero_le _⟩) (fun h1 H locs hp hH => ?_)
            rw [hp] at hH; clear hp
            refine lv_aload_n X.x X.b (dk DX12_readLine_0 57 rfl) rfl (lv_at hl 0 rfl) ?_
            refine lv_iconst (v := 0) X.x X.b (dk DX12_readLine_0 58 rfl) (by decide) ?_
            refine lv_aload_n X.x X.b (dk DX12_readLine_0 59 rfl) rfl (lv_at hl 0 rfl) ?_
            refine og_getI OX12 X hq hH 15 (by decide) rfl kF_X12_189 (dk DX12_readLine_1 0 rfl) ?_
            refine lv_iconst (v := 1) X.x X.b (dk DX12_readLine_1 1 rfl) (by decide) ?_
            refine lv_isub X.x X.b (dk DX12_readLine_1 2 rfl) ?_
            obtain ⟨x57, e58, hF⟩ := bd hF
            refine mr_ci0 hH ⟨rfl, rfl⟩ (mr_runV (As := [.int 0, .int ((x54.1 15) - 1)]) (rest := []) X hH (c_X12_number hq e58) ((oset_at hq (Nat.le_refl _) ohas_N).trans (congrArg some ocell_N)) OX12.1 kM_X12_214 kI_X12_number kS_X12_number kN_X12 kC_X12_number hd_X12_number ⟨Nat.le_of_ble_eq_true rfl, Nat.le_of_ble_eq_true rfl⟩ rfl hl.1 (Nat.le_of_ble_eq_true rfl) (dk DX12_readLine_1 3 rfl) ⟨Nat.zero_le _, Nat.zero_le _⟩) (fun r h1 H locs hp hH => ?_)
            obtain ⟨hr1, hr2⟩ := hp; rw [hr1]; rw [hr2] at hH; clear hr1 hr2
            obtain ⟨v59, t60⟩ := x57
            try dsimp only at hF hH ⊢
            refine lv_istore (lv' := [(4, .int v59), (0, .ref (q 53)), (1, .long b1), (3, .int b3)]) X.x X.b (dk DX12_readLine_1 4 rfl) hl (by decide) rfl (fun ls hl => ?_)
            replace hl : lv_has ls 5 [(0, .ref (q 53)), (1, .long b1), (3, .int b3), (4, .int v59)] := lv_sub hl [1, 2, 3, 0] rfl
            refine lv_lload_n X.x X.b (dk DX12_readLine_1 5 rfl) rfl (lv_at hl 1 rfl) ?_
            refine lv_iload X.x X.b (dk DX12_readLine_1 6 rfl) (lv_at hl 3 rfl) ?_
            obtain ⟨x61, e62, hF⟩ := bd hF
            refine mr_cl0 hH ⟨rfl, rfl⟩ (mr_runS (As := [.int v59]) (rest := [.long b1]) X hH (c_X12_bit e62) kM_X12_111 kT_X12_bit kN_X12 kC_X12_bit hd_X12_bit ⟨Nat.le_of_ble_eq_true rfl, Nat.le_of_ble_eq_true rfl⟩ rfl hl.1 (Nat.le_of_ble_eq_true rfl) (dk DX12_readLine_1 7 rfl) ⟨Nat.zero_le _, Nat.zero_le _⟩) (fun r h1 H locs hp hH => ?_)
            obtain ⟨hr1, hr2⟩ := hp; rw [hr1]; rw [hr2] at hH; clear hr1 hr2
            refine lv_lor X.x X.b (dk DX12_readLine_1 8 rfl) ?_
            refine lv_topl (fun v64 e65 => ?_)
            replace hF := bnd_e hF e65
            refine lv_lstore_n (lv' := [(1, .long v64), (0, .ref (q 53)), (3, .int b3), (4, .int v59)]) X.x X.b (dk DX12_readLine_1 9 rfl) rfl hl (by decide) rfl (fun ls hl => ?_)
            replace hl : lv_has ls 5 [(0, .ref (q 53)), (1, .long v64), (3, .int b3)] := lv_sub hl [1, 0, 2] rfl
            obtain ⟨v66, e67⟩ : ∃ y : Int32, y = b3 + 1 := ⟨_, rfl⟩
            replace hF := bnd_e hF e67
            refine lv_iinc (v := v66) (lv' := [(3, .int v66), (0, .ref (q 53)), (1, .long v64)]) X.x X.b (dk DX12_readLine_1 10 rfl) hl (k := 2) rfl (by rw [e67]; rfl) (by decide) rfl (fun ls hl => ?_)
            replace hl : lv_has ls 5 [(0, .ref (q 53)), (1, .long v64), (3, .int v66)] := lv_sub hl [1, 2, 0] rfl
            refine lv_goto (tgt := 44) X.x X.b (dk DX12_readLine_1 11 rfl) (by decide) ?_
            exact (lp_l hF hx) _ _ _ hH (lv_sub hl [0, 1, 2] rfl) K0
    · replace hF := if_f hF c11
      refine lv_aload_n X.x X.b (dk DX12_readLine_0 30 rfl) rfl (lv_at hl 0 rfl) ?_
      refine og_getI OX12 X hq hH 9 (by decide) rfl kF_X12_127 (dk DX12_readLine_0 31 rfl) ?_
      refine lv_iconst (v := 2) X.x X.b (dk DX12_readLine_0 32 rfl) (by decide) ?_
      refine lv_icmp_ne (tgt := 134) X.x X.b (dk DX12_readLine_0 33 rfl) (by decide) (fun c68 => ?_) (fun c68 => ?_)
      · replace hF := if_f hF c68
        have hr9 := lp_r hF hx
        subst hr9
        exact K0 _ _ _ hH (lv_sub hl [0, 1] rfl)
      · replace hF := if_t hF c68
        refine lv_aload_n X.x X.b (dk DX12_readLine_0 34 rfl) rfl (lv_at hl 0 rfl) ?_
        refine og_getI OX12 X hq hH 9 (by decide) rfl kF_X12_127 (dk DX12_readLine_0 35 rfl) ?_
        refine lv_iconst (v := 2) X.x X.b (dk DX12_readLine_0 36 rfl) (by decide) ?_
        refine lv_icmp_ne (tgt := 107) X.x X.b (dk DX12_readLine_0 37 rfl) (by decide) (fun c69 => ?_) (fun c69 => ?_)
        · replace hF := if_f hF c69
          refine lv_aload_n X.x X.b (dk DX12_readLine_0 57 rfl) rfl (lv_at hl 0 rfl) ?_
          refine lv_iconst (v := 0) X.x X.b (dk DX12_readLine_0 58 rfl) (by decide) ?_
          refine lv_aload_n X.x X.b (dk DX12_readLine_0 59 rfl) rfl (lv_at hl 0 rfl) ?_
          refine og_getI OX12 X hq hH 15 (by decide) rfl kF_X12_189 (dk DX12_readLine_1 0 rfl) ?_
          refine lv_iconst (v := 1) X.x X.b (dk DX12_readLine_1 1 rfl) (by decide) ?_
          refine lv_isub X.x X.b (dk DX12_readLine_1 2 rfl) ?_
          obtain ⟨x70, e71, hF⟩ := bd hF
          refine mr_ci0 hH ⟨rfl, rfl⟩ (mr_runV (As := [.int 0, .int ((s_t.1 15) - 1)]) (rest := []) X hH (c_X12_number hq e71) ((oset_at hq (Nat.le_refl _) ohas_N).trans (congrArg some ocell_N)) OX12.1 kM_X12_214 kI_X12_number kS_X12_number kN_X12 kC_X12_number hd_X12_number ⟨Nat.le_of_ble_eq_true rfl, Nat.le_of_ble_eq_true rfl⟩ rfl hl.1 (Nat.le_of_ble_eq_true rfl) (dk DX12_readLine_1 3 rfl) ⟨Nat.zero_le _, Nat.zero_le _⟩) (fun r h1 H locs hp hH => ?_)
          obtain ⟨hr1, hr2⟩ := hp; rw [hr1]; rw [hr2] at hH; clear hr1 hr2
          obtain ⟨v72, t73⟩ := x70
          try dsimp only at hF hH ⊢
          refine lv_istore (lv' := [(4, .int v72), (0, .ref (q 53)), (1, .long b1), (3, .int b3)]) X.x X.b (dk DX12_readLine_1 4 rfl) hl (by decide) rfl (fun ls hl => ?_)
          replace hl : lv_has ls 5 [(0, .ref (q 53)), (1, .long b1), (3, .int b3), (4, .int v72)] := lv_sub hl [1, 2, 3, 0] rfl
          refine lv_lload_n X.x X.b (dk DX12_readLine_1 5 rfl) rfl (lv_at hl 1 rfl) ?_
          refine lv_iload X.x X.b (dk DX12_readLine_1 6 rfl) (lv_at hl 3 rfl) ?_
          obtain ⟨x74, e75, hF⟩ := bd hF
          refine mr_cl0 hH ⟨rfl, rfl⟩ (mr_runS (As := [.int v72]) (rest := [.long b1]) X hH (c_X12_bit e75) kM_X12_111 kT_X12_bit kN_X12 kC_X12_bit hd_X12_bit ⟨Nat.le_of_ble_eq_true rfl, Nat.le_of_ble_eq_true rfl⟩ rfl hl.1 (Nat.le_of_ble_eq_true rfl) (dk DX12_readLine_1 7 rfl) ⟨Nat.zero_le _, Nat.zero_le _⟩) (fun r h1 H locs hp hH => ?_)
          obtain ⟨hr1, hr2⟩ := hp; rw [hr1]; rw [hr2] at hH; clear hr1 hr2
          refine lv_lor X.x X.b (dk DX12_readLine_1 8 rfl) ?_
          refine lv_topl (fun v77 e78 => ?_)
          replace hF := bnd_e hF e78
          refine lv_lstore_n (lv' := [(1, .long v77), (0, .ref (q 53)), (3, .int b3), (4, .int v72)]) X.x X.b (dk DX12_readLine_1 9 rfl) rfl hl (by decide) rfl (fun ls hl => ?_)
          replace hl : lv_has ls 5 [(0, .ref (q 53)), (1, .long v77), (3, .int b3)] := lv_sub hl [1, 0, 2] rfl
          obtain ⟨v79, e80⟩ : ∃ y : Int32, y = b3 + 1 := ⟨_, rfl⟩
          replace hF := bnd_e hF e80
          refine lv_iinc (v := v79) (lv' := [(3, .int v79), (0, .ref (q 53)), (1, .long v77)]) X.x X.b (dk DX12_readLine_1 10 rfl) hl (k := 2) rfl (by rw [e80]; rfl) (by decide) rfl (fun ls hl => ?_)
          replace hl : lv_has ls 5 [(0, .ref (q 53)), (1, .long v77), (3, .int v79)] := lv_sub hl [1, 2, 0] rfl
          refine lv_goto (tgt := 44) X.x X.b (dk DX12_readLine_1 11 rfl) (by decide) ?_
          exact (lp_l hF hx) _ _ _ hH (lv_sub hl [0, 1, 2] rfl) K0
        · replace hF := if_t hF c69
          refine lv_aload_n X.x X.b (dk DX12_readLine_0 38 rfl) rfl (lv_at hl 0 rfl) ?_
          refine og_getI OX12 X hq hH 10 (by decide) rfl kF_X12_141 (dk DX12_readLine_0 39 rfl) ?_
          refine lv_i2l X.x X.b (dk DX12_readLine_0 40 rfl) rfl ?_
          refine lv_lconst (v := 0) X.x X.b (dk DX12_readLine_0 41 rfl) (by decide) ?_
          refine lv_aload_n X.x X.b (dk DX12_readLine_0 42 rfl) rfl (lv_at hl 0 rfl) ?_
          refine og_getI OX12 X hq hH 15 (by decide) rfl kF_X12_189 (dk DX12_readLine_0 43 rfl) ?_
          refine lv_iconst (v := 1) X.x X.b (dk DX12_readLine_0 44 rfl) (by decide) ?_
          refine lv_isub X.x X.b (dk DX12_readLine_0 45 rfl) ?_
          refine lv_i2l X.x X.b (dk DX12_readLine_0 46 rfl) rfl ?_
          obtain ⟨x81, e82, hF⟩ := bd hF
          refine mr_ci0 hH ⟨rfl, rfl⟩ (mr_runS (As := [.long ((s_t.1 10 : Int32).toInt64), .long 0, .long (((s_t.1 15) - 1 : Int32).toInt64)]) (rest := []) X hH (c_X12_within e82) kM_X12_171 kT_X12_within kN_X12 kC_X12_within hd_X12_within ⟨Nat.le_of_ble_eq_true rfl, Nat.le_of_ble_eq_true rfl⟩ rfl hl.1 (Nat.le_of_ble_eq_true rfl) (dk DX12_readLine_0 47 rfl) ⟨Nat.zero_le _, Nat.zero_le _⟩) (fun r h1 H locs hp hH => ?_)
          obtain ⟨hr1, hr2⟩ := hp; rw [hr1]; rw [hr2] at hH; clear hr1 hr2
          refine lv_if_eq (tgt := 107) X.x X.b (dk DX12_readLine_0 48 rfl) (by decide) (fun c84 => ?_) (fun c84 => ?_)
          · replace hF := if_t hF c84
            refine lv_aload_n X.x X.b (dk DX12_readLine_0 57 rfl) rfl (lv_at hl 0 rfl) ?_
            refine lv_iconst (v := 0) X.x X.b (dk DX12_readLine_0 58 rfl) (by decide) ?_
            refine lv_aload_n X.x X.b (dk DX12_readLine_0 59 rfl) rfl (lv_at hl 0 rfl) ?_
            refine og_getI OX12 X hq hH 15 (by decide) rfl kF_X12_189 (dk DX12_readLine_1 0 rfl) ?_
            refine lv_iconst (v := 1) X.x X.b (dk DX12_readLine_1 1 rfl) (by decide) ?_
            refine lv_isub X.x X.b (dk DX12_readLine_1 2 rfl) ?_
            obtain ⟨x85, e86, hF⟩ := bd hF
            refine mr_ci0 hH ⟨rfl, rfl⟩ (mr_runV (As := [.int 0, .int ((s_t.1 15) - 1)]) (rest := []) X hH (c_X12_number hq e86) ((oset_at hq (Nat.le_refl _) ohas_N).trans (congrArg some ocell_N)) OX12.1 kM_X12_214 kI_X12_number kS_X12_number kN_X12 kC_X12_number hd_X12_number ⟨Nat.le_of_ble_eq_true rfl, Nat.le_of_ble_eq_true rfl⟩ rfl hl.1 (Nat.le_of_ble_eq_true rfl) (dk DX12_readLine_1 3 rfl) ⟨Nat.zero_le _, Nat.zero_le _⟩) (fun r h1 H locs hp hH => ?_)
            obtain ⟨hr1, hr2⟩ := hp; rw [hr1]; rw [hr2] at hH; clear hr1 hr2
            obtain ⟨v87, t88⟩ := x85
            try dsimp only at hF hH ⊢
            refine lv_istore (lv' := [(4, .int v87), (0, .ref (q 53)), (1, .long b1), (3, .int b3)]) X.x X.b (dk DX12_readLine_1 4 rfl) hl (by decide) rfl (fun ls hl => ?_)
            replace hl : lv_has ls 5 [(0, .ref (q 53)), (1, .long b1), (3, .int b3), (4, .int v87)] := lv_sub hl [1, 2, 3, 0] rfl
            refine lv_lload_n X.x X.b (dk DX12_readLine_1 5 rfl) rfl (lv_at hl 1 rfl) ?_
            refine lv_iload X.x X.b (dk DX12_readLine_1 6 rfl) (lv_at hl 3 rfl) ?_
            obtain ⟨x89, e90, hF⟩ := bd hF
            refine mr_cl0 hH ⟨rfl, rfl⟩ (mr_runS (As := [.int v87]) (rest := [.long b1]) X hH (c_X12_bit e90) kM_X12_111 kT_X12_bit kN_X12 kC_X12_bit hd_X12_bit ⟨Nat.le_of_ble_eq_true rfl, Nat.le_of_ble_eq_true rfl⟩ rfl hl.1 (Nat.le_of_ble_eq_true rfl) (dk DX12_readLine_1 7 rfl) ⟨Nat.zero_le _, Nat.zero_le _⟩) (fun r h1 H locs hp hH => ?_)
            obtain ⟨hr1, hr2⟩ := hp; rw [hr1]; rw [hr2] at hH; clear hr1 hr2
            refine lv_lor X.x X.b (dk DX12_readLine_1 8 rfl) ?_
            refine lv_topl (fun v92 e93 => ?_)
            replace hF := bnd_e hF e93
            refine lv_lstore_n (lv' := [(1, .long v92), (0, .ref (q 53)), (3, .int b3), (4, .int v87)]) X.x X.b (dk DX12_readLine_1 9 rfl) rfl hl (by decide) rfl (fun ls hl => ?_)
            replace hl : lv_has ls 5 [(0, .ref (q 53)), (1, .long v92), (3, .int b3)] := lv_sub hl [1, 0, 2] rfl
            obtain ⟨v94, e95⟩ : ∃ y : Int32, y = b3 + 1 := ⟨_, rfl⟩
            replace hF := bnd_e hF e95
            refine lv_iinc (v := v94) (lv' := [(3, .int v94), (0, .ref (q 53)), (1, .long v92)]) X.x X.b (dk DX12_readLine_1 10 rfl) hl (k := 2) rfl (by rw [e95]; rfl) (by decide) rfl (fun ls hl => ?_)
            replace hl : lv_has ls 5 [(0, .ref (q 53)), (1, .long v92), (3, .int v94)] := lv_sub hl [1, 2, 0] rfl
            refine lv_goto (tgt := 44) X.x X.b (dk DX12_readLine_1 11 rfl) (by decide) ?_
            exact (lp_l hF hx) _ _ _ hH (lv_sub hl [0, 1, 2] rfl) K0
          · replace hF := if_f hF c84
            refine lv_lload_n X.x X.b (dk DX12_readLine_0 49 rfl) rfl (lv_at hl 1 rfl) ?_
            refine lv_aload_n X.x X.b (dk DX12_readLine_0 50 rfl) rfl (lv_at hl 0 rfl) ?_
            refine og_getI OX12 X hq hH 10 (by decide) rfl kF_X12_141 (dk DX12_readLine_0 51 rfl) ?_
            obtain ⟨x96, e97, hF⟩ := bd hF
            refine mr_ci0 hH ⟨rfl, rfl⟩ (mr_runS (As := [.long b1, .int (s_t.1 10)]) (rest := []) X hH (c_X12_has e97) kM_X12_232 kT_X12_has kN_X12 kC_X12_has hd_X12_has ⟨Nat.le_of_ble_eq_true rfl, Nat.le_of_ble_eq_true rfl⟩ rfl hl.1 (Nat.le_of_ble_eq_true rfl) (dk DX12_readLine_0 52 rfl) ⟨Nat.zero_le _, Nat.zero_le _⟩) (fun r h1 H locs hp hH => ?_)
            obtain ⟨hr1, hr2⟩ := hp; rw [hr1]; rw [hr2] at hH; clear hr1 hr2
            refine lv_if_eq (tgt := 107) X.x X.b (dk DX12_readLine_0 53 rfl) (by decide) (fun c99 => ?_) (fun c99 => ?_)
            · replace hF := if_t hF c99
              refine lv_aload_n X.x X.b (dk DX12_readLine_0 57 rfl) rfl (lv_at hl 0 rfl) ?_
              refine lv_iconst (v := 0) X.x X.b (dk DX12_readLine_0 58 rfl) (by decide) ?_
              refine lv_aload_n X.x X.b (dk DX12_readLine_0 59 rfl) rfl (lv_at hl 0 rfl) ?_
              refine og_getI OX12 X hq hH 15 (by decide) rfl kF_X12_189 (dk DX12_readLine_1 0 rfl) ?_
              refine lv_iconst (v := 1) X.x X.b (dk DX12_readLine_1 1 rfl) (by decide) ?_
              refine lv_isub X.x X.b (dk DX12_readLine_1 2 rfl) ?_
              obtain ⟨x100, e101, hF⟩ := bd hF
              refine mr_ci0 hH ⟨rfl, rfl⟩ (mr_runV (As := [.int 0, .int ((s_t.1 15) - 1)]) (rest := []) X hH (c_X12_number hq e101) ((oset_at hq (Nat.le_refl _) ohas_N).trans (congrArg some ocell_N)) OX12.1 kM_X12_214 kI_X12_number kS_X12_number kN_X12 kC_X12_number hd_X12_number ⟨Nat.le_of_ble_eq_true rfl, Nat.le_of_ble_eq_true rfl⟩ rfl hl.1 (Nat.le_of_ble_eq_true rfl) (dk DX12_readLine_1 3 rfl) ⟨Nat.zero_le _, Nat.zero_le _⟩) (fun r h1 H locs hp hH => ?_)
              obtain ⟨hr1, hr2⟩ := hp; rw [hr1]; rw [hr2] at hH; clear hr1 hr2
              obtain ⟨v102, t103⟩ := x100
              try dsimp only at hF hH ⊢
              refine lv_istore (lv' := [(4, .int v102), (0, .ref (q 53)), (1, .long b1), (3, .int b3)]) X.x X.b (dk DX12_readLine_1 4 rfl) hl (by decide) rfl (fun ls hl => ?_)
              replace hl : lv_has ls 5 [(0, .ref (q 53)), (1, .long b1), (3, .int b3), (4, .int v102)] := lv_sub hl [1, 2, 3, 0] rfl
              refine lv_lload_n X.x X.b (dk DX12_readLine_1 5 rfl) rfl (lv_at hl 1 rfl) ?_
              refine lv_iload X.x X.b (dk DX12_readLine_1 6 rfl) (lv_at hl 3 rfl) ?_
              obtain ⟨x104, e105, hF⟩ := bd hF
              refine mr_cl0 hH ⟨rfl, rfl⟩ (mr_runS (As := [.int v102]) (rest := [.long b1]) X hH (c_X12_bit e105) kM_X12_111 kT_X12_bit kN_X12 kC_X12_bit hd_X12_bit ⟨Nat.le_of_ble_eq_true rfl, Nat.le_of_ble_eq_true rfl⟩ rfl hl.1 (Nat.le_of_ble_eq_true rfl) (dk DX12_readLine_1 7 rfl) ⟨Nat.zero_le _, Nat.zero_le _⟩) (fun r h1 H locs hp hH => ?_)
              obtain ⟨hr1, hr2⟩ := hp; rw [hr1]; rw [hr2] at hH; clear hr1 hr2
              refine lv_lor X.x X.b (dk DX12_readLine_1 8 rfl) ?_
              refine lv_topl (fun v107 e108 => ?_)
              replace hF := bnd_e hF e108
              refine lv_lstore_n (lv' := [(1, .long v107), (0, .ref (q 53)), (3, .int b3), (4, .int v102)]) X.x X.b (dk DX12_readLine_1 9 rfl) rfl hl (by decide) rfl (fun ls hl => ?_)
              replace hl : lv_has ls 5 [(0, .ref (q 53)), (1, .long v107), (3, .int b3)] := lv_sub hl [1, 0, 2] rfl
              obtain ⟨v109, e110⟩ : ∃ y : Int32, y = b3 + 1 := ⟨_, rfl⟩
              replace hF := bnd_e hF e110
              refine lv_iinc (v := v109) (lv' := [(3, .int v109), (0, .ref (q 53)), (1, .long v107)]) X.x X.b (dk DX12_readLine_1 10 rfl) hl (k := 2) rfl (by rw [e110]; rfl) (by decide) rfl (fun ls hl => ?_)
              replace hl : lv_has ls 5 [(0, .ref (q 53)), (1, .long v107), (3, .int v109)] := lv_sub hl [1, 2, 0] rfl
              refine lv_goto (tgt := 44) X.x X.b (dk DX12_readLine_1 11 rfl) (by decide) ?_
              exact (lp_l hF hx) _ _ _ hH (lv_sub hl [0, 1, 2] rfl) K0
            · replace hF := if_f hF c99
              refine lv_aload_n X.x X.b (dk DX12_readLine_0 54 rfl) rfl (lv_at hl 0 rfl) ?_
              refine lv_iconst (v := 3) X.x X.b (dk DX12_readLine_0 55 rfl) (by decide) ?_
              obtain ⟨x111, e112, hF⟩ := bd hF
              refine mr_cv0 hH ⟨rfl, rfl⟩ (mr_runV (As := [.int 3]) (rest := []) X hH (c_X12_blames hq e112) ((oset_at hq (Nat.le_refl _) ohas_N).trans (congrArg some ocell_N)) OX12.1 kM_X12_167 kI_X12_blames kS_X12_blames kN_X12 kC_X12_blames hd_X12_blames ⟨Nat.le_of_ble_eq_true rfl, Nat.le_of_ble_eq_true rfl⟩ rfl hl.1 (Nat.le_of_ble_eq_true rfl) (dk DX12_readLine_0 56 rfl) ⟨Nat.zero_le _, Nat.zero_le _⟩) (fun h1 H locs hp hH => ?_)
              rw [hp] at hH; clear hp
              refine lv_aload_n X.x X.b (dk DX12_readLine_0 57 rfl) rfl (lv_at hl 0 rfl) ?_
              refine lv_iconst (v := 0) X.x X.b (dk DX12_readLine_0 58 rfl) (by decide) ?_
              refine lv_aload_n X.x X.b (dk DX12_readLine_0 59 rfl) rfl (lv_at hl 0 rfl) ?_
              refine og_getI OX12 X hq hH 15 (by decide) rfl kF_X12_189 (dk DX12_readLine_1 0 rfl) ?_
              refine lv_iconst (v := 1) X.x X.b (dk DX12_readLine_1 1 rfl) (by decide) ?_
              refine lv_isub X.x X.b (dk DX12_readLine_1 2 rfl) ?_
              obtain ⟨x114, e115, hF⟩ := bd hF
              refine mr_ci0 hH ⟨rfl, rfl⟩ (mr_runV (As := [.int 0, .int ((x111.1 15) - 1)]) (rest := []) X hH (c_X12_number hq e115) ((oset_at hq (Nat.le_refl _) ohas_N).trans (congrArg some ocell_N)) OX12.1 kM_X12_214 kI_X12_number kS_X12_number kN_X12 kC_X12_number hd_X12_number ⟨Nat.le_of_ble_eq_true rfl, Nat.le_of_ble_eq_true rfl⟩ rfl hl.1 (Nat.le_of_ble_eq_true rfl) (dk DX12_readLine_1 3 rfl) ⟨Nat.zero_le _, Nat.zero_le _⟩) (fun r h1 H locs hp hH => ?_)
              obtain ⟨hr1, hr2⟩ := hp; rw [hr1]; rw [hr2] at hH; clear hr1 hr2
              obtain ⟨v116, t117⟩ := x114
              try dsimp only at hF hH ⊢
              refine lv_istore (lv' := [(4, .int v116), (0, .ref (q 53)), (1, .long b1), (3, .int b3)]) X.x X.b (dk DX12_readLine_1 4 rfl) hl (by decide) rfl (fun ls hl => ?_)
              replace hl : lv_has ls 5 [(0, .ref (q 53)), (1, .long b1), (3, .int b3), (4, .int v116)] := lv_sub hl [1, 2, 3, 0] rfl
              refine lv_lload_n X.x X.b (dk DX12_readLine_1 5 rfl) rfl (lv_at hl 1 rfl) ?_
              refine lv_iload X.x X.b (dk DX12_readLine_1 6 rfl) (lv_at hl 3 rfl) ?_
              obtain ⟨x118, e119, hF⟩ := bd hF
              refine mr_cl0 hH ⟨rfl, rfl⟩ (mr_runS (As := [.int v116]) (rest := [.long b1]) X hH (c_X12_bit e119) kM_X12_111 kT_X12_bit kN_X12 kC_X12_bit hd_X12_bit ⟨Nat.le_of_ble_eq_true rfl, Nat.le_of_ble_eq_true rfl⟩ rfl hl.1 (Nat.le_of_ble_eq_true rfl) (dk DX12_readLine_1 7 rfl) ⟨Nat.zero_le _, Nat.zero_le _⟩) (fun r h1 H locs hp hH => ?_)
              obtain ⟨hr1, hr2⟩ := hp; rw [hr1]; rw [hr2] at hH; clear hr1 hr2
              refine lv_lor X.x X.b (dk DX12_readLine_1 8 rfl) ?_
              refine lv_topl (fun v121 e122 => ?_)
              replace hF := bnd_e hF e122
              refine lv_lstore_n (lv' := [(1, .long v121), (0, .ref (q 53)), (3, .int b3), (4, .int v116)]) X.x X.b (dk DX12_readLine_1 9 rfl) rfl hl (by decide) rfl (fun ls hl => ?_)
              replace hl : lv_has ls 5 [(0, .ref (q 53)), (1, .long v121), (3, .int b3)] := lv_sub hl [1, 0, 2] rfl
              obtain ⟨v123, e124⟩ : ∃ y : Int32, y = b3 + 1 := ⟨_, rfl⟩
              replace hF := bnd_e hF e124
              refine lv_iinc (v := v123) (lv' := [(3, .int v123), (0, .ref (q 53)), (1, .long v121)]) X.x X.b (dk DX12_readLine_1 10 rfl) hl (k := 2) rfl (by rw [e124]; rfl) (by decide) rfl (fun ls hl => ?_)
              replace hl : lv_has ls 5 [(0, .ref (q 53)), (1, .long v121), (3, .int v123)] := lv_sub hl [1, 2, 0] rfl
              refine lv_goto (tgt := 44) X.x X.b (dk DX12_readLine_1 11 rfl) (by decide) ?_
              exact (lp_l hF hx) _ _ _ hH (lv_sub hl [0, 1, 2] rfl) K0
set_option maxHeartbeats 4000000 in
set_option maxRecDepth 100000 in
theorem c_X12_readLine {l : Launch} {G : mG} {h : mM} {q : Nat → Nat} (hq : oinj LX12 q) {st : OS} {x : OS} (hF : f_X12_readLine st = some x) : cQ l G yX12_readLine cX12_readLine 5 none rm_X12_readLine [.ref (q 53)] (oset LX12 G q st h) (mQv G (fun h1 => h1 = oset LX12 G q x h)) := by
  refine mp_of (by decide +kernel) (Nat.le_of_ble_eq_true rfl) ?_
  intro p e s m below meth c X hr hlk hH hname ls hl
  dsimp only [f_X12_readLine] at hF
  replace hl : lv_has ls 5 [(0, .ref (q 53))] := hl
  refine lv_aload_n X.x X.b (dk DX12_readLine_0 0 rfl) rfl (lv_at hl 0 rfl) ?_
  refine mr_ldcS X 26 (by decide +kernel) rfl rfl (dk DX12_readLine_0 1 rfl) ?_
  obtain ⟨x1, e2, hF⟩ := bd hF
  refine mr_ci0 hH ⟨rfl, rfl⟩ (mr_runV (As := [.ref (sAd G 26)]) (rest := []) X hH (c_X12_isWord hq (by decide +kernel) e2) ((oset_at hq (Nat.le_refl _) ohas_N).trans (congrArg some ocell_N)) OX12.1 kM_X12_160 kI_X12_isWord kS_X12_isWord kN_X12 kC_X12_isWord hd_X12_isWord ⟨Nat.le_of_ble_eq_true rfl, Nat.le_of_ble_eq_true rfl⟩ rfl hl.1 (Nat.le_of_ble_eq_true rfl) (dk DX12_readLine_0 2 rfl) ⟨Nat.zero_le _, Nat.zero_le _⟩) (fun r h1 H locs hp hH => ?_)
  obtain ⟨hr1, hr2⟩ := hp; rw [hr1]; rw [hr2] at hH; clear hr1 hr2
  refine lv_if_ne (tgt := 14) X.x X.b (dk DX12_readLine_0 3 rfl) (by decide) (fun c4 => ?_) (fun c4 => ?_)
  · replace hF := if_f hF c4
    refine lv_aload_n X.x X.b (dk DX12_readLine_0 7 rfl) rfl (lv_at hl 0 rfl) ?_
    refine og_getI OX12 X hq hH 16 (by decide) rfl kF_X12_175 (dk DX12_readLine_0 8 rfl) ?_
    refine lv_bipush (v := 64) X.x X.b (dk DX12_readLine_0 9 rfl) (by decide) ?_
    refine lv_icmp_ne (tgt := 28) X.x X.b (dk DX12_readLine_0 10 rfl) (by decide) (fun c5 => ?_) (fun c5 => ?_)
    · replace hF := if_f hF c5
      refine lv_aload_n X.x X.b (dk DX12_readLine_0 14 rfl) rfl (lv_at hl 0 rfl) ?_
      refine og_getI OX12 X hq hH 11 (by decide) rfl kF_X12_144 (dk DX12_readLine_0 15 rfl) ?_
      refine lv_if_eq (tgt := 36) X.x X.b (dk DX12_readLine_0 16 rfl) (by decide) (fun c6 => ?_) (fun c6 => ?_)
      · replace hF := if_t hF c6
        refine lv_aload_n X.x X.b (dk DX12_readLine_0 18 rfl) rfl (lv_at hl 0 rfl) ?_
        obtain ⟨x7, e8, hF⟩ := bd hF
        refine mr_cv0 hH ⟨rfl, rfl⟩ (mr_runV (As := []) (rest := []) X hH (c_X12_reads hq e8) ((oset_at hq (Nat.le_refl _) ohas_N).trans (congrArg some ocell_N)) OX12.1 kM_X12_164 kI_X12_reads kS_X12_reads kN_X12 kC_X12_reads hd_X12_reads ⟨Nat.le_of_ble_eq_true rfl, Nat.le_of_ble_eq_true rfl⟩ rfl hl.1 (Nat.le_of_ble_eq_true rfl) (dk DX12_readLine_0 19 rfl) ⟨Nat.zero_le _, Nat.zero_le _⟩) (fun h1 H locs hp hH => ?_)
        rw [hp] at hH; clear hp
        refine lv_lconst (v := 0) X.x X.b (dk DX12_readLine_0 20 rfl) (by decide) ?_
        refine lv_lstore_n (lv' := [(1, .long 0), (0, .ref (q 53))]) X.x X.b (dk DX12_readLine_0 21 rfl) rfl hl (by decide) rfl (fun ls hl => ?_)
        replace hl : lv_has ls 5 [(0, .ref (q 53)), (1, .long 0)] := lv_sub hl [1, 0] rfl
        refine lv_iconst (v := 0) X.x X.b (dk DX12_readLine_0 22 rfl) (by decide) ?_
        refine lv_istore_n (lv' := [(3, .int 0), (0, .ref (q 53)), (1, .long 0)]) X.x X.b (dk DX12_readLine_0 23 rfl) rfl hl (by decide) rfl (fun ls hl => ?_)
        replace hl : lv_has ls 5 [(0, .ref (q 53)), (1, .long 0), (3, .int 0)] := lv_sub hl [1, 2, 0] rfl
        obtain ⟨x125, e126, hF⟩ := bd hF
        replace hl : lv_has ls 5 [(0, .ref (q 53)), (1, .long 0), (3, .int 0)] := lv_sub hl [0, 1, 2] rfl
        obtain ⟨t127, v128⟩ := x125
        try dsimp only at hF
        refine w_X12_readLine_44 hq X _ _ e126 _ _ _ hH hl (fun H locs ls hH hl => ?_)
        try dsimp only at hH hl
        refine lv_aload_n X.x X.b (dk DX12_readLine_1 12 rfl) rfl (lv_at hl 0 rfl) ?_
        refine og_getI OX12 X hq hH 11 (by decide) rfl kF_X12_144 (dk DX12_readLine_1 13 rfl) ?_
        refine lv_if_ne (tgt := 146) X.x X.b (dk DX12_readLine_1 14 rfl) (by decide) (fun c129 => ?_) (fun c129 => ?_)
        · replace hF := if_f hF c129
          cases sm hF
          exact mr_vret X hr hlk hH rfl (dk DX12_readLine_1 18 rfl)
        · replace hF := if_t hF c129
          refine lv_aload_n X.x X.b (dk DX12_readLine_1 15 rfl) rfl (lv_at hl 0 rfl) ?_
          refine lv_lload_n X.x X.b (dk DX12_readLine_1 16 rfl) rfl (lv_at hl 1 rfl) ?_
          obtain ⟨x130, e131, hF⟩ := bd hF
          refine mr_cv0 hH ⟨rfl, rfl⟩ (mr_runV (As := [.long v128]) (rest := []) X hH (c_X12_puts hq e131) ((oset_at hq (Nat.le_refl _) ohas_N).trans (congrArg some ocell_N)) OX12.1 kM_X12_182 kI_X12_puts kS_X12_puts kN_X12 kC_X12_puts hd_X12_puts ⟨Nat.le_of_ble_eq_true rfl, Nat.le_of_ble_eq_true rfl⟩ rfl hl.1 (Nat.le_of_ble_eq_true rfl) (dk DX12_readLine_1 17 rfl) ⟨Nat.zero_le _, Nat.zero_le _⟩) (fun h1 H locs hp hH => ?_)
          rw [hp] at hH; clear hp
          cases sm hF
          exact mr_vret X hr hlk hH rfl (dk DX12_readLine_1 18 rfl)
      · replace hF := if_f hF c6
        cases sm hF
        exact mr_vret X hr hlk hH rfl (dk DX12_readLine_0 17 rfl)
    · replace hF := if_t hF c5
      refine lv_aload_n X.x X.b (dk DX12_readLine_0 11 rfl) rfl (lv_at hl 0 rfl) ?_
      refine lv_iconst (v := 4) X.x X.b (dk DX12_readLine_0 12 rfl) (by decide) ?_
      obtain ⟨x133, e134, hF⟩ := bd hF
      refine mr_cv0 hH ⟨rfl, rfl⟩ (mr_runV (As := [.int 4]) (rest := []) X hH (c_X12_blames hq e134) ((oset_at hq (Nat.le_refl _) ohas_N).trans (congrArg some ocell_N)) OX12.1 kM_X12_167 kI_X12_blames kS_X12_blames kN_X12 kC_X12_blames hd_X12_blames ⟨Nat.le_of_ble_eq_true rfl, Nat.le_of_ble_eq_true rfl⟩ rfl hl.1 (Nat.le_of_ble_eq_true rfl) (dk DX12_readLine_0 13 rfl) ⟨Nat.zero_le _, Nat.zero_le _⟩) (fun h1 H locs hp hH => ?_)
      rw [hp] at hH; clear hp
      refine lv_aload_n X.x X.b (dk DX12_readLine_0 14 rfl) rfl (lv_at hl 0 rfl) ?_
      refine og_getI OX12 X hq hH 11 (by decide) rfl kF_X12_144 (dk DX12_readLine_0 15 rfl) ?_
      refine lv_if_eq (tgt := 36) X.x X.b (dk DX12_readLine_0 16 rfl) (by decide) (fun c136 => ?_) (fun c136 => ?_)
      · replace hF := if_t hF c136
        refine lv_aload_n X.x X.b (dk DX12_readLine_0 18 rfl) rfl (lv_at hl 0 rfl) ?_
        obtain ⟨x137, e138, hF⟩ := bd hF
        refine mr_cv0 hH ⟨rfl, rfl⟩ (mr_runV (As := []) (rest := []) X hH (c_X12_reads hq e138) ((oset_at hq (Nat.le_refl _) ohas_N).trans (congrArg some ocell_N)) OX12.1 kM_X12_164 kI_X12_reads kS_X12_reads kN_X12 kC_X12_reads hd_X12_reads ⟨Nat.le_of_ble_eq_true rfl, Nat.le_of_ble_eq_true rfl⟩ rfl hl.1 (Nat.le_of_ble_eq_true rfl) (dk DX12_readLine_0 19 rfl) ⟨Nat.zero_le _, Nat.zero_le _⟩) (fun h1 H locs hp hH => ?_)
        rw [hp] at hH; clear hp
        refine lv_lconst (v := 0) X.x X.b (dk DX12_readLine_0 20 rfl) (by decide) ?_
        refine lv_lstore_n (lv' := [(1, .long 0), (0, .ref (q 53))]) X.x X.b (dk DX12_readLine_0 21 rfl) rfl hl (by decide) rfl (fun ls hl => ?_)
        replace hl : lv_has ls 5 [(0, .ref (q 53)), (1, .long 0)] := lv_sub hl [1, 0] rfl
        refine lv_iconst (v := 0) X.x X.b (dk DX12_readLine_0 22 rfl) (by decide) ?_
        refine lv_istore_n (lv' := [(3, .int 0), (0, .ref (q 53)), (1, .long 0)]) X.x X.b (dk DX12_readLine_0 23 rfl) rfl hl (by decide) rfl (fun ls hl => ?_)
        replace hl : lv_has ls 5 [(0, .ref (q 53)), (1, .long 0), (3, .int 0)] := lv_sub hl [1, 2, 0] rfl
        obtain ⟨x140, e141, hF⟩ := bd hF
        replace hl : lv_has ls 5 [(0, .ref (q 53)), (1, .long 0), (3, .int 0)] := lv_sub hl [0, 1, 2] rfl
        obtain ⟨t142, v143⟩ := x140
        try dsimp only at hF
        refine w_X12_readLine_44 hq X _ _ e141 _ _ _ hH hl (fun H locs ls hH hl => ?_)
        try dsimp only at hH hl
        refine lv_aload_n X.x X.b (dk DX12_readLine_1 12 rfl) rfl (lv_at hl 0 rfl) ?_
        refine og_getI OX12 X hq hH 11 (by decide) rfl kF_X12_144 (dk DX12_readLine_1 13 rfl) ?_
        refine lv_if_ne (tgt := 146) X.x X.b (dk DX12_readLine_1 14 rfl) (by decide) (fun c144 => ?_) (fun c144 => ?_)
        · replace hF := if_f hF c144
          cases sm hF
          exact mr_vret X hr hlk hH rfl (dk DX12_readLine_1 18 rfl)
        · replace hF := if_t hF c144
          refine lv_aload_n X.x X.b (dk DX12_readLine_1 15 rfl) rfl (lv_at hl 0 rfl) ?_
          refine lv_lload_n X.x X.b (dk DX12_readLine_1 16 rfl) rfl (lv_at hl 1 rfl) ?_
          obtain ⟨x145, e146, hF⟩ := bd hF
          refine mr_cv0 hH ⟨rfl, rfl⟩ (mr_runV (As := [.long v143]) (rest := []) X hH (c_X12_puts hq e146) ((oset_at hq (Nat.le_refl _) ohas_N).trans (congrArg some ocell_N)) OX12.1 kM_X12_182 kI_X12_puts kS_X12_puts kN_X12 kC_X12_puts hd_X12_puts ⟨Nat.le_of_ble_eq_true rfl, Nat.le_of_ble_eq_true rfl⟩ rfl hl.1 (Nat.le_of_ble_eq_true rfl) (dk DX12_readLine_1 17 rfl) ⟨Nat.zero_le _, Nat.zero_le _⟩) (fun h1 H locs hp hH => ?_)
          rw [hp] at hH; clear hp
          cases sm hF
          exact mr_vret X hr hlk hH rfl (dk DX12_readLine_1 18 rfl)
      · replace hF := if_f hF c136
        cases sm hF
        exact mr_vret X hr hlk hH rfl (dk DX12_readLine_0 17 rfl)
  · replace hF := if_t hF c4
    refine lv_aload_n X.x X.b (dk DX12_readLine_0 4 rfl) rfl (lv_at hl 0 rfl) ?_
    refine lv_iconst (v := 2) X.x X.b (dk DX12_readLine_0 5 rfl) (by decide) ?_
    obtain ⟨x148, e149, hF⟩ := bd hF
    refine mr_cv0 hH ⟨rfl, rfl⟩ (mr_runV (As := [.int 2]) (rest := []) X hH (c_X12_blames hq e149) ((oset_at hq (Nat.le_refl _) ohas_N).trans (congrArg some ocell_N)) OX12.1 kM_X12_167 kI_X12_blames kS_X12_blames kN_X12 kC_X12_blames hd_X12_blames ⟨Nat.le_of_ble_eq_true rfl, Nat.le_of_ble_eq_true rfl⟩ rfl hl.1 (Nat.le_of_ble_eq_true rfl) (dk DX12_readLine_0 6 rfl) ⟨Nat.zero_le _, Nat.zero_le _⟩) (fun h1 H locs hp hH => ?_)
    rw [hp] at hH; clear hp
    refine lv_aload_n X.x X.b (dk DX12_readLine_0 7 rfl) rfl (lv_at hl 0 rfl) ?_
    refine og_getI OX12 X hq hH 16 (by decide) rfl kF_X12_175 (dk DX12_readLine_0 8 rfl) ?_
    refine lv_bipush (v := 64) X.x X.b (dk DX12_readLine_0 9 rfl) (by decide) ?_
    refine lv_icmp_ne (tgt := 28) X.x X.b (dk DX12_readLine_0 10 rfl) (by decide) (fun c151 => ?_) (fun c151 => ?_)
    · replace hF := if_f hF c151
      refine lv_aload_n X.x X.b (dk DX12_readLine_0 14 rfl) rfl (lv_at hl 0 rfl) ?_
      refine og_getI OX12 X hq hH 11 (by decide) rfl kF_X12_144 (dk DX12_readLine_0 15 rfl) ?_
      refine lv_if_eq (tgt := 36) X.x X.b (dk DX12_readLine_0 16 rfl) (by decide) (fun c152 => ?_) (fun c152 => ?_)
      · replace hF := if_t hF c152
        refine lv_aload_n X.x X.b (dk DX12_readLine_0 18 rfl) rfl (lv_at hl 0 rfl) ?_
        obtain ⟨x153, e154, hF⟩ := bd hF
        refine mr_cv0 hH ⟨rfl, rfl⟩ (mr_runV (As := []) (rest := []) X hH (c_X12_reads hq e154) ((oset_at hq (Nat.le_refl _) ohas_N).trans (congrArg some ocell_N)) OX12.1 kM_X12_164 kI_X12_reads kS_X12_reads kN_X12 kC_X12_reads hd_X12_reads ⟨Nat.le_of_ble_eq_true rfl, Nat.le_of_ble_eq_true rfl⟩ rfl hl.1 (Nat.le_of_ble_eq_true rfl) (dk DX12_readLine_0 19 rfl) ⟨Nat.zero_le _, Nat.zero_le _⟩) (fun h1 H locs hp hH => ?_)
        rw [hp] at hH; clear hp
        refine lv_lconst (v := 0) X.x X.b (dk DX12_readLine_0 20 rfl) (by decide) ?_
        refine lv_lstore_n (lv' := [(1, .long 0), (0, .ref (q 53))]) X.x X.b (dk DX12_readLine_0 21 rfl) rfl hl (by decide) rfl (fun ls hl => ?_)
        replace hl : lv_has ls 5 [(0, .ref (q 53)), (1, .long 0)] := lv_sub hl [1, 0] rfl
        refine lv_iconst (v := 0) X.x X.b (dk DX12_readLine_0 22 rfl) (by decide) ?_
        refine lv_istore_n (lv' := [(3, .int 0), (0, .ref (q 53)), (1, .long 0)]) X.x X.b (dk DX12_readLine_0 23 rfl) rfl hl (by decide) rfl (fun ls hl => ?_)
        replace hl : lv_has ls 5 [(0, .ref (q 53)), (1, .long 0), (3, .int 0)] := lv_sub hl [1, 2, 0] rfl
        obtain ⟨x156, e157, hF⟩ := bd hF
        replace hl : lv_has ls 5 [(0, .ref (q 53)), (1, .long 0), (3, .int 0)] := lv_sub hl [0, 1, 2] rfl
        obtain ⟨t158, v159⟩ := x156
        try dsimp only at hF
        refine w_X12_readLine_44 hq X _ _ e157 _ _ _ hH hl (fun H locs ls hH hl => ?_)
        try dsimp only at hH hl
        refine lv_aload_n X.x X.b (dk DX12_readLine_1 12 rfl) rfl (lv_at hl 0 rfl) ?_
        refine og_getI OX12 X hq hH 11 (by decide) rfl kF_X12_144 (dk DX12_readLine_1 13 rfl) ?_
        refine lv_if_ne (tgt := 146) X.x X.b (dk DX12_readLine_1 14 rfl) (by decide) (fun c160 => ?_) (fun c160 => ?_)
        · replace hF := if_f hF c160
          cases sm hF
          exact mr_vret X hr hlk hH rfl (dk DX12_readLine_1 18 rfl)
        · replace hF := if_t hF c160
          refine lv_aload_n X.x X.b (dk DX12_readLine_1 15 rfl) rfl (lv_at hl 0 rfl) ?_
          refine lv_lload_n X.x X.b (dk DX12_readLine_1 16 rfl) rfl (lv_at hl 1 rfl) ?_
          obtain ⟨x161, e162, hF⟩ := bd hF
          refine mr_cv0 hH ⟨rfl, rfl⟩ (mr_runV (As := [.long v159]) (rest := []) X hH (c_X12_puts hq e162) ((oset_at hq (Nat.le_refl _) ohas_N).trans (congrArg some ocell_N)) OX12.1 kM_X12_182 kI_X12_puts kS_X12_puts kN_X12 kC_X12_puts hd_X12_puts ⟨Nat.le_of_ble_eq_true rfl, Nat.le_of_ble_eq_true rfl⟩ rfl hl.1 (Nat.le_of_ble_eq_true rfl) (dk DX12_readLine_1 17 rfl) ⟨Nat.zero_le _, Nat.zero_le _⟩) (fun h1 H locs hp hH => ?_)
          rw [hp] at hH; clear hp
          cases sm hF
          exact mr_vret X hr hlk hH rfl (dk DX12_readLine_1 18 rfl)
      · replace hF := if_f hF c152
        cases sm hF
        exact mr_vret X hr hlk hH rfl (dk DX12_readLine_0 17 rfl)
    · replace hF := if_t hF c151
      refine lv_aload_n X.x X.b (dk DX12_readLine_0 11 rfl) rfl (lv_at hl 0 rfl) ?_
      refine lv_iconst (v := 4) X.x X.b (dk DX12_readLine_0 12 rfl) (by decide) ?_
      obtain ⟨x164, e165, hF⟩ := bd hF
      refine mr_cv0 hH ⟨rfl, rfl⟩ (mr_runV (As := [.int 4]) (rest := []) X hH (c_X12_blames hq e165) ((oset_at hq (Nat.le_refl _) ohas_N).trans (congrArg some ocell_N)) OX12.1 kM_X12_167 kI_X12_blames kS_X12_blames kN_X12 kC_X12_blames hd_X12_blames ⟨Nat.le_of_ble_eq_true rfl, Nat.le_of_ble_eq_true rfl⟩ rfl hl.1 (Nat.le_of_ble_eq_true rfl) (dk DX12_readLine_0 13 rfl) ⟨Nat.zero_le _, Nat.zero_le _⟩) (fun h1 H locs hp hH => ?_)
      rw [hp] at hH; clear hp
      refine lv_aload_n X.x X.b (dk DX12_readLine_0 14 rfl) rfl (lv_at hl 0 rfl) ?_
      refine og_getI OX12 X hq hH 11 (by decide) rfl kF_X12_144 (dk DX12_readLine_0 15 rfl) ?_
      refine lv_if_eq (tgt := 36) X.x X.b (dk DX12_readLine_0 16 rfl) (by decide) (fun c167 => ?_) (fun c167 => ?_)
      · replace hF := if_t hF c167
        refine lv_aload_n X.x X.b (dk DX12_readLine_0 18 rfl) rfl (lv_at hl 0 rfl) ?_
        obtain ⟨x168, e169, hF⟩ := bd hF
        refine mr_cv0 hH ⟨rfl, rfl⟩ (mr_runV (As := []) (rest := []) X hH (c_X12_reads hq e169) ((oset_at hq (Nat.le_refl _) ohas_N).trans (congrArg some ocell_N)) OX12.1 kM_X12_164 kI_X12_reads kS_X12_reads kN_X12 kC_X12_reads hd_X12_reads ⟨Nat.le_of_ble_eq_true rfl, Nat.le_of_ble_eq_true rfl⟩ rfl hl.1 (Nat.le_of_ble_eq_true rfl) (dk DX12_readLine_0 19 rfl) ⟨Nat.zero_le _, Nat.zero_le _⟩) (fun h1 H locs hp hH => ?_)
        rw [hp] at hH; clear hp
        refine lv_lconst (v := 0) X.x X.b (dk DX12_readLine_0 20 rfl) (by decide) ?_
        refine lv_lstore_n (lv' := [(1, .long 0), (0, .ref (q 53))]) X.x X.b (dk DX12_readLine_0 21 rfl) rfl hl (by decide) rfl (fun ls hl => ?_)
        replace hl : lv_has ls 5 [(0, .ref (q 53)), (1, .long 0)] := lv_sub hl [1, 0] rfl
        refine lv_iconst (v := 0) X.x X.b (dk DX12_readLine_0 22 rfl) (by decide) ?_
        refine lv_istore_n (lv' := [(3, .int 0), (0, .ref (q 53)), (1, .long 0)]) X.x X.b (dk DX12_readLine_0 23 rfl) rfl hl (by decide) rfl (fun ls hl => ?_)
        replace hl : lv_has ls 5 [(0, .ref (q 53)), (1, .long 0), (3, .int 0)] := lv_sub hl [1, 2, 0] rfl
        obtain ⟨x171, e172, hF⟩ := bd hF
        replace hl : lv_has ls 5 [(0, .ref (q 53)), (1, .long 0), (3, .int 0)] := lv_sub hl [0, 1, 2] rfl
        obtain ⟨t173, v174⟩ := x171
        try dsimp only at hF
        refine w_X12_readLine_44 hq X _ _ e172 _ _ _ hH hl (fun H locs ls hH hl => ?_)
        try dsimp only at hH hl
        refine lv_aload_n X.x X.b (dk DX12_readLine_1 12 rfl) rfl (lv_at hl 0 rfl) ?_
        refine og_getI OX12 X hq hH 11 (by decide) rfl kF_X12_144 (dk DX12_readLine_1 13 rfl) ?_
        refine lv_if_ne (tgt := 146) X.x X.b (dk DX12_readLine_1 14 rfl) (by decide) (fun c175 => ?_) (fun c175 => ?_)
        · replace hF := if_f hF c175
          cases sm hF
          exact mr_vret X hr hlk hH rfl (dk DX12_readLine_1 18 rfl)
        · replace hF := if_t hF c175
          refine lv_aload_n X.x X.b (dk DX12_readLine_1 15 rfl) rfl (lv_at hl 0 rfl) ?_
          refine lv_lload_n X.x X.b (dk DX12_readLine_1 16 rfl) rfl (lv_at hl 1 rfl) ?_
          obtain ⟨x176, e177, hF⟩ := bd hF
          refine mr_cv0 hH ⟨rfl, rfl⟩ (mr_runV (As := [.long v174]) (rest := []) X hH (c_X12_puts hq e177) ((oset_at hq (Nat.le_refl _) ohas_N).trans (congrArg some ocell_N)) OX12.1 kM_X12_182 kI_X12_puts kS_X12_puts kN_X12 kC_X12_puts hd_X12_puts ⟨Nat.le_of_ble_eq_true rfl, Nat.le_of_ble_eq_true rfl⟩ rfl hl.1 (Nat.le_of_ble_eq_true rfl) (dk DX12_readLine_1 17 rfl) ⟨Nat.zero_le _, Nat.zero_le _⟩) (fun h1 H locs hp hH => ?_)
          rw [hp] at hH; clear hp
          cases sm hF
          exact mr_vret X hr hlk hH rfl (dk DX12_readLine_1 18 rfl)
      · replace hF := if_f hF c167
        cases sm hF
        exact mr_vret X hr hlk hH rfl (dk DX12_readLine_0 17 rfl)
-- X12_world
abbrev rm_X12_world : Room := { frames := 9, cells := 0, slots := 0, locals := 213 }
theorem hd_X12_world : mHd yX12_world 1 := ⟨by decide +kernel, by decide +kernel, by decide +kernel⟩
theorem DX12_world_0 : ∀ t ∈ ([(0, .aload_n 0, 1), (1, .iconst 0, 1), (2, .putfield 106, 3), (5, .iload_n 1, 1), (6, .i2l, 1), (7, .lconst 0, 1), (8, .aload_n 0, 1), (9, .getfield 115, 3), (12, .i2l, 1), (13, .invokestatic 171, 3), (16, .ifCond .ne 9, 3), (19, .aload_n 0, 1), (20, .iconst 1, 1), (21, .invokevirtual 236, 3), (24, .ireturn, 1), (25, .aload_n 0, 1), (26, .iload_n 1, 1), (27, .putfield 118, 3), (30, .aload_n 0, 1), (31, .iconst 0, 1), (32, .putfield 115, 3), (35, .aload_n 0, 1), (36, .iconst 0, 1), (37, .putfield 121, 3), (40, .aload_n 0, 1), (41, .iconst 0, 1), (42, .putfield 144, 3), (45, .aload_n 0, 1), (46, .iconst 0, 1), (47, .putfield 189, 3), (50, .aload_n 0, 1), (51, .iconst 0, 1), (52, .putfield 175, 3), (55, .aload_n 0, 1), (56, .invokevirtual 164, 3), (59, .iconst 0, 1), (60, .istore_n 2, 1), (61, .aload_n 0, 1), (62, .getfield 144, 3), (65, .ifCond .ne 55, 3), (68, .aload_n 0, 1), (69, .getfield 127, 3), (72, .ifCond .eq 48, 3), (75, .iload_n 2, 1), (76, .ifCond .ne 10, 3), (79, .aload_n 0, 1), (80, .invokevirtual 239, 3), (83, .goto 7, 3), (86, .aload_n 0, 1), (87, .invokevirtual 242, 3), (90, .aload_n 0, 1), (91, .getfield 127, 3), (94, .iconst 3, 1), (95, .if_icmp .eq 8, 3), (98, .aload_n 0, 1), (99, .iconst 2, 1), (100, .invokevirtual 167, 3), (103, .aload_n 0, 1), (104, .getfield 144, 3), (107, .ifCond .ne 7, 3)] : List (Nat × Instr × Nat)), decode cX12_world t.1 = .ok (t.2.1, t.2.2) := by decide +kernel
theorem DX12_world_1 : ∀ t ∈ ([(110, .aload_n 0, 1), (111, .invokevirtual 164, 3), (114, .iinc 2 1, 3), (117, .goto (-56), 3), (120, .aload_n 0, 1), (121, .aload_n 0, 1), (122, .getfield 144, 3), (125, .putfield 245, 3), (128, .aload_n 0, 1), (129, .aload_n 0, 1), (130, .getfield 144, 3), (133, .ifCond .ne 7, 3), (136, .iconst (-1), 1), (137, .goto 7, 3), (140, .aload_n 0, 1), (141, .getfield 147, 3), (144, .putfield 17, 3), (147, .aload_n 0, 1), (148, .getfield 144, 3), (151, .ifCond .eq 11, 3), (154, .bipush (-10), 2), (156, .aload_n 0, 1), (157, .getfield 144, 3), (160, .isub, 1), (161, .ireturn, 1), (162, .aload_n 0, 1), (163, .aload_n 0, 1), (164, .getfield 189, 3), (167, .putfield 248, 3), (170, .aload_n 0, 1), (171, .aload_n 0, 1), (172, .getfield 175, 3), (175, .putfield 250, 3), (178, .iconst 0, 1), (179, .istore_n 2, 1), (180, .iload_n 2, 1), (181, .aload_n 0, 1), (182, .getfield 250, 3), (185, .if_icmp .ge 21, 3), (188, .aload_n 0, 1), (189, .getfield 7, 3), (192, .iload_n 2, 1), (193, .aload_n 0, 1), (194, .getfield 21, 3), (197, .iload_n 2, 1), (198, .laload, 1), (199, .lastore, 1), (200, .iinc 2 1, 3), (203, .goto (-23), 3), (206, .aload_n 0, 1), (207, .iconst 0, 1), (208, .putfield 253, 3), (211, .aload_n 0, 1), (212, .iconst 0, 1), (213, .putfield 256, 3), (216, .aload_n 0, 1), (217, .getfield 250, 3), (220, .ireturn, 1)] : List (Nat × Instr × Nat)), decode cX12_world t.1 = .ok (t.2.1, t.2.2) := by decide +kernel
noncomputable def f_X12_world_61 : (OS × Int32) → Option ((OS × Int32) ⊕ (OS)) := fun z => match z with | (s_t, b2) => (if (s_t.1 11) = 0 then (if (s_t.1 9) = 0 then some (.inr s_t) else (if b2 = 0 then (f_X12_readFirst s_t).bind (fun x48 => (if (x48.1 9) = 3 then (if (x48.1 11) = 0 then (f_X12_reads x48).bind (fun x55 => bnd (b2 + 1 : Int32) (fun v58 => some (.inl ((x55, v58))))) else bnd (b2 + 1 : Int32) (fun v53 => some (.inl ((x48, v53))))) else (f_X12_blames x48 2).bind (fun x60 => (if (x60.1 11) = 0 then (f_X12_reads x60).bind (fun x66 => bnd (b2 + 1 : Int32) (fun v69 => some (.inl ((x66, v69))))) else bnd (b2 + 1 : Int32) (fun v64 => some (.inl ((x60, v64)))))))) else (f_X12_readLine s_t).bind (fun x25 => (if (x25.1 9) = 3 then (if (x25.1 11) = 0 then (f_X12_reads x25).bind (fun x32 => bnd (b2 + 1 : Int32) (fun v35 => some (.inl ((x32, v35))))) else bnd (b2 + 1 : Int32) (fun v30 => some (.inl ((x25, v30))))) else (f_X12_blames x25 2).bind (fun x37 => (if (x37.1 11) = 0 then (f_X12_reads x37).bind (fun x43 => bnd (b2 + 1 : Int32) (fun v46 => some (.inl ((x43, v46))))) else bnd (b2 + 1 : Int32) (fun v41 => some (.inl ((x37, v41)))))))))) else some (.inr s_t))
noncomputable def f_X12_world_180 : (OS × Int32) → Option ((OS × Int32) ⊕ (OS)) := fun z => match z with | (s_t, b2) => (if (s_t.1 1) ≤ b2 then some (.inr s_t) else if inb b2 64 = true then bnd (oB s_t 3 (vp_updL (s_t.2.2.2 3) (b2 : Int32).toNatClampNeg (s_t.2.2.2 17 (b2 : Int32).toNatClampNeg))) (fun t86 => bnd (b2 + 1 : Int32) (fun v88 => some (.inl ((t86, v88))))) else none)
noncomputable def f_X12_world (st : OS) (a0 : Int32) : Option (Int32 × OS) := bnd (oI st 2 0) (fun t1 => (f_X12_within ((a0 : Int32).toInt64) 0 ((t1.1 5 : Int32).toInt64)).bind (fun x3 => (if x3 = 0 then (f_X12_fails t1 1).bind (fun x111 => match x111 with | (v113, t114) => some ((v113, t114))) else bnd (oI t1 6 a0) (fun t7 => bnd (oI t7 5 0) (fun t9 => bnd (oI t9 7 0) (fun t11 => bnd (oI t11 11 0) (fun t13 => bnd (oI t13 15 0) (fun t15 => bnd (oI t15 16 0) (fun t17 => (f_X12_reads t17).bind (fun x19 => (lpv (f_X12_world_61) ((x19, 0))).bind (fun x71 => bnd (oI x71 13 (x71.1 11)) (fun t74 => (if (t74.1 11) = 0 then bnd (oI t74 14 ((-1))) (fun t97 => (if (t97.1 11) = 0 then bnd (oI t97 0 (t97.1 15)) (fun t100 => bnd (oI t100 1 (t100.1 16)) (fun t102 => (lpv (f_X12_world_180) ((t102, 0))).bind (fun x104 => bnd (oI x104 44 0) (fun t107 => bnd (oI t107 45 0) (fun t109 => some ((t109.1 1, t109))))))) else some (((-10 : Int32) - (t97.1 11), t97)))) else bnd (oI t74 14 (t74.1 12)) (fun t77 => (if (t77.1 11) = 0 then bnd (oI t77 0 (t77.1 15)) (fun t80 => bnd (oI t80 1 (t80.1 16)) (fun t82 => (lpv (f_X12_world_180) ((t82, 0))).bind (fun x90 => bnd (oI x90 44 0) (fun t93 => bnd (oI t93 45 0) (fun t95 => some ((t95.1 1, t95))))))) else some (((-10 : Int32) - (t77.1 11), t77)))))))))))))))))
set_option maxHeartbeats 4000000 in
set_option maxRecDepth 100000 in
theorem w_X12_world_61 {p : Program} {l : Launch} {e : Env} {s : State} {m : MethodId} {args : Array Value} {below : List Frame} {meth : Method} {c : Code} {Q : State → Prop} {G : mG} {h : mM} {q : Nat → Nat} (hq : oinj LX12 q) (X : mX G p m c cX12_world 3 s args RX12) : ∀ (z : OS × Int32) (r : OS), lpv (f_X12_world_61) z = some r → ∀ (H : Heap) (locs : List Loc) (ls : Array Slot), mH G (oset LX12 G q z.1 h) s.heap H locs → lv_has ls 3 [(0, .ref (q 53)), (2, .int z.2)] → (∀ (H : Heap) (locs : List Loc) (ls : Array Slot), mH G (oset LX12 G q r h) s.heap H locs → lv_has ls 3 [(0, .ref (q 53))] → W p l e rm_X12_world s m args below meth c H locs 0 0 Q (F0 m 120 ls [])) → W p l e rm_X12_world s m args below meth c H locs 0 0 Q (F0 m 61 ls []) := by
  refine lpv_rec ?_
  intro z r x hF hx H locs ls hH hl K0
  obtain ⟨s_t, b2⟩ := z
  dsimp only [f_X12_world_61] at hF
  try dsimp only at hH hl
  refine lv_aload_n X.x X.b (dk DX12_world_0 37 rfl) rfl (lv_at hl 0 rfl) ?_
  refine og_getI OX12 X hq hH 11 (by decide) rfl kF_X12_144 (dk DX12_world_0 38 rfl) ?_
  refine lv_if_ne (tgt := 120) X.x X.b (dk DX12_world_0 39 rfl) (by decide) (fun c22 => ?_) (fun c22 => ?_)
  · replace hF := if_f hF c22
    have hr9 := lp_r hF hx
    subst hr9
    exact K0 _ _ _ hH (lv_sub hl [0] rfl)
  · replace hF := if_t hF c22
    refine lv_aload_n X.x X.b (dk DX12_world_0 40 rfl) rfl (lv_at hl 0 rfl) ?_
    refine og_getI OX12 X hq hH 9 (by decide) rfl kF_X12_127 (dk DX12_world_0 41 rfl) ?_
    refine lv_if_eq (tgt := 120) X.x X.b (dk DX12_world_0 42 rfl) (by decide) (fun c23 => ?_) (fun c23 => ?_)
    · replace hF := if_t hF c23
      have hr9 := lp_r hF hx
      subst hr9
      exact K0 _ _ _ hH (lv_sub hl [0] rfl)
    · replace hF := if_f hF c23
      refine lv_iload_n X.x X.b (dk DX12_world_0 43 rfl) rfl (lv_at hl 1 rfl) ?_
      refine lv_if_ne (tgt := 86) X.x X.b (dk DX12_world_0 44 rfl) (by decide) (fun c24 => ?_) (fun c24 => ?_)
      · replace hF := if_f hF c24
        refine lv_aload_n X.x X.b (dk DX12_world_0 48 rfl) rfl (lv_at hl 0 rfl) ?_
        obtain ⟨x25, e26, hF⟩ := bd hF
        refine mr_cv0 hH ⟨rfl, rfl⟩ (mr_runV (As := []) (rest := []) X hH (c_X12_readLine hq e26) ((oset_at hq (Nat.le_refl _) ohas_N).trans (congrArg some ocell_N)) OX12.1 kM_X12_242 kI_X12_readLine kS_X12_readLine kN_X12 kC_X12_readLine hd_X12_readLine ⟨Nat.le_of_ble_eq_true rfl, Nat.le_of_ble_eq_true rfl⟩ rfl hl.1 (Nat.le_of_ble_eq_true rfl) (dk DX12_world_0 49 rfl) ⟨Nat.zero_le _, Nat.zero_le _⟩) (fun h1 H locs hp hH => ?_)
        rw [hp] at hH; clear hp
        refine lv_aload_n X.x X.b (dk DX12_world_0 50 rfl) rfl (lv_at hl 0 rfl) ?_
        refine og_getI OX12 X hq hH 9 (by decide) rfl kF_X12_127 (dk DX12_world_0 51 rfl) ?_
        refine lv_iconst (v := 3) X.x X.b (dk DX12_world_0 52 rfl) (by decide) ?_
        refine lv_icmp_eq (tgt := 103) X.x X.b (dk DX12_world_0 53 rfl) (by decide) (fun c28 => ?_) (fun c28 => ?_)
        · replace hF := if_t hF c28
          refine lv_aload_n X.x X.b (dk DX12_world_0 57 rfl) rfl (lv_at hl 0 rfl) ?_
          refine og_getI OX12 X hq hH 11 (by decide) rfl kF_X12_144 (dk DX12_world_0 58 rfl) ?_
          refine lv_if_ne (tgt := 114) X.x X.b (dk DX12_world_0 59 rfl) (by decide) (fun c29 => ?_) (fun c29 => ?_)
          · replace hF := if_f hF c29
            obtain ⟨v30, e31⟩ : ∃ y : Int32, y = b2 + 1 := ⟨_, rfl⟩
            replace hF := bnd_e hF e31
            refine lv_iinc (v := v30) (lv' := [(2, .int v30), (0, .ref (q 53))]) X.x X.b (dk DX12_world_1 2 rfl) hl (k := 1) rfl (by rw [e31]; rfl) (by decide) rfl (fun ls hl => ?_)
            replace hl : lv_has ls 3 [(0, .ref (q 53)), (2, .int v30)] := lv_sub hl [1, 0] rfl
            refine lv_goto (tgt := 61) X.x X.b (dk DX12_world_1 3 rfl) (by decide) ?_
            exact (lp_l hF hx) _ _ _ hH (lv_sub hl [0, 1] rfl) K0
          · replace hF := if_t hF c29
            refine lv_aload_n X.x X.b (dk DX12_world_1 0 rfl) rfl (lv_at hl 0 rfl) ?_
            obtain ⟨x32, e33, hF⟩ := bd hF
            refine mr_cv0 hH ⟨rfl, rfl⟩ (mr_runV (As := []) (rest := []) X hH (c_X12_reads hq e33) ((oset_at hq (Nat.le_refl _) ohas_N).trans (congrArg some ocell_N)) OX12.1 kM_X12_164 kI_X12_reads kS_X12_reads kN_X12 kC_X12_reads hd_X12_reads ⟨Nat.le_of_ble_eq_true rfl, Nat.le_of_ble_eq_true rfl⟩ rfl hl.1 (Nat.le_of_ble_eq_true rfl) (dk DX12_world_1 1 rfl) ⟨Nat.zero_le _, Nat.zero_le _⟩) (fun h1 H locs hp hH => ?_)
            rw [hp] at hH; clear hp
            obtain ⟨v35, e36⟩ : ∃ y : Int32, y = b2 + 1 := ⟨_, rfl⟩
            replace hF := bnd_e hF e36
            refine lv_iinc (v := v35) (lv' := [(2, .int v35), (0, .ref (q 53))]) X.x X.b (dk DX12_world_1 2 rfl) hl (k := 1) rfl (by rw [e36]; rfl) (by decide) rfl (fun ls hl => ?_)
            replace hl : lv_has ls 3 [(0, .ref (q 53)), (2, .int v35)] := lv_sub hl [1, 0] rfl
            refine lv_goto (tgt := 61) X.x X.b (dk DX12_world_1 3 rfl) (by decide) ?_
            exact (lp_l hF hx) _ _ _ hH (lv_sub hl [0, 1] rfl) K0
        · replace hF := if_f hF c28
          refine lv_aload_n X.x X.b (dk DX12_world_0 54 rfl) rfl (lv_at hl 0 rfl) ?_
          refine lv_iconst (v := 2) X.x X.b (dk DX12_world_0 55 rfl) (by decide) ?_
          obtain ⟨x37, e38, hF⟩ := bd hF
          refine mr_cv0 hH ⟨rfl, rfl⟩ (mr_runV (As := [.int 2]) (rest := []) X hH (c_X12_blames hq e38) ((oset_at hq (Nat.le_refl _) ohas_N).trans (congrArg some ocell_N)) OX12.1 kM_X12_167 kI_X12_blames kS_X12_blames kN_X12 kC_X12_blames hd_X12_blames ⟨Nat.le_of_ble_eq_true rfl, Nat.le_of_ble_eq_true rfl⟩ rfl hl.1 (Nat.le_of_ble_eq_true rfl) (dk DX12_world_0 56 rfl) ⟨Nat.zero_le _, Nat.zero_le _⟩) (fun h1 H locs hp hH => ?_)
          rw [hp] at hH; clear hp
          refine lv_aload_n X.x X.b (dk DX12_world_0 57 rfl) rfl (lv_at hl 0 rfl) ?_
          refine og_getI OX12 X hq hH 11 (by decide) rfl kF_X12_144 (dk DX12_world_0 58 rfl) ?_
          refine lv_if_ne (tgt := 114) X.x X.b (dk DX12_world_0 59 rfl) (by decide) (fun c40 => ?_) (fun c40 => ?_)
          · replace hF := if_f hF c40
            obtain ⟨v41, e42⟩ : ∃ y : Int32, y = b2 + 1 := ⟨_, rfl⟩
            replace hF := bnd_e hF e42
            refine lv_iinc (v := v41) (lv' := [(2, .int v41), (0, .ref (q 53))]) X.x X.b (dk DX12_world_1 2 rfl) hl (k := 1) rfl (by rw [e42]; rfl) (by decide) rfl (fun ls hl => ?_)
            replace hl : lv_has ls 3 [(0, .ref (q 53)), (2, .int v41)] := lv_sub hl [1, 0] rfl
            refine lv_goto (tgt := 61) X.x X.b (dk DX12_world_1 3 rfl) (by decide) ?_
            exact (lp_l hF hx) _ _ _ hH (lv_sub hl [0, 1] rfl) K0
          · replace hF := if_t hF c40
            refine lv_aload_n X.x X.b (dk DX12_world_1 0 rfl) rfl (lv_at hl 0 rfl) ?_
            obtain ⟨x43, e44, hF⟩ := bd hF
            refine mr_cv0 hH ⟨rfl, rfl⟩ (mr_runV (As := []) (rest := []) X hH (c_X12_reads hq e44) ((oset_at hq (Nat.le_refl _) ohas_N).trans (congrArg some ocell_N)) OX12.1 kM_X12_164 kI_X12_reads kS_X12_reads kN_X12 kC_X12_reads hd_X12_reads ⟨Nat.le_of_ble_eq_true rfl, Nat.le_of_ble_eq_true rfl⟩ rfl hl.1 (Nat.le_of_ble_eq_true rfl) (dk DX12_world_1 1 rfl) ⟨Nat.zero_le _, Nat.zero_le _⟩) (fun h1 H locs hp hH => ?_)
            rw [hp] at hH; clear hp
            obtain ⟨v46, e47⟩ : ∃ y : Int32, y = b2 + 1 := ⟨_, rfl⟩
            replace hF := bnd_e hF e47
            refine lv_iinc (v := v46) (lv' := [(2, .int v46), (0, .ref (q 53))]) X.x X.b (dk DX12_world_1 2 rfl) hl (k := 1) rfl (by rw [e47]; rfl) (by decide) rfl (fun ls hl => ?_)
            replace hl : lv_has ls 3 [(0, .ref (q 53)), (2, .int v46)] := lv_sub hl [1, 0] rfl
            refine lv_goto (tgt := 61) X.x X.b (dk DX12_world_1 3 rfl) (by decide) ?_
            exact (lp_l hF hx) _ _ _ hH (lv_sub hl [0, 1] rfl) K0
      · replace hF := if_t hF c24
        refine lv_aload_n X.x X.b (dk DX12_world_0 45 rfl) rfl (lv_at hl 0 rfl) ?_
        obtain ⟨x48, e49, hF⟩ := bd hF
        refine mr_cv0 hH ⟨rfl, rfl⟩ (mr_runV (As := []) (rest := []) X hH (c_X12_readFirst hq e49) ((oset_at hq (Nat.le_refl _) ohas_N).trans (congrArg some ocell_N)) OX12.1 kM_X12_239 kI_X12_readFirst kS_X12_readFirst kN_X12 kC_X12_readFirst hd_X12_readFirst ⟨Nat.le_of_ble_eq_true rfl, Nat.le_of_ble_eq_true rfl⟩ rfl hl.1 (Nat.le_of_ble_eq_true rfl) (dk DX12_world_0 46 rfl) ⟨Nat.zero_le _, Nat.zero_le _⟩) (fun h1 H locs hp hH => ?_)
        rw [hp] at hH; clear hp
        refine lv_goto (tgt := 90) X.x X.b (dk DX12_world_0 47 rfl) (by decide) ?_
        refine lv_aload_n X.x X.b (dk DX12_world_0 50 rfl) rfl (lv_at hl 0 rfl) ?_
        refine og_getI OX12 X hq hH 9 (by decide) rfl kF_X12_127 (dk DX12_world_0 51 rfl) ?_
        refine lv_iconst (v := 3) X.x X.b (dk DX12_world_0 52 rfl) (by decide) ?_
        refine lv_icmp_eq (tgt := 103) X.x X.b (dk DX12_world_0 53 rfl) (by decide) (fun c51 => ?_) (fun c51 => ?_)
        · replace hF := if_t hF c51
          refine lv_aload_n X.x X.b (dk DX12_world_0 57 rfl) rfl (lv_at hl 0 rfl) ?_
          refine og_getI OX12 X hq hH 11 (by decide) rfl kF_X12_144 (dk DX12_world_0 58 rfl) ?_
          refine lv_if_ne (tgt := 114) X.x X.b (dk DX12_world_0 59 rfl) (by decide) (fun c52 => ?_) (fun c52 => ?_)
          · replace hF := if_f hF c52
            obtain ⟨v53, e54⟩ : ∃ y : Int32, y = b2 + 1 := ⟨_, rfl⟩
            replace hF := bnd_e hF e54
            refine lv_iinc (v := v53) (lv' := [(2, .int v53), (0, .ref (q 53))]) X.x X.b (dk DX12_world_1 2 rfl) hl (k := 1) rfl (by rw [e54]; rfl) (by decide) rfl (fun ls hl => ?_)
            replace hl : lv_has ls 3 [(0, .ref (q 53)), (2, .int v53)] := lv_sub hl [1, 0] rfl
            refine lv_goto (tgt := 61) X.x X.b (dk DX12_world_1 3 rfl) (by decide) ?_
            exact (lp_l hF hx) _ _ _ hH (lv_sub hl [0, 1] rfl) K0
          · replace hF := if_t hF c52
            refine lv_aload_n X.x X.b (dk DX12_world_1 0 rfl) rfl (lv_at hl 0 rfl) ?_
            obtain ⟨x55, e56, hF⟩ := bd hF
            refine mr_cv0 hH ⟨rfl, rfl⟩ (mr_runV (As := []) (rest := []) X hH (c_X12_reads hq e56) ((oset_at hq (Nat.le_refl _) ohas_N).trans (congrArg some ocell_N)) OX12.1 kM_X12_164 kI_X12_reads kS_X12_reads kN_X12 kC_X12_reads hd_X12_reads ⟨Nat.le_of_ble_eq_true rfl, Nat.le_of_ble_eq_true rfl⟩ rfl hl.1 (Nat.le_of_ble_eq_true rfl) (dk DX12_world_1 1 rfl) ⟨Nat.zero_le _, Nat.zero_le _⟩) (fun h1 H locs hp hH => ?_)
            rw [hp] at hH; clear hp
            obtain ⟨v58, e59⟩ : ∃ y : Int32, y = b2 + 1 := ⟨_, rfl⟩
            replace hF := bnd_e hF e59
            refine lv_iinc (v := v58) (lv' := [(2, .int v58), (0, .ref (q 53))]) X.x X.b (dk DX12_world_1 2 rfl) hl (k := 1) rfl (by rw [e59]; rfl) (by decide) rfl (fun ls hl => ?_)
            replace hl : lv_has ls 3 [(0, .ref (q 53)), (2, .int v58)] := lv_sub hl [1, 0] rfl
            refine lv_goto (tgt := 61) X.x X.b (dk DX12_world_1 3 rfl) (by decide) ?_
            exact (lp_l hF hx) _ _ _ hH (lv_sub hl [0, 1] rfl) K0
        · replace hF := if_f hF c51
          refine lv_aload_n X.x X.b (dk DX12_world_0 54 rfl) rfl (lv_at hl 0 rfl) ?_
          refine lv_iconst (v := 2) X.x X.b (dk DX12_world_0 55 rfl) (by decide) ?_
          obtain ⟨x60, e61, hF⟩ := bd hF
          refine mr_cv0 hH ⟨rfl, rfl⟩ (mr_runV (As := [.int 2]) (rest := []) X hH (c_X12_blames hq e61) ((oset_at hq (Nat.le_refl _) ohas_N).trans (congrArg some ocell_N)) OX12.1 kM_X12_167 kI_X12_blames kS_X12_blames kN_X12 kC_X12_blames hd_X12_blames ⟨Nat.le_of_ble_eq_true rfl, Nat.le_of_ble_eq_true rfl⟩ rfl hl.1 (Nat.le_of_ble_eq_true rfl) (dk DX12_world_0 56 rfl) ⟨Nat.zero_le _, Nat.zero_le _⟩) (fun h1 H locs hp hH => ?_)
          rw [hp] at hH; clear hp
          refine lv_aload_n X.x X.b (dk DX12_world_0 57 rfl) rfl (lv_at hl 0 rfl) ?_
          refine og_getI OX12 X hq hH 11 (by decide) rfl kF_X12_144 (dk DX12_world_0 58 rfl) ?_
          refine lv_if_ne (tgt := 114) X.x X.b (dk DX12_world_0 59 rfl) (by decide) (fun c63 => ?_) (fun c63 => ?_)
          · replace hF := if_f hF c63
            obtain ⟨v64, e65⟩ : ∃ y : Int32, y = b2 + 1 := ⟨_, rfl⟩
            replace hF := bnd_e hF e65
            refine lv_iinc (v := v64) (lv' := [(2, .int v64), (0, .ref (q 53))]) X.x X.b (dk DX12_world_1 2 rfl) hl (k := 1) rfl (by rw [e65]; rfl) (by decide) rfl (fun ls hl => ?_)
            replace hl : lv_has ls 3 [(0, .ref (q 53)), (2, .int v64)] := lv_sub hl [1, 0] rfl
            refine lv_goto (tgt := 61) X.x X.b (dk DX12_world_1 3 rfl) (by decide) ?_
            exact (lp_l hF hx) _ _ _ hH (lv_sub hl [0, 1] rfl) K0
          · replace hF := if_t hF c63
            refine lv_aload_n X.x X.b (dk DX12_world_1 0 rfl) rfl (lv_at hl 0 rfl) ?_
            obtain ⟨x66, e67, hF⟩ := bd hF
            refine mr_cv0 hH ⟨rfl, rfl⟩ (mr_runV (As := []) (rest := []) X hH (c_X12_reads hq e67) ((oset_at hq (Nat.le_refl _) ohas_N).trans (congrArg some ocell_N)) OX12.1 kM_X12_164 kI_X12_reads kS_X12_reads kN_X12 kC_X12_reads hd_X12_reads ⟨Nat.le_of_ble_eq_true rfl, Nat.le_of_ble_eq_true rfl⟩ rfl hl.1 (Nat.le_of_ble_eq_true rfl) (dk DX12_world_1 1 rfl) ⟨Nat.zero_le _, Nat.zero_le _⟩) (fun h1 H locs hp hH => ?_)
            rw [hp] at hH; clear hp
            obtain ⟨v69, e70⟩ : ∃ y : Int32, y = b2 + 1 := ⟨_, rfl⟩
            replace hF := bnd_e hF e70
            refine lv_iinc (v := v69) (lv' := [(2, .int v69), (0, .ref (q 53))]) X.x X.b (dk DX12_world_1 2 rfl) hl (k := 1) rfl (by rw [e70]; rfl) (by decide) rfl (fun ls hl => ?_)
            replace hl : lv_has ls 3 [(0, .ref (q 53)), (2, .int v69)] := lv_sub hl [1, 0] rfl
            refine lv_goto (tgt := 61) X.x X.b (dk DX12_world_1 3 rfl) (by decide) ?_
            exact (lp_l hF hx) _ _ _ hH (lv_sub hl [0, 1] rfl) K0
set_option maxHeartbeats 4000000 in
set_option maxRecDepth 100000 in
theorem w_X12_world_180 {p : Program} {l : Launch} {e : Env} {s : State} {m : MethodId} {args : Array Value} {below : List Frame} {meth : Method} {c : Code} {Q : State → Prop} {G : mG} {h : mM} {q : Nat → Nat} (hq : oinj LX12 q) (X : mX G p m c cX12_world 3 s args RX12) : ∀ (z : OS × Int32) (r : OS), lpv (f_X12_world_180) z = some r → ∀ (H : Heap) (locs : List Loc) (ls : Array Slot), mH G (oset LX12 G q z.1 h) s.heap H locs → lv_has ls 3 [(0, .ref (q 53)), (2, .int z.2)] → (∀ (H : Heap) (locs : List Loc) (ls : Array Slot), mH G (oset LX12 G q r h) s.heap H locs → lv_has ls 3 [(0, .ref (q 53))] → W p l e rm_X12_world s m args below meth c H locs 0 0 Q (F0 m 206 ls [])) → W p l e rm_X12_world s m args below meth c H locs 0 0 Q (F0 m 180 ls []) := by
  refine lpv_rec ?_
  intro z r x hF hx H locs ls hH hl K0
  obtain ⟨s_t, b2⟩ := z
  dsimp only [f_X12_world_180] at hF
  try dsimp only at hH hl
  refine lv_iload_n X.x X.b (dk DX12_world_1 35 rfl) rfl (lv_at hl 1 rfl) ?_
  refine lv_aload_n X.x X.b (dk DX12_world_1 36 rfl) rfl (lv_at hl 0 rfl) ?_
  refine og_getI OX12 X hq hH 1 (by decide) rfl kF_X12_250 (dk DX12_world_1 37 rfl) ?_
  refine lv_icmp_ge (tgt := 206) X.x X.b (dk DX12_world_1 38 rfl) (by decide) (fun c84 => ?_) (fun c84 => ?_)
  · replace hF := if_t hF c84
    have hr9 := lp_r hF hx
    subst hr9
    exact K0 _ _ _ hH (lv_sub hl [0] rfl)
  · replace hF := if_f hF c84
    refine lv_aload_n X.x X.b (dk DX12_world_1 39 rfl) rfl (lv_at hl 0 rfl) ?_
    refine og_getR (t := 1) OX12 X hq hH 3 (by decide) rfl kF_X12_7 (dk DX12_world_1 40 rfl) ?_
    refine lv_iload_n X.x X.b (dk DX12_world_1 41 rfl) rfl (lv_at hl 1 rfl) ?_
    refine lv_aload_n X.x X.b (dk DX12_world_1 42 rfl) rfl (lv_at hl 0 rfl) ?_
    refine og_getR (t := 1) OX12 X hq hH 17 (by decide) rfl kF_X12_21 (dk DX12_world_1 43 rfl) ?_
    refine lv_iload_n X.x X.b (dk DX12_world_1 44 rfl) rfl (lv_at hl 1 rfl) ?_
    obtain ⟨c85, hF⟩ := gd hF
    refine og_lald X hq hH 17 (by decide) rfl (inb_in c85) (dk DX12_world_1 45 rfl) ?_
    refine og_last X hq hH 3 (by decide) rfl (inb_in c85) (dk DX12_world_1 46 rfl) (fun H locs hH => ?_)
    obtain ⟨t86, e87⟩ : ∃ y, y = oB s_t 3 (vp_updL (s_t.2.2.2 3) (b2 : Int32).toNatClampNeg (s_t.2.2.2 17 (b2 : Int32).toNatClampNeg)) := ⟨_, rfl⟩
    rw [← e87] at hH
    replace hF := bnd_e hF e87
    obtain ⟨v88, e89⟩ : ∃ y : Int32, y = b2 + 1 := ⟨_, rfl⟩
    replace hF := bnd_e hF e89
    refine lv_iinc (v := v88) (lv' := [(2, .int v88), (0, .ref (q 53))]) X.x X.b (dk DX12_world_1 47 rfl) hl (k := 1) rfl (by rw [e89]; rfl) (by decide) rfl (fun ls hl => ?_)
    replace hl : lv_has ls 3 [(0, .ref (q 53)), (2, .int v88)] := lv_sub hl [1, 0] rfl
    refine lv_goto (tgt := 180) X.x X.b (dk DX12_world_1 48 rfl) (by decide) ?_
    exact (lp_l hF hx) _ _ _ hH (lv_sub hl [0, 1] rfl) K0
set_option maxHeartbeats 4000000 in
set_option maxRecDepth 100000 in
theorem c_X12_world {l : Launch} {G : mG} {h : mM} {q : Nat → Nat} (hq : oinj LX12 q) {st : OS} {a0 : Int32} {x : Int32 × OS} (hF : f_X12_world st a0 = some x) : cQ l G yX12_world cX12_world 3 (some FieldType.int) rm_X12_world [.ref (q 53), .int a0] (oset LX12 G q st h) (mQi G (fun r h1 => r = x.1 ∧ h1 = oset LX12 G q x.2 h)) := by
  refine mp_of (by decide +kernel) (Nat.le_of_ble_eq_true rfl) ?_
  intro p e s m below meth c X hr hlk hH hname ls hl
  dsimp only [f_X12_world] at hF
  replace hl : lv_has ls 3 [(0, .ref (q 53)), (1, .int a0)] := hl
  refine lv_aload_n X.x X.b (dk DX12_world_0 0 rfl) rfl (lv_at hl 0 rfl) ?_
  refine lv_iconst (v := 0) X.x X.b (dk DX12_world_0 1 rfl) (by decide) ?_
  refine og_putI OX12 X hq hH 2 (by decide) rfl kF_X12_106 rfl rfl rfl (dk DX12_world_0 2 rfl) (fun H locs hH => ?_)
  obtain ⟨t1, e2⟩ : ∃ y, y = oI st 2 0 := ⟨_, rfl⟩
  rw [← e2] at hH
  replace hF := bnd_e hF e2
  refine lv_iload_n X.x X.b (dk DX12_world_0 3 rfl) rfl (lv_at hl 1 rfl) ?_
  refine lv_i2l X.x X.b (dk DX12_world_0 4 rfl) rfl ?_
  refine lv_lconst (v := 0) X.x X.b (dk DX12_world_0 5 rfl) (by decide) ?_
  refine lv_aload_n X.x X.b (dk DX12_world_0 6 rfl) rfl (lv_at hl 0 rfl) ?_
  refine og_getI OX12 X hq hH 5 (by decide) rfl kF_X12_115 (dk DX12_world_0 7 rfl) ?_
  refine lv_i2l X.x X.b (dk DX12_world_0 8 rfl) rfl ?_
  obtain ⟨x3, e4, hF⟩ := bd hF
  refine mr_ci0 hH ⟨rfl, rfl⟩ (mr_runS (As := [.long ((a0 : Int32).toInt64), .long 0, .long ((t1.1 5 : Int32).toInt64)]) (rest := []) X hH (c_X12_within e4) kM_X12_171 kT_X12_within kN_X12 kC_X12_within hd_X12_within ⟨Nat.le_of_ble_eq_true rfl, Nat.le_of_ble_eq_true rfl⟩ rfl hl.1 (Nat.le_of_ble_eq_true rfl) (dk DX12_world_0 9 rfl) ⟨Nat.zero_le _, Nat.zero_le _⟩) (fun r h1 H locs hp hH => ?_)
  obtain ⟨hr1, hr2⟩ := hp; rw [hr1]; rw [hr2] at hH; clear hr1 hr2
  refine lv_if_ne (tgt := 25) X.x X.b (dk DX12_world_0 10 rfl) (by decide) (fun c6 => ?_) (fun c6 => ?_)
  · replace hF := if_f hF c6
    refine lv_aload_n X.x X.b (dk DX12_world_0 15 rfl) rfl (lv_at hl 0 rfl) ?_
    refine lv_iload_n X.x X.b (dk DX12_world_0 16 rfl) rfl (lv_at hl 1 rfl) ?_
    refine og_putI OX12 X hq hH 6 (by decide) rfl kF_X12_118 rfl rfl rfl (dk DX12_world_0 17 rfl) (fun H locs hH => ?_)
    obtain ⟨t7, e8⟩ : ∃ y, y = oI t1 6 a0 := ⟨_, rfl⟩
    rw [← e8] at hH
    replace hF := bnd_e hF e8
    refine lv_aload_n X.x X.b (dk DX12_world_0 18 rfl) rfl (lv_at hl 0 rfl) ?_
    refine lv_iconst (v := 0) X.x X.b (dk DX12_world_0 19 rfl) (by decide) ?_
    refine og_putI OX12 X hq hH 5 (by decide) rfl kF_X12_115 rfl rfl rfl (dk DX12_world_0 20 rfl) (fun H locs hH => ?_)
    obtain ⟨t9, e10⟩ : ∃ y, y = oI t7 5 0 := ⟨_, rfl⟩
    rw [← e10] at hH
    replace hF := bnd_e hF e10
    refine lv_aload_n X.x X.b (dk DX12_world_0 21 rfl) rfl (lv_at hl 0 rfl) ?_
    refine lv_iconst (v := 0) X.x X.b (dk DX12_world_0 22 rfl) (by decide) ?_
    refine og_putI OX12 X hq hH 7 (by decide) rfl kF_X12_121 rfl rfl rfl (dk DX12_world_0 23 rfl) (fun H locs hH => ?_)
    obtain ⟨t11, e12⟩ : ∃ y, y = oI t9 7 0 := ⟨_, rfl⟩
    rw [← e12] at hH
    replace hF := bnd_e hF e12
    refine lv_aload_n X.x X.b (dk DX12_world_0 24 rfl) rfl (lv_at hl 0 rfl) ?_
    refine lv_iconst (v := 0) X.x X.b (dk DX12_world_0 25 rfl) (by decide) ?_
    refine og_putI OX12 X hq hH 11 (by decide) rfl kF_X12_144 rfl rfl rfl (dk DX12_world_0 26 rfl) (fun H locs hH => ?_)
    obtain ⟨t13, e14⟩ : ∃ y, y = oI t11 11 0 := ⟨_, rfl⟩
    rw [← e14] at hH
    replace hF := bnd_e hF e14
    refine lv_aload_n X.x X.b (dk DX12_world_0 27 rfl) rfl (lv_at hl 0 rfl) ?_
    refine lv_iconst (v := 0) X.x X.b (dk DX12_world_0 28 rfl) (by decide) ?_
    refine og_putI OX12 X hq hH 15 (by decide) rfl kF_X12_189 rfl rfl rfl (dk DX12_world_0 29 rfl) (fun H locs hH => ?_)
    obtain ⟨t15, e16⟩ : ∃ y, y = oI t13 15 0 := ⟨_, rfl⟩
    rw [← e16] at hH
    replace hF := bnd_e hF e16
    refine lv_aload_n X.x X.b (dk DX12_world_0 30 rfl) rfl (lv_at hl 0 rfl) ?_
    refine lv_iconst (v := 0) X.x X.b (dk DX12_world_0 31 rfl) (by decide) ?_
    refine og_putI OX12 X hq hH 16 (by decide) rfl kF_X12_175 rfl rfl rfl (dk DX12_world_0 32 rfl) (fun H locs hH => ?_)
    obtain ⟨t17, e18⟩ : ∃ y, y = oI t15 16 0 := ⟨_, rfl⟩
    rw [← e18] at hH
    replace hF := bnd_e hF e18
    refine lv_aload_n X.x X.b (dk DX12_world_0 33 rfl) rfl (lv_at hl 0 rfl) ?_
    obtain ⟨x19, e20, hF⟩ := bd hF
    refine mr_cv0 hH ⟨rfl, rfl⟩ (mr_runV (As := []) (rest := []) X hH (c_X12_reads hq e20) ((oset_at hq (Nat.le_refl _) ohas_N).trans (congrArg some ocell_N)) OX12.1 kM_X12_164 kI_X12_reads kS_X12_reads kN_X12 kC_X12_reads hd_X12_reads ⟨Nat.le_of_ble_eq_true rfl, Nat.le_of_ble_eq_true rfl⟩ rfl hl.1 (Nat.le_of_ble_eq_true rfl) (dk DX12_world_0 34 rfl) ⟨Nat.zero_le _, Nat.zero_le _⟩) (fun h1 H locs hp hH => ?_)
    rw [hp] at hH; clear hp
    refine lv_iconst (v := 0) X.x X.b (dk DX12_world_0 35 rfl) (by decide) ?_
    refine lv_istore_n (lv' := [(2, .int 0), (0, .ref (q 53)), (1, .int a0)]) X.x X.b (dk DX12_world_0 36 rfl) rfl hl (by decide) rfl (fun ls hl => ?_)
    replace hl : lv_has ls 3 [(0, .ref (q 53)), (2, .int 0)] := lv_sub hl [1, 0] rfl
    obtain ⟨x71, e72, hF⟩ := bd hF
    replace hl : lv_has ls 3 [(0, .ref (q 53)), (2, .int 0)] := lv_sub hl [0, 1] rfl
    refine w_X12_world_61 hq X _ _ e72 _ _ _ hH hl (fun H locs ls hH hl => ?_)
    refine lv_aload_n X.x X.b (dk DX12_world_1 4 rfl) rfl (lv_at hl 0 rfl) ?_
    refine lv_aload_n X.x X.b (dk DX12_world_1 5 rfl) rfl (lv_at hl 0 rfl) ?_
    refine og_getI OX12 X hq hH 11 (by decide) rfl kF_X12_144 (dk DX12_world_1 6 rfl) ?_
    refine og_putI OX12 X hq hH 13 (by decide) rfl kF_X12_245 rfl rfl rfl (dk DX12_world_1 7 rfl) (fun H locs hH => ?_)
    obtain ⟨t74, e75⟩ : ∃ y, y = oI x71 13 (x71.1 11) := ⟨_, rfl⟩
    rw [← e75] at hH
    replace hF := bnd_e hF e75
    refine lv_aload_n X.x X.b (dk DX12_world_1 8 rfl) rfl (lv_at hl 0 rfl) ?_
    refine lv_aload_n X.x X.b (dk DX12_world_1 9 rfl) rfl (lv_at hl 0 rfl) ?_
    refine og_getI OX12 X hq hH 11 (by decide) rfl kF_X12_144 (dk DX12_world_1 10 rfl) ?_
    refine lv_if_ne (tgt := 140) X.x X.b (dk DX12_world_1 11 rfl) (by decide) (fun c76 => ?_) (fun c76 => ?_)
    · replace hF := if_f hF c76
      refine lv_aload_n X.x X.b (dk DX12_world_1 14 rfl) rfl (lv_at hl 0 rfl) ?_
      refine og_getI OX12 X hq hH 12 (by decide) rfl kF_X12_147 (dk DX12_world_1 15 rfl) ?_
      refine og_putI OX12 X hq hH 14 (by decide) rfl kF_X12_17 rfl rfl rfl (dk DX12_world_1 16 rfl) (fun H locs hH => ?_)
      obtain ⟨t77, e78⟩ : ∃ y, y = oI t74 14 (t74.1 12) := ⟨_, rfl⟩
      rw [← e78] at hH
      replace hF := bnd_e hF e78
      refine lv_aload_n X.x X.b (dk DX12_world_1 17 rfl) rfl (lv_at hl 0 rfl) ?_
      refine og_getI OX12 X hq hH 11 (by decide) rfl kF_X12_144 (dk DX12_world_1 18 rfl) ?_
      refine lv_if_eq (tgt := 162) X.x X.b (dk DX12_world_1 19 rfl) (by decide) (fun c79 => ?_) (fun c79 => ?_)
      · replace hF := if_t hF c79
        refine lv_aload_n X.x X.b (dk DX12_world_1 25 rfl) rfl (lv_at hl 0 rfl) ?_
        refine lv_aload_n X.x X.b (dk DX12_world_1 26 rfl) rfl (lv_at hl 0 rfl) ?_
        refine og_getI OX12 X hq hH 15 (by decide) rfl kF_X12_189 (dk DX12_world_1 27 rfl) ?_
        refine og_putI OX12 X hq hH 0 (by decide) rfl kF_X12_248 rfl rfl rfl (dk DX12_world_1 28 rfl) (fun H locs hH => ?_)
        obtain ⟨t80, e81⟩ : ∃ y, y = oI t77 0 (t77.1 15) := ⟨_, rfl⟩
        rw [← e81] at hH
        replace hF := bnd_e hF e81
        refine lv_aload_n X.x X.b (dk DX12_world_1 29 rfl) rfl (lv_at hl 0 rfl) ?_
        refine lv_aload_n X.x X.b (dk DX12_world_1 30 rfl) rfl (lv_at hl 0 rfl) ?_
        refine og_getI OX12 X hq hH 16 (by decide) rfl kF_X12_175 (dk DX12_world_1 31 rfl) ?_
        refine og_putI OX12 X hq hH 1 (by decide) rfl kF_X12_250 rfl rfl rfl (dk DX12_world_1 32 rfl) (fun H locs hH => ?_)
        obtain ⟨t82, e83⟩ : ∃ y, y = oI t80 1 (t80.1 16) := ⟨_, rfl⟩
        rw [← e83] at hH
        replace hF := bnd_e hF e83
        refine lv_iconst (v := 0) X.x X.b (dk DX12_world_1 33 rfl) (by decide) ?_
        refine lv_istore_n (lv' := [(2, .int 0), (0, .ref (q 53))]) X.x X.b (dk DX12_world_1 34 rfl) rfl hl (by decide) rfl (fun ls hl => ?_)
        replace hl : lv_has ls 3 [(0, .ref (q 53)), (2, .int 0)] := lv_sub hl [1, 0] rfl
        obtain ⟨x90, e91, hF⟩ := bd hF
        replace hl : lv_has ls 3 [(0, .ref (q 53)), (2, .int 0)] := lv_sub hl [0, 1] rfl
        refine w_X12_world_180 hq X _ _ e91 _ _ _ hH hl (fun H locs ls hH hl => ?_)
        refine lv_aload_n X.x X.b (dk DX12_world_1 49 rfl) rfl (lv_at hl 0 rfl) ?_
        refine lv_iconst (v := 0) X.x X.b (dk DX12_world_1 50 rfl) (by decide) ?_
        refine og_putI OX12 X hq hH 44 (by decide) rfl kF_X12_253 rfl rfl rfl (dk DX12_world_1 51 rfl) (fun H locs hH => ?_)
        obtain ⟨t93, e94⟩ : ∃ y, y = oI x90 44 0 := ⟨_, rfl⟩
        rw [← e94] at hH
        replace hF := bnd_e hF e94
        refine lv_aload_n X.x X.b (dk DX12_world_1 52 rfl) rfl (lv_at hl 0 rfl) ?_
        refine lv_iconst (v := 0) X.x X.b (dk DX12_world_1 53 rfl) (by decide) ?_
        refine og_putI OX12 X hq hH 45 (by decide) rfl kF_X12_256 rfl rfl rfl (dk DX12_world_1 54 rfl) (fun H locs hH => ?_)
        obtain ⟨t95, e96⟩ : ∃ y, y = oI t93 45 0 := ⟨_, rfl⟩
        rw [← e96] at hH
        replace hF := bnd_e hF e96
        refine lv_aload_n X.x X.b (dk DX12_world_1 55 rfl) rfl (lv_at hl 0 rfl) ?_
        refine og_getI OX12 X hq hH 1 (by decide) rfl kF_X12_250 (dk DX12_world_1 56 rfl) ?_
        cases sm hF
        exact mr_iret X hr hlk hH ⟨rfl, rfl⟩ (dk DX12_world_1 57 rfl)
      · replace hF := if_f hF c79
        refine lv_bipush (v := (-10)) X.x X.b (dk DX12_world_1 20 rfl) (by decide) ?_
        refine lv_aload_n X.x X.b (dk DX12_world_1 21 rfl) rfl (lv_at hl 0 rfl) ?_
        refine og_getI OX12 X hq hH 11 (by decide) rfl kF_X12_144 (dk DX12_world_1 22 rfl) ?_
        refine lv_isub X.x X.b (dk DX12_world_1 23 rfl) ?_
        cases sm hF
        exact mr_iret X hr hlk hH ⟨rfl, rfl⟩ (dk DX12_world_1 24 rfl)
    · replace hF := if_t hF c76
      refine lv_iconst (v := (-1)) X.x X.b (dk DX12_world_1 12 rfl) (by decide) ?_
      refine lv_goto (tgt := 144) X.x X.b (dk DX12_world_1 13 rfl) (by decide) ?_
      refine og_putI OX12 X hq hH 14 (by decide) rfl kF_X12_17 rfl rfl rfl (dk DX12_world_1 16 rfl) (fun H locs hH => ?_)
      obtain ⟨t97, e98⟩ : ∃ y, y = oI t74 14 ((-1)) := ⟨_, rfl⟩
      rw [← e98] at hH
      replace hF := bnd_e hF e98
      refine lv_aload_n X.x X.b (dk DX12_world_1 17 rfl) rfl (lv_at hl 0 rfl) ?_
      refine og_getI OX12 X hq hH 11 (by decide) rfl kF_X12_144 (dk DX12_world_1 18 rfl) ?_
      refine lv_if_eq (tgt := 162) X.x X.b (dk DX12_world_1 19 rfl) (by decide) (fun c99 => ?_) (fun c99 => ?_)
      · replace hF := if_t hF c99
        refine lv_aload_n X.x X.b (dk DX12_world_1 25 rfl) rfl (lv_at hl 0 rfl) ?_
        refine lv_aload_n X.x X.b (dk DX12_world_1 26 rfl) rfl (lv_at hl 0 rfl) ?_
        refine og_getI OX12 X hq hH 15 (by decide) rfl kF_X12_189 (dk DX12_world_1 27 rfl) ?_
        refine og_putI OX12 X hq hH 0 (by decide) rfl kF_X12_248 rfl rfl rfl (dk DX12_world_1 28 rfl) (fun H locs hH => ?_)
        obtain ⟨t100, e101⟩ : ∃ y, y = oI t97 0 (t97.1 15) := ⟨_, rfl⟩
        rw [← e101] at hH
        replace hF := bnd_e hF e101
        refine lv_aload_n X.x X.b (dk DX12_world_1 29 rfl) rfl (lv_at hl 0 rfl) ?_
        refine lv_aload_n X.x X.b (dk DX12_world_1 30 rfl) rfl (lv_at hl 0 rfl) ?_
        refine og_getI OX12 X hq hH 16 (by decide) rfl kF_X12_175 (dk DX12_world_1 31 rfl) ?_
        refine og_putI OX12 X hq hH 1 (by decide) rfl kF_X12_250 rfl rfl rfl (dk DX12_world_1 32 rfl) (fun H locs hH => ?_)
        obtain ⟨t102, e103⟩ : ∃ y, y = oI t100 1 (t100.1 16) := ⟨_, rfl⟩
        rw [← e103] at hH
        replace hF := bnd_e hF e103
        refine lv_iconst (v := 0) X.x X.b (dk DX12_world_1 33 rfl) (by decide) ?_
        refine lv_istore_n (lv' := [(2, .int 0), (0, .ref (q 53))]) X.x X.b (dk DX12_world_1 34 rfl) rfl hl (by decide) rfl (fun ls hl => ?_)
        replace hl : lv_has ls 3 [(0, .ref (q 53)), (2, .int 0)] := lv_sub hl [1, 0] rfl
        obtain ⟨x104, e105, hF⟩ := bd hF
        replace hl : lv_has ls 3 [(0, .ref (q 53)), (2, .int 0)] := lv_sub hl [0, 1] rfl
        refine w_X12_world_180 hq X _ _ e105 _ _ _ hH hl (fun H locs ls hH hl => ?_)
        refine lv_aload_n X.x X.b (dk DX12_world_1 49 rfl) rfl (lv_at hl 0 rfl) ?_
        refine lv_iconst (v := 0) X.x X.b (dk DX12_world_1 50 rfl) (by decide) ?_
        refine og_putI OX12 X hq hH 44 (by decide) rfl kF_X12_253 rfl rfl rfl (dk DX12_world_1 51 rfl) (fun H locs hH => ?_)
        obtain ⟨t107, e108⟩ : ∃ y, y = oI x104 44 0 := ⟨_, rfl⟩
        rw [← e108] at hH
        replace hF := bnd_e hF e108
        refine lv_aload_n X.x X.b (dk DX12_world_1 52 rfl) rfl (lv_at hl 0 rfl) ?_
        refine lv_iconst (v := 0) X.x X.b (dk DX12_world_1 53 rfl) (by decide) ?_
        refine og_putI OX12 X hq hH 45 (by decide) rfl kF_X12_256 rfl rfl rfl (dk DX12_world_1 54 rfl) (fun H locs hH => ?_)
        obtain ⟨t109, e110⟩ : ∃ y, y = oI t107 45 0 := ⟨_, rfl⟩
        rw [← e110] at hH
        replace hF := bnd_e hF e110
        refine lv_aload_n X.x X.b (dk DX12_world_1 55 rfl) rfl (lv_at hl 0 rfl) ?_
        refine og_getI OX12 X hq hH 1 (by decide) rfl kF_X12_250 (dk DX12_world_1 56 rfl) ?_
        cases sm hF
        exact mr_iret X hr hlk hH ⟨rfl, rfl⟩ (dk DX12_world_1 57 rfl)
      · replace hF := if_f hF c99
        refine lv_bipush (v := (-10)) X.x X.b (dk DX12_world_1 20 rfl) (by decide) ?_
        refine lv_aload_n X.x X.b (dk DX12_world_1 21 rfl) rfl (lv_at hl 0 rfl) ?_
        refine og_getI OX12 X hq hH 11 (by decide) rfl kF_X12_144 (dk DX12_world_1 22 rfl) ?_
        refine lv_isub X.x X.b (dk DX12_world_1 23 rfl) ?_
        cases sm hF
        exact mr_iret X hr hlk hH ⟨rfl, rfl⟩ (dk DX12_world_1 24 rfl)
  · replace hF := if_t hF c6
    refine lv_aload_n X.x X.b (dk DX12_world_0 11 rfl) rfl (lv_at hl 0 rfl) ?_
    refine lv_iconst (v := 1) X.x X.b (dk DX12_world_0 12 rfl) (by decide) ?_
    obtain ⟨x111, e112, hF⟩ := bd hF
    refine mr_ci0 hH ⟨rfl, rfl⟩ (mr_runV (As := [.int 1]) (rest := []) X hH (c_X12_fails hq e112) ((oset_at hq (Nat.le_refl _) ohas_N).trans (congrArg some ocell_N)) OX12.1 kM_X12_236 kI_X12_fails kS_X12_fails kN_X12 kC_X12_fails hd_X12_fails ⟨Nat.le_of_ble_eq_true rfl, Nat.le_of_ble_eq_true rfl⟩ rfl hl.1 (Nat.le_of_ble_eq_true rfl) (dk DX12_world_0 13 rfl) ⟨Nat.zero_le _, Nat.zero_le _⟩) (fun r h1 H locs hp hH => ?_)
    obtain ⟨hr1, hr2⟩ := hp; rw [hr1]; rw [hr2] at hH; clear hr1 hr2
    obtain ⟨v113, t114⟩ := x111
    try dsimp only at hF hH ⊢
    cases sm hF
    exact mr_iret X hr hlk hH ⟨rfl, rfl⟩ (dk DX12_world_0 14 rfl)
-- X12_fault
abbrev rm_X12_fault : Room := { frames := 0, cells := 0, slots := 0, locals := 0 }
theorem hd_X12_fault : mHd yX12_fault 1 := ⟨by decide +kernel, by decide +kernel, by decide +kernel⟩
theorem DX12_fault_0 : ∀ t ∈ ([(0, .aload_n 0, 1), (1, .iconst 0, 1), (2, .putfield 106, 3), (5, .iload_n 1, 1), (6, .ifCond .ne 10, 3), (9, .aload_n 0, 1), (10, .getfield 245, 3), (13, .goto 16, 3), (16, .iload_n 1, 1), (17, .iconst 1, 1), (18, .if_icmp .ne 10, 3), (21, .aload_n 0, 1), (22, .getfield 17, 3), (25, .goto 4, 3), (28, .iconst (-1), 1), (29, .ireturn, 1)] : List (Nat × Instr × Nat)), decode cX12_fault t.1 = .ok (t.2.1, t.2.2) := by decide +kernel
noncomputable def f_X12_fault (st : OS) (a0 : Int32) : Option (Int32 × OS) := bnd (oI st 2 0) (fun t1 => (if a0 = 0 then some ((t1.1 13, t1)) else (if a0 = 1 then some ((t1.1 14, t1)) else some (((-1), t1)))))
set_option maxHeartbeats 4000000 in
set_option maxRecDepth 100000 in
theorem c_X12_fault {l : Launch} {G : mG} {h : mM} {q : Nat → Nat} (hq : oinj LX12 q) {st : OS} {a0 : Int32} {x : Int32 × OS} (hF : f_X12_fault st a0 = some x) : cQ l G yX12_fault cX12_fault 2 (some FieldType.int) rm_X12_fault [.ref (q 53), .int a0] (oset LX12 G q st h) (mQi G (fun r h1 => r = x.1 ∧ h1 = oset LX12 G q x.2 h)) := by
  refine mp_of (by decide +kernel) (Nat.le_of_ble_eq_true rfl) ?_
  intro p e s m below meth c X hr hlk hH hname ls hl
  dsimp only [f_X12_fault] at hF
  replace hl : lv_has ls 2 [(0, .ref (q 53)), (1, .int a0)] := hl
  refine lv_aload_n X.x X.b (dk DX12_fault_0 0 rfl) rfl (lv_at hl 0 rfl) ?_
  refine lv_iconst (v := 0) X.x X.b (dk DX12_fault_0 1 rfl) (by decide) ?_
  refine og_putI OX12 X hq hH 2 (by decide) rfl kF_X12_106 rfl rfl rfl (dk DX12_fault_0 2 rfl) (fun H locs hH => ?_)
  obtain ⟨t1, e2⟩ : ∃ y, y = oI st 2 0 := ⟨_, rfl⟩
  rw [← e2] at hH
  replace hF := bnd_e hF e2
  refine lv_iload_n X.x X.b (dk DX12_fault_0 3 rfl) rfl (lv_at hl 1 rfl) ?_
  refine lv_if_ne (tgt := 16) X.x X.b (dk DX12_fault_0 4 rfl) (by decide) (fun c3 => ?_) (fun c3 => ?_)
  · replace hF := if_f hF c3
    refine lv_iload_n X.x X.b (dk DX12_fault_0 8 rfl) rfl (lv_at hl 1 rfl) ?_
    refine lv_iconst (v := 1) X.x X.b (dk DX12_fault_0 9 rfl) (by decide) ?_
    refine lv_icmp_ne (tgt := 28) X.x X.b (dk DX12_fault_0 10 rfl) (by decide) (fun c4 => ?_) (fun c4 => ?_)
    · replace hF := if_f hF c4
      refine lv_iconst (v := (-1)) X.x X.b (dk DX12_fault_0 14 rfl) (by decide) ?_
      cases sm hF
      exact mr_iret X hr hlk hH ⟨rfl, rfl⟩ (dk DX12_fault_0 15 rfl)
    · replace hF := if_t hF c4
      refine lv_aload_n X.x X.b (dk DX12_fault_0 11 rfl) rfl (lv_at hl 0 rfl) ?_
      refine og_getI OX12 X hq hH 14 (by decide) rfl kF_X12_17 (dk DX12_fault_0 12 rfl) ?_
      refine lv_goto (tgt := 29) X.x X.b (dk DX12_fault_0 13 rfl) (by decide) ?_
      cases sm hF
      exact mr_iret X hr hlk hH ⟨rfl, rfl⟩ (dk DX12_fault_0 15 rfl)
  · replace hF := if_t hF c3
    refine lv_aload_n X.x X.b (dk DX12_fault_0 5 rfl) rfl (lv_at hl 0 rfl) ?_
    refine og_getI OX12 X hq hH 13 (by decide) rfl kF_X12_245 (dk DX12_fault_0 6 rfl) ?_
    refine lv_goto (tgt := 29) X.x X.b (dk DX12_fault_0 7 rfl) (by decide) ?_
    cases sm hF
    exact mr_iret X hr hlk hH ⟨rfl, rfl⟩ (dk DX12_fault_0 15 rfl)
-- X12_isPoint
abbrev rm_X12_isPoint : Room := { frames := 1, cells := 0, slots := 0, locals := 25 }
theorem hd_X12_isPoint : mHd yX12_isPoint 1 := ⟨by decide +kernel, by decide +kernel, by decide +kernel⟩
theorem DX12_isPoint_0 : ∀ t ∈ ([(0, .iload_n 1, 1), (1, .i2l, 1), (2, .lconst 0, 1), (3, .aload_n 0, 1), (4, .getfield 248, 3), (7, .iconst 1, 1), (8, .isub, 1), (9, .i2l, 1), (10, .invokestatic 171, 3), (13, .ireturn, 1)] : List (Nat × Instr × Nat)), decode cX12_isPoint t.1 = .ok (t.2.1, t.2.2) := by decide +kernel
noncomputable def f_X12_isPoint (st : OS) (a0 : Int32) : Option (Int32) := (f_X12_within ((a0 : Int32).toInt64) 0 (((st.1 0) - 1 : Int32).toInt64)).bind (fun x1 => if isb x1 = true then some x1 else none)
set_option maxHeartbeats 4000000 in
set_option maxRecDepth 100000 in
theorem c_X12_isPoint {l : Launch} {G : mG} {h : mM} {q : Nat → Nat} (hq : oinj LX12 q) {st : OS} {a0 : Int32} {x : Int32} (hF : f_X12_isPoint st a0 = some x) : cQ l G yX12_isPoint cX12_isPoint 2 (some FieldType.boolean) rm_X12_isPoint [.ref (q 53), .int a0] (oset LX12 G q st h) (mQi G (fun r h1 => r = x ∧ h1 = oset LX12 G q st h)) := by
  refine mp_of (by decide +kernel) (Nat.le_of_ble_eq_true rfl) ?_
  intro p e s m below meth c X hr hlk hH hname ls hl
  dsimp only [f_X12_isPoint] at hF
  replace hl : lv_has ls 2 [(0, .ref (q 53)), (1, .int a0)] := hl
  refine lv_iload_n X.x X.b (dk DX12_isPoint_0 0 rfl) rfl (lv_at hl 1 rfl) ?_
  refine lv_i2l X.x X.b (dk DX12_isPoint_0 1 rfl) rfl ?_
  refine lv_lconst (v := 0) X.x X.b (dk DX12_isPoint_0 2 rfl) (by decide) ?_
  refine lv_aload_n X.x X.b (dk DX12_isPoint_0 3 rfl) rfl (lv_at hl 0 rfl) ?_
  refine og_getI OX12 X hq hH 0 (by decide) rfl kF_X12_248 (dk DX12_isPoint_0 4 rfl) ?_
  refine lv_iconst (v := 1) X.x X.b (dk DX12_isPoint_0 5 rfl) (by decide) ?_
  refine lv_isub X.x X.b (dk DX12_isPoint_0 6 rfl) ?_
  refine lv_i2l X.x X.b (dk DX12_isPoint_0 7 rfl) rfl ?_
  obtain ⟨x1, e2, hF⟩ := bd hF
  refine mr_ci0 hH ⟨rfl, rfl⟩ (mr_runS (As := [.long ((a0 : Int32).toInt64), .long 0, .long (((st.1 0) - 1 : Int32).toInt64)]) (rest := []) X hH (c_X12_within e2) kM_X12_171 kT_X12_within kN_X12 kC_X12_within hd_X12_within ⟨Nat.le_of_ble_eq_true rfl, Nat.le_of_ble_eq_true rfl⟩ rfl hl.1 (Nat.le_of_ble_eq_true rfl) (dk DX12_isPoint_0 8 rfl) ⟨Nat.zero_le _, Nat.zero_le _⟩) (fun r h1 H locs hp hH => ?_)
  obtain ⟨hr1, hr2⟩ := hp; rw [hr1]; rw [hr2] at hH; clear hr1 hr2
  obtain ⟨c4, hF⟩ := gd hF
  cases sm hF
  exact mr_zret X hr hlk hH (isb_nar c4) ⟨rfl, rfl⟩ (dk DX12_isPoint_0 9 rfl)
-- X12_isLine
abbrev rm_X12_isLine : Room := { frames := 1, cells := 0, slots := 0, locals := 25 }
theorem hd_X12_isLine : mHd yX12_isLine 1 := ⟨by decide +kernel, by decide +kernel, by decide +kernel⟩
theorem DX12_isLine_0 : ∀ t ∈ ([(0, .iload_n 1, 1), (1, .i2l, 1), (2, .lconst 0, 1), (3, .aload_n 0, 1), (4, .getfield 250, 3), (7, .iconst 1, 1), (8, .isub, 1), (9, .i2l, 1), (10, .invokestatic 171, 3), (13, .ireturn, 1)] : List (Nat × Instr × Nat)), decode cX12_isLine t.1 = .ok (t.2.1, t.2.2) := by decide +kernel
noncomputable def f_X12_isLine (st : OS) (a0 : Int32) : Option (Int32) := (f_X12_within ((a0 : Int32).toInt64) 0 (((st.1 1) - 1 : Int32).toInt64)).bind (fun x1 => if isb x1 = true then some x1 else none)
set_option maxHeartbeats 4000000 in
set_option maxRecDepth 100000 in
theorem c_X12_isLine {l : Launch} {G : mG} {h : mM} {q : Nat → Nat} (hq : oinj LX12 q) {st : OS} {a0 : Int32} {x : Int32} (hF : f_X12_isLine st a0 = some x) : cQ l G yX12_isLine cX12_isLine 2 (some FieldType.boolean) rm_X12_isLine [.ref (q 53), .int a0] (oset LX12 G q st h) (mQi G (fun r h1 => r = x ∧ h1 = oset LX12 G q st h)) := by
  refine mp_of (by decide +kernel) (Nat.le_of_ble_eq_true rfl) ?_
  intro p e s m below meth c X hr hlk hH hname ls hl
  dsimp only [f_X12_isLine] at hF
  replace hl : lv_has ls 2 [(0, .ref (q 53)), (1, .int a0)] := hl
  refine lv_iload_n X.x X.b (dk DX12_isLine_0 0 rfl) rfl (lv_at hl 1 rfl) ?_
  refine lv_i2l X.x X.b (dk DX12_isLine_0 1 rfl) rfl ?_
  refine lv_lconst (v := 0) X.x X.b (dk DX12_isLine_0 2 rfl) (by decide) ?_
  refine lv_aload_n X.x X.b (dk DX12_isLine_0 3 rfl) rfl (lv_at hl 0 rfl) ?_
  refine og_getI OX12 X hq hH 1 (by decide) rfl kF_X12_250 (dk DX12_isLine_0 4 rfl) ?_
  refine lv_iconst (v := 1) X.x X.b (dk DX12_isLine_0 5 rfl) (by decide) ?_
  refine lv_isub X.x X.b (dk DX12_isLine_0 6 rfl) ?_
  refine lv_i2l X.x X.b (dk DX12_isLine_0 7 rfl) rfl ?_
  obtain ⟨x1, e2, hF⟩ := bd hF
  refine mr_ci0 hH ⟨rfl, rfl⟩ (mr_runS (As := [.long ((a0 : Int32).toInt64), .long 0, .long (((st.1 1) - 1 : Int32).toInt64)]) (rest := []) X hH (c_X12_within e2) kM_X12_171 kT_X12_within kN_X12 kC_X12_within hd_X12_within ⟨Nat.le_of_ble_eq_true rfl, Nat.le_of_ble_eq_true rfl⟩ rfl hl.1 (Nat.le_of_ble_eq_true rfl) (dk DX12_isLine_0 8 rfl) ⟨Nat.zero_le _, Nat.zero_le _⟩) (fun r h1 H locs hp hH => ?_)
  obtain ⟨hr1, hr2⟩ := hp; rw [hr1]; rw [hr2] at hH; clear hr1 hr2
  obtain ⟨c4, hF⟩ := gd hF
  cases sm hF
  exact mr_zret X hr hlk hH (isb_nar c4) ⟨rfl, rfl⟩ (dk DX12_isLine_0 9 rfl)
