-- X12_law
abbrev rm_X12_law : Room := { frames := 3, cells := 0, slots := 0, locals := 68 }
theorem hd_X12_law : mHd yX12_law 0 := ⟨by decide +kernel, by decide +kernel, by decide +kernel⟩
theorem DX12_law_0 : ∀ t ∈ ([(0, .aload_n 0, 1), (1, .iconst 0, 1), (2, .putfield 106, 3), (5, .aload_n 0, 1), (6, .invokevirtual 291, 3), (9, .ireturn, 1)] : List (Nat × Instr × Nat)), decode cX12_law t.1 = .ok (t.2.1, t.2.2) := by decide +kernel
noncomputable def f_X12_law (st : OS) : Option (Int32 × OS) := bnd (oI st 2 0) (fun t1 => (f_X12_firstLaw t1).bind (fun x3 => match x3 with | (v5, t6) => some ((v5, t6))))
set_option maxHeartbeats 4000000 in
set_option maxRecDepth 100000 in
theorem c_X12_law {l : Launch} {G : mG} {h : mM} {q : Nat → Nat} (hq : oinj LX12 q) {st : OS} {x : Int32 × OS} (hF : f_X12_law st = some x) : cQ l G yX12_law cX12_law 1 (some FieldType.int) rm_X12_law [.ref (q 53)] (oset LX12 G q st h) (mQi G (fun r h1 => r = x.1 ∧ h1 = oset LX12 G q x.2 h)) := by
  refine mp_of (by decide +kernel) (Nat.le_of_ble_eq_true rfl) ?_
  intro p e s m below meth c X hr hlk hH hname ls hl
  dsimp only [f_X12_law] at hF
  replace hl : lv_has ls 1 [(0, .ref (q 53))] := hl
  refine lv_aload_n X.x X.b (dk DX12_law_0 0 rfl) rfl (lv_at hl 0 rfl) ?_
  refine lv_iconst (v := 0) X.x X.b (dk DX12_law_0 1 rfl) (by decide) ?_
  refine og_putI OX12 X hq hH 2 (by decide) rfl kF_X12_106 rfl rfl rfl (dk DX12_law_0 2 rfl) (fun H locs hH => ?_)
  obtain ⟨t1, e2⟩ : ∃ y, y = oI st 2 0 := ⟨_, rfl⟩
  rw [← e2] at hH
  replace hF := bnd_e hF e2
  refine lv_aload_n X.x X.b (dk DX12_law_0 3 rfl) rfl (lv_at hl 0 rfl) ?_
  obtain ⟨x3, e4, hF⟩ := bd hF
  refine mr_ci0 hH ⟨rfl, rfl⟩ (mr_runV (As := []) (rest := []) X hH (c_X12_firstLaw hq e4) ((oset_at hq (Nat.le_refl _) ohas_N).trans (congrArg some ocell_N)) OX12.1 kM_X12_291 kI_X12_firstLaw kS_X12_firstLaw kN_X12 kC_X12_firstLaw hd_X12_firstLaw ⟨Nat.le_of_ble_eq_true rfl, Nat.le_of_ble_eq_true rfl⟩ rfl hl.1 (Nat.le_of_ble_eq_true rfl) (dk DX12_law_0 4 rfl) ⟨Nat.zero_le _, Nat.zero_le _⟩) (fun r h1 H locs hp hH => ?_)
  obtain ⟨hr1, hr2⟩ := hp; rw [hr1]; rw [hr2] at hH; clear hr1 hr2
  obtain ⟨v5, t6⟩ := x3
  try dsimp only at hF hH ⊢
  cases sm hF
  exact mr_iret X hr hlk hH ⟨rfl, rfl⟩ (dk DX12_law_0 5 rfl)
-- X12_orderOf
abbrev rm_X12_orderOf : Room := { frames := 3, cells := 0, slots := 0, locals := 68 }
theorem hd_X12_orderOf : mHd yX12_orderOf 1 := ⟨by decide +kernel, by decide +kernel, by decide +kernel⟩
theorem DX12_orderOf_0 : ∀ t ∈ ([(0, .aload_n 0, 1), (1, .getfield 250, 3), (4, .ifCond .eq 10, 3), (7, .aload_n 0, 1), (8, .invokevirtual 291, 3), (11, .ifCond .eq 7, 3), (14, .iconst (-1), 1), (15, .goto 31, 3), (18, .iload_n 1, 1), (19, .ifCond .eq 16, 3), (22, .aload_n 0, 1), (23, .iconst 0, 1), (24, .invokevirtual 269, 3), (27, .invokestatic 283, 3), (30, .iconst 1, 1), (31, .isub, 1), (32, .goto 14, 3), (35, .aload_n 0, 1), (36, .getfield 7, 3), (39, .iconst 0, 1), (40, .laload, 1), (41, .invokestatic 283, 3), (44, .iconst 1, 1), (45, .isub, 1), (46, .ireturn, 1)] : List (Nat × Instr × Nat)), decode cX12_orderOf t.1 = .ok (t.2.1, t.2.2) := by decide +kernel
noncomputable def f_X12_orderOf (st : OS) (a0 : Int32) : Option (Int32 × OS) := (if (st.1 1) = 0 then some (((-1), st)) else (f_X12_firstLaw st).bind (fun x2 => match x2 with | (v4, t5) => (if v4 = 0 then (if a0 = 0 then if inb 0 64 = true then (f_X12_ones (t5.2.2.2 3 (0 : Int32).toNatClampNeg)).bind (fun x9 => some ((x9 - 1, t5))) else none else (f_X12_throughOf t5 0).bind (fun x12 => (f_X12_ones x12).bind (fun x15 => some ((x15 - 1, t5))))) else some (((-1), t5)))))
set_option maxHeartbeats 4000000 in
set_option maxRecDepth 100000 in
theorem c_X12_orderOf {l : Launch} {G : mG} {h : mM} {q : Nat → Nat} (hq : oinj LX12 q) {st : OS} {a0 : Int32} {x : Int32 × OS} (hF : f_X12_orderOf st a0 = some x) : cQ l G yX12_orderOf cX12_orderOf 2 (some FieldType.int) rm_X12_orderOf [.ref (q 53), .int a0] (oset LX12 G q st h) (mQi G (fun r h1 => r = x.1 ∧ h1 = oset LX12 G q x.2 h)) := by
  refine mp_of (by decide +kernel) (Nat.le_of_ble_eq_true rfl) ?_
  intro p e s m below meth c X hr hlk hH hname ls hl
  dsimp only [f_X12_orderOf] at hF
  replace hl : lv_has ls 2 [(0, .ref (q 53)), (1, .int a0)] := hl
  refine lv_aload_n X.x X.b (dk DX12_orderOf_0 0 rfl) rfl (lv_at hl 0 rfl) ?_
  refine og_getI OX12 X hq hH 1 (by decide) rfl kF_X12_250 (dk DX12_orderOf_0 1 rfl) ?_
  refine lv_if_eq (tgt := 14) X.x X.b (dk DX12_orderOf_0 2 rfl) (by decide) (fun c1 => ?_) (fun c1 => ?_)
  · replace hF := if_t hF c1
    refine lv_iconst (v := (-1)) X.x X.b (dk DX12_orderOf_0 6 rfl) (by decide) ?_
    refine lv_goto (tgt := 46) X.x X.b (dk DX12_orderOf_0 7 rfl) (by decide) ?_
    cases sm hF
    exact mr_iret X hr hlk hH ⟨rfl, rfl⟩ (dk DX12_orderOf_0 24 rfl)
  · replace hF := if_f hF c1
    refine lv_aload_n X.x X.b (dk DX12_orderOf_0 3 rfl) rfl (lv_at hl 0 rfl) ?_
    obtain ⟨x2, e3, hF⟩ := bd hF
    refine mr_ci0 hH ⟨rfl, rfl⟩ (mr_runV (As := []) (rest := []) X hH (c_X12_firstLaw hq e3) ((oset_at hq (Nat.le_refl _) ohas_N).trans (congrArg some ocell_N)) OX12.1 kM_X12_291 kI_X12_firstLaw kS_X12_firstLaw kN_X12 kC_X12_firstLaw hd_X12_firstLaw ⟨Nat.le_of_ble_eq_true rfl, Nat.le_of_ble_eq_true rfl⟩ rfl hl.1 (Nat.le_of_ble_eq_true rfl) (dk DX12_orderOf_0 4 rfl) ⟨Nat.zero_le _, Nat.zero_le _⟩) (fun r h1 H locs hp hH => ?_)
    obtain ⟨hr1, hr2⟩ := hp; rw [hr1]; rw [hr2] at hH; clear hr1 hr2
    obtain ⟨v4, t5⟩ := x2
    try dsimp only at hF hH ⊢
    refine lv_if_eq (tgt := 18) X.x X.b (dk DX12_orderOf_0 5 rfl) (by decide) (fun c6 => ?_) (fun c6 => ?_)
    · replace hF := if_t hF c6
      refine lv_iload_n X.x X.b (dk DX12_orderOf_0 8 rfl) rfl (lv_at hl 1 rfl) ?_
      refine lv_if_eq (tgt := 35) X.x X.b (dk DX12_orderOf_0 9 rfl) (by decide) (fun c7 => ?_) (fun c7 => ?_)
      · replace hF := if_t hF c7
        refine lv_aload_n X.x X.b (dk DX12_orderOf_0 17 rfl) rfl (lv_at hl 0 rfl) ?_
        refine og_getR (t := 1) OX12 X hq hH 3 (by decide) rfl kF_X12_7 (dk DX12_orderOf_0 18 rfl) ?_
        refine lv_iconst (v := 0) X.x X.b (dk DX12_orderOf_0 19 rfl) (by decide) ?_
        obtain ⟨c8, hF⟩ := gd hF
        refine og_lald X hq hH 3 (by decide) rfl (inb_in c8) (dk DX12_orderOf_0 20 rfl) ?_
        obtain ⟨x9, e10, hF⟩ := bd hF
        refine mr_ci0 hH ⟨rfl, rfl⟩ (mr_runS (As := [.long (t5.2.2.2 3 (0 : Int32).toNatClampNeg)]) (rest := []) X hH (c_X12_ones e10) kM_X12_283 kT_X12_ones kN_X12 kC_X12_ones hd_X12_ones ⟨Nat.le_of_ble_eq_true rfl, Nat.le_of_ble_eq_true rfl⟩ rfl hl.1 (Nat.le_of_ble_eq_true rfl) (dk DX12_orderOf_0 21 rfl) ⟨Nat.zero_le _, Nat.zero_le _⟩) (fun r h1 H locs hp hH => ?_)
        obtain ⟨hr1, hr2⟩ := hp; rw [hr1]; rw [hr2] at hH; clear hr1 hr2
        refine lv_iconst (v := 1) X.x X.b (dk DX12_orderOf_0 22 rfl) (by decide) ?_
        refine lv_isub X.x X.b (dk DX12_orderOf_0 23 rfl) ?_
        cases sm hF
        exact mr_iret X hr hlk hH ⟨rfl, rfl⟩ (dk DX12_orderOf_0 24 rfl)
      · replace hF := if_f hF c7
        refine lv_aload_n X.x X.b (dk DX12_orderOf_0 10 rfl) rfl (lv_at hl 0 rfl) ?_
        refine lv_iconst (v := 0) X.x X.b (dk DX12_orderOf_0 11 rfl) (by decide) ?_
        obtain ⟨x12, e13, hF⟩ := bd hF
        refine mr_cl0 hH ⟨rfl, rfl⟩ (mr_runV (As := [.int 0]) (rest := []) X hH (c_X12_throughOf hq e13) ((oset_at hq (Nat.le_refl _) ohas_N).trans (congrArg some ocell_N)) OX12.1 kM_X12_269 kI_X12_throughOf kS_X12_throughOf kN_X12 kC_X12_throughOf hd_X12_throughOf ⟨Nat.le_of_ble_eq_true rfl, Nat.le_of_ble_eq_true rfl⟩ rfl hl.1 (Nat.le_of_ble_eq_true rfl) (dk DX12_orderOf_0 12 rfl) ⟨Nat.zero_le _, Nat.zero_le _⟩) (fun r h1 H locs hp hH => ?_)
        obtain ⟨hr1, hr2⟩ := hp; rw [hr1]; rw [hr2] at hH; clear hr1 hr2
        obtain ⟨x15, e16, hF⟩ := bd hF
        refine mr_ci0 hH ⟨rfl, rfl⟩ (mr_runS (As := [.long x12]) (rest := []) X hH (c_X12_ones e16) kM_X12_283 kT_X12_ones kN_X12 kC_X12_ones hd_X12_ones ⟨Nat.le_of_ble_eq_true rfl, Nat.le_of_ble_eq_true rfl⟩ rfl hl.1 (Nat.le_of_ble_eq_true rfl) (dk DX12_orderOf_0 13 rfl) ⟨Nat.zero_le _, Nat.zero_le _⟩) (fun r h1 H locs hp hH => ?_)
        obtain ⟨hr1, hr2⟩ := hp; rw [hr1]; rw [hr2] at hH; clear hr1 hr2
        refine lv_iconst (v := 1) X.x X.b (dk DX12_orderOf_0 14 rfl) (by decide) ?_
        refine lv_isub X.x X.b (dk DX12_orderOf_0 15 rfl) ?_
        refine lv_goto (tgt := 46) X.x X.b (dk DX12_orderOf_0 16 rfl) (by decide) ?_
        cases sm hF
        exact mr_iret X hr hlk hH ⟨rfl, rfl⟩ (dk DX12_orderOf_0 24 rfl)
    · replace hF := if_f hF c6
      refine lv_iconst (v := (-1)) X.x X.b (dk DX12_orderOf_0 6 rfl) (by decide) ?_
      refine lv_goto (tgt := 46) X.x X.b (dk DX12_orderOf_0 7 rfl) (by decide) ?_
      cases sm hF
      exact mr_iret X hr hlk hH ⟨rfl, rfl⟩ (dk DX12_orderOf_0 24 rfl)
-- X12_order
abbrev rm_X12_order : Room := { frames := 4, cells := 0, slots := 0, locals := 89 }
theorem hd_X12_order : mHd yX12_order 1 := ⟨by decide +kernel, by decide +kernel, by decide +kernel⟩
theorem DX12_order_0 : ∀ t ∈ ([(0, .aload_n 0, 1), (1, .iconst 0, 1), (2, .putfield 106, 3), (5, .aload_n 0, 1), (6, .iload_n 1, 1), (7, .invokevirtual 294, 3), (10, .ireturn, 1)] : List (Nat × Instr × Nat)), decode cX12_order t.1 = .ok (t.2.1, t.2.2) := by decide +kernel
noncomputable def f_X12_order (st : OS) (a0 : Int32) : Option (Int32 × OS) := bnd (oI st 2 0) (fun t1 => (f_X12_orderOf t1 a0).bind (fun x3 => match x3 with | (v5, t6) => some ((v5, t6))))
set_option maxHeartbeats 4000000 in
set_option maxRecDepth 100000 in
theorem c_X12_order {l : Launch} {G : mG} {h : mM} {q : Nat → Nat} (hq : oinj LX12 q) {st : OS} {a0 : Int32} {x : Int32 × OS} (hF : f_X12_order st a0 = some x) : cQ l G yX12_order cX12_order 2 (some FieldType.int) rm_X12_order [.ref (q 53), .int a0] (oset LX12 G q st h) (mQi G (fun r h1 => r = x.1 ∧ h1 = oset LX12 G q x.2 h)) := by
  refine mp_of (by decide +kernel) (Nat.le_of_ble_eq_true rfl) ?_
  intro p e s m below meth c X hr hlk hH hname ls hl
  dsimp only [f_X12_order] at hF
  replace hl : lv_has ls 2 [(0, .ref (q 53)), (1, .int a0)] := hl
  refine lv_aload_n X.x X.b (dk DX12_order_0 0 rfl) rfl (lv_at hl 0 rfl) ?_
  refine lv_iconst (v := 0) X.x X.b (dk DX12_order_0 1 rfl) (by decide) ?_
  refine og_putI OX12 X hq hH 2 (by decide) rfl kF_X12_106 rfl rfl rfl (dk DX12_order_0 2 rfl) (fun H locs hH => ?_)
  obtain ⟨t1, e2⟩ : ∃ y, y = oI st 2 0 := ⟨_, rfl⟩
  rw [← e2] at hH
  replace hF := bnd_e hF e2
  refine lv_aload_n X.x X.b (dk DX12_order_0 3 rfl) rfl (lv_at hl 0 rfl) ?_
  refine lv_iload_n X.x X.b (dk DX12_order_0 4 rfl) rfl (lv_at hl 1 rfl) ?_
  obtain ⟨x3, e4, hF⟩ := bd hF
  refine mr_ci0 hH ⟨rfl, rfl⟩ (mr_runV (As := [.int a0]) (rest := []) X hH (c_X12_orderOf hq e4) ((oset_at hq (Nat.le_refl _) ohas_N).trans (congrArg some ocell_N)) OX12.1 kM_X12_294 kI_X12_orderOf kS_X12_orderOf kN_X12 kC_X12_orderOf hd_X12_orderOf ⟨Nat.le_of_ble_eq_true rfl, Nat.le_of_ble_eq_true rfl⟩ rfl hl.1 (Nat.le_of_ble_eq_true rfl) (dk DX12_order_0 5 rfl) ⟨Nat.zero_le _, Nat.zero_le _⟩) (fun r h1 H locs hp hH => ?_)
  obtain ⟨hr1, hr2⟩ := hp; rw [hr1]; rw [hr2] at hH; clear hr1 hr2
  obtain ⟨v5, t6⟩ := x3
  try dsimp only at hF hH ⊢
  cases sm hF
  exact mr_iret X hr hlk hH ⟨rfl, rfl⟩ (dk DX12_order_0 6 rfl)
-- X12_own
abbrev rm_X12_own : Room := { frames := 4, cells := 0, slots := 0, locals := 89 }
theorem hd_X12_own : mHd yX12_own 2 := ⟨by decide +kernel, by decide +kernel, by decide +kernel⟩
theorem DX12_own_0 : ∀ t ∈ ([(0, .aload_n 0, 1), (1, .iload_n 1, 1), (2, .i2l, 1), (3, .lconst 0, 1), (4, .ldc2_w 298, 3), (7, .invokestatic 171, 3), (10, .ifCond .eq 7, 3), (13, .iconst 0, 1), (14, .goto 4, 3), (17, .iconst 1, 1), (18, .putfield 106, 3), (21, .aload_n 0, 1), (22, .getfield 106, 3), (25, .ifCond .le 5, 3), (28, .iconst 0, 1), (29, .ireturn, 1), (30, .aload_n 0, 1), (31, .iconst 0, 1), (32, .invokevirtual 294, 3), (35, .istore_n 3, 1), (36, .aload_n 0, 1), (37, .iconst 1, 1), (38, .invokevirtual 294, 3), (41, .istore 4, 2), (43, .iload_n 3, 1), (44, .iconst (-1), 1), (45, .if_icmp .eq 10, 3), (48, .iload_n 3, 1), (49, .iload 4, 2), (51, .iadd, 1), (52, .ifCond .ne 5, 3), (55, .iconst (-1), 1), (56, .ireturn, 1), (57, .iload_n 2, 1), (58, .ifCond .eq 53, 3), (61, .iload_n 1, 1), (62, .ifCond .ne 7, 3), (65, .iconst 1, 1), (66, .goto 44, 3), (69, .iload_n 1, 1), (70, .iconst 1, 1), (71, .if_icmp .ne 24, 3), (74, .iload_n 3, 1), (75, .iload 4, 2), (77, .imul, 1), (78, .iload_n 3, 1), (79, .iconst 1, 1), (80, .iadd, 1), (81, .imul, 1), (82, .iload 4, 2), (84, .iconst 1, 1), (85, .iadd, 1), (86, .imul, 1), (87, .iload_n 3, 1), (88, .iload 4, 2), (90, .iadd, 1), (91, .idiv, 1), (92, .goto 18, 3), (95, .iload_n 3, 1), (96, .iload_n 3, 1)] : List (Nat × Instr × Nat)), decode cX12_own t.1 = .ok (t.2.1, t.2.2) := by decide +kernel
theorem DX12_own_1 : ∀ t ∈ ([(97, .imul, 1), (98, .iload_n 3, 1), (99, .iload 4, 2), (101, .imul, 1), (102, .iconst 1, 1), (103, .iadd, 1), (104, .imul, 1), (105, .iload_n 3, 1), (106, .iload 4, 2), (108, .iadd, 1), (109, .idiv, 1), (110, .ireturn, 1), (111, .iload_n 1, 1), (112, .ifCond .ne 12, 3), (115, .iload_n 3, 1), (116, .iload 4, 2), (118, .iconst 1, 1), (119, .iadd, 1), (120, .imul, 1), (121, .goto 19, 3), (124, .iload_n 1, 1), (125, .iconst 1, 1), (126, .if_icmp .ne 9, 3), (129, .iload_n 3, 1), (130, .iconst 1, 1), (131, .isub, 1), (132, .goto 8, 3), (135, .iload 4, 2), (137, .ineg, 1), (138, .iconst 1, 1), (139, .isub, 1), (140, .ireturn, 1)] : List (Nat × Instr × Nat)), decode cX12_own t.1 = .ok (t.2.1, t.2.2) := by decide +kernel
noncomputable def f_X12_own (st : OS) (a0 : Int32) (a1 : Int32) : Option (Int32 × OS) := (f_X12_within ((a0 : Int32).toInt64) 0 2).bind (fun x1 => (if x1 = 0 then bnd (oI st 2 1) (fun t5 => (if (t5.1 2) ≤ 0 then (f_X12_orderOf t5 0).bind (fun x8 => match x8 with | (v10, t11) => (f_X12_orderOf t11 1).bind (fun x12 => match x12 with | (v14, t15) => (if v10 = ((-1)) then some (((-1), t15)) else (if (v10 + v14) = 0 then some (((-1), t15)) else (if a1 = 0 then (if a0 = 0 then some ((v10 * (v14 + 1), t15)) else (if a0 = 1 then some ((v10 - 1, t15)) else some (((-v14) - 1, t15)))) else (if a0 = 0 then some ((1, t15)) else (if a0 = 1 then if v10 + v14 = 0 then none else some (((((v10 * v14) * (v10 + 1)) * (v14 + 1)) / (v10 + v14), t15)) else if v10 + v14 = 0 then none else some ((((v10 * v10) * ((v10 * v14) + 1)) / (v10 + v14), t15))))))))) else some ((0, t5)))) else bnd (oI st 2 0) (fun t25 => (if (t25.1 2) ≤ 0 then (f_X12_orderOf t25 0).bind (fun x28 => match x28 with | (v30, t31) => (f_X12_orderOf t31 1).bind (fun x32 => match x32 with | (v34, t35) => (if v30 = ((-1)) then some (((-1), t35)) else (if (v30 + v34) = 0 then some (((-1), t35)) else (if a1 = 0 then (if a0 = 0 then some ((v30 * (v34 + 1), t35)) else (if a0 = 1 then some ((v30 - 1, t35)) else some (((-v34) - 1, t35)))) else (if a0 = 0 then some ((1, t35)) else (if a0 = 1 then if v30 + v34 = 0 then none else some (((((v30 * v34) * (v30 + 1)) * (v34 + 1)) / (v30 + v34), t35)) else if v30 + v34 = 0 then none else some ((((v30 * v30) * ((v30 * v34) + 1)) / (v30 + v34), t35))))))))) else some ((0, t25))))))
set_option maxHeartbeats 4000000 in
set_option maxRecDepth 100000 in
theorem c_X12_own {l : Launch} {G : mG} {h : mM} {q : Nat → Nat} (hq : oinj LX12 q) {st : OS} {a0 : Int32} {a1 : Int32} {x : Int32 × OS} (hF : f_X12_own st a0 a1 = some x) : cQ l G yX12_own cX12_own 5 (some FieldType.int) rm_X12_own [.ref (q 53), .int a0, .int a1] (oset LX12 G q st h) (mQi G (fun r h1 => r = x.1 ∧ h1 = oset LX12 G q x.2 h)) := by
  refine mp_of (by decide +kernel) (Nat.le_of_ble_eq_true rfl) ?_
  intro p e s m below meth c X hr hlk hH hname ls hl
  dsimp only [f_X12_own] at hF
  replace hl : lv_has ls 5 [(0, .ref (q 53)), (1, .int a0), (2, .int a1)] := hl
  refine lv_aload_n X.x X.b (dk DX12_own_0 0 rfl) rfl (lv_at hl 0 rfl) ?_
  refine lv_iload_n X.x X.b (dk DX12_own_0 1 rfl) rfl (lv_at hl 1 rfl) ?_
  refine lv_i2l X.x X.b (dk DX12_own_0 2 rfl) rfl ?_
  refine lv_lconst (v := 0) X.x X.b (dk DX12_own_0 3 rfl) (by decide) ?_
  refine lv_ldc2 (v := 2) X.x X.b X.ow (X.ts _ kK_X12_298) (dk DX12_own_0 4 rfl) ?_
  obtain ⟨x1, e2, hF⟩ := bd hF
  refine mr_ci0 hH ⟨rfl, rfl⟩ (mr_runS (As := [.long ((a0 : Int32).toInt64), .long 0, .long 2]) (rest := [.ref (q 53)]) X hH (c_X12_within e2) kM_X12_171 kT_X12_within kN_X12 kC_X12_within hd_X12_within ⟨Nat.le_of_ble_eq_true rfl, Nat.le_of_ble_eq_true rfl⟩ rfl hl.1 (Nat.le_of_ble_eq_true rfl) (dk DX12_own_0 5 rfl) ⟨Nat.zero_le _, Nat.zero_le _⟩) (fun r h1 H locs hp hH => ?_)
  obtain ⟨hr1, hr2⟩ := hp; rw [hr1]; rw [hr2] at hH; clear hr1 hr2
  refine lv_if_eq (tgt := 17) X.x X.b (dk DX12_own_0 6 rfl) (by decide) (fun c4 => ?_) (fun c4 => ?_)
  · replace hF := if_t hF c4
    refine lv_iconst (v := 1) X.x X.b (dk DX12_own_0 9 rfl) (by decide) ?_
    refine og_putI OX12 X hq hH 2 (by decide) rfl kF_X12_106 rfl rfl rfl (dk DX12_own_0 10 rfl) (fun H locs hH => ?_)
    obtain ⟨t5, e6⟩ : ∃ y, y = oI st 2 1 := ⟨_, rfl⟩
    rw [← e6] at hH
    replace hF := bnd_e hF e6
    refine lv_aload_n X.x X.b (dk DX12_own_0 11 rfl) rfl (lv_at hl 0 rfl) ?_
    refine og_getI OX12 X hq hH 2 (by decide) rfl kF_X12_106 (dk DX12_own_0 12 rfl) ?_
    refine lv_if_le (tgt := 30) X.x X.b (dk DX12_own_0 13 rfl) (by decide) (fun c7 => ?_) (fun c7 => ?_)
    · replace hF := if_t hF c7
      refine lv_aload_n X.x X.b (dk DX12_own_0 16 rfl) rfl (lv_at hl 0 rfl) ?_
      refine lv_iconst (v := 0) X.x X.b (dk DX12_own_0 17 rfl) (by decide) ?_
      obtain ⟨x8, e9, hF⟩ := bd hF
      refine mr_ci0 hH ⟨rfl, rfl⟩ (mr_runV (As := [.int 0]) (rest := []) X hH (c_X12_orderOf hq e9) ((oset_at hq (Nat.le_refl _) ohas_N).trans (congrArg some ocell_N)) OX12.1 kM_X12_294 kI_X12_orderOf kS_X12_orderOf kN_X12 kC_X12_orderOf hd_X12_orderOf ⟨Nat.le_of_ble_eq_true rfl, Nat.le_of_ble_eq_true rfl⟩ rfl hl.1 (Nat.le_of_ble_eq_true rfl) (dk DX12_own_0 18 rfl) ⟨Nat.zero_le _, Nat.zero_le _⟩) (fun r h1 H locs hp hH => ?_)
      obtain ⟨hr1, hr2⟩ := hp; rw [hr1]; rw [hr2] at hH; clear hr1 hr2
      obtain ⟨v10, t11⟩ := x8
      try dsimp only at hF hH ⊢
      refine lv_istore_n (lv' := [(3, .int v10), (0, .ref (q 53)), (1, .int a0), (2, .int a1)]) X.x X.b (dk DX12_own_0 19 rfl) rfl hl (by decide) rfl (fun ls hl => ?_)
      replace hl : lv_has ls 5 [(0, .ref (q 53)), (1, .int a0), (2, .int a1), (3, .int v10)] := lv_sub hl [1, 2, 3, 0] rfl
      refine lv_aload_n X.x X.b (dk DX12_own_0 20 rfl) rfl (lv_at hl 0 rfl) ?_
      refine lv_iconst (v := 1) X.x X.b (dk DX12_own_0 21 rfl) (by decide) ?_
      obtain ⟨x12, e13, hF⟩ := bd hF
      refine mr_ci0 hH ⟨rfl, rfl⟩ (mr_runV (As := [.int 1]) (rest := []) X hH (c_X12_orderOf hq e13) ((oset_at hq (Nat.le_refl _) ohas_N).trans (congrArg some ocell_N)) OX12.1 kM_X12_294 kI_X12_orderOf kS_X12_orderOf kN_X12 kC_X12_orderOf hd_X12_orderOf ⟨Nat.le_of_ble_eq_true rfl, Nat.le_of_ble_eq_true rfl⟩ rfl hl.1 (Nat.le_of_ble_eq_true rfl) (dk DX12_own_0 22 rfl) ⟨Nat.zero_le _, Nat.zero_le _⟩) (fun r h1 H locs hp hH => ?_)
      obtain ⟨hr1, hr2⟩ := hp; rw [hr1]; rw [hr2] at hH; clear hr1 hr2
      obtain ⟨v14, t15⟩ := x12
      try dsimp only at hF hH ⊢
      refine lv_istore (lv' := [(4, .int v14), (0, .ref (q 53)), (1, .int a0), (2, .int a1), (3, .int v10)]) X.x X.b (dk DX12_own_0 23 rfl) hl (by decide) rfl (fun ls hl => ?_)
      replace hl : lv_has ls 5 [(1, .int a0), (2, .int a1), (3, .int v10), (4, .int v14)] := lv_sub hl [2, 3, 4, 0] rfl
      refine lv_iload_n X.x X.b (dk DX12_own_0 24 rfl) rfl (lv_at hl 2 rfl) ?_
      refine lv_iconst (v := (-1)) X.x X.b (dk DX12_own_0 25 rfl) (by decide) ?_
      refine lv_icmp_eq (tgt := 55) X.x X.b (dk DX12_own_0 26 rfl) (by decide) (fun c16 => ?_) (fun c16 => ?_)
      · replace hF := if_t hF c16
        refine lv_iconst (v := (-1)) X.x X.b (dk DX12_own_0 31 rfl) (by decide) ?_
        cases sm hF
        exact mr_iret X hr hlk hH ⟨rfl, rfl⟩ (dk DX12_own_0 32 rfl)
      · replace hF := if_f hF c16
        refine lv_iload_n X.x X.b (dk DX12_own_0 27 rfl) rfl (lv_at hl 2 rfl) ?_
        refine lv_iload X.x X.b (dk DX12_own_0 28 rfl) (lv_at hl 3 rfl) ?_
        refine lv_iadd X.x X.b (dk DX12_own_0 29 rfl) ?_
        refine lv_if_ne (tgt := 57) X.x X.b (dk DX12_own_0 30 rfl) (by decide) (fun c17 => ?_) (fun c17 => ?_)
        · replace hF := if_f hF c17
          refine lv_iload_n X.x X.b (dk DX12_own_0 33 rfl) rfl (lv_at hl 1 rfl) ?_
          refine lv_if_eq (tgt := 111) X.x X.b (dk DX12_own_0 34 rfl) (by decide) (fun c18 => ?_) (fun c18 => ?_)
          · replace hF := if_t hF c18
            refine lv_iload_n X.x X.b (dk DX12_own_1 12 rfl) rfl (lv_at hl 0 rfl) ?_
            refine lv_if_ne (tgt := 124) X.x X.b (dk DX12_own_1 13 rfl) (by decide) (fun c19 => ?_) (fun c19 => ?_)
            · replace hF := if_f hF c19
              refine lv_iload_n X.x X.b (dk DX12_own_1 20 rfl) rfl (lv_at hl 0 rfl) ?_
              refine lv_iconst (v := 1) X.x X.b (dk DX12_own_1 21 rfl) (by decide) ?_
              refine lv_icmp_ne (tgt := 135) X.x X.b (dk DX12_own_1 22 rfl) (by decide) (fun c20 => ?_) (fun c20 => ?_)
              · replace hF := if_f hF c20
                refine lv_iload X.x X.b (dk DX12_own_1 27 rfl) (lv_at hl 3 rfl) ?_
                refine lv_ineg X.x X.b (dk DX12_own_1 28 rfl) ?_
                refine lv_iconst (v := 1) X.x X.b (dk DX12_own_1 29 rfl) (by decide) ?_
                refine lv_isub X.x X.b (dk DX12_own_1 30 rfl) ?_
                cases sm hF
                exact mr_iret X hr hlk hH ⟨rfl, rfl⟩ (dk DX12_own_1 31 rfl)
              · replace hF := if_t hF c20
                refine lv_iload_n X.x X.b (dk DX12_own_1 23 rfl) rfl (lv_at hl 2 rfl) ?_
                refine lv_iconst (v := 1) X.x X.b (dk DX12_own_1 24 rfl) (by decide) ?_
                refine lv_isub X.x X.b (dk DX12_own_1 25 rfl) ?_
                refine lv_goto (tgt := 140) X.x X.b (dk DX12_own_1 26 rfl) (by decide) ?_
                cases sm hF
                exact mr_iret X hr hlk hH ⟨rfl, rfl⟩ (dk DX12_own_1 31 rfl)
            · replace hF := if_t hF c19
              refine lv_iload_n X.x X.b (dk DX12_own_1 14 rfl) rfl (lv_at hl 2 rfl) ?_
              refine lv_iload X.x X.b (dk DX12_own_1 15 rfl) (lv_at hl 3 rfl) ?_
              refine lv_iconst (v := 1) X.x X.b (dk DX12_own_1 16 rfl) (by decide) ?_
              refine lv_iadd X.x X.b (dk DX12_own_1 17 rfl) ?_
              refine lv_imul X.x X.b (dk DX12_own_1 18 rfl) ?_
              refine lv_goto (tgt := 140) X.x X.b (dk DX12_own_1 19 rfl) (by decide) ?_
              cases sm hF
              exact mr_iret X hr hlk hH ⟨rfl, rfl⟩ (dk DX12_own_1 31 rfl)
          · replace hF := if_f hF c18
            refine lv_iload_n X.x X.b (dk DX12_own_0 35 rfl) rfl (lv_at hl 0 rfl) ?_
            refine lv_if_ne (tgt := 69) X.x X.b (dk DX12_own_0 36 rfl) (by decide) (fun c21 => ?_) (fun c21 => ?_)
            · replace hF := if_f hF c21
              refine lv_iload_n X.x X.b (dk DX12_own_0 39 rfl) rfl (lv_at hl 0 rfl) ?_
              refine lv_iconst (v := 1) X.x X.b (dk DX12_own_0 40 rfl) (by decide) ?_
              refine lv_icmp_ne (tgt := 95) X.x X.b (dk DX12_own_0 41 rfl) (by decide) (fun c22 => ?_) (fun c22 => ?_)
              · replace hF := if_f hF c22
                refine lv_iload_n X.x X.b (dk DX12_own_0 58 rfl) rfl (lv_at hl 2 rfl) ?_
                refine lv_iload_n X.x X.b (dk DX12_own_0 59 rfl) rfl (lv_at hl 2 rfl) ?_
                refine lv_imul X.x X.b (dk DX12_own_1 0 rfl) ?_
                refine lv_iload_n X.x X.b (dk DX12_own_1 1 rfl) rfl (lv_at hl 2 rfl) ?_
                refine lv_iload X.x X.b (dk DX12_own_1 2 rfl) (lv_at hl 3 rfl) ?_
                refine lv_imul X.x X.b (dk DX12_own_1 3 rfl) ?_
                refine lv_iconst (v := 1) X.x X.b (dk DX12_own_1 4 rfl) (by decide) ?_
                refine lv_iadd X.x X.b (dk DX12_own_1 5 rfl) ?_
                refine lv_imul X.x X.b (dk DX12_own_1 6 rfl) ?_
                refine lv_iload_n X.x X.b (dk DX12_own_1 7 rfl) rfl (lv_at hl 2 rfl) ?_
                refine lv_iload X.x X.b (dk DX12_own_1 8 rfl) (lv_at hl 3 rfl) ?_
                refine lv_iadd X.x X.b (dk DX12_own_1 9 rfl) ?_
                obtain ⟨c23, hF⟩ := gn hF
                refine lv_idiv X.x X.b (dk DX12_own_1 10 rfl) c23 ?_
                cases sm hF
                exact mr_iret X hr hlk hH ⟨rfl, rfl⟩ (dk DX12_own_1 11 rfl)
              · replace hF := if_t hF c22
                refine lv_iload_n X.x X.b (dk DX12_own_0 42 rfl) rfl (lv_at hl 2 rfl) ?_
                refine lv_iload X.x X.b (dk DX12_own_0 43 rfl) (lv_at hl 3 rfl) ?_
                refine lv_imul X.x X.b (dk DX12_own_0 44 rfl) ?_
                refine lv_iload_n X.x X.b (dk DX12_own_0 45 rfl) rfl (lv_at hl 2 rfl) ?_
                refine lv_iconst (v := 1) X.x X.b (dk DX12_own_0 46 rfl) (by decide) ?_
                refine lv_iadd X.x X.b (dk DX12_own_0 47 rfl) ?_
                refine lv_imul X.x X.b (dk DX12_own_0 48 rfl) ?_
                refine lv_iload X.x X.b (dk DX12_own_0 49 rfl) (lv_at hl 3 rfl) ?_
                refine lv_iconst (v := 1) X.x X.b (dk DX12_own_0 50 rfl) (by decide) ?_
                refine lv_iadd X.x X.b (dk DX12_own_0 51 rfl) ?_
                refine lv_imul X.x X.b (dk DX12_own_0 52 rfl) ?_
                refine lv_iload_n X.x X.b (dk DX12_own_0 53 rfl) rfl (lv_at hl 2 rfl) ?_
                refine lv_iload X.x X.b (dk DX12_own_0 54 rfl) (lv_at hl 3 rfl) ?_
                refine lv_iadd X.x X.b (dk DX12_own_0 55 rfl) ?_
                obtain ⟨c24, hF⟩ := gn hF
                refine lv_idiv X.x X.b (dk DX12_own_0 56 rfl) c24 ?_
                refine lv_goto (tgt := 110) X.x X.b (dk DX12_own_0 57 rfl) (by decide) ?_
                cases sm hF
                exact mr_iret X hr hlk hH ⟨rfl, rfl⟩ (dk DX12_own_1 11 rfl)
            · replace hF := if_t hF c21
              refine lv_iconst (v := 1) X.x X.b (dk DX12_own_0 37 rfl) (by decide) ?_
              refine lv_goto (tgt := 110) X.x X.b (dk DX12_own_0 38 rfl) (by decide) ?_
              cases sm hF
              exact mr_iret X hr hlk hH ⟨rfl, rfl⟩ (dk DX12_own_1 11 rfl)
        · replace hF := if_t hF c17
          refine lv_iconst (v := (-1)) X.x X.b (dk DX12_own_0 31 rfl) (by decide) ?_
          cases sm hF
          exact mr_iret X hr hlk hH ⟨rfl, rfl⟩ (dk DX12_own_0 32 rfl)
    · replace hF := if_f hF c7
      refine lv_iconst (v := 0) X.x X.b (dk DX12_own_0 14 rfl) (by decide) ?_
      cases sm hF
      exact mr_iret X hr hlk hH ⟨rfl, rfl⟩ (dk DX12_own_0 15 rfl)
  · replace hF := if_f hF c4
    refine lv_iconst (v := 0) X.x X.b (dk DX12_own_0 7 rfl) (by decide) ?_
    refine lv_goto (tgt := 18) X.x X.b (dk DX12_own_0 8 rfl) (by decide) ?_
    refine og_putI OX12 X hq hH 2 (by decide) rfl kF_X12_106 rfl rfl rfl (dk DX12_own_0 10 rfl) (fun H locs hH => ?_)
    obtain ⟨t25, e26⟩ : ∃ y, y = oI st 2 0 := ⟨_, rfl⟩
    rw [← e26] at hH
    replace hF := bnd_e hF e26
    refine lv_aload_n X.x X.b (dk DX12_own_0 11 rfl) rfl (lv_at hl 0 rfl) ?_
    refine og_getI OX12 X hq hH 2 (by decide) rfl kF_X12_106 (dk DX12_own_0 12 rfl) ?_
    refine lv_if_le (tgt := 30) X.x X.b (dk DX12_own_0 13 rfl) (by decide) (fun c27 => ?_) (fun c27 => ?_)
    · replace hF := if_t hF c27
      refine lv_aload_n X.x X.b (dk DX12_own_0 16 rfl) rfl (lv_at hl 0 rfl) ?_
      refine lv_iconst (v := 0) X.x X.b (dk DX12_own_0 17 rfl) (by decide) ?_
      obtain ⟨x28, e29, hF⟩ := bd hF
      refine mr_ci0 hH ⟨rfl, rfl⟩ (mr_runV (As := [.int 0]) (rest := []) X hH (c_X12_orderOf hq e29) ((oset_at hq (Nat.le_refl _) ohas_N).trans (congrArg some ocell_N)) OX12.1 kM_X12_294 kI_X12_orderOf kS_X12_orderOf kN_X12 kC_X12_orderOf hd_X12_orderOf ⟨Nat.le_of_ble_eq_true rfl, Nat.le_of_ble_eq_true rfl⟩ rfl hl.1 (Nat.le_of_ble_eq_true rfl) (dk DX12_own_0 18 rfl) ⟨Nat.zero_le _, Nat.zero_le _⟩) (fun r h1 H locs hp hH => ?_)
      obtain ⟨hr1, hr2⟩ := hp; rw [hr1]; rw [hr2] at hH; clear hr1 hr2
      obtain ⟨v30, t31⟩ := x28
      try dsimp only at hF hH ⊢
      refine lv_istore_n (lv' := [(3, .int v30), (0, .ref (q 53)), (1, .int a0), (2, .int a1)]) X.x X.b (dk DX12_own_0 19 rfl) rfl hl (by decide) rfl (fun ls hl => ?_)
      replace hl : lv_has ls 5 [(0, .ref (q 53)), (1, .int a0), (2, .int a1), (3, .int v30)] := lv_sub hl [1, 2, 3, 0] rfl
      refine lv_aload_n X.x X.b (dk DX12_own_0 20 rfl) rfl (lv_at hl 0 rfl) ?_
      refine lv_iconst (v := 1) X.x X.b (dk DX12_own_0 21 rfl) (by decide) ?_
      obtain ⟨x32, e33, hF⟩ := bd hF
      refine mr_ci0 hH ⟨rfl, rfl⟩ (mr_runV (As := [.int 1]) (rest := []) X hH (c_X12_orderOf hq e33) ((oset_at hq (Nat.le_refl _) ohas_N).trans (congrArg some ocell_N)) OX12.1 kM_X12_294 kI_X12_orderOf kS_X12_orderOf kN_X12 kC_X12_orderOf hd_X12_orderOf ⟨Nat.le_of_ble_eq_true rfl, Nat.le_of_ble_eq_true rfl⟩ rfl hl.1 (Nat.le_of_ble_eq_true rfl) (dk DX12_own_0 22 rfl) ⟨Nat.zero_le _, Nat.zero_le _⟩) (fun r h1 H locs hp hH => ?_)
      obtain ⟨hr1, hr2⟩ := hp; rw [hr1]; rw [hr2] at hH; clear hr1 hr2
      obtain ⟨v34, t35⟩ := x32
      try dsimp only at hF hH ⊢
      refine lv_istore (lv' := [(4, .int v34), (0, .ref (q 53)), (1, .int a0), (2, .int a1), (3, .int v30)]) X.x X.b (dk DX12_own_0 23 rfl) hl (by decide) rfl (fun ls hl => ?_)
      replace hl : lv_has ls 5 [(1, .int a0), (2, .int a1), (3, .int v30), (4, .int v34)] := lv_sub hl [2, 3, 4, 0] rfl
      refine lv_iload_n X.x X.b (dk DX12_own_0 24 rfl) rfl (lv_at hl 2 rfl) ?_
      refine lv_iconst (v := (-1)) X.x X.b (dk DX12_own_0 25 rfl) (by decide) ?_
      refine lv_icmp_eq (tgt := 55) X.x X.b (dk DX12_own_0 26 rfl) (by decide) (fun c36 => ?_) (fun c36 => ?_)
      · replace hF := if_t hF c36
        refine lv_iconst (v := (-1)) X.x X.b (dk DX12_own_0 31 rfl) (by decide) ?_
        cases sm hF
        exact mr_iret X hr hlk hH ⟨rfl, rfl⟩ (dk DX12_own_0 32 rfl)
      · replace hF := if_f hF c36
        refine lv_iload_n X.x X.b (dk DX12_own_0 27 rfl) rfl (lv_at hl 2 rfl) ?_
        refine lv_iload X.x X.b (dk DX12_own_0 28 rfl) (lv_at hl 3 rfl) ?_
        refine lv_iadd X.x X.b (dk DX12_own_0 29 rfl) ?_
        refine lv_if_ne (tgt := 57) X.x X.b (dk DX12_own_0 30 rfl) (by decide) (fun c37 => ?_) (fun c37 => ?_)
        · replace hF := if_f hF c37
          refine lv_iload_n X.x X.b (dk DX12_own_0 33 rfl) rfl (lv_at hl 1 rfl) ?_
          refine lv_if_eq (tgt := 111) X.x X.b (dk DX12_own_0 34 rfl) (by decide) (fun c38 => ?_) (fun c38 => ?_)
          · replace hF := if_t hF c38
            refine lv_iload_n X.x X.b (dk DX12_own_1 12 rfl) rfl (lv_at hl 0 rfl) ?_
            refine lv_if_ne (tgt := 124) X.x X.b (dk DX12_own_1 13 rfl) (by decide) (fun c39 => ?_) (fun c39 => ?_)
            · replace hF := if_f hF c39
              refine lv_iload_n X.x X.b (dk DX12_own_1 20 rfl) rfl (lv_at hl 0 rfl) ?_
              refine lv_iconst (v := 1) X.x X.b (dk DX12_own_1 21 rfl) (by decide) ?_
              refine lv_icmp_ne (tgt := 135) X.x X.b (dk DX12_own_1 22 rfl) (by decide) (fun c40 => ?_) (fun c40 => ?_)
              · replace hF := if_f hF c40
                refine lv_iload X.x X.b (dk DX12_own_1 27 rfl) (lv_at hl 3 rfl) ?_
                refine lv_ineg X.x X.b (dk DX12_own_1 28 rfl) ?_
                refine lv_iconst (v := 1) X.x X.b (dk DX12_own_1 29 rfl) (by decide) ?_
                refine lv_isub X.x X.b (dk DX12_own_1 30 rfl) ?_
                cases sm hF
                exact mr_iret X hr hlk hH ⟨rfl, rfl⟩ (dk DX12_own_1 31 rfl)
              · replace hF := if_t hF c40
                refine lv_iload_n X.x X.b (dk DX12_own_1 23 rfl) rfl (lv_at hl 2 rfl) ?_
                refine lv_iconst (v := 1) X.x X.b (dk DX12_own_1 24 rfl) (by decide) ?_
                refine lv_isub X.x X.b (dk DX12_own_1 25 rfl) ?_
                refine lv_goto (tgt := 140) X.x X.b (dk DX12_own_1 26 rfl) (by decide) ?_
                cases sm hF
                exact mr_iret X hr hlk hH ⟨rfl, rfl⟩ (dk DX12_own_1 31 rfl)
            · replace hF := if_t hF c39
              refine lv_iload_n X.x X.b (dk DX12_own_1 14 rfl) rfl (lv_at hl 2 rfl) ?_
              refine lv_iload X.x X.b (dk DX12_own_1 15 rfl) (lv_at hl 3 rfl) ?_
              refine lv_iconst (v := 1) X.x X.b (dk DX12_own_1 16 rfl) (by decide) ?_
              refine lv_iadd X.x X.b (dk DX12_own_1 17 rfl) ?_
              refine lv_imul X.x X.b (dk DX12_own_1 18 rfl) ?_
              refine lv_goto (tgt := 140) X.x X.b (dk DX12_own_1 19 rfl) (by decide) ?_
              cases sm hF
              exact mr_iret X hr hlk hH ⟨rfl, rfl⟩ (dk DX12_own_1 31 rfl)
          · replace hF := if_f hF c38
            refine lv_iload_n X.x X.b (dk DX12_own_0 35 rfl) rfl (lv_at hl 0 rfl) ?_
            refine lv_if_ne (tgt := 69) X.x X.b (dk DX12_own_0 36 rfl) (by decide) (fun c41 => ?_) (fun c41 => ?_)
            · replace hF := if_f hF c41
              refine lv_iload_n X.x X.b (dk DX12_own_0 39 rfl) rfl (lv_at hl 0 rfl) ?_
              refine lv_iconst (v := 1) X.x X.b (dk DX12_own_0 40 rfl) (by decide) ?_
              refine lv_icmp_ne (tgt := 95) X.x X.b (dk DX12_own_0 41 rfl) (by decide) (fun c42 => ?_) (fun c42 => ?_)
              · replace hF := if_f hF c42
                refine lv_iload_n X.x X.b (dk DX12_own_0 58 rfl) rfl (lv_at hl 2 rfl) ?_
                refine lv_iload_n X.x X.b (dk DX12_own_0 59 rfl) rfl (lv_at hl 2 rfl) ?_
                refine lv_imul X.x X.b (dk DX12_own_1 0 rfl) ?_
                refine lv_iload_n X.x X.b (dk DX12_own_1 1 rfl) rfl (lv_at hl 2 rfl) ?_
                refine lv_iload X.x X.b (dk DX12_own_1 2 rfl) (lv_at hl 3 rfl) ?_
                refine lv_imul X.x X.b (dk DX12_own_1 3 rfl) ?_
                refine lv_iconst (v := 1) X.x X.b (dk DX12_own_1 4 rfl) (by decide) ?_
                refine lv_iadd X.x X.b (dk DX12_own_1 5 rfl) ?_
                refine lv_imul X.x X.b (dk DX12_own_1 6 rfl) ?_
                refine lv_iload_n X.x X.b (dk DX12_own_1 7 rfl) rfl (lv_at hl 2 rfl) ?_
                refine lv_iload X.x X.b (dk DX12_own_1 8 rfl) (lv_at hl 3 rfl) ?_
                refine lv_iadd X.x X.b (dk DX12_own_1 9 rfl) ?_
                obtain ⟨c43, hF⟩ := gn hF
                refine lv_idiv X.x X.b (dk DX12_own_1 10 rfl) c43 ?_
                cases sm hF
                exact mr_iret X hr hlk hH ⟨rfl, rfl⟩ (dk DX12_own_1 11 rfl)
              · replace hF := if_t hF c42
                refine lv_iload_n X.x X.b (dk DX12_own_0 42 rfl) rfl (lv_at hl 2 rfl) ?_
                refine lv_iload X.x X.b (dk DX12_own_0 43 rfl) (lv_at hl 3 rfl) ?_
                refine lv_imul X.x X.b (dk DX12_own_0 44 rfl) ?_
                refine lv_iload_n X.x X.b (dk DX12_own_0 45 rfl) rfl (lv_at hl 2 rfl) ?_
                refine lv_iconst (v := 1) X.x X.b (dk DX12_own_0 46 rfl) (by decide) ?_
                refine lv_iadd X.x X.b (dk DX12_own_0 47 rfl) ?_
                refine lv_imul X.x X.b (dk DX12_own_0 48 rfl) ?_
                refine lv_iload X.x X.b (dk DX12_own_0 49 rfl) (lv_at hl 3 rfl) ?_
                refine lv_iconst (v := 1) X.x X.b (dk DX12_own_0 50 rfl) (by decide) ?_
                refine lv_iadd X.x X.b (dk DX12_own_0 51 rfl) ?_
                refine lv_imul X.x X.b (dk DX12_own_0 52 rfl) ?_
                refine lv_iload_n X.x X.b (dk DX12_own_0 53 rfl) rfl (lv_at hl 2 rfl) ?_
                refine lv_iload X.x X.b (dk DX12_own_0 54 rfl) (lv_at hl 3 rfl) ?_
                refine lv_iadd X.x X.b (dk DX12_own_0 55 rfl) ?_
                obtain ⟨c44, hF⟩ := gn hF
                refine lv_idiv X.x X.b (dk DX12_own_0 56 rfl) c44 ?_
                refine lv_goto (tgt := 110) X.x X.b (dk DX12_own_0 57 rfl) (by decide) ?_
                cases sm hF
                exact mr_iret X hr hlk hH ⟨rfl, rfl⟩ (dk DX12_own_1 11 rfl)
            · replace hF := if_t hF c41
              refine lv_iconst (v := 1) X.x X.b (dk DX12_own_0 37 rfl) (by decide) ?_
              refine lv_goto (tgt := 110) X.x X.b (dk DX12_own_0 38 rfl) (by decide) ?_
              cases sm hF
              exact mr_iret X hr hlk hH ⟨rfl, rfl⟩ (dk DX12_own_1 11 rfl)
        · replace hF := if_t hF c37
          refine lv_iconst (v := (-1)) X.x X.b (dk DX12_own_0 31 rfl) (by decide) ?_
          cases sm hF
          exact mr_iret X hr hlk hH ⟨rfl, rfl⟩ (dk DX12_own_0 32 rfl)
    · replace hF := if_f hF c27
      refine lv_iconst (v := 0) X.x X.b (dk DX12_own_0 14 rfl) (by decide) ?_
      cases sm hF
      exact mr_iret X hr hlk hH ⟨rfl, rfl⟩ (dk DX12_own_0 15 rfl)
-- X12_meets
abbrev rm_X12_meets : Room := { frames := 4, cells := 0, slots := 0, locals := 82 }
theorem hd_X12_meets : mHd yX12_meets 2 := ⟨by decide +kernel, by decide +kernel, by decide +kernel⟩
theorem DX12_meets_0 : ∀ t ∈ ([(0, .aload_n 0, 1), (1, .aload_n 0, 1), (2, .iload_n 3, 1), (3, .invokevirtual 263, 3), (6, .ifCond .ne 7, 3), (9, .iconst 1, 1), (10, .goto 16, 3), (13, .aload_n 0, 1), (14, .lload_n 1, 1), (15, .invokevirtual 275, 3), (18, .ifCond .eq 7, 3), (21, .iconst 0, 1), (22, .goto 4, 3), (25, .iconst 2, 1), (26, .putfield 106, 3), (29, .aload_n 0, 1), (30, .getfield 106, 3), (33, .ifCond .le 7, 3), (36, .iconst 0, 1), (37, .goto 14, 3), (40, .lload_n 1, 1), (41, .aload_n 0, 1), (42, .getfield 7, 3), (45, .iload_n 3, 1), (46, .laload, 1), (47, .land, 1), (48, .invokestatic 283, 3), (51, .ireturn, 1)] : List (Nat × Instr × Nat)), decode cX12_meets t.1 = .ok (t.2.1, t.2.2) := by decide +kernel
noncomputable def f_X12_meets (st : OS) (a0 : Int64) (a1 : Int32) : Option (Int32 × OS) := (f_X12_isLine st a1).bind (fun x1 => (if x1 = 0 then bnd (oI st 2 1) (fun t23 => (if (t23.1 2) ≤ 0 then if inb a1 64 = true then (f_X12_ones (a0 &&& (t23.2.2.2 3 (a1 : Int32).toNatClampNeg))).bind (fun x27 => some ((x27, t23))) else none else some ((0, t23)))) else (f_X12_isSet st a0).bind (fun x5 => (if x5 = 0 then bnd (oI st 2 2) (fun t9 => (if (t9.1 2) ≤ 0 then if inb a1 64 = true then (f_X12_ones (a0 &&& (t9.2.2.2 3 (a1 : Int32).toNatClampNeg))).bind (fun x13 => some ((x13, t9))) else none else some ((0, t9)))) else bnd (oI st 2 0) (fun t16 => (if (t16.1 2) ≤ 0 then if inb a1 64 = true then (f_X12_ones (a0 &&& (t16.2.2.2 3 (a1 : Int32).toNatClampNeg))).bind (fun x20 => some ((x20, t16))) else none else some ((0, t16))))))))
set_option maxHeartbeats 4000000 in
set_option maxRecDepth 100000 in
theorem c_X12_meets {l : Launch} {G : mG} {h : mM} {q : Nat → Nat} (hq : oinj LX12 q) {st : OS} {a0 : Int64} {a1 : Int32} {x : Int32 × OS} (hF : f_X12_meets st a0 a1 = some x) : cQ l G yX12_meets cX12_meets 4 (some FieldType.int) rm_X12_meets [.ref (q 53), .long a0, .int a1] (oset LX12 G q st h) (mQi G (fun r h1 => r = x.1 ∧ h1 = oset LX12 G q x.2 h)) := by
  refine mp_of (by decide +kernel) (Nat.le_of_ble_eq_true rfl) ?_
  intro p e s m below meth c X hr hlk hH hname ls hl
  dsimp only [f_X12_meets] at hF
  replace hl : lv_has ls 4 [(0, .ref (q 53)), (1, .long a0), (3, .int a1)] := hl
  refine lv_aload_n X.x X.b (dk DX12_meets_0 0 rfl) rfl (lv_at hl 0 rfl) ?_
  refine lv_aload_n X.x X.b (dk DX12_meets_0 1 rfl) rfl (lv_at hl 0 rfl) ?_
  refine lv_iload_n X.x X.b (dk DX12_meets_0 2 rfl) rfl (lv_at hl 2 rfl) ?_
  obtain ⟨x1, e2, hF⟩ := bd hF
  refine mr_ci0 hH ⟨rfl, rfl⟩ (mr_runV (As := [.int a1]) (rest := [.ref (q 53)]) X hH (c_X12_isLine hq e2) ((oset_at hq (Nat.le_refl _) ohas_N).trans (congrArg some ocell_N)) OX12.1 kM_X12_263 kI_X12_isLine kS_X12_isLine kN_X12 kC_X12_isLine hd_X12_isLine ⟨Nat.le_of_ble_eq_true rfl, Nat.le_of_ble_eq_true rfl⟩ rfl hl.1 (Nat.le_of_ble_eq_true rfl) (dk DX12_meets_0 3 rfl) ⟨Nat.zero_le _, Nat.zero_le _⟩) (fun r h1 H locs hp hH => ?_)
  obtain ⟨hr1, hr2⟩ := hp; rw [hr1]; rw [hr2] at hH; clear hr1 hr2
  refine lv_if_ne (tgt := 13) X.x X.b (dk DX12_meets_0 4 rfl) (by decide) (fun c4 => ?_) (fun c4 => ?_)
  · replace hF := if_f hF c4
    refine lv_aload_n X.x X.b (dk DX12_meets_0 7 rfl) rfl (lv_at hl 0 rfl) ?_
    refine lv_lload_n X.x X.b (dk DX12_meets_0 8 rfl) rfl (lv_at hl 1 rfl) ?_
    obtain ⟨x5, e6, hF⟩ := bd hF
    refine mr_ci0 hH ⟨rfl, rfl⟩ (mr_runV (As := [.long a0]) (rest := [.ref (q 53)]) X hH (c_X12_isSet hq e6) ((oset_at hq (Nat.le_refl _) ohas_N).trans (congrArg some ocell_N)) OX12.1 kM_X12_275 kI_X12_isSet kS_X12_isSet kN_X12 kC_X12_isSet hd_X12_isSet ⟨Nat.le_of_ble_eq_true rfl, Nat.le_of_ble_eq_true rfl⟩ rfl hl.1 (Nat.le_of_ble_eq_true rfl) (dk DX12_meets_0 9 rfl) ⟨Nat.zero_le _, Nat.zero_le _⟩) (fun r h1 H locs hp hH => ?_)
    obtain ⟨hr1, hr2⟩ := hp; rw [hr1]; rw [hr2] at hH; clear hr1 hr2
    refine lv_if_eq (tgt := 25) X.x X.b (dk DX12_meets_0 10 rfl) (by decide) (fun c8 => ?_) (fun c8 => ?_)
    · replace hF := if_t hF c8
      refine lv_iconst (v := 2) X.x X.b (dk DX12_meets_0 13 rfl) (by decide) ?_
      refine og_putI OX12 X hq hH 2 (by decide) rfl kF_X12_106 rfl rfl rfl (dk DX12_meets_0 14 rfl) (fun H locs hH => ?_)
      obtain ⟨t9, e10⟩ : ∃ y, y = oI st 2 2 := ⟨_, rfl⟩
      rw [← e10] at hH
      replace hF := bnd_e hF e10
      refine lv_aload_n X.x X.b (dk DX12_meets_0 15 rfl) rfl (lv_at hl 0 rfl) ?_
      refine og_getI OX12 X hq hH 2 (by decide) rfl kF_X12_106 (dk DX12_meets_0 16 rfl) ?_
      refine lv_if_le (tgt := 40) X.x X.b (dk DX12_meets_0 17 rfl) (by decide) (fun c11 => ?_) (fun c11 => ?_)
      · replace hF := if_t hF c11
        refine lv_lload_n X.x X.b (dk DX12_meets_0 20 rfl) rfl (lv_at hl 1 rfl) ?_
        refine lv_aload_n X.x X.b (dk DX12_meets_0 21 rfl) rfl (lv_at hl 0 rfl) ?_
        refine og_getR (t := 1) OX12 X hq hH 3 (by decide) rfl kF_X12_7 (dk DX12_meets_0 22 rfl) ?_
        refine lv_iload_n X.x X.b (dk DX12_meets_0 23 rfl) rfl (lv_at hl 2 rfl) ?_
        obtain ⟨c12, hF⟩ := gd hF
        refine og_lald X hq hH 3 (by decide) rfl (inb_in c12) (dk DX12_meets_0 24 rfl) ?_
        refine lv_land X.x X.b (dk DX12_meets_0 25 rfl) ?_
        obtain ⟨x13, e14, hF⟩ := bd hF
        refine mr_ci0 hH ⟨rfl, rfl⟩ (mr_runS (As := [.long (a0 &&& (t9.2.2.2 3 (a1 : Int32).toNatClampNeg))]) (rest := []) X hH (c_X12_ones e14) kM_X12_283 kT_X12_ones kN_X12 kC_X12_ones hd_X12_ones ⟨Nat.le_of_ble_eq_true rfl, Nat.le_of_ble_eq_true rfl⟩ rfl hl.1 (Nat.le_of_ble_eq_true rfl) (dk DX12_meets_0 26 rfl) ⟨Nat.zero_le _, Nat.zero_le _⟩) (fun r h1 H locs hp hH => ?_)
        obtain ⟨hr1, hr2⟩ := hp; rw [hr1]; rw [hr2] at hH; clear hr1 hr2
        cases sm hF
        exact mr_iret X hr hlk hH ⟨rfl, rfl⟩ (dk DX12_meets_0 27 rfl)
      · replace hF := if_f hF c11
        refine lv_iconst (v := 0) X.x X.b (dk DX12_meets_0 18 rfl) (by decide) ?_
        refine lv_goto (tgt := 51) X.x X.b (dk DX12_meets_0 19 rfl) (by decide) ?_
        cases sm hF
        exact mr_iret X hr hlk hH ⟨rfl, rfl⟩ (dk DX12_meets_0 27 rfl)
    · replace hF := if_f hF c8
      refine lv_iconst (v := 0) X.x X.b (dk DX12_meets_0 11 rfl) (by decide) ?_
      refine lv_goto (tgt := 26) X.x X.b (dk DX12_meets_0 12 rfl) (by decide) ?_
      refine og_putI OX12 X hq hH 2 (by decide) rfl kF_X12_106 rfl rfl rfl (dk DX12_meets_0 14 rfl) (fun H locs hH => ?_)
      obtain ⟨t16, e17⟩ : ∃ y, y = oI st 2 0 := ⟨_, rfl⟩
      rw [← e17] at hH
      replace hF := bnd_e hF e17
      refine lv_aload_n X.x X.b (dk DX12_meets_0 15 rfl) rfl (lv_at hl 0 rfl) ?_
      refine og_getI OX12 X hq hH 2 (by decide) rfl kF_X12_106 (dk DX12_meets_0 16 rfl) ?_
      refine lv_if_le (tgt := 40) X.x X.b (dk DX12_meets_0 17 rfl) (by decide) (fun c18 => ?_) (fun c18 => ?_)
      · replace hF := if_t hF c18
        refine lv_lload_n X.x X.b (dk DX12_meets_0 20 rfl) rfl (lv_at hl 1 rfl) ?_
        refine lv_aload_n X.x X.b (dk DX12_meets_0 21 rfl) rfl (lv_at hl 0 rfl) ?_
        refine og_getR (t := 1) OX12 X hq hH 3 (by decide) rfl kF_X12_7 (dk DX12_meets_0 22 rfl) ?_
        refine lv_iload_n X.x X.b (dk DX12_meets_0 23 rfl) rfl (lv_at hl 2 rfl) ?_
        obtain ⟨c19, hF⟩ := gd hF
        refine og_lald X hq hH 3 (by decide) rfl (inb_in c19) (dk DX12_meets_0 24 rfl) ?_
        refine lv_land X.x X.b (dk DX12_meets_0 25 rfl) ?_
        obtain ⟨x20, e21, hF⟩ := bd hF
        refine mr_ci0 hH ⟨rfl, rfl⟩ (mr_runS (As := [.long (a0 &&& (t16.2.2.2 3 (a1 : Int32).toNatClampNeg))]) (rest := []) X hH (c_X12_ones e21) kM_X12_283 kT_X12_ones kN_X12 kC_X12_ones hd_X12_ones ⟨Nat.le_of_ble_eq_true rfl, Nat.le_of_ble_eq_true rfl⟩ rfl hl.1 (Nat.le_of_ble_eq_true rfl) (dk DX12_meets_0 26 rfl) ⟨Nat.zero_le _, Nat.zero_le _⟩) (fun r h1 H locs hp hH => ?_)
        obtain ⟨hr1, hr2⟩ := hp; rw [hr1]; rw [hr2] at hH; clear hr1 hr2
        cases sm hF
        exact mr_iret X hr hlk hH ⟨rfl, rfl⟩ (dk DX12_meets_0 27 rfl)
      · replace hF := if_f hF c18
        refine lv_iconst (v := 0) X.x X.b (dk DX12_meets_0 18 rfl) (by decide) ?_
        refine lv_goto (tgt := 51) X.x X.b (dk DX12_meets_0 19 rfl) (by decide) ?_
        cases sm hF
        exact mr_iret X hr hlk hH ⟨rfl, rfl⟩ (dk DX12_meets_0 27 rfl)
  · replace hF := if_t hF c4
    refine lv_iconst (v := 1) X.x X.b (dk DX12_meets_0 5 rfl) (by decide) ?_
    refine lv_goto (tgt := 26) X.x X.b (dk DX12_meets_0 6 rfl) (by decide) ?_
    refine og_putI OX12 X hq hH 2 (by decide) rfl kF_X12_106 rfl rfl rfl (dk DX12_meets_0 14 rfl) (fun H locs hH => ?_)
    obtain ⟨t23, e24⟩ : ∃ y, y = oI st 2 1 := ⟨_, rfl⟩
    rw [← e24] at hH
    replace hF := bnd_e hF e24
    refine lv_aload_n X.x X.b (dk DX12_meets_0 15 rfl) rfl (lv_at hl 0 rfl) ?_
    refine og_getI OX12 X hq hH 2 (by decide) rfl kF_X12_106 (dk DX12_meets_0 16 rfl) ?_
    refine lv_if_le (tgt := 40) X.x X.b (dk DX12_meets_0 17 rfl) (by decide) (fun c25 => ?_) (fun c25 => ?_)
    · replace hF := if_t hF c25
      refine lv_lload_n X.x X.b (dk DX12_meets_0 20 rfl) rfl (lv_at hl 1 rfl) ?_
      refine lv_aload_n X.x X.b (dk DX12_meets_0 21 rfl) rfl (lv_at hl 0 rfl) ?_
      refine og_getR (t := 1) OX12 X hq hH 3 (by decide) rfl kF_X12_7 (dk DX12_meets_0 22 rfl) ?_
      refine lv_iload_n X.x X.b (dk DX12_meets_0 23 rfl) rfl (lv_at hl 2 rfl) ?_
      obtain ⟨c26, hF⟩ := gd hF
      refine og_lald X hq hH 3 (by decide) rfl (inb_in c26) (dk DX12_meets_0 24 rfl) ?_
      refine lv_land X.x X.b (dk DX12_meets_0 25 rfl) ?_
      obtain ⟨x27, e28, hF⟩ := bd hF
      refine mr_ci0 hH ⟨rfl, rfl⟩ (mr_runS (As := [.long (a0 &&& (t23.2.2.2 3 (a1 : Int32).toNatClampNeg))]) (rest := []) X hH (c_X12_ones e28) kM_X12_283 kT_X12_ones kN_X12 kC_X12_ones hd_X12_ones ⟨Nat.le_of_ble_eq_true rfl, Nat.le_of_ble_eq_true rfl⟩ rfl hl.1 (Nat.le_of_ble_eq_true rfl) (dk DX12_meets_0 26 rfl) ⟨Nat.zero_le _, Nat.zero_le _⟩) (fun r h1 H locs hp hH => ?_)
      obtain ⟨hr1, hr2⟩ := hp; rw [hr1]; rw [hr2] at hH; clear hr1 hr2
      cases sm hF
      exact mr_iret X hr hlk hH ⟨rfl, rfl⟩ (dk DX12_meets_0 27 rfl)
    · replace hF := if_f hF c25
      refine lv_iconst (v := 0) X.x X.b (dk DX12_meets_0 18 rfl) (by decide) ?_
      refine lv_goto (tgt := 51) X.x X.b (dk DX12_meets_0 19 rfl) (by decide) ?_
      cases sm hF
      exact mr_iret X hr hlk hH ⟨rfl, rfl⟩ (dk DX12_meets_0 27 rfl)
-- X12_evenOf
abbrev rm_X12_evenOf : Room := { frames := 1, cells := 0, slots := 0, locals := 24 }
theorem hd_X12_evenOf : mHd yX12_evenOf 1 := ⟨by decide +kernel, by decide +kernel, by decide +kernel⟩
theorem DX12_evenOf_0 : ∀ t ∈ ([(0, .iconst 1, 1), (1, .istore_n 3, 1), (2, .iload_n 3, 1), (3, .aload_n 0, 1), (4, .getfield 250, 3), (7, .if_icmp .ge 36, 3), (10, .lload_n 1, 1), (11, .aload_n 0, 1), (12, .getfield 7, 3), (15, .iload_n 3, 1), (16, .laload, 1), (17, .land, 1), (18, .invokestatic 283, 3), (21, .lload_n 1, 1), (22, .aload_n 0, 1), (23, .getfield 7, 3), (26, .iconst 0, 1), (27, .laload, 1), (28, .land, 1), (29, .invokestatic 283, 3), (32, .if_icmp .eq 5, 3), (35, .iconst (-1), 1), (36, .ireturn, 1), (37, .iinc 3 1, 3), (40, .goto (-38), 3), (43, .aload_n 0, 1), (44, .getfield 250, 3), (47, .ifCond .ne 7, 3), (50, .iconst (-1), 1), (51, .goto 14, 3), (54, .lload_n 1, 1), (55, .aload_n 0, 1), (56, .getfield 7, 3), (59, .iconst 0, 1), (60, .laload, 1), (61, .land, 1), (62, .invokestatic 283, 3), (65, .ireturn, 1)] : List (Nat × Instr × Nat)), decode cX12_evenOf t.1 = .ok (t.2.1, t.2.2) := by decide +kernel
noncomputable def f_X12_evenOf_2 (s_t : OS) (b1 : Int64) : Int32 → Option ((Int32) ⊕ (Nat)) := fun b3 => (if (s_t.1 1) ≤ b3 then some (.inr 1) else if inb b3 64 = true then (f_X12_ones (b1 &&& (s_t.2.2.2 3 (b3 : Int32).toNatClampNeg))).bind (fun x3 => if inb 0 64 = true then (f_X12_ones (b1 &&& (s_t.2.2.2 3 (0 : Int32).toNatClampNeg))).bind (fun x7 => (if x3 = x7 then bnd (b3 + 1 : Int32) (fun v11 => some (.inl v11)) else some (.inr 0))) else none) else none)
noncomputable def f_X12_evenOf (st : OS) (a0 : Int64) : Option (Int32) := (lpv (f_X12_evenOf_2 st a0) 1).bind (fun x13 => (if x13 = 0 then some ((-1)) else (if (st.1 1) = 0 then some ((-1)) else if inb 0 64 = true then (f_X12_ones (a0 &&& (st.2.2.2 3 (0 : Int32).toNatClampNeg))).bind (fun x18 => some x18) else none)))
set_option maxHeartbeats 4000000 in
set_option maxRecDepth 100000 in
theorem w_X12_evenOf_2 {p : Program} {l : Launch} {e : Env} {s : State} {m : MethodId} {args : Array Value} {below : List Frame} {meth : Method} {c : Code} {Q : State → Prop} {G : mG} {h : mM} {q : Nat → Nat} (hq : oinj LX12 q) (X : mX G p m c cX12_evenOf 4 s args RX12) (s_t : OS) (b1 : Int64) : ∀ (z : Int32) (r : Nat), lpv (f_X12_evenOf_2 s_t b1) z = some r → ∀ (H : Heap) (locs : List Loc) (ls : Array Slot), mH G (oset LX12 G q s_t h) s.heap H locs → lv_has ls 4 [(0, .ref (q 53)), (1, .long b1), (3, .int z)] → (r = 0 → ∀ (H : Heap) (locs : List Loc) (ls : Array Slot), mH G (oset LX12 G q s_t h) s.heap H locs → lv_has ls 4 [] → W p l e rm_X12_evenOf s m args below meth c H locs 0 0 Q (F0 m 35 ls [])) → (r = 1 → ∀ (H : Heap) (locs : List Loc) (ls : Array Slot), mH G (oset LX12 G q s_t h) s.heap H locs → lv_has ls 4 [(0, .ref (q 53)), (1, .long b1)] → W p l e rm_X12_evenOf s m args below meth c H locs 0 0 Q (F0 m 43 ls [])) → W p l e rm_X12_evenOf s m args below meth c H locs 0 0 Q (F0 m 2 ls []) := by
  refine lpv_rec ?_
  intro z r x hF hx H locs ls hH hl K0 K1
  obtain ⟨b3, hz⟩ : ∃ y, y = z := ⟨_, rfl⟩
  subst hz
  dsimp only [f_X12_evenOf_2] at hF
  refine lv_iload_n X.x X.b (dk DX12_evenOf_0 2 rfl) rfl (lv_at hl 2 rfl) ?_
  refine lv_aload_n X.x X.b (dk DX12_evenOf_0 3 rfl) rfl (lv_at hl 0 rfl) ?_
  refine og_getI OX12 X hq hH 1 (by decide) rfl kF_X12_250 (dk DX12_evenOf_0 4 rfl) ?_
  refine lv_icmp_ge (tgt := 43) X.x X.b (dk DX12_evenOf_0 5 rfl) (by decide) (fun c1 => ?_) (fun c1 => ?_)
  · replace hF := if_t hF c1
    have hr9 := lp_r hF hx
    subst hr9
    exact K1 rfl _ _ _ hH (lv_sub hl [0, 1] rfl)
  · replace hF := if_f hF c1
    refine lv_lload_n X.x X.b (dk DX12_evenOf_0 6 rfl) rfl (lv_at hl 1 rfl) ?_
    refine lv_aload_n X.x X.b (dk DX12_evenOf_0 7 rfl) rfl (lv_at hl 0 rfl) ?_
    refine og_getR (t := 1) OX12 X hq hH 3 (by decide) rfl kF_X12_7 (dk DX12_evenOf_0 8 rfl) ?_
    refine lv_iload_n X.x X.b (dk DX12_evenOf_0 9 rfl) rfl (lv_at hl 2 rfl) ?_
    obtain ⟨c2, hF⟩ := gd hF
    refine og_lald X hq hH 3 (by decide) rfl (inb_in c2) (dk DX12_evenOf_0 10 rfl) ?_
    refine lv_land X.x X.b (dk DX12_evenOf_0 11 rfl) ?_
    obtain ⟨x3, e4, hF⟩ := bd hF
    refine mr_ci0 hH ⟨rfl, rfl⟩ (mr_runS (As := [.long (b1 &&& (s_t.2.2.2 3 (b3 : Int32).toNatClampNeg))]) (rest := []) X hH (c_X12_ones e4) kM_X12_283 kT_X12_ones kN_X12 kC_X12_ones hd_X12_ones ⟨Nat.le_of_ble_eq_true rfl, Nat.le_of_ble_eq_true rfl⟩ rfl hl.1 (Nat.le_of_ble_eq_true rfl) (dk DX12_evenOf_0 12 rfl) ⟨Nat.zero_le _, Nat.zero_le _⟩) (fun r h1 H locs hp hH => ?_)
    obtain ⟨hr1, hr2⟩ := hp; rw [hr1]; rw [hr2] at hH; clear hr1 hr2
    refine lv_lload_n X.x X.b (dk DX12_evenOf_0 13 rfl) rfl (lv_at hl 1 rfl) ?_
    refine lv_aload_n X.x X.b (dk DX12_evenOf_0 14 rfl) rfl (lv_at hl 0 rfl) ?_
    refine og_getR (t := 1) OX12 X hq hH 3 (by decide) rfl kF_X12_7 (dk DX12_evenOf_0 15 rfl) ?_
    refine lv_iconst (v := 0) X.x X.b (dk DX12_evenOf_0 16 rfl) (by decide) ?_
    obtain ⟨c6, hF⟩ := gd hF
    refine og_lald X hq hH 3 (by decide) rfl (inb_in c6) (dk DX12_evenOf_0 17 rfl) ?_
    refine lv_land X.x X.b (dk DX12_evenOf_0 18 rfl) ?_
    obtain ⟨x7, e8, hF⟩ := bd hF
    refine mr_ci0 hH ⟨rfl, rfl⟩ (mr_runS (As := [.long (b1 &&& (s_t.2.2.2 3 (0 : Int32).toNatClampNeg))]) (rest := [.int x3]) X hH (c_X12_ones e8) kM_X12_283 kT_X12_ones kN_X12 kC_X12_ones hd_X12_ones ⟨Nat.le_of_ble_eq_true rfl, Nat.le_of_ble_eq_true rfl⟩ rfl hl.1 (Nat.le_of_ble_eq_true rfl) (dk DX12_evenOf_0 19 rfl) ⟨Nat.zero_le _, Nat.zero_le _⟩) (fun r h1 H locs hp hH => ?_)
    obtain ⟨hr1, hr2⟩ := hp; rw [hr1]; rw [hr2] at hH; clear hr1 hr2
    refine lv_icmp_eq (tgt := 37) X.x X.b (dk DX12_evenOf_0 20 rfl) (by decide) (fun c10 => ?_) (fun c10 => ?_)
    · replace hF := if_t hF c10
      obtain ⟨v11, e12⟩ : ∃ y : Int32, y = b3 + 1 := ⟨_, rfl⟩
      replace hF := bnd_e hF e12
      refine lv_iinc (v := v11) (lv' := [(3, .int v11), (0, .ref (q 53)), (1, .long b1)]) X.x X.b (dk DX12_evenOf_0 23 rfl) hl (k := 2) rfl (by rw [e12]; rfl) (by decide) rfl (fun ls hl => ?_)
      replace hl : lv_has ls 4 [(0, .ref (q 53)), (1, .long b1), (3, .int v11)] := lv_sub hl [1, 2, 0] rfl
      refine lv_goto (tgt := 2) X.x X.b (dk DX12_evenOf_0 24 rfl) (by decide) ?_
      exact (lp_l hF hx) _ _ _ hH (lv_sub hl [0, 1, 2] rfl) K0 K1
    · replace hF := if_f hF c10
      have hr9 := lp_r hF hx
      subst hr9
      exact K0 rfl _ _ _ hH (lv_sub hl [] rfl)
set_option maxHeartbeats 4000000 in
set_option maxRecDepth 100000 in
theorem c_X12_evenOf {l : Launch} {G : mG} {h : mM} {q : Nat → Nat} (hq : oinj LX12 q) {st : OS} {a0 : Int64} {x : Int32} (hF : f_X12_evenOf st a0 = some x) : cQ l G yX12_evenOf cX12_evenOf 4 (some FieldType.int) rm_X12_evenOf [.ref (q 53), .long a0] (oset LX12 G q st h) (mQi G (fun r h1 => r = x ∧ h1 = oset LX12 G q st h)) := by
  refine mp_of (by decide +kernel) (Nat.le_of_ble_eq_true rfl) ?_
  intro p e s m below meth c X hr hlk hH hname ls hl
  dsimp only [f_X12_evenOf] at hF
  replace hl : lv_has ls 4 [(0, .ref (q 53)), (1, .long a0)] := hl
  refine lv_iconst (v := 1) X.x X.b (dk DX12_evenOf_0 0 rfl) (by decide) ?_
  refine lv_istore_n (lv' := [(3, .int 1), (0, .ref (q 53)), (1, .long a0)]) X.x X.b (dk DX12_evenOf_0 1 rfl) rfl hl (by decide) rfl (fun ls hl => ?_)
  replace hl : lv_has ls 4 [(0, .ref (q 53)), (1, .long a0), (3, .int 1)] := lv_sub hl [1, 2, 0] rfl
  obtain ⟨x13, e14, hF⟩ := bd hF
  replace hl : lv_has ls 4 [(0, .ref (q 53)), (1, .long a0), (3, .int 1)] := lv_sub hl [0, 1, 2] rfl
  refine w_X12_evenOf_2 hq X st a0 _ _ e14 _ _ _ hH hl (fun hk H locs ls hH hl => ?_) (fun hk H locs ls hH hl => ?_)
  · subst hk
    replace hF := if_t hF rfl
    refine lv_iconst (v := (-1)) X.x X.b (dk DX12_evenOf_0 21 rfl) (by decide) ?_
    cases sm hF
    exact mr_iret X hr hlk hH ⟨rfl, rfl⟩ (dk DX12_evenOf_0 22 rfl)
  · subst hk
    replace hF := if_f hF (by decide)
    refine lv_aload_n X.x X.b (dk DX12_evenOf_0 25 rfl) rfl (lv_at hl 0 rfl) ?_
    refine og_getI OX12 X hq hH 1 (by decide) rfl kF_X12_250 (dk DX12_evenOf_0 26 rfl) ?_
    refine lv_if_ne (tgt := 54) X.x X.b (dk DX12_evenOf_0 27 rfl) (by decide) (fun c16 => ?_) (fun c16 => ?_)
    · replace hF := if_f hF c16
      refine lv_lload_n X.x X.b (dk DX12_evenOf_0 30 rfl) rfl (lv_at hl 1 rfl) ?_
      refine lv_aload_n X.x X.b (dk DX12_evenOf_0 31 rfl) rfl (lv_at hl 0 rfl) ?_
      refine og_getR (t := 1) OX12 X hq hH 3 (by decide) rfl kF_X12_7 (dk DX12_evenOf_0 32 rfl) ?_
      refine lv_iconst (v := 0) X.x X.b (dk DX12_evenOf_0 33 rfl) (by decide) ?_
      obtain ⟨c17, hF⟩ := gd hF
      refine og_lald X hq hH 3 (by decide) rfl (inb_in c17) (dk DX12_evenOf_0 34 rfl) ?_
      refine lv_land X.x X.b (dk DX12_evenOf_0 35 rfl) ?_
      obtain ⟨x18, e19, hF⟩ := bd hF
      refine mr_ci0 hH ⟨rfl, rfl⟩ (mr_runS (As := [.long (a0 &&& (st.2.2.2 3 (0 : Int32).toNatClampNeg))]) (rest := []) X hH (c_X12_ones e19) kM_X12_283 kT_X12_ones kN_X12 kC_X12_ones hd_X12_ones ⟨Nat.le_of_ble_eq_true rfl, Nat.le_of_ble_eq_true rfl⟩ rfl hl.1 (Nat.le_of_ble_eq_true rfl) (dk DX12_evenOf_0 36 rfl) ⟨Nat.zero_le _, Nat.zero_le _⟩) (fun r h1 H locs hp hH => ?_)
      obtain ⟨hr1, hr2⟩ := hp; rw [hr1]; rw [hr2] at hH; clear hr1 hr2
      cases sm hF
      exact mr_iret X hr hlk hH ⟨rfl, rfl⟩ (dk DX12_evenOf_0 37 rfl)
    · replace hF := if_t hF c16
      refine lv_iconst (v := (-1)) X.x X.b (dk DX12_evenOf_0 28 rfl) (by decide) ?_
      refine lv_goto (tgt := 65) X.x X.b (dk DX12_evenOf_0 29 rfl) (by decide) ?_
      cases sm hF
      exact mr_iret X hr hlk hH ⟨rfl, rfl⟩ (dk DX12_evenOf_0 37 rfl)
-- X12_even
abbrev rm_X12_even : Room := { frames := 4, cells := 0, slots := 0, locals := 82 }
theorem hd_X12_even : mHd yX12_even 1 := ⟨by decide +kernel, by decide +kernel, by decide +kernel⟩
theorem DX12_even_0 : ∀ t ∈ ([(0, .aload_n 0, 1), (1, .aload_n 0, 1), (2, .lload_n 1, 1), (3, .invokevirtual 275, 3), (6, .ifCond .eq 7, 3), (9, .iconst 0, 1), (10, .goto 4, 3), (13, .iconst 1, 1), (14, .putfield 106, 3), (17, .aload_n 0, 1), (18, .getfield 106, 3), (21, .ifCond .le 7, 3), (24, .iconst 0, 1), (25, .goto 8, 3), (28, .aload_n 0, 1), (29, .lload_n 1, 1), (30, .invokevirtual 300, 3), (33, .ireturn, 1)] : List (Nat × Instr × Nat)), decode cX12_even t.1 = .ok (t.2.1, t.2.2) := by decide +kernel
noncomputable def f_X12_even (st : OS) (a0 : Int64) : Option (Int32 × OS) := (f_X12_isSet st a0).bind (fun x1 => (if x1 = 0 then bnd (oI st 2 1) (fun t5 => (if (t5.1 2) ≤ 0 then (f_X12_evenOf t5 a0).bind (fun x8 => some ((x8, t5))) else some ((0, t5)))) else bnd (oI st 2 0) (fun t11 => (if (t11.1 2) ≤ 0 then (f_X12_evenOf t11 a0).bind (fun x14 => some ((x14, t11))) else some ((0, t11))))))
set_option maxHeartbeats 4000000 in
set_option maxRecDepth 100000 in
theorem c_X12_even {l : Launch} {G : mG} {h : mM} {q : Nat → Nat} (hq : oinj LX12 q) {st : OS} {a0 : Int64} {x : Int32 × OS} (hF : f_X12_even st a0 = some x) : cQ l G yX12_even cX12_even 3 (some FieldType.int) rm_X12_even [.ref (q 53), .long a0] (oset LX12 G q st h) (mQi G (fun r h1 => r = x.1 ∧ h1 = oset LX12 G q x.2 h)) := by
  refine mp_of (by decide +kernel) (Nat.le_of_ble_eq_true rfl) ?_
  intro p e s m below meth c X hr hlk hH hname ls hl
  dsimp only [f_X12_even] at hF
  replace hl : lv_has ls 3 [(0, .ref (q 53)), (1, .long a0)] := hl
  refine lv_aload_n X.x X.b (dk DX12_even_0 0 rfl) rfl (lv_at hl 0 rfl) ?_
  refine lv_aload_n X.x X.b (dk DX12_even_0 1 rfl) rfl (lv_at hl 0 rfl) ?_
  refine lv_lload_n X.x X.b (dk DX12_even_0 2 rfl) rfl (lv_at hl 1 rfl) ?_
  obtain ⟨x1, e2, hF⟩ := bd hF
  refine mr_ci0 hH ⟨rfl, rfl⟩ (mr_runV (As := [.long a0]) (rest := [.ref (q 53)]) X hH (c_X12_isSet hq e2) ((oset_at hq (Nat.le_refl _) ohas_N).trans (congrArg some ocell_N)) OX12.1 kM_X12_275 kI_X12_isSet kS_X12_isSet kN_X12 kC_X12_isSet hd_X12_isSet ⟨Nat.le_of_ble_eq_true rfl, Nat.le_of_ble_eq_true rfl⟩ rfl hl.1 (Nat.le_of_ble_eq_true rfl) (dk DX12_even_0 3 rfl) ⟨Nat.zero_le _, Nat.zero_le _⟩) (fun r h1 H locs hp hH => ?_)
  obtain ⟨hr1, hr2⟩ := hp; rw [hr1]; rw [hr2] at hH; clear hr1 hr2
  refine lv_if_eq (tgt := 13) X.x X.b (dk DX12_even_0 4 rfl) (by decide) (fun c4 => ?_) (fun c4 => ?_)
  · replace hF := if_t hF c4
    refine lv_iconst (v := 1) X.x X.b (dk DX12_even_0 7 rfl) (by decide) ?_
    refine og_putI OX12 X hq hH 2 (by decide) rfl kF_X12_106 rfl rfl rfl (dk DX12_even_0 8 rfl) (fun H locs hH => ?_)
    obtain ⟨t5, e6⟩ : ∃ y, y = oI st 2 1 := ⟨_, rfl⟩
    rw [← e6] at hH
    replace hF := bnd_e hF e6
    refine lv_aload_n X.x X.b (dk DX12_even_0 9 rfl) rfl (lv_at hl 0 rfl) ?_
    refine og_getI OX12 X hq hH 2 (by decide) rfl kF_X12_106 (dk DX12_even_0 10 rfl) ?_
    refine lv_if_le (tgt := 28) X.x X.b (dk DX12_even_0 11 rfl) (by decide) (fun c7 => ?_) (fun c7 => ?_)
    · replace hF := if_t hF c7
      refine lv_aload_n X.x X.b (dk DX12_even_0 14 rfl) rfl (lv_at hl 0 rfl) ?_
      refine lv_lload_n X.x X.b (dk DX12_even_0 15 rfl) rfl (lv_at hl 1 rfl) ?_
      obtain ⟨x8, e9, hF⟩ := bd hF
      refine mr_ci0 hH ⟨rfl, rfl⟩ (mr_runV (As := [.long a0]) (rest := []) X hH (c_X12_evenOf hq e9) ((oset_at hq (Nat.le_refl _) ohas_N).trans (congrArg some ocell_N)) OX12.1 kM_X12_300 kI_X12_evenOf kS_X12_evenOf kN_X12 kC_X12_evenOf hd_X12_evenOf ⟨Nat.le_of_ble_eq_true rfl, Nat.le_of_ble_eq_true rfl⟩ rfl hl.1 (Nat.le_of_ble_eq_true rfl) (dk DX12_even_0 16 rfl) ⟨Nat.zero_le _, Nat.zero_le _⟩) (fun r h1 H locs hp hH => ?_)
      obtain ⟨hr1, hr2⟩ := hp; rw [hr1]; rw [hr2] at hH; clear hr1 hr2
      cases sm hF
      exact mr_iret X hr hlk hH ⟨rfl, rfl⟩ (dk DX12_even_0 17 rfl)
    · replace hF := if_f hF c7
      refine lv_iconst (v := 0) X.x X.b (dk DX12_even_0 12 rfl) (by decide) ?_
      refine lv_goto (tgt := 33) X.x X.b (dk DX12_even_0 13 rfl) (by decide) ?_
      cases sm hF
      exact mr_iret X hr hlk hH ⟨rfl, rfl⟩ (dk DX12_even_0 17 rfl)
  · replace hF := if_f hF c4
    refine lv_iconst (v := 0) X.x X.b (dk DX12_even_0 5 rfl) (by decide) ?_
    refine lv_goto (tgt := 14) X.x X.b (dk DX12_even_0 6 rfl) (by decide) ?_
    refine og_putI OX12 X hq hH 2 (by decide) rfl kF_X12_106 rfl rfl rfl (dk DX12_even_0 8 rfl) (fun H locs hH => ?_)
    obtain ⟨t11, e12⟩ : ∃ y, y = oI st 2 0 := ⟨_, rfl⟩
    rw [← e12] at hH
    replace hF := bnd_e hF e12
    refine lv_aload_n X.x X.b (dk DX12_even_0 9 rfl) rfl (lv_at hl 0 rfl) ?_
    refine og_getI OX12 X hq hH 2 (by decide) rfl kF_X12_106 (dk DX12_even_0 10 rfl) ?_
    refine lv_if_le (tgt := 28) X.x X.b (dk DX12_even_0 11 rfl) (by decide) (fun c13 => ?_) (fun c13 => ?_)
    · replace hF := if_t hF c13
      refine lv_aload_n X.x X.b (dk DX12_even_0 14 rfl) rfl (lv_at hl 0 rfl) ?_
      refine lv_lload_n X.x X.b (dk DX12_even_0 15 rfl) rfl (lv_at hl 1 rfl) ?_
      obtain ⟨x14, e15, hF⟩ := bd hF
      refine mr_ci0 hH ⟨rfl, rfl⟩ (mr_runV (As := [.long a0]) (rest := []) X hH (c_X12_evenOf hq e15) ((oset_at hq (Nat.le_refl _) ohas_N).trans (congrArg some ocell_N)) OX12.1 kM_X12_300 kI_X12_evenOf kS_X12_evenOf kN_X12 kC_X12_evenOf hd_X12_evenOf ⟨Nat.le_of_ble_eq_true rfl, Nat.le_of_ble_eq_true rfl⟩ rfl hl.1 (Nat.le_of_ble_eq_true rfl) (dk DX12_even_0 16 rfl) ⟨Nat.zero_le _, Nat.zero_le _⟩) (fun r h1 H locs hp hH => ?_)
      obtain ⟨hr1, hr2⟩ := hp; rw [hr1]; rw [hr2] at hH; clear hr1 hr2
      cases sm hF
      exact mr_iret X hr hlk hH ⟨rfl, rfl⟩ (dk DX12_even_0 17 rfl)
    · replace hF := if_f hF c13
      refine lv_iconst (v := 0) X.x X.b (dk DX12_even_0 12 rfl) (by decide) ?_
      refine lv_goto (tgt := 33) X.x X.b (dk DX12_even_0 13 rfl) (by decide) ?_
      cases sm hF
      exact mr_iret X hr hlk hH ⟨rfl, rfl⟩ (dk DX12_even_0 17 rfl)
-- X12_evens
abbrev rm_X12_evens : Room := { frames := 3, cells := 0, slots := 0, locals := 60 }
theorem hd_X12_evens : mHd yX12_evens 1 := ⟨by decide +kernel, by decide +kernel, by decide +kernel⟩
theorem DX12_evens_0 : ∀ t ∈ ([(0, .aload_n 0, 1), (1, .iconst 0, 1), (2, .putfield 106, 3), (5, .aload_n 0, 1), (6, .getfield 248, 3), (9, .bipush 16, 2), (11, .if_icmp .le 5, 3), (14, .iconst (-1), 1), (15, .ireturn, 1), (16, .iconst 0, 1), (17, .istore_n 2, 1), (18, .lconst 0, 1), (19, .lstore_n 3, 1), (20, .lload_n 3, 1), (21, .aload_n 0, 1), (22, .invokevirtual 259, 3), (25, .lcmp, 1), (26, .ifCond .gt 38, 3), (29, .iload_n 2, 1), (30, .aload_n 0, 1), (31, .getfield 250, 3), (34, .ifCond .eq 16, 3), (37, .aload_n 0, 1), (38, .lload_n 3, 1), (39, .invokevirtual 300, 3), (42, .iload_n 1, 1), (43, .if_icmp .ne 11, 3), (46, .iload_n 1, 1), (47, .ifCond .lt 7, 3), (50, .iconst 1, 1), (51, .goto 4, 3), (54, .iconst 0, 1), (55, .iadd, 1), (56, .istore_n 2, 1), (57, .lload_n 3, 1), (58, .lconst 1, 1), (59, .ladd, 1), (60, .lstore_n 3, 1), (61, .goto (-41), 3), (64, .iload_n 2, 1), (65, .ireturn, 1)] : List (Nat × Instr × Nat)), decode cX12_evens t.1 = .ok (t.2.1, t.2.2) := by decide +kernel
noncomputable def f_X12_evens_20 (s_t : OS) (b1 : Int32) : (Int32 × Int64) → Option ((Int32 × Int64) ⊕ (Int32)) := fun z => match z with | (b2, b3) => (f_X12_all s_t).bind (fun x4 => (if 0 < (lg_cmp b3 x4) then some (.inr b2) else (if (s_t.1 1) = 0 then bnd (b2 + 1 : Int32) (fun v9 => bnd (b3 + 1 : Int64) (fun v11 => some (.inl ((v9, v11))))) else (f_X12_evenOf s_t b3).bind (fun x13 => (if x13 = b1 then (if b1 < 0 then bnd (b2 + 0 : Int32) (fun v22 => bnd (b3 + 1 : Int64) (fun v24 => some (.inl ((v22, v24))))) else bnd (b2 + 1 : Int32) (fun v26 => bnd (b3 + 1 : Int64) (fun v28 => some (.inl ((v26, v28)))))) else bnd (b2 + 0 : Int32) (fun v17 => bnd (b3 + 1 : Int64) (fun v19 => some (.inl ((v17, v19))))))))))
noncomputable def f_X12_evens (st : OS) (a0 : Int32) : Option (Int32 × OS) := bnd (oI st 2 0) (fun t1 => (if (t1.1 0) ≤ 16 then (lpv (f_X12_evens_20 t1 a0) ((0, 0))).bind (fun x30 => some ((x30, t1))) else some (((-1), t1))))
set_option maxHeartbeats 4000000 in
set_option maxRecDepth 100000 in
theorem w_X12_evens_20 {p : Program} {l : Launch} {e : Env} {s : State} {m : MethodId} {args : Array Value} {below : List Frame} {meth : Method} {c : Code} {Q : State → Prop} {G : mG} {h : mM} {q : Nat → Nat} (hq : oinj LX12 q) (X : mX G p m c cX12_evens 5 s args RX12) (s_t : OS) (b1 : Int32) : ∀ (z : Int32 × Int64) (r : Int32), lpv (f_X12_evens_20 s_t b1) z = some r → ∀ (H : Heap) (locs : List Loc) (ls : Array Slot), mH G (oset LX12 G q s_t h) s.heap H locs → lv_has ls 5 [(0, .ref (q 53)), (1, .int b1), (2, .int z.1), (3, .long z.2)] → (∀ (H : Heap) (locs : List Loc) (ls : Array Slot), mH G (oset LX12 G q s_t h) s.heap H locs → lv_has ls 5 [(2, .int r)] → W p l e rm_X12_evens s m args below meth c H locs 0 0 Q (F0 m 64 ls [])) → W p l e rm_X12_evens s m args below meth c H locs 0 0 Q (F0 m 20 ls []) := by
  refine lpv_rec ?_
  intro z r x hF hx H locs ls hH hl K0
  obtain ⟨b2, b3⟩ := z
  dsimp only [f_X12_evens_20] at hF
  try dsimp only at hH hl
  refine lv_lload_n X.x X.b (dk DX12_evens_0 13 rfl) rfl (lv_at hl 3 rfl) ?_
  refine lv_aload_n X.x X.b (dk DX12_evens_0 14 rfl) rfl (lv_at hl 0 rfl) ?_
  obtain ⟨x4, e5, hF⟩ := bd hF
  refine mr_cl0 hH ⟨rfl, rfl⟩ (mr_runV (As := []) (rest := [.long b3]) X hH (c_X12_all hq e5) ((oset_at hq (Nat.le_refl _) ohas_N).trans (congrArg some ocell_N)) OX12.1 kM_X12_259 kI_X12_all kS_X12_all kN_X12 kC_X12_all hd_X12_all ⟨Nat.le_of_ble_eq_true rfl, Nat.le_of_ble_eq_true rfl⟩ rfl hl.1 (Nat.le_of_ble_eq_true rfl) (dk DX12_evens_0 15 rfl) ⟨Nat.zero_le _, Nat.zero_le _⟩) (fun r h1 H locs hp hH => ?_)
  obtain ⟨hr1, hr2⟩ := hp; rw [hr1]; rw [hr2] at hH; clear hr1 hr2
  refine W.lcmp X.x X.b (dk DX12_evens_0 16 rfl) ?_
  refine lv_if_gt (tgt := 64) X.x X.b (dk DX12_evens_0 17 rfl) (by decide) (fun c7 => ?_) (fun c7 => ?_)
  · replace hF := if_t hF c7
    have hr9 := lp_r hF hx
    subst hr9
    exact K0 _ _ _ hH (lv_sub hl [2] rfl)
  · replace hF := if_f hF c7
    refine lv_iload_n X.x X.b (dk DX12_evens_0 18 rfl) rfl (lv_at hl 2 rfl) ?_
    refine lv_aload_n X.x X.b (dk DX12_evens_0 19 rfl) rfl (lv_at hl 0 rfl) ?_
    refine og_getI OX12 X hq hH 1 (by decide) rfl kF_X12_250 (dk DX12_evens_0 20 rfl) ?_
    refine lv_if_eq (tgt := 50) X.x X.b (dk DX12_evens_0 21 rfl) (by decide) (fun c8 => ?_) (fun c8 => ?_)
    · replace hF := if_t hF c8
      refine lv_iconst (v := 1) X.x X.b (dk DX12_evens_0 29 rfl) (by decide) ?_
      refine lv_goto (tgt := 55) X.x X.b (dk DX12_evens_0 30 rfl) (by decide) ?_
      refine lv_iadd X.x X.b (dk DX12_evens_0 32 rfl) ?_
      refine lv_topi (fun v9 e10 => ?_)
      replace hF := bnd_e hF e10
      refine lv_istore_n (lv' := [(2, .int v9), (0, .ref (q 53)), (1, .int b1), (3, .long b3)]) X.x X.b (dk DX12_evens_0 33 rfl) rfl hl (by decide) rfl (fun ls hl => ?_)
      replace hl : lv_has ls 5 [(0, .ref (q 53)), (1, .int b1), (2, .int v9), (3, .long b3)] := lv_sub hl [1, 2, 0, 3] rfl
      refine lv_lload_n X.x X.b (dk DX12_evens_0 34 rfl) rfl (lv_at hl 3 rfl) ?_
      refine lv_lconst (v := 1) X.x X.b (dk DX12_evens_0 35 rfl) (by decide) ?_
      refine lv_ladd X.x X.b (dk DX12_evens_0 36 rfl) ?_
      refine lv_topl (fun v11 e12 => ?_)
      replace hF := bnd_e hF e12
      refine lv_lstore_n (lv' := [(3, .long v11), (0, .ref (q 53)), (1, .int b1), (2, .int v9)]) X.x X.b (dk DX12_evens_0 37 rfl) rfl hl (by decide) rfl (fun ls hl => ?_)
      replace hl : lv_has ls 5 [(0, .ref (q 53)), (1, .int b1), (2, .int v9), (3, .long v11)] := lv_sub hl [1, 2, 3, 0] rfl
      refine lv_goto (tgt := 20) X.x X.b (dk DX12_evens_0 38 rfl) (by decide) ?_
      exact (lp_l hF hx) _ _ _ hH (lv_sub hl [0, 1, 2, 3] rfl) K0
    · replace hF := if_f hF c8
      refine lv_aload_n X.x X.b (dk DX12_evens_0 22 rfl) rfl (lv_at hl 0 rfl) ?_
      refine lv_lload_n X.x X.b (dk DX12_evens_0 23 rfl) rfl (lv_at hl 3 rfl) ?_
      obtain ⟨x13, e14, hF⟩ := bd hF
      refine mr_ci0 hH ⟨rfl, rfl⟩ (mr_runV (As := [.long b3]) (rest := [.int b2]) X hH (c_X12_evenOf hq e14) ((oset_at hq (Nat.le_refl _) ohas_N).trans (congrArg some ocell_N)) OX12.1 kM_X12_300 kI_X12_evenOf kS_X12_evenOf kN_X12 kC_X12_evenOf hd_X12_evenOf ⟨Nat.le_of_ble_eq_true rfl, Nat.le_of_ble_eq_true rfl⟩ rfl hl.1 (Nat.le_of_ble_eq_true rfl) (dk DX12_evens_0 24 rfl) ⟨Nat.zero_le _, Nat.zero_le _⟩) (fun r h1 H locs hp hH => ?_)
      obtain ⟨hr1, hr2⟩ := hp; rw [hr1]; rw [hr2] at hH; clear hr1 hr2
      refine lv_iload_n X.x X.b (dk DX12_evens_0 25 rfl) rfl (lv_at hl 1 rfl) ?_
      refine lv_icmp_ne (tgt := 54) X.x X.b (dk DX12_evens_0 26 rfl) (by decide) (fun c16 => ?_) (fun c16 => ?_)
      · replace hF := if_f hF c16
        refine lv_iconst (v := 0) X.x X.b (dk DX12_evens_0 31 rfl) (by decide) ?_
        refine lv_iadd X.x X.b (dk DX12_evens_0 32 rfl) ?_
        refine lv_topi (fun v17 e18 => ?_)
        replace hF := bnd_e hF e18
        refine lv_istore_n (lv' := [(2, .int v17), (0, .ref (q 53)), (1, .int b1), (3, .long b3)]) X.x X.b (dk DX12_evens_0 33 rfl) rfl hl (by decide) rfl (fun ls hl => ?_)
        replace hl : lv_has ls 5 [(0, .ref (q 53)), (1, .int b1), (2, .int v17), (3, .long b3)] := lv_sub hl [1, 2, 0, 3] rfl
        refine lv_lload_n X.x X.b (dk DX12_evens_0 34 rfl) rfl (lv_at hl 3 rfl) ?_
        refine lv_lconst (v := 1) X.x X.b (dk DX12_evens_0 35 rfl) (by decide) ?_
        refine lv_ladd X.x X.b (dk DX12_evens_0 36 rfl) ?_
        refine lv_topl (fun v19 e20 => ?_)
        replace hF := bnd_e hF e20
        refine lv_lstore_n (lv' := [(3, .long v19), (0, .ref (q 53)), (1, .int b1), (2, .int v17)]) X.x X.b (dk DX12_evens_0 37 rfl) rfl hl (by decide) rfl (fun ls hl => ?_)
        replace hl : lv_has ls 5 [(0, .ref (q 53)), (1, .int b1), (2, .int v17), (3, .long v19)] := lv_sub hl [1, 2, 3, 0] rfl
        refine lv_goto (tgt := 20) X.x X.b (dk DX12_evens_0 38 rfl) (by decide) ?_
        exact (lp_l hF hx) _ _ _ hH (lv_sub hl [0, 1, 2, 3] rfl) K0
      · replace hF := if_t hF c16
        refine lv_iload_n X.x X.b (dk DX12_evens_0 27 rfl) rfl (lv_at hl 1 rfl) ?_
        refine lv_if_lt (tgt := 54) X.x X.b (dk DX12_evens_0 28 rfl) (by decide) (fun c21 => ?_) (fun c21 => ?_)
        · replace hF := if_t hF c21
          refine lv_iconst (v := 0) X.x X.b (dk DX12_evens_0 31 rfl) (by decide) ?_
          refine lv_iadd X.x X.b (dk DX12_evens_0 32 rfl) ?_
          refine lv_topi (fun v22 e23 => ?_)
          replace hF := bnd_e hF e23
          refine lv_istore_n (lv' := [(2, .int v22), (0, .ref (q 53)), (1, .int b1), (3, .long b3)]) X.x X.b (dk DX12_evens_0 33 rfl) rfl hl (by decide) rfl (fun ls hl => ?_)
          replace hl : lv_has ls 5 [(0, .ref (q 53)), (1, .int b1), (2, .int v22), (3, .long b3)] := lv_sub hl [1, 2, 0, 3] rfl
          refine lv_lload_n X.x X.b (dk DX12_evens_0 34 rfl) rfl (lv_at hl 3 rfl) ?_
          refine lv_lconst (v := 1) X.x X.b (dk DX12_evens_0 35 rfl) (by decide) ?_
          refine lv_ladd X.x X.b (dk DX12_evens_0 36 rfl) ?_
          refine lv_topl (fun v24 e25 => ?_)
          replace hF := bnd_e hF e25
          refine lv_lstore_n (lv' := [(3, .long v24), (0, .ref (q 53)), (1, .int b1), (2, .int v22)]) X.x X.b (dk DX12_evens_0 37 rfl) rfl hl (by decide) rfl (fun ls hl => ?_)
          replace hl : lv_has ls 5 [(0, .ref (q 53)), (1, .int b1), (2, .int v22), (3, .long v24)] := lv_sub hl [1, 2, 3, 0] rfl
          refine lv_goto (tgt := 20) X.x X.b (dk DX12_evens_0 38 rfl) (by decide) ?_
          exact (lp_l hF hx) _ _ _ hH (lv_sub hl [0, 1, 2, 3] rfl) K0
        · replace hF := if_f hF c21
          refine lv_iconst (v := 1) X.x X.b (dk DX12_evens_0 29 rfl) (by decide) ?_
          refine lv_goto (tgt := 55) X.x X.b (dk DX12_evens_0 30 rfl) (by decide) ?_
          refine lv_iadd X.x X.b (dk DX12_evens_0 32 rfl) ?_
          refine lv_topi (fun v26 e27 => ?_)
          replace hF := bnd_e hF e27
          refine lv_istore_n (lv' := [(2, .int v26), (0, .ref (q 53)), (1, .int b1), (3, .long b3)]) X.x X.b (dk DX12_evens_0 33 rfl) rfl hl (by decide) rfl (fun ls hl => ?_)
          replace hl : lv_has ls 5 [(0, .ref (q 53)), (1, .int b1), (2, .int v26), (3, .long b3)] := lv_sub hl [1, 2, 0, 3] rfl
          refine lv_lload_n X.x X.b (dk DX12_evens_0 34 rfl) rfl (lv_at hl 3 rfl) ?_
          refine lv_lconst (v := 1) X.x X.b (dk DX12_evens_0 35 rfl) (by decide) ?_
          refine lv_ladd X.x X.b (dk DX12_evens_0 36 rfl) ?_
          refine lv_topl (fun v28 e29 => ?_)
          replace hF := bnd_e hF e29
          refine lv_lstore_n (lv' := [(3, .long v28), (0, .ref (q 53)), (1, .int b1), (2, .int v26)]) X.x X.b (dk DX12_evens_0 37 rfl) rfl hl (by decide) rfl (fun ls hl => ?_)
          replace hl : lv_has ls 5 [(0, .ref (q 53)), (1, .int b1), (2, .int v26), (3, .long v28)] := lv_sub hl [1, 2, 3, 0] rfl
          refine lv_goto (tgt := 20) X.x X.b (dk DX12_evens_0 38 rfl) (by decide) ?_
          exact (lp_l hF hx) _ _ _ hH (lv_sub hl [0, 1, 2, 3] rfl) K0
set_option maxHeartbeats 4000000 in
set_option maxRecDepth 100000 in
theorem c_X12_evens {l : Launch} {G : mG} {h : mM} {q : Nat → Nat} (hq : oinj LX12 q) {st : OS} {a0 : Int32} {x : Int32 × OS} (hF : f_X12_evens st a0 = some x) : cQ l G yX12_evens cX12_evens 5 (some FieldType.int) rm_X12_evens [.ref (q 53), .int a0] (oset LX12 G q st h) (mQi G (fun r h1 => r = x.1 ∧ h1 = oset LX12 G q x.2 h)) := by
  refine mp_of (by decide +kernel) (Nat.le_of_ble_eq_true rfl) ?_
  intro p e s m below meth c X hr hlk hH hname ls hl
  dsimp only [f_X12_evens] at hF
  replace hl : lv_has ls 5 [(0, .ref (q 53)), (1, .int a0)] := hl
  refine lv_aload_n X.x X.b (dk DX12_evens_0 0 rfl) rfl (lv_at hl 0 rfl) ?_
  refine lv_iconst (v := 0) X.x X.b (dk DX12_evens_0 1 rfl) (by decide) ?_
  refine og_putI OX12 X hq hH 2 (by decide) rfl kF_X12_106 rfl rfl rfl (dk DX12_evens_0 2 rfl) (fun H locs hH => ?_)
  obtain ⟨t1, e2⟩ : ∃ y, y = oI st 2 0 := ⟨_, rfl⟩
  rw [← e2] at hH
  replace hF := bnd_e hF e2
  refine lv_aload_n X.x X.b (dk DX12_evens_0 3 rfl) rfl (lv_at hl 0 rfl) ?_
  refine og_getI OX12 X hq hH 0 (by decide) rfl kF_X12_248 (dk DX12_evens_0 4 rfl) ?_
  refine lv_bipush (v := 16) X.x X.b (dk DX12_evens_0 5 rfl) (by decide) ?_
  refine lv_icmp_le (tgt := 16) X.x X.b (dk DX12_evens_0 6 rfl) (by decide) (fun c3 => ?_) (fun c3 => ?_)
  · replace hF := if_t hF c3
    refine lv_iconst (v := 0) X.x X.b (dk DX12_evens_0 9 rfl) (by decide) ?_
    refine lv_istore_n (lv' := [(2, .int 0), (0, .ref (q 53)), (1, .int a0)]) X.x X.b (dk DX12_evens_0 10 rfl) rfl hl (by decide) rfl (fun ls hl => ?_)
    replace hl : lv_has ls 5 [(0, .ref (q 53)), (1, .int a0), (2, .int 0)] := lv_sub hl [1, 2, 0] rfl
    refine lv_lconst (v := 0) X.x X.b (dk DX12_evens_0 11 rfl) (by decide) ?_
    refine lv_lstore_n (lv' := [(3, .long 0), (0, .ref (q 53)), (1, .int a0), (2, .int 0)]) X.x X.b (dk DX12_evens_0 12 rfl) rfl hl (by decide) rfl (fun ls hl => ?_)
    replace hl : lv_has ls 5 [(0, .ref (q 53)), (1, .int a0), (2, .int 0), (3, .long 0)] := lv_sub hl [1, 2, 3, 0] rfl
    obtain ⟨x30, e31, hF⟩ := bd hF
    replace hl : lv_has ls 5 [(0, .ref (q 53)), (1, .int a0), (2, .int 0), (3, .long 0)] := lv_sub hl [0, 1, 2, 3] rfl
    refine w_X12_evens_20 hq X t1 a0 _ _ e31 _ _ _ hH hl (fun H locs ls hH hl => ?_)
    refine lv_iload_n X.x X.b (dk DX12_evens_0 39 rfl) rfl (lv_at hl 0 rfl) ?_
    cases sm hF
    exact mr_iret X hr hlk hH ⟨rfl, rfl⟩ (dk DX12_evens_0 40 rfl)
  · replace hF := if_f hF c3
    refine lv_iconst (v := (-1)) X.x X.b (dk DX12_evens_0 7 rfl) (by decide) ?_
    cases sm hF
    exact mr_iret X hr hlk hH ⟨rfl, rfl⟩ (dk DX12_evens_0 8 rfl)
-- X12_tight
abbrev rm_X12_tight : Room := { frames := 4, cells := 0, slots := 0, locals := 82 }
theorem hd_X12_tight : mHd yX12_tight 1 := ⟨by decide +kernel, by decide +kernel, by decide +kernel⟩
theorem DX12_tight_0 : ∀ t ∈ ([(0, .aload_n 0, 1), (1, .aload_n 0, 1), (2, .lload_n 1, 1), (3, .invokevirtual 275, 3), (6, .ifCond .eq 7, 3), (9, .iconst 0, 1), (10, .goto 4, 3), (13, .iconst 1, 1), (14, .putfield 106, 3), (17, .aload_n 0, 1), (18, .getfield 106, 3), (21, .ifCond .le 5, 3), (24, .iconst 0, 1), (25, .ireturn, 1), (26, .aload_n 0, 1), (27, .getfield 250, 3), (30, .ifCond .ne 5, 3), (33, .iconst (-1), 1), (34, .ireturn, 1), (35, .aload_n 0, 1), (36, .invokevirtual 272, 3), (39, .aload_n 0, 1), (40, .getfield 7, 3), (43, .iconst 0, 1), (44, .laload, 1), (45, .invokestatic 283, 3), (48, .iconst 2, 1), (49, .isub, 1), (50, .istore_n 3, 1), (51, .iconst (-1), 1), (52, .istore 4, 2), (54, .iconst 0, 1), (55, .istore 5, 2), (57, .iload 5, 2), (59, .aload_n 0, 1), (60, .getfield 248, 3), (63, .if_icmp .ge 62, 3), (66, .aload_n 0, 1), (67, .getfield 30, 3), (70, .iload 5, 2), (72, .laload, 1), (73, .lload_n 1, 1), (74, .land, 1), (75, .invokestatic 283, 3), (78, .lload_n 1, 1), (79, .iload 5, 2), (81, .invokestatic 232, 3), (84, .ifCond .eq 7, 3), (87, .iload_n 3, 1), (88, .goto 4, 3), (91, .iconst 0, 1), (92, .isub, 1), (93, .istore 6, 2), (95, .iload 6, 2), (97, .ifCond .lt 16, 3), (100, .iload 4, 2), (102, .iconst (-1), 1), (103, .if_icmp .eq 12, 3), (106, .iload 6, 2), (108, .iload 4, 2)] : List (Nat × Instr × Nat)), decode cX12_tight t.1 = .ok (t.2.1, t.2.2) := by decide +kernel
theorem DX12_tight_1 : ∀ t ∈ ([(110, .if_icmp .eq 5, 3), (113, .iconst (-1), 1), (114, .ireturn, 1), (115, .iload 6, 2), (117, .istore 4, 2), (119, .iinc 5 1, 3), (122, .goto (-65), 3), (125, .iload 4, 2), (127, .ireturn, 1)] : List (Nat × Instr × Nat)), decode cX12_tight t.1 = .ok (t.2.1, t.2.2) := by decide +kernel
noncomputable def f_X12_tight_57 (s_t : OS) (b1 : Int64) (b3 : Int32) : (Int32 × Int32) → Option ((Int32 × Int32) ⊕ (Nat × Int32)) := fun z => match z with | (b4, b5) => (if (s_t.1 0) ≤ b5 then some (.inr ((1, b4))) else if inb b5 64 = true then (f_X12_ones ((s_t.2.2.2 20 (b5 : Int32).toNatClampNeg) &&& b1)).bind (fun x20 => (f_X12_has b1 b5).bind (fun x23 => (if x23 = 0 then bnd (x20 - 0 : Int32) (fun v27 => (if v27 < 0 then some (.inr ((0, b4))) else (if b4 = ((-1)) then bnd (b5 + 1 : Int32) (fun v31 => some (.inl ((v27, v31)))) else (if v27 = b4 then bnd (b5 + 1 : Int32) (fun v34 => some (.inl ((v27, v34)))) else some (.inr ((0, b4))))))) else bnd (x20 - b3 : Int32) (fun v36 => (if v36 < 0 then some (.inr ((0, b4))) else (if b4 = ((-1)) then bnd (b5 + 1 : Int32) (fun v40 => some (.inl ((v36, v40)))) else (if v36 = b4 then bnd (b5 + 1 : Int32) (fun v43 => some (.inl ((v36, v43)))) else some (.inr ((0, b4)))))))))) else none)
noncomputable def f_X12_tight (st : OS) (a0 : Int64) : Option (Int32 × OS) := (f_X12_isSet st a0).bind (fun x1 => (if x1 = 0 then bnd (oI st 2 1) (fun t5 => (if (t5.1 2) ≤ 0 then (if (t5.1 1) = 0 then some (((-1), t5)) else (f_X12_layNears t5).bind (fun x9 => if inb 0 64 = true then (f_X12_ones (x9.2.2.2 3 (0 : Int32).toNatClampNeg)).bind (fun x13 => bnd (x13 - 2 : Int32) (fun v16 => (lpv (f_X12_tight_57 x9 a0 v16) (((-1), 0))).bind (fun x45 => match x45 with | (k48, v47) => (if k48 = 0 then some (((-1), x9)) else some ((v47, x9)))))) else none)) else some ((0, t5)))) else bnd (oI st 2 0) (fun t49 => (if (t49.1 2) ≤ 0 then (if (t49.1 1) = 0 then some (((-1), t49)) else (f_X12_layNears t49).bind (fun x53 => if inb 0 64 = true then (f_X12_ones (x53.2.2.2 3 (0 : Int32).toNatClampNeg)).bind (fun x57 => bnd (x57 - 2 : Int32) (fun v60 => (lpv (f_X12_tight_57 x53 a0 v60) (((-1), 0))).bind (fun x62 => match x62 with | (k65, v64) => (if k65 = 0 then some (((-1), x53)) else some ((v64, x53)))))) else none)) else some ((0, t49))))))
set_option maxHeartbeats 4000000 in
set_option maxRecDepth 100000 in
theorem w_X12_tight_57 {p : Program} {l : Launch} {e : Env} {s : State} {m : MethodId} {args : Array Value} {below : List Frame} {meth : Method} {c : Code} {Q : State → Prop} {G : mG} {h : mM} {q : Nat → Nat} (hq : oinj LX12 q) (X : mX G p m c cX12_tight 7 s args RX12) (s_t : OS) (b1 : Int64) (b3 : Int32) : ∀ (z : Int32 × Int32) (r : Nat × Int32), lpv (f_X12_tight_57 s_t b1 b3) z = some r → ∀ (H : Heap) (locs : List Loc) (ls : Array Slot), mH G (oset LX12 G q s_t h) s.heap H locs → lv_has ls 7 [(0, .ref (q 53)), (1, .long b1), (3, .int b3), (4, .int z.1), (5, .int z.2)] → (r.1 = 0 → ∀ (H : Heap) (locs : List Loc) (ls : Array Slot), mH G (oset LX12 G q s_t h) s.heap H locs → lv_has ls 7 [] → W p l e rm_X12_tight s m args below meth c H locs 0 0 Q (F0 m 113 ls [])) → (r.1 = 1 → ∀ (H : Heap) (locs : List Loc) (ls : Array Slot), mH G (oset LX12 G q s_t h) s.heap H locs → lv_has ls 7 [(4, .int r.2)] → W p l e rm_X12_tight s m args below meth c H locs 0 0 Q (F0 m 125 ls [])) → W p l e rm_X12_tight s m args below meth c H locs 0 0 Q (F0 m 57 ls []) := by
  refine lpv_rec ?_
  intro z r x hF hx H locs ls hH hl K0 K1
  obtain ⟨b4, b5⟩ := z
  dsimp only [f_X12_tight_57] at hF
  try dsimp only at hH hl
  refine lv_iload X.x X.b (dk DX12_tight_0 33 rfl) (lv_at hl 4 rfl) ?_
  refine lv_aload_n X.x X.b (dk DX12_tight_0 34 rfl) rfl (lv_at hl 0 rfl) ?_
  refine og_getI OX12 X hq hH 0 (by decide) rfl kF_X12_248 (dk DX12_tight_0 35 rfl) ?_
  refine lv_icmp_ge (tgt := 125) X.x X.b (dk DX12_tight_0 36 rfl) (by decide) (fun c18 => ?_) (fun c18 => ?_)
  · replace hF := if_t hF c18
    have hr9 := lp_r hF hx
    subst hr9
    exact K1 rfl _ _ _ hH (lv_sub hl [3] rfl)
  · replace hF := if_f hF c18
    refine lv_aload_n X.x X.b (dk DX12_tight_0 37 rfl) rfl (lv_at hl 0 rfl) ?_
    refine og_getR (t := 1) OX12 X hq hH 20 (by decide) rfl kF_X12_30 (dk DX12_tight_0 38 rfl) ?_
    refine lv_iload X.x X.b (dk DX12_tight_0 39 rfl) (lv_at hl 4 rfl) ?_
    obtain ⟨c19, hF⟩ := gd hF
    refine og_lald X hq hH 20 (by decide) rfl (inb_in c19) (dk DX12_tight_0 40 rfl) ?_
    refine lv_lload_n X.x X.b (dk DX12_tight_0 41 rfl) rfl (lv_at hl 1 rfl) ?_
    refine lv_land X.x X.b (dk DX12_tight_0 42 rfl) ?_
    obtain ⟨x20, e21, hF⟩ := bd hF
    refine mr_ci0 hH ⟨rfl, rfl⟩ (mr_runS (As := [.long ((s_t.2.2.2 20 (b5 : Int32).toNatClampNeg) &&& b1)]) (rest := []) X hH (c_X12_ones e21) kM_X12_283 kT_X12_ones kN_X12 kC_X12_ones hd_X12_ones ⟨Nat.le_of_ble_eq_true rfl, Nat.le_of_ble_eq_true rfl⟩ rfl hl.1 (Nat.le_of_ble_eq_true rfl) (dk DX12_tight_0 43 rfl) ⟨Nat.zero_le _, Nat.zero_le _⟩) (fun r h1 H locs hp hH => ?_)
    obtain ⟨hr1, hr2⟩ := hp; rw [hr1]; rw [hr2] at hH; clear hr1 hr2
    refine lv_lload_n X.x X.b (dk DX12_tight_0 44 rfl) rfl (lv_at hl 1 rfl) ?_
    refine lv_iload X.x X.b (dk DX12_tight_0 45 rfl) (lv_at hl 4 rfl) ?_
    obtain ⟨x23, e24, hF⟩ := bd hF
    refine mr_ci0 hH ⟨rfl, rfl⟩ (mr_runS (As := [.long b1, .int b5]) (rest := [.int x20]) X hH (c_X12_has e24) kM_X12_232 kT_X12_has kN_X12 kC_X12_has hd_X12_has ⟨Nat.le_of_ble_eq_true rfl, Nat.le_of_ble_eq_true rfl⟩ rfl hl.1 (Nat.le_of_ble_eq_true rfl) (dk DX12_tight_0 46 rfl) ⟨Nat.zero_le _, Nat.zero_le _⟩) (fun r h1 H locs hp hH => ?_)
    obtain ⟨hr1, hr2⟩ := hp; rw [hr1]; rw [hr2] at hH; clear hr1 hr2
    refine lv_if_eq (tgt := 91) X.x X.b (dk DX12_tight_0 47 rfl) (by decide) (fun c26 => ?_) (fun c26 => ?_)
    · replace hF := if_t hF c26
      refine lv_iconst (v := 0) X.x X.b (dk DX12_tight_0 50 rfl) (by decide) ?_
      refine lv_isub X.x X.b (dk DX12_tight_0 51 rfl) ?_
      refine lv_topi (fun v27 e28 => ?_)
      replace hF := bnd_e hF e28
      refine lv_istore (lv' := [(6, .int v27), (0, .ref (q 53)), (1, .long b1), (3, .int b3), (4, .int b4), (5, .int b5)]) X.x X.b (dk DX12_tight_0 52 rfl) hl (by decide) rfl (fun ls hl => ?_)
      replace hl : lv_has ls 7 [(0, .ref (q 53)), (1, .long b1), (3, .int b3), (4, .int b4), (5, .int b5), (6, .int v27)] := lv_sub hl [1, 2, 3, 4, 5, 0] rfl
      refine lv_iload X.x X.b (dk DX12_tight_0 53 rfl) (lv_at hl 5 rfl) ?_
      refine lv_if_lt (tgt := 113) X.x X.b (dk DX12_tight_0 54 rfl) (by decide) (fun c29 => ?_) (fun c29 => ?_)
      · replace hF := if_t hF c29
        have hr9 := lp_r hF hx
        subst hr9
        exact K0 rfl _ _ _ hH (lv_sub hl [] rfl)
      · replace hF := if_f hF c29
        refine lv_iload X.x X.b (dk DX12_tight_0 55 rfl) (lv_at hl 3 rfl) ?_
        refine lv_iconst (v := (-1)) X.x X.b (dk DX12_tight_0 56 rfl) (by decide) ?_
        refine lv_icmp_eq (tgt := 115) X.x X.b (dk DX12_tight_0 57 rfl) (by decide) (fun c30 => ?_) (fun c30 => ?_)
        · replace hF := if_t hF c30
          refine lv_iload X.x X.b (dk DX12_tight_1 3 rfl) (lv_at hl 5 rfl) ?_
          refine lv_istore (lv' := [(4, .int v27), (0, .ref (q 53)), (1, .long b1), (3, .int b3), (5, .int b5), (6, .int v27)]) X.x X.b (dk DX12_tight_1 4 rfl) hl (by decide) rfl (fun ls hl => ?_)
          replace hl : lv_has ls 7 [(0, .ref (q 53)), (1, .long b1), (3, .int b3), (4, .int v27), (5, .int b5)] := lv_sub hl [1, 2, 3, 0, 4] rfl
          obtain ⟨v31, e32⟩ : ∃ y : Int32, y = b5 + 1 := ⟨_, rfl⟩
          replace hF := bnd_e hF e32
          refine lv_iinc (v := v31) (lv' := [(5, .int v31), (0, .ref (q 53)), (1, .long b1), (3, .int b3), (4, .int v27)]) X.x X.b (dk DX12_tight_1 5 rfl) hl (k := 4) rfl (by rw [e32]; rfl) (by decide) rfl (fun ls hl => ?_)
          replace hl : lv_has ls 7 [(0, .ref (q 53)), (1, .long b1), (3, .int b3), (4, .int v27), (5, .int v31)] := lv_sub hl [1, 2, 3, 4, 0] rfl
          refine lv_goto (tgt := 57) X.x X.b (dk DX12_tight_1 6 rfl) (by decide) ?_
          exact (lp_l hF hx) _ _ _ hH (lv_sub hl [0, 1, 2, 3, 4] rfl) K0 K1
        · replace hF := if_f hF c30
          refine lv_iload X.x X.b (dk DX12_tight_0 58 rfl) (lv_at hl 5 rfl) ?_
          refine lv_iload X.x X.b (dk DX12_tight_0 59 rfl) (lv_at hl 3 rfl) ?_
          refine lv_icmp_eq (tgt := 115) X.x X.b (dk DX12_tight_1 0 rfl) (by decide) (fun c33 => ?_) (fun c33 => ?_)
          · replace hF := if_t hF c33
            refine lv_iload X.x X.b (dk DX12_tight_1 3 rfl) (lv_at hl 5 rfl) ?_
            refine lv_istore (lv' := [(4, .int v27), (0, .ref (q 53)), (1, .long b1), (3, .int b3), (5, .int b5), (6, .int v27)]) X.x X.b (dk DX12_tight_1 4 rfl) hl (by decide) rfl (fun ls hl => ?_)
            replace hl : lv_has ls 7 [(0, .ref (q 53)), (1, .long b1), (3, .int b3), (4, .int v27), (5, .int b5)] := lv_sub hl [1, 2, 3, 0, 4] rfl
            obtain ⟨v34, e35⟩ : ∃ y : Int32, y = b5 + 1 := ⟨_, rfl⟩
            replace hF := bnd_e hF e35
            refine lv_iinc (v := v34) (lv' := [(5, .int v34), (0, .ref (q 53)), (1, .long b1), (3, .int b3), (4, .int v27)]) X.x X.b (dk DX12_tight_1 5 rfl) hl (k := 4) rfl (by rw [e35]; rfl) (by decide) rfl (fun ls hl => ?_)
            replace hl : lv_has ls 7 [(0, .ref (q 53)), (1, .long b1), (3, .int b3), (4, .int v27), (5, .int v34)] := lv_sub hl [1, 2, 3, 4, 0] rfl
            refine lv_goto (tgt := 57) X.x X.b (dk DX12_tight_1 6 rfl) (by decide) ?_
            exact (lp_l hF hx) _ _ _ hH (lv_sub hl [0, 1, 2, 3, 4] rfl) K0 K1
          · replace hF := if_f hF c33
            have hr9 := lp_r hF hx
            subst hr9
            exact K0 rfl _ _ _ hH (lv_sub hl [] rfl)
    · replace hF := if_f hF c26
      refine lv_iload_n X.x X.b (dk DX12_tight_0 48 rfl) rfl (lv_at hl 2 rfl) ?_
      refine lv_goto (tgt := 92) X.x X.b (dk DX12_tight_0 49 rfl) (by decide) ?_
      refine lv_isub X.x X.b (dk DX12_tight_0 51 rfl) ?_
      refine lv_topi (fun v36 e37 => ?_)
      replace hF := bnd_e hF e37
      refine lv_istore (lv' := [(6, .int v36), (0, .ref (q 53)), (1, .long b1), (3, .int b3), (4, .int b4), (5, .int b5)]) X.x X.b (dk DX12_tight_0 52 rfl) hl (by decide) rfl (fun ls hl => ?_)
      replace hl : lv_has ls 7 [(0, .ref (q 53)), (1, .long b1), (3, .int b3), (4, .int b4), (5, .int b5), (6, .int v36)] := lv_sub hl [1, 2, 3, 4, 5, 0] rfl
      refine lv_iload X.x X.b (dk DX12_tight_0 53 rfl) (lv_at hl 5 rfl) ?_
      refine lv_if_lt (tgt := 113) X.x X.b (dk DX12_tight_0 54 rfl) (by decide) (fun c38 => ?_) (fun c38 => ?_)
      · replace hF := if_t hF c38
        have hr9 := lp_r hF hx
        subst hr9
        exact K0 rfl _ _ _ hH (lv_sub hl [] rfl)
      · replace hF := if_f hF c38
        refine lv_iload X.x X.b (dk DX12_tight_0 55 rfl) (lv_at hl 3 rfl) ?_
        refine lv_iconst (v := (-1)) X.x X.b (dk DX12_tight_0 56 rfl) (by decide) ?_
        refine lv_icmp_eq (tgt := 115) X.x X.b (dk DX12_tight_0 57 rfl) (by decide) (fun c39 => ?_) (fun c39 => ?_)
        · replace hF := if_t hF c39
          refine lv_iload X.x X.b (dk DX12_tight_1 3 rfl) (lv_at hl 5 rfl) ?_
          refine lv_istore (lv' := [(4, .int v36), (0, .ref (q 53)), (1, .long b1), (3, .int b3), (5, .int b5), (6, .int v36)]) X.x X.b (dk DX12_tight_1 4 rfl) hl (by decide) rfl (fun ls hl => ?_)
          replace hl : lv_has ls 7 [(0, .ref (q 53)), (1, .long b1), (3, .int b3), (4, .int v36), (5, .int b5)] := lv_sub hl [1, 2, 3, 0, 4] rfl
          obtain ⟨v40, e41⟩ : ∃ y : Int32, y = b5 + 1 := ⟨_, rfl⟩
          replace hF := bnd_e hF e41
          refine lv_iinc (v := v40) (lv' := [(5, .int v40), (0, .ref (q 53)), (1, .long b1), (3, .int b3), (4, .int v36)]) X.x X.b (dk DX12_tight_1 5 rfl) hl (k := 4) rfl (by rw [e41]; rfl) (by decide) rfl (fun ls hl => ?_)
          replace hl : lv_has ls 7 [(0, .ref (q 53)), (1, .long b1), (3, .int b3), (4, .int v36), (5, .int v40)] := lv_sub hl [1, 2, 3, 4, 0] rfl
          refine lv_goto (tgt := 57) X.x X.b (dk DX12_tight_1 6 rfl) (by decide) ?_
          exact (lp_l hF hx) _ _ _ hH (lv_sub hl [0, 1, 2, 3, 4] rfl) K0 K1
        · replace hF := if_f hF c39
          refine lv_iload X.x X.b (dk DX12_tight_0 58 rfl) (lv_at hl 5 rfl) ?_
          refine lv_iload X.x X.b (dk DX12_tight_0 59 rfl) (lv_at hl 3 rfl) ?_
          refine lv_icmp_eq (tgt := 115) X.x X.b (dk DX12_tight_1 0 rfl) (by decide) (fun c42 => ?_) (fun c42 => ?_)
          · replace hF := if_t hF c42
            refine lv_iload X.x X.b (dk DX12_tight_1 3 rfl) (lv_at hl 5 rfl) ?_
            refine lv_istore (lv' := [(4, .int v36), (0, .ref (q 53)), (1, .long b1), (3, .int b3), (5, .int b5), (6, .int v36)]) X.x X.b (dk DX12_tight_1 4 rfl) hl (by decide) rfl (fun ls hl => ?_)
            replace hl : lv_has ls 7 [(0, .ref (q 53)), (1, .long b1), (3, .int b3), (4, .int v36), (5, .int b5)] := lv_sub hl [1, 2, 3, 0, 4] rfl
            obtain ⟨v43, e44⟩ : ∃ y : Int32, y = b5 + 1 := ⟨_, rfl⟩
            replace hF := bnd_e hF e44
            refine lv_iinc (v := v43) (lv' := [(5, .int v43), (0, .ref (q 53)), (1, .long b1), (3, .int b3), (4, .int v36)]) X.x X.b (dk DX12_tight_1 5 rfl) hl (k := 4) rfl (by rw [e44]; rfl) (by decide) rfl (fun ls hl => ?_)
            replace hl : lv_has ls 7 [(0, .ref (q 53)), (1, .long b1), (3, .int b3), (4, .int v36), (5, .int v43)] := lv_sub hl [1, 2, 3, 4, 0] rfl
            refine lv_goto (tgt := 57) X.x X.b (dk DX12_tight_1 6 rfl) (by decide) ?_
            exact (lp_l hF hx) _ _ _ hH (lv_sub hl [0, 1, 2, 3, 4] rfl) K0 K1
          · replace hF := if_f hF c42
            have hr9 := lp_r hF hx
            subst hr9
            exact K0 rfl _ _ _ hH (lv_sub hl [] rfl)
set_option maxHeartbeats 4000000 in
set_option maxRecDepth 100000 in
theorem c_X12_tight {l : Launch} {G : mG} {h : mM} {q : Nat → Nat} (hq : oinj LX12 q) {st : OS} {a0 : Int64} {x : Int32 × OS} (hF : f_X12_tight st a0 = some x) : cQ l G yX12_tight cX12_tight 7 (some FieldType.int) rm_X12_tight [.ref (q 53), .long a0] (oset LX12 G q st h) (mQi G (fun r h1 => r = x.1 ∧ h1 = oset LX12 G q x.2 h)) := by
  refine mp_of (by decide +kernel) (Nat.le_of_ble_eq_true rfl) ?_
  intro p e s m below meth c X hr hlk hH hname ls hl
  dsimp only [f_X12_tight] at hF
  replace hl : lv_has ls 7 [(0, .ref (q 53)), (1, .long a0)] := hl
  refine lv_aload_n X.x X.b (dk DX12_tight_0 0 rfl) rfl (lv_at hl 0 rfl) ?_
  refine lv_aload_n X.x X.b (dk DX12_tight_0 1 rfl) rfl (lv_at hl 0 rfl) ?_
  refine lv_lload_n X.x X.b (dk DX12_tight_0 2 rfl) rfl (lv_at hl 1 rfl) ?_
  obtain ⟨x1, e2, hF⟩ := bd hF
  refine mr_ci0 hH ⟨rfl, rfl⟩ (mr_runV (As := [.long a0]) (rest := [.ref (q 53)]) X hH (c_X12_isSet hq e2) ((oset_at hq (Nat.le_refl _) ohas_N).trans (congrArg some ocell_N)) OX12.1 kM_X12_275 kI_X12_isSet kS_X12_isSet kN_X12 kC_X12_isSet hd_X12_isSet ⟨Nat.le_of_ble_eq_true rfl, Nat.le_of_ble_eq_true rfl⟩ rfl hl.1 (Nat.le_of_ble_eq_true rfl) (dk DX12_tight_0 3 rfl) ⟨Nat.zero_le _, Nat.zero_le _⟩) (fun r h1 H locs hp hH => ?_)
  obtain ⟨hr1, hr2⟩ := hp; rw [hr1]; rw [hr2] at hH; clear hr1 hr2
  refine lv_if_eq (tgt := 13) X.x X.b (dk DX12_tight_0 4 rfl) (by decide) (fun c4 => ?_) (fun c4 => ?_)
  · replace hF := if_t hF c4
    refine lv_iconst (v := 1) X.x X.b (dk DX12_tight_0 7 rfl) (by decide) ?_
    refine og_putI OX12 X hq hH 2 (by decide) rfl kF_X12_106 rfl rfl rfl (dk DX12_tight_0 8 rfl) (fun H locs hH => ?_)
    obtain ⟨t5, e6⟩ : ∃ y, y = oI st 2 1 := ⟨_, rfl⟩
    rw [← e6] at hH
    replace hF := bnd_e hF e6
    refine lv_aload_n X.x X.b (dk DX12_tight_0 9 rfl) rfl (lv_at hl 0 rfl) ?_
    refine og_getI OX12 X hq hH 2 (by decide) rfl kF_X12_106 (dk DX12_tight_0 10 rfl) ?_
    refine lv_if_le (tgt := 26) X.x X.b (dk DX12_tight_0 11 rfl) (by decide) (fun c7 => ?_) (fun c7 => ?_)
    · replace hF := if_t hF c7
      refine lv_aload_n X.x X.b (dk DX12_tight_0 14 rfl) rfl (lv_at hl 0 rfl) ?_
      refine og_getI OX12 X hq hH 1 (by decide) rfl kF_X12_250 (dk DX12_tight_0 15 rfl) ?_
      refine lv_if_ne (tgt := 35) X.x X.b (dk DX12_tight_0 16 rfl) (by decide) (fun c8 => ?_) (fun c8 => ?_)
      · replace hF := if_f hF c8
        refine lv_aload_n X.x X.b (dk DX12_tight_0 19 rfl) rfl (lv_at hl 0 rfl) ?_
        obtain ⟨x9, e10, hF⟩ := bd hF
        refine mr_cv0 hH ⟨rfl, rfl⟩ (mr_runV (As := []) (rest := []) X hH (c_X12_layNears hq e10) ((oset_at hq (Nat.le_refl _) ohas_N).trans (congrArg some ocell_N)) OX12.1 kM_X12_272 kI_X12_layNears kS_X12_layNears kN_X12 kC_X12_layNears hd_X12_layNears ⟨Nat.le_of_ble_eq_true rfl, Nat.le_of_ble_eq_true rfl⟩ rfl hl.1 (Nat.le_of_ble_eq_true rfl) (dk DX12_tight_0 20 rfl) ⟨Nat.zero_le _, Nat.zero_le _⟩) (fun h1 H locs hp hH => ?_)
        rw [hp] at hH; clear hp
        refine lv_aload_n X.x X.b (dk DX12_tight_0 21 rfl) rfl (lv_at hl 0 rfl) ?_
        refine og_getR (t := 1) OX12 X hq hH 3 (by decide) rfl kF_X12_7 (dk DX12_tight_0 22 rfl) ?_
        refine lv_iconst (v := 0) X.x X.b (dk DX12_tight_0 23 rfl) (by decide) ?_
        obtain ⟨c12, hF⟩ := gd hF
        refine og_lald X hq hH 3 (by decide) rfl (inb_in c12) (dk DX12_tight_0 24 rfl) ?_
        obtain ⟨x13, e14, hF⟩ := bd hF
        refine mr_ci0 hH ⟨rfl, rfl⟩ (mr_runS (As := [.long (x9.2.2.2 3 (0 : Int32).toNatClampNeg)]) (rest := []) X hH (c_X12_ones e14) kM_X12_283 kT_X12_ones kN_X12 kC_X12_ones hd_X12_ones ⟨Nat.le_of_ble_eq_true rfl, Nat.le_of_ble_eq_true rfl⟩ rfl hl.1 (Nat.le_of_ble_eq_true rfl) (dk DX12_tight_0 25 rfl) ⟨Nat.zero_le _, Nat.zero_le _⟩) (fun r h1 H locs hp hH => ?_)
        obtain ⟨hr1, hr2⟩ := hp; rw [hr1]; rw [hr2] at hH; clear hr1 hr2
        refine lv_iconst (v := 2) X.x X.b (dk DX12_tight_0 26 rfl) (by decide) ?_
        refine lv_isub X.x X.b (dk DX12_tight_0 27 rfl) ?_
        refine lv_topi (fun v16 e17 => ?_)
        replace hF := bnd_e hF e17
        refine lv_istore_n (lv' := [(3, .int v16), (0, .ref (q 53)), (1, .long a0)]) X.x X.b (dk DX12_tight_0 28 rfl) rfl hl (by decide) rfl (fun ls hl => ?_)
        replace hl : lv_has ls 7 [(0, .ref (q 53)), (1, .long a0), (3, .int v16)] := lv_sub hl [1, 2, 0] rfl
        refine lv_iconst (v := (-1)) X.x X.b (dk DX12_tight_0 29 rfl) (by decide) ?_
        refine lv_istore (lv' := [(4, .int ((-1))), (0, .ref (q 53)), (1, .long a0), (3, .int v16)]) X.x X.b (dk DX12_tight_0 30 rfl) hl (by decide) rfl (fun ls hl => ?_)
        replace hl : lv_has ls 7 [(0, .ref (q 53)), (1, .long a0), (3, .int v16), (4, .int ((-1)))] := lv_sub hl [1, 2, 3, 0] rfl
        refine lv_iconst (v := 0) X.x X.b (dk DX12_tight_0 31 rfl) (by decide) ?_
        refine lv_istore (lv' := [(5, .int 0), (0, .ref (q 53)), (1, .long a0), (3, .int v16), (4, .int ((-1)))]) X.x X.b (dk DX12_tight_0 32 rfl) hl (by decide) rfl (fun ls hl => ?_)
        replace hl : lv_has ls 7 [(0, .ref (q 53)), (1, .long a0), (3, .int v16), (4, .int ((-1))), (5, .int 0)] := lv_sub hl [1, 2, 3, 4, 0] rfl
        obtain ⟨x45, e46, hF⟩ := bd hF
        replace hl : lv_has ls 7 [(0, .ref (q 53)), (1, .long a0), (3, .int v16), (4, .int ((-1))), (5, .int 0)] := lv_sub hl [0, 1, 2, 3, 4] rfl
        obtain ⟨k48, v47⟩ := x45
        try dsimp only at hF
        refine w_X12_tight_57 hq X x9 a0 v16 _ _ e46 _ _ _ hH hl (fun hk H locs ls hH hl => ?_) (fun hk H locs ls hH hl => ?_)
        · try dsimp only at hH hl
          try dsimp only at hk
          subst hk
          replace hF := if_t hF rfl
          refine lv_iconst (v := (-1)) X.x X.b (dk DX12_tight_1 1 rfl) (by decide) ?_
          cases sm hF
          exact mr_iret X hr hlk hH ⟨rfl, rfl⟩ (dk DX12_tight_1 2 rfl)
        · try dsimp only at hH hl
          try dsimp only at hk
          subst hk
          replace hF := if_f hF (by decide)
          refine lv_iload X.x X.b (dk DX12_tight_1 7 rfl) (lv_at hl 0 rfl) ?_
          cases sm hF
          exact mr_iret X hr hlk hH ⟨rfl, rfl⟩ (dk DX12_tight_1 8 rfl)
      · replace hF := if_t hF c8
        refine lv_iconst (v := (-1)) X.x X.b (dk DX12_tight_0 17 rfl) (by decide) ?_
        cases sm hF
        exact mr_iret X hr hlk hH ⟨rfl, rfl⟩ (dk DX12_tight_0 18 rfl)
    · replace hF := if_f hF c7
      refine lv_iconst (v := 0) X.x X.b (dk DX12_tight_0 12 rfl) (by decide) ?_
      cases sm hF
      exact mr_iret X hr hlk hH ⟨rfl, rfl⟩ (dk DX12_tight_0 13 rfl)
  · replace hF := if_f hF c4
    refine lv_iconst (v := 0) X.x X.b (dk DX12_tight_0 5 rfl) (by decide) ?_
    refine lv_goto (tgt := 14) X.x X.b (dk DX12_tight_0 6 rfl) (by decide) ?_
    refine og_putI OX12 X hq hH 2 (by decide) rfl kF_X12_106 rfl rfl rfl (dk DX12_tight_0 8 rfl) (fun H locs hH => ?_)
    obtain ⟨t49, e50⟩ : ∃ y, y = oI st 2 0 := ⟨_, rfl⟩
    rw [← e50] at hH
    replace hF := bnd_e hF e50
    refine lv_aload_n X.x X.b (dk DX12_tight_0 9 rfl) rfl (lv_at hl 0 rfl) ?_
    refine og_getI OX12 X hq hH 2 (by decide) rfl kF_X12_106 (dk DX12_tight_0 10 rfl) ?_
    refine lv_if_le (tgt := 26) X.x X.b (dk DX12_tight_0 11 rfl) (by decide) (fun c51 => ?_) (fun c51 => ?_)
    · replace hF := if_t hF c51
      refine lv_aload_n X.x X.b (dk DX12_tight_0 14 rfl) rfl (lv_at hl 0 rfl) ?_
      refine og_getI OX12 X hq hH 1 (by decide) rfl kF_X12_250 (dk DX12_tight_0 15 rfl) ?_
      refine lv_if_ne (tgt := 35) X.x X.b (dk DX12_tight_0 16 rfl) (by decide) (fun c52 => ?_) (fun c52 => ?_)
      · replace hF := if_f hF c52
        refine lv_aload_n X.x X.b (dk DX12_tight_0 19 rfl) rfl (lv_at hl 0 rfl) ?_
        obtain ⟨x53, e54, hF⟩ := bd hF
        refine mr_cv0 hH ⟨rfl, rfl⟩ (mr_runV (As := []) (rest := []) X hH (c_X12_layNears hq e54) ((oset_at hq (Nat.le_refl _) ohas_N).trans (congrArg some ocell_N)) OX12.1 kM_X12_272 kI_X12_layNears kS_X12_layNears kN_X12 kC_X12_layNears hd_X12_layNears ⟨Nat.le_of_ble_eq_true rfl, Nat.le_of_ble_eq_true rfl⟩ rfl hl.1 (Nat.le_of_ble_eq_true rfl) (dk DX12_tight_0 20 rfl) ⟨Nat.zero_le _, Nat.zero_le _⟩) (fun h1 H locs hp hH => ?_)
        rw [hp] at hH; clear hp
        refine lv_aload_n X.x X.b (dk DX12_tight_0 21 rfl) rfl (lv_at hl 0 rfl) ?_
        refine og_getR (t := 1) OX12 X hq hH 3 (by decide) rfl kF_X12_7 (dk DX12_tight_0 22 rfl) ?_
        refine lv_iconst (v := 0) X.x X.b (dk DX12_tight_0 23 rfl) (by decide) ?_
        obtain ⟨c56, hF⟩ := gd hF
        refine og_lald X hq hH 3 (by decide) rfl (inb_in c56) (dk DX12_tight_0 24 rfl) ?_
        obtain ⟨x57, e58, hF⟩ := bd hF
        refine mr_ci0 hH ⟨rfl, rfl⟩ (mr_runS (As := [.long (x53.2.2.2 3 (0 : Int32).toNatClampNeg)]) (rest := []) X hH (c_X12_ones e58) kM_X12_283 kT_X12_ones kN_X12 kC_X12_ones hd_X12_ones ⟨Nat.le_of_ble_eq_true rfl, Nat.le_of_ble_eq_true rfl⟩ rfl hl.1 (Nat.le_of_ble_eq_true rfl) (dk DX12_tight_0 25 rfl) ⟨Nat.zero_le _, Nat.zero_le _⟩) (fun r h1 H locs hp hH => ?_)
        obtain ⟨hr1, hr2⟩ := hp; rw [hr1]; rw [hr2] at hH; clear hr1 hr2
        refine lv_iconst (v := 2) X.x X.b (dk DX12_tight_0 26 rfl) (by decide) ?_
        refine lv_isub X.x X.b (dk DX12_tight_0 27 rfl) ?_
        refine lv_topi (fun v60 e61 => ?_)
        replace hF := bnd_e hF e61
        refine lv_istore_n (lv' := [(3, .int v60), (0, .ref (q 53)), (1, .long a0)]) X.x X.b (dk DX12_tight_0 28 rfl) rfl hl (by decide) rfl (fun ls hl => ?_)
        replace hl : lv_has ls 7 [(0, .ref (q 53)), (1, .long a0), (3, .int v60)] := lv_sub hl [1, 2, 0] rfl
        refine lv_iconst (v := (-1)) X.x X.b (dk DX12_tight_0 29 rfl) (by decide) ?_
        refine lv_istore (lv' := [(4, .int ((-1))), (0, .ref (q 53)), (1, .long a0), (3, .int v60)]) X.x X.b (dk DX12_tight_0 30 rfl) hl (by decide) rfl (fun ls hl => ?_)
        replace hl : lv_has ls 7 [(0, .ref (q 53)), (1, .long a0), (3, .int v60), (4, .int ((-1)))] := lv_sub hl [1, 2, 3, 0] rfl
        refine lv_iconst (v := 0) X.x X.b (dk DX12_tight_0 31 rfl) (by decide) ?_
        refine lv_istore (lv' := [(5, .int 0), (0, .ref (q 53)), (1, .long a0), (3, .int v60), (4, .int ((-1)))]) X.x X.b (dk DX12_tight_0 32 rfl) hl (by decide) rfl (fun ls hl => ?_)
        replace hl : lv_has ls 7 [(0, .ref (q 53)), (1, .long a0), (3, .int v60), (4, .int ((-1))), (5, .int 0)] := lv_sub hl [1, 2, 3, 4, 0] rfl
        obtain ⟨x62, e63, hF⟩ := bd hF
        replace hl : lv_has ls 7 [(0, .ref (q 53)), (1, .long a0), (3, .int v60), (4, .int ((-1))), (5, .int 0)] := lv_sub hl [0, 1, 2, 3, 4] rfl
        obtain ⟨k65, v64⟩ := x62
        try dsimp only at hF
        refine w_X12_tight_57 hq X x53 a0 v60 _ _ e63 _ _ _ hH hl (fun hk H locs ls hH hl => ?_) (fun hk H locs ls hH hl => ?_)
        · try dsimp only at hH hl
          try dsimp only at hk
          subst hk
          replace hF := if_t hF rfl
          refine lv_iconst (v := (-1)) X.x X.b (dk DX12_tight_1 1 rfl) (by decide) ?_
          cases sm hF
          exact mr_iret X hr hlk hH ⟨rfl, rfl⟩ (dk DX12_tight_1 2 rfl)
        · try dsimp only at hH hl
          try dsimp only at hk
          subst hk
          replace hF := if_f hF (by decide)
          refine lv_iload X.x X.b (dk DX12_tight_1 7 rfl) (lv_at hl 0 rfl) ?_
          cases sm hF
          exact mr_iret X hr hlk hH ⟨rfl, rfl⟩ (dk DX12_tight_1 8 rfl)
      · replace hF := if_t hF c52
        refine lv_iconst (v := (-1)) X.x X.b (dk DX12_tight_0 17 rfl) (by decide) ?_
        cases sm hF
        exact mr_iret X hr hlk hH ⟨rfl, rfl⟩ (dk DX12_tight_0 18 rfl)
    · replace hF := if_f hF c51
      refine lv_iconst (v := 0) X.x X.b (dk DX12_tight_0 12 rfl) (by decide) ?_
      cases sm hF
      exact mr_iret X hr hlk hH ⟨rfl, rfl⟩ (dk DX12_tight_0 13 rfl)
-- X12_begins
abbrev rm_X12_begins : Room := { frames := 2, cells := 0, slots := 0, locals := 44 }
theorem hd_X12_begins : mHd yX12_begins 0 := ⟨by decide +kernel, by decide +kernel, by decide +kernel⟩
theorem DX12_begins_0 : ∀ t ∈ ([(0, .aload_n 0, 1), (1, .iconst 0, 1), (2, .putfield 303, 3), (5, .aload_n 0, 1), (6, .iconst 0, 1), (7, .putfield 306, 3), (10, .aload_n 0, 1), (11, .iconst 0, 1), (12, .putfield 309, 3), (15, .aload_n 0, 1), (16, .ldc2_w 109, 3), (19, .putfield 313, 3), (22, .aload_n 0, 1), (23, .invokevirtual 272, 3), (26, .return_, 1)] : List (Nat × Instr × Nat)), decode cX12_begins t.1 = .ok (t.2.1, t.2.2) := by decide +kernel
noncomputable def f_X12_begins (st : OS) : Option (OS) := bnd (oI st 21 0) (fun t1 => bnd (oI t1 22 0) (fun t3 => bnd (oI t3 23 0) (fun t5 => bnd (oJ t5 24 ((-1))) (fun t7 => (f_X12_layNears t7).bind (fun x9 => some x9)))))
set_option maxHeartbeats 4000000 in
set_option maxRecDepth 100000 in
theorem c_X12_begins {l : Launch} {G : mG} {h : mM} {q : Nat → Nat} (hq : oinj LX12 q) {st : OS} {x : OS} (hF : f_X12_begins st = some x) : cQ l G yX12_begins cX12_begins 1 none rm_X12_begins [.ref (q 53)] (oset LX12 G q st h) (mQv G (fun h1 => h1 = oset LX12 G q x h)) := by
  refine mp_of (by decide +kernel) (Nat.le_of_ble_eq_true rfl) ?_
  intro p e s m below meth c X hr hlk hH hname ls hl
  dsimp only [f_X12_begins] at hF
  replace hl : lv_has ls 1 [(0, .ref (q 53))] := hl
  refine lv_aload_n X.x X.b (dk DX12_begins_0 0 rfl) rfl (lv_at hl 0 rfl) ?_
  refine lv_iconst (v := 0) X.x X.b (dk DX12_begins_0 1 rfl) (by decide) ?_
  refine og_putI OX12 X hq hH 21 (by decide) rfl kF_X12_303 rfl rfl rfl (dk DX12_begins_0 2 rfl) (fun H locs hH => ?_)
  obtain ⟨t1, e2⟩ : ∃ y, y = oI st 21 0 := ⟨_, rfl⟩
  rw [← e2] at hH
  replace hF := bnd_e hF e2
  refine lv_aload_n X.x X.b (dk DX12_begins_0 3 rfl) rfl (lv_at hl 0 rfl) ?_
  refine lv_iconst (v := 0) X.x X.b (dk DX12_begins_0 4 rfl) (by decide) ?_
  refine og_putI OX12 X hq hH 22 (by decide) rfl kF_X12_306 rfl rfl rfl (dk DX12_begins_0 5 rfl) (fun H locs hH => ?_)
  obtain ⟨t3, e4⟩ : ∃ y, y = oI t1 22 0 := ⟨_, rfl⟩
  rw [← e4] at hH
  replace hF := bnd_e hF e4
  refine lv_aload_n X.x X.b (dk DX12_begins_0 6 rfl) rfl (lv_at hl 0 rfl) ?_
  refine lv_iconst (v := 0) X.x X.b (dk DX12_begins_0 7 rfl) (by decide) ?_
  refine og_putI OX12 X hq hH 23 (by decide) rfl kF_X12_309 rfl rfl rfl (dk DX12_begins_0 8 rfl) (fun H locs hH => ?_)
  obtain ⟨t5, e6⟩ : ∃ y, y = oI t3 23 0 := ⟨_, rfl⟩
  rw [← e6] at hH
  replace hF := bnd_e hF e6
  refine lv_aload_n X.x X.b (dk DX12_begins_0 9 rfl) rfl (lv_at hl 0 rfl) ?_
  refine lv_ldc2 (v := (-1)) X.x X.b X.ow (X.ts _ kK_X12_109) (dk DX12_begins_0 10 rfl) ?_
  refine og_putJ OX12 X hq hH 24 (by decide) rfl kF_X12_313 rfl rfl rfl (dk DX12_begins_0 11 rfl) (fun H locs hH => ?_)
  obtain ⟨t7, e8⟩ : ∃ y, y = oJ t5 24 ((-1)) := ⟨_, rfl⟩
  rw [← e8] at hH
  replace hF := bnd_e hF e8
  refine lv_aload_n X.x X.b (dk DX12_begins_0 12 rfl) rfl (lv_at hl 0 rfl) ?_
  obtain ⟨x9, e10, hF⟩ := bd hF
  refine mr_cv0 hH ⟨rfl, rfl⟩ (mr_runV (As := []) (rest := []) X hH (c_X12_layNears hq e10) ((oset_at hq (Nat.le_refl _) ohas_N).trans (congrArg some ocell_N)) OX12.1 kM_X12_272 kI_X12_layNears kS_X12_layNears kN_X12 kC_X12_layNears hd_X12_layNears ⟨Nat.le_of_ble_eq_true rfl, Nat.le_of_ble_eq_true rfl⟩ rfl hl.1 (Nat.le_of_ble_eq_true rfl) (dk DX12_begins_0 13 rfl) ⟨Nat.zero_le _, Nat.zero_le _⟩) (fun h1 H locs hp hH => ?_)
  rw [hp] at hH; clear hp
  cases sm hF
  exact mr_vret X hr hlk hH rfl (dk DX12_begins_0 14 rfl)
-- X12_mayTry
abbrev rm_X12_mayTry : Room := { frames := 0, cells := 0, slots := 0, locals := 0 }
theorem hd_X12_mayTry : mHd yX12_mayTry 0 := ⟨by decide +kernel, by decide +kernel, by decide +kernel⟩
theorem DX12_mayTry_0 : ∀ t ∈ ([(0, .aload_n 0, 1), (1, .getfield 303, 3), (4, .ldc_w 317, 3), (7, .if_icmp .ne 8, 3), (10, .aload_n 0, 1), (11, .iconst 1, 1), (12, .putfield 309, 3), (15, .aload_n 0, 1), (16, .dup, 1), (17, .getfield 303, 3), (20, .iconst 1, 1), (21, .iadd, 1), (22, .putfield 303, 3), (25, .aload_n 0, 1), (26, .getfield 309, 3), (29, .ifCond .ne 7, 3), (32, .iconst 1, 1), (33, .goto 4, 3), (36, .iconst 0, 1), (37, .ireturn, 1)] : List (Nat × Instr × Nat)), decode cX12_mayTry t.1 = .ok (t.2.1, t.2.2) := by decide +kernel
noncomputable def f_X12_mayTry (st : OS) : Option (Int32 × OS) := (if (st.1 21) = 100000 then bnd (oI st 23 1) (fun t5 => bnd (oI t5 21 ((t5.1 21) + 1)) (fun t7 => (if (t7.1 23) = 0 then some ((1, t7)) else some ((0, t7))))) else bnd (oI st 21 ((st.1 21) + 1)) (fun t2 => (if (t2.1 23) = 0 then some ((1, t2)) else some ((0, t2)))))
set_option maxHeartbeats 4000000 in
set_option maxRecDepth 100000 in
theorem c_X12_mayTry {l : Launch} {G : mG} {h : mM} {q : Nat → Nat} (hq : oinj LX12 q) {st : OS} {x : Int32 × OS} (hF : f_X12_mayTry st = some x) : cQ l G yX12_mayTry cX12_mayTry 1 (some FieldType.boolean) rm_X12_mayTry [.ref (q 53)] (oset LX12 G q st h) (mQi G (fun r h1 => r = x.1 ∧ h1 = oset LX12 G q x.2 h)) := by
  refine mp_of (by decide +kernel) (Nat.le_of_ble_eq_true rfl) ?_
  intro p e s m below meth c X hr hlk hH hname ls hl
  dsimp only [f_X12_mayTry] at hF
  replace hl : lv_has ls 1 [(0, .ref (q 53))] := hl
  refine lv_aload_n X.x X.b (dk DX12_mayTry_0 0 rfl) rfl (lv_at hl 0 rfl) ?_
  refine og_getI OX12 X hq hH 21 (by decide) rfl kF_X12_303 (dk DX12_mayTry_0 1 rfl) ?_
  refine lv_ldcw (v := 100000) X.x X.b X.ow (X.ts _ kK_X12_317) (dk DX12_mayTry_0 2 rfl) ?_
  refine lv_icmp_ne (tgt := 15) X.x X.b (dk DX12_mayTry_0 3 rfl) (by decide) (fun c1 => ?_) (fun c1 => ?_)
  · replace hF := if_f hF c1
    refine lv_aload_n X.x X.b (dk DX12_mayTry_0 7 rfl) rfl (lv_at hl 0 rfl) ?_
    refine lv_dup X.x X.b (dk DX12_mayTry_0 8 rfl) rfl ?_
    refine og_getI OX12 X hq hH 21 (by decide) rfl kF_X12_303 (dk DX12_mayTry_0 9 rfl) ?_
    refine lv_iconst (v := 1) X.x X.b (dk DX12_mayTry_0 10 rfl) (by decide) ?_
    refine lv_iadd X.x X.b (dk DX12_mayTry_0 11 rfl) ?_
    refine og_putI OX12 X hq hH 21 (by decide) rfl kF_X12_303 rfl rfl rfl (dk DX12_mayTry_0 12 rfl) (fun H locs hH => ?_)
    obtain ⟨t2, e3⟩ : ∃ y, y = oI st 21 ((st.1 21) + 1) := ⟨_, rfl⟩
    rw [← e3] at hH
    replace hF := bnd_e hF e3
    refine lv_aload_n X.x X.b (dk DX12_mayTry_0 13 rfl) rfl (lv_at hl 0 rfl) ?_
    refine og_getI OX12 X hq hH 23 (by decide) rfl kF_X12_309 (dk DX12_mayTry_0 14 rfl) ?_
    refine lv_if_ne (tgt := 36) X.x X.b (dk DX12_mayTry_0 15 rfl) (by decide) (fun c4 => ?_) (fun c4 => ?_)
    · replace hF := if_f hF c4
      refine lv_iconst (v := 0) X.x X.b (dk DX12_mayTry_0 18 rfl) (by decide) ?_
      cases sm hF
      exact mr_zret X hr hlk hH rfl ⟨rfl, rfl⟩ (dk DX12_mayTry_0 19 rfl)
    · replace hF := if_t hF c4
      refine lv_iconst (v := 1) X.x X.b (dk DX12_mayTry_0 16 rfl) (by decide) ?_
      refine lv_goto (tgt := 37) X.x X.b (dk DX12_mayTry_0 17 rfl) (by decide) ?_
      cases sm hF
      exact mr_zret X hr hlk hH rfl ⟨rfl, rfl⟩ (dk DX12_mayTry_0 19 rfl)
  · replace hF := if_t hF c1
    refine lv_aload_n X.x X.b (dk DX12_mayTry_0 4 rfl) rfl (lv_at hl 0 rfl) ?_
    refine lv_iconst (v := 1) X.x X.b (dk DX12_mayTry_0 5 rfl) (by decide) ?_
    refine og_putI OX12 X hq hH 23 (by decide) rfl kF_X12_309 rfl rfl rfl (dk DX12_mayTry_0 6 rfl) (fun H locs hH => ?_)
    obtain ⟨t5, e6⟩ : ∃ y, y = oI st 23 1 := ⟨_, rfl⟩
    rw [← e6] at hH
    replace hF := bnd_e hF e6
    refine lv_aload_n X.x X.b (dk DX12_mayTry_0 7 rfl) rfl (lv_at hl 0 rfl) ?_
    refine lv_dup X.x X.b (dk DX12_mayTry_0 8 rfl) rfl ?_
    refine og_getI OX12 X hq hH 21 (by decide) rfl kF_X12_303 (dk DX12_mayTry_0 9 rfl) ?_
    refine lv_iconst (v := 1) X.x X.b (dk DX12_mayTry_0 10 rfl) (by decide) ?_
    refine lv_iadd X.x X.b (dk DX12_mayTry_0 11 rfl) ?_
    refine og_putI OX12 X hq hH 21 (by decide) rfl kF_X12_303 rfl rfl rfl (dk DX12_mayTry_0 12 rfl) (fun H locs hH => ?_)
    obtain ⟨t7, e8⟩ : ∃ y, y = oI t5 21 ((t5.1 21) + 1) := ⟨_, rfl⟩
    rw [← e8] at hH
    replace hF := bnd_e hF e8
    refine lv_aload_n X.x X.b (dk DX12_mayTry_0 13 rfl) rfl (lv_at hl 0 rfl) ?_
    refine og_getI OX12 X hq hH 23 (by decide) rfl kF_X12_309 (dk DX12_mayTry_0 14 rfl) ?_
    refine lv_if_ne (tgt := 36) X.x X.b (dk DX12_mayTry_0 15 rfl) (by decide) (fun c9 => ?_) (fun c9 => ?_)
    · replace hF := if_f hF c9
      refine lv_iconst (v := 0) X.x X.b (dk DX12_mayTry_0 18 rfl) (by decide) ?_
      cases sm hF
      exact mr_zret X hr hlk hH rfl ⟨rfl, rfl⟩ (dk DX12_mayTry_0 19 rfl)
    · replace hF := if_t hF c9
      refine lv_iconst (v := 1) X.x X.b (dk DX12_mayTry_0 16 rfl) (by decide) ?_
      refine lv_goto (tgt := 37) X.x X.b (dk DX12_mayTry_0 17 rfl) (by decide) ?_
      cases sm hF
      exact mr_zret X hr hlk hH rfl ⟨rfl, rfl⟩ (dk DX12_mayTry_0 19 rfl)
-- X12_finds
abbrev rm_X12_finds : Room := { frames := 0, cells := 0, slots := 0, locals := 0 }
theorem hd_X12_finds : mHd yX12_finds 1 := ⟨by decide +kernel, by decide +kernel, by decide +kernel⟩
theorem DX12_finds_0 : ∀ t ∈ ([(0, .aload_n 0, 1), (1, .getfield 306, 3), (4, .ifCond .ne 8, 3), (7, .aload_n 0, 1), (8, .lload_n 1, 1), (9, .putfield 313, 3), (12, .aload_n 0, 1), (13, .dup, 1), (14, .getfield 306, 3), (17, .iconst 1, 1), (18, .iadd, 1), (19, .putfield 306, 3), (22, .return_, 1)] : List (Nat × Instr × Nat)), decode cX12_finds t.1 = .ok (t.2.1, t.2.2) := by decide +kernel
noncomputable def f_X12_finds (st : OS) (a0 : Int64) : Option (OS) := (if (st.1 22) = 0 then bnd (oJ st 24 a0) (fun t4 => bnd (oI t4 22 ((t4.1 22) + 1)) (fun t6 => some t6)) else bnd (oI st 22 ((st.1 22) + 1)) (fun t2 => some t2))
set_option maxHeartbeats 4000000 in
set_option maxRecDepth 100000 in
theorem c_X12_finds {l : Launch} {G : mG} {h : mM} {q : Nat → Nat} (hq : oinj LX12 q) {st : OS} {a0 : Int64} {x : OS} (hF : f_X12_finds st a0 = some x) : cQ l G yX12_finds cX12_finds 3 none rm_X12_finds [.ref (q 53), .long a0] (oset LX12 G q st h) (mQv G (fun h1 => h1 = oset LX12 G q x h)) := by
  refine mp_of (by decide +kernel) (Nat.le_of_ble_eq_true rfl) ?_
  intro p e s m below meth c X hr hlk hH hname ls hl
  dsimp only [f_X12_finds] at hF
  replace hl : lv_has ls 3 [(0, .ref (q 53)), (1, .long a0)] := hl
  refine lv_aload_n X.x X.b (dk DX12_finds_0 0 rfl) rfl (lv_at hl 0 rfl) ?_
  refine og_getI OX12 X hq hH 22 (by decide) rfl kF_X12_306 (dk DX12_finds_0 1 rfl) ?_
  refine lv_if_ne (tgt := 12) X.x X.b (dk DX12_finds_0 2 rfl) (by decide) (fun c1 => ?_) (fun c1 => ?_)
  · replace hF := if_f hF c1
    refine lv_aload_n X.x X.b (dk DX12_finds_0 6 rfl) rfl (lv_at hl 0 rfl) ?_
    refine lv_dup X.x X.b (dk DX12_finds_0 7 rfl) rfl ?_
    refine og_getI OX12 X hq hH 22 (by decide) rfl kF_X12_306 (dk DX12_finds_0 8 rfl) ?_
    refine lv_iconst (v := 1) X.x X.b (dk DX12_finds_0 9 rfl) (by decide) ?_
    refine lv_iadd X.x X.b (dk DX12_finds_0 10 rfl) ?_
    refine og_putI OX12 X hq hH 22 (by decide) rfl kF_X12_306 rfl rfl rfl (dk DX12_finds_0 11 rfl) (fun H locs hH => ?_)
    obtain ⟨t2, e3⟩ : ∃ y, y = oI st 22 ((st.1 22) + 1) := ⟨_, rfl⟩
    rw [← e3] at hH
    replace hF := bnd_e hF e3
    cases sm hF
    exact mr_vret X hr hlk hH rfl (dk DX12_finds_0 12 rfl)
  · replace hF := if_t hF c1
    refine lv_aload_n X.x X.b (dk DX12_finds_0 3 rfl) rfl (lv_at hl 0 rfl) ?_
    refine lv_lload_n X.x X.b (dk DX12_finds_0 4 rfl) rfl (lv_at hl 1 rfl) ?_
    refine og_putJ OX12 X hq hH 24 (by decide) rfl kF_X12_313 rfl rfl rfl (dk DX12_finds_0 5 rfl) (fun H locs hH => ?_)
    obtain ⟨t4, e5⟩ : ∃ y, y = oJ st 24 a0 := ⟨_, rfl⟩
    rw [← e5] at hH
    replace hF := bnd_e hF e5
    refine lv_aload_n X.x X.b (dk DX12_finds_0 6 rfl) rfl (lv_at hl 0 rfl) ?_
    refine lv_dup X.x X.b (dk DX12_finds_0 7 rfl) rfl ?_
    refine og_getI OX12 X hq hH 22 (by decide) rfl kF_X12_306 (dk DX12_finds_0 8 rfl) ?_
    refine lv_iconst (v := 1) X.x X.b (dk DX12_finds_0 9 rfl) (by decide) ?_
    refine lv_iadd X.x X.b (dk DX12_finds_0 10 rfl) ?_
    refine og_putI OX12 X hq hH 22 (by decide) rfl kF_X12_306 rfl rfl rfl (dk DX12_finds_0 11 rfl) (fun H locs hH => ?_)
    obtain ⟨t6, e7⟩ : ∃ y, y = oI t4 22 ((t4.1 22) + 1) := ⟨_, rfl⟩
    rw [← e7] at hH
    replace hF := bnd_e hF e7
    cases sm hF
    exact mr_vret X hr hlk hH rfl (dk DX12_finds_0 12 rfl)
-- X12_ovoidsFrom
abbrev rm_X12_ovoidsFrom (d : Nat) : Room := { frames := 1 + d, cells := 0, slots := 0, locals := 22 + d * 25 }
theorem hd_X12_ovoidsFrom : mHd yX12_ovoidsFrom 2 := ⟨by decide +kernel, by decide +kernel, by decide +kernel⟩
theorem DX12_ovoidsFrom_0 : ∀ t ∈ ([(0, .iconst 0, 1), (1, .istore 4, 2), (3, .iload 4, 2), (5, .aload_n 0, 1), (6, .getfield 250, 3), (9, .if_icmp .ge 23, 3), (12, .aload_n 0, 1), (13, .getfield 7, 3), (16, .iload 4, 2), (18, .laload, 1), (19, .lload_n 1, 1), (20, .land, 1), (21, .lconst 0, 1), (22, .lcmp, 1), (23, .ifCond .eq 9, 3), (26, .iinc 4 1, 3), (29, .goto (-26), 3), (32, .iload 4, 2), (34, .aload_n 0, 1), (35, .getfield 250, 3), (38, .if_icmp .ne 9, 3), (41, .aload_n 0, 1), (42, .lload_n 1, 1), (43, .invokevirtual 318, 3), (46, .return_, 1), (47, .iconst 0, 1), (48, .istore 5, 2), (50, .iload 5, 2), (52, .aload_n 0, 1), (53, .getfield 248, 3), (56, .if_icmp .ge 75, 3), (59, .aload_n 0, 1), (60, .getfield 309, 3), (63, .ifCond .ne 68, 3), (66, .iload_n 3, 1), (67, .ifCond .eq 10, 3), (70, .aload_n 0, 1), (71, .getfield 306, 3), (74, .ifCond .gt 57, 3), (77, .aload_n 0, 1), (78, .getfield 7, 3), (81, .iload 4, 2), (83, .laload, 1), (84, .iload 5, 2), (86, .invokestatic 232, 3), (89, .ifCond .eq 36, 3), (92, .aload_n 0, 1), (93, .getfield 30, 3), (96, .iload 5, 2), (98, .laload, 1), (99, .lload_n 1, 1), (100, .land, 1), (101, .lconst 0, 1), (102, .lcmp, 1), (103, .ifCond .ne 22, 3), (106, .aload_n 0, 1), (107, .invokevirtual 321, 3), (110, .ifCond .eq 15, 3), (113, .aload_n 0, 1), (114, .lload_n 1, 1)] : List (Nat × Instr × Nat)), decode cX12_ovoidsFrom t.1 = .ok (t.2.1, t.2.2) := by decide +kernel
theorem DX12_ovoidsFrom_1 : ∀ t ∈ ([(115, .iload 5, 2), (117, .invokestatic 111, 3), (120, .lor, 1), (121, .iload_n 3, 1), (122, .invokevirtual 325, 3), (125, .iinc 5 1, 3), (128, .goto (-78), 3), (131, .return_, 1)] : List (Nat × Instr × Nat)), decode cX12_ovoidsFrom t.1 = .ok (t.2.1, t.2.2) := by decide +kernel
noncomputable def f_X12_ovoidsFrom_3 (rec : OS → Int64 → Int32 → Option (OS)) (s_t : OS) (b1 : Int64) (b3 : Int32) : Int32 → Option ((Int32) ⊕ (Int32)) := fun b4 => (if (s_t.1 1) ≤ b4 then some (.inr b4) else if inb b4 64 = true then (if (lg_cmp ((s_t.2.2.2 3 (b4 : Int32).toNatClampNeg) &&& b1) 0) = 0 then some (.inr b4) else bnd (b4 + 1 : Int32) (fun v4 => some (.inl v4))) else none)
noncomputable def f_X12_ovoidsFrom_50 (rec : OS → Int64 → Int32 → Option (OS)) (b1 : Int64) (b3 : Int32) (b4 : Int32) : (OS × Int32) → Option ((OS × Int32) ⊕ (OS)) := fun z => match z with | (s_t, b5) => (if (s_t.1 0) ≤ b5 then some (.inr s_t) else (if (s_t.1 23) = 0 then (if b3 = 0 then if inb b4 64 = true then (f_X12_has (s_t.2.2.2 3 (b4 : Int32).toNatClampNeg) b5).bind (fun x14 => (if x14 = 0 then bnd (b5 + 1 : Int32) (fun v18 => some (.inl ((s_t, v18)))) else if inb b5 64 = true then (if (lg_cmp ((s_t.2.2.2 20 (b5 : Int32).toNatClampNeg) &&& b1) 0) = 0 then (f_X12_mayTry s_t).bind (fun x24 => match x24 with | (v26, t27) => (if v26 = 0 then bnd (b5 + 1 : Int32) (fun v29 => some (.inl ((t27, v29)))) else (f_X12_bit b5).bind (fun x31 => (rec t27 (b1 ||| x31) b3).bind (fun x34 => bnd (b5 + 1 : Int32) (fun v37 => some (.inl ((x34, v37)))))))) else bnd (b5 + 1 : Int32) (fun v22 => some (.inl ((s_t, v22))))) else none)) else none else (if 0 < (s_t.1 22) then some (.inr s_t) else if inb b4 64 = true then (f_X12_has (s_t.2.2.2 3 (b4 : Int32).toNatClampNeg) b5).bind (fun x41 => (if x41 = 0 then bnd (b5 + 1 : Int32) (fun v45 => some (.inl ((s_t, v45)))) else if inb b5 64 = true then (if (lg_cmp ((s_t.2.2.2 20 (b5 : Int32).toNatClampNeg) &&& b1) 0) = 0 then (f_X12_mayTry s_t).bind (fun x51 => match x51 with | (v53, t54) => (if v53 = 0 then bnd (b5 + 1 : Int32) (fun v56 => some (.inl ((t54, v56)))) else (f_X12_bit b5).bind (fun x58 => (rec t54 (b1 ||| x58) b3).bind (fun x61 => bnd (b5 + 1 : Int32) (fun v64 => some (.inl ((x61, v64)))))))) else bnd (b5 + 1 : Int32) (fun v49 => some (.inl ((s_t, v49))))) else none)) else none)) else some (.inr s_t)))
noncomputable def f_X12_ovoidsFrom_T (rec : OS → Int64 → Int32 → Option (OS)) (st : OS) (a0 : Int64) (a1 : Int32) : Option (OS) := (lpv (f_X12_ovoidsFrom_3 rec st a0 a1) 0).bind (fun x6 => (if x6 = (st.1 1) then (f_X12_finds st a0).bind (fun x69 => some x69) else (lpv (f_X12_ovoidsFrom_50 rec a0 a1 x6) ((st, 0))).bind (fun x66 => some x66)))
noncomputable def f_X12_ovoidsFrom : Nat → OS → Int64 → Int32 → Option (OS)
  | 0 => fun _ _ _ => none
  | d + 1 => f_X12_ovoidsFrom_T (f_X12_ovoidsFrom d)
set_option maxHeartbeats 4000000 in
set_option maxRecDepth 100000 in
theorem w_X12_ovoidsFrom_3 {p : Program} {l : Launch} {e : Env} {s : State} {m : MethodId} {args : Array Value} {below : List Frame} {meth : Method} {c : Code} {Q : State → Prop} {G : mG} {h : mM} {q : Nat → Nat} (hq : oinj LX12 q) {d : Nat} {rec : OS → Int64 → Int32 → Option (OS)} (ih : ∀ (st : OS) (a0 : Int64) (a1 : Int32) (x : OS), rec st a0 a1 = some x → cQ l G yX12_ovoidsFrom cX12_ovoidsFrom 6 none (rm_X12_ovoidsFrom d) [.ref (q 53), .long a0, .int a1] (oset LX12 G q st h) (mQv G (fun h1 => h1 = oset LX12 G q x h))) (X : mX G p m c cX12_ovoidsFrom 6 s args RX12) (s_t : OS) (b1 : Int64) (b3 : Int32) : ∀ (z : Int32) (r : Int32), lpv (f_X12_ovoidsFrom_3 rec s_t b1 b3) z = some r → ∀ (H : Heap) (locs : List Loc) (ls : Array Slot), mH G (oset LX12 G q s_t h) s.heap H locs → lv_has ls 6 [(0, .ref (q 53)), (1, .long b1), (3, .int b3), (4, .int z)] → (∀ (H : Heap) (locs : List Loc) (ls : Array Slot), mH G (oset LX12 G q s_t h) s.heap H locs → lv_has ls 6 [(0, .ref (q 53)), (1, .long b1), (3, .int b3), (4, .int r)] → W p l e (rm_X12_ovoidsFrom (d + 1)) s m args below meth c H locs 0 0 Q (F0 m 32 ls [])) → W p l e (rm_X12_ovoidsFrom (d + 1)) s m args below meth c H locs 0 0 Q (F0 m 3 ls []) := by
  refine lpv_rec ?_
  intro z r x hF hx H locs ls hH hl K0
  obtain ⟨b4, hz⟩ : ∃ y, y = z := ⟨_, rfl⟩
  subst hz
  dsimp only [f_X12_ovoidsFrom_3] at hF
  refine lv_iload X.x X.b (dk DX12_ovoidsFrom_0 2 rfl) (lv_at hl 3 rfl) ?_
  refine lv_aload_n X.x X.b (dk DX12_ovoidsFrom_0 3 rfl) rfl (lv_at hl 0 rfl) ?_
  refine og_getI OX12 X hq hH 1 (by decide) rfl kF_X12_250 (dk DX12_ovoidsFrom_0 4 rfl) ?_
  refine lv_icmp_ge (tgt := 32) X.x X.b (dk DX12_ovoidsFrom_0 5 rfl) (by decide) (fun c1 => ?_) (fun c1 => ?_)
  · replace hF := if_t hF c1
    have hr9 := lp_r hF hx
    subst hr9
    exact K0 _ _ _ hH (lv_sub hl [0, 1, 2, 3] rfl)
  · replace hF := if_f hF c1
    refine lv_aload_n X.x X.b (dk DX12_ovoidsFrom_0 6 rfl) rfl (lv_at hl 0 rfl) ?_
    refine og_getR (t := 1) OX12 X hq hH 3 (by decide) rfl kF_X12_7 (dk DX12_ovoidsFrom_0 7 rfl) ?_
    refine lv_iload X.x X.b (dk DX12_ovoidsFrom_0 8 rfl) (lv_at hl 3 rfl) ?_
    obtain ⟨c2, hF⟩ := gd hF
    refine og_lald X hq hH 3 (by decide) rfl (inb_in c2) (dk DX12_ovoidsFrom_0 9 rfl) ?_
    refine lv_lload_n X.x X.b (dk DX12_ovoidsFrom_0 10 rfl) rfl (lv_at hl 1 rfl) ?_
    refine lv_land X.x X.b (dk DX12_ovoidsFrom_0 11 rfl) ?_
    refine lv_lconst (v := 0) X.x X.b (dk DX12_ovoidsFrom_0 12 rfl) (by decide) ?_
    refine W.lcmp X.x X.b (dk DX12_ovoidsFrom_0 13 rfl) ?_
    refine lv_if_eq (tgt := 32) X.x X.b (dk DX12_ovoidsFrom_0 14 rfl) (by decide) (fun c3 => ?_) (fun c3 => ?_)
    · replace hF := if_t hF c3
      have hr9 := lp_r hF hx
      subst hr9
      exact K0 _ _ _ hH (lv_sub hl [0, 1, 2, 3] rfl)
    · replace hF := if_f hF c3
      obtain ⟨v4, e5⟩ : ∃ y : Int32, y = b4 + 1 := ⟨_, rfl⟩
      replace hF := bnd_e hF e5
      refine lv_iinc (v := v4) (lv' := [(4, .int v4), (0, .ref (q 53)), (1, .long b1), (3, .int b3)]) X.x X.b (dk DX12_ovoidsFrom_0 15 rfl) hl (k := 3) rfl (by rw [e5]; rfl) (by decide) rfl (fun ls hl => ?_)
      replace hl : lv_has ls 6 [(0, .ref (q 53)), (1, .long b1), (3, .int b3), (4, .int v4)] := lv_sub hl [1, 2, 3, 0] rfl
      refine lv_goto (tgt := 3) X.x X.b (dk DX12_ovoidsFrom_0 16 rfl) (by decide) ?_
      exact (lp_l hF hx) _ _ _ hH (lv_sub hl [0, 1, 2, 3] rfl) K0
set_option maxHeartbeats 4000000 in
set_option maxRecDepth 100000 in
theorem w_X12_ovoidsFrom_50 {p : Program} {l : Launch} {e : Env} {s : State} {m : MethodId} {args : Array Value} {below : List Frame} {meth : Method} {c : Code} {Q : State → Prop} {G : mG} {h : mM} {q : Nat → Nat} (hq : oinj LX12 q) {d : Nat} {rec : OS → Int64 → Int32 → Option (OS)} (ih : ∀ (st : OS) (a0 : Int64) (a1 : Int32) (x : OS), rec st a0 a1 = some x → cQ l G yX12_ovoidsFrom cX12_ovoidsFrom 6 none (rm_X12_ovoidsFrom d) [.ref (q 53), .long a0, .int a1] (oset LX12 G q st h) (mQv G (fun h1 => h1 = oset LX12 G q x h))) (X : mX G p m c cX12_ovoidsFrom 6 s args RX12) (b1 : Int64) (b3 : Int32) (b4 : Int32) : ∀ (z : OS × Int32) (r : OS), lpv (f_X12_ovoidsFrom_50 rec b1 b3 b4) z = some r → ∀ (H : Heap) (locs : List Loc) (ls : Array Slot), mH G (oset LX12 G q z.1 h) s.heap H locs → lv_has ls 6 [(0, .ref (q 53)), (1, .long b1), (3, .int b3), (4, .int b4), (5, .int z.2)] → (∀ (H : Heap) (locs : List Loc) (ls : Array Slot), mH G (oset LX12 G q r h) s.heap H locs → lv_has ls 6 [] → W p l e (rm_X12_ovoidsFrom (d + 1)) s m args below meth c H locs 0 0 Q (F0 m 131 ls [])) → W p l e (rm_X12_ovoidsFrom (d + 1)) s m args below meth c H locs 0 0 Q (F0 m 50 ls []) := by
  refine lpv_rec ?_
  intro z r x hF hx H locs ls hH hl K0
  obtain ⟨s_t, b5⟩ := z
  dsimp only [f_X12_ovoidsFrom_50] at hF
  try dsimp only at hH hl
  refine lv_iload X.x X.b (dk DX12_ovoidsFrom_0 27 rfl) (lv_at hl 4 rfl) ?_
  refine lv_aload_n X.x X.b (dk DX12_ovoidsFrom_0 28 rfl) rfl (lv_at hl 0 rfl) ?_
  refine og_getI OX12 X hq hH 0 (by decide) rfl kF_X12_248 (dk DX12_ovoidsFrom_0 29 rfl) ?_
  refine lv_icmp_ge (tgt := 131) X.x X.b (dk DX12_ovoidsFrom_0 30 rfl) (by decide) (fun c10 => ?_) (fun c10 => ?_)
  · replace hF := if_t hF c10
    have hr9 := lp_r hF hx
    subst hr9
    exact K0 _ _ _ hH (lv_sub hl [] rfl)
  · replace hF := if_f hF c10
    refine lv_aload_n X.x X.b (dk DX12_ovoidsFrom_0 31 rfl) rfl (lv_at hl 0 rfl) ?_
    refine og_getI OX12 X hq hH 23 (by decide) rfl kF_X12_309 (dk DX12_ovoidsFrom_0 32 rfl) ?_
    refine lv_if_ne (tgt := 131) X.x X.b (dk DX12_ovoidsFrom_0 33 rfl) (by decide) (fun c11 => ?_) (fun c11 => ?_)
    · replace hF := if_f hF c11
      have hr9 := lp_r hF hx
      subst hr9
      exact K0 _ _ _ hH (lv_sub hl [] rfl)
    · replace hF := if_t hF c11
      refine lv_iload_n X.x X.b (dk DX12_ovoidsFrom_0 34 rfl) rfl (lv_at hl 2 rfl) ?_
      refine lv_if_eq (tgt := 77) X.x X.b (dk DX12_ovoidsFrom_0 35 rfl) (by decide) (fun c12 => ?_) (fun c12 => ?_)
      · replace hF := if_t hF c12
        refine lv_aload_n X.x X.b (dk DX12_ovoidsFrom_0 39 rfl) rfl (lv_at hl 0 rfl) ?_
        refine og_getR (t := 1) OX12 X hq hH 3 (by decide) rfl kF_X12_7 (dk DX12_ovoidsFrom_0 40 rfl) ?_
        refine lv_iload X.x X.b (dk DX12_ovoidsFrom_0 41 rfl) (lv_at hl 3 rfl) ?_
        obtain ⟨c13, hF⟩ := gd hF
        refine og_lald X hq hH 3 (by decide) rfl (inb_in c13) (dk DX12_ovoidsFrom_0 42 rfl) ?_
        refine lv_iload X.x X.b (dk DX12_ovoidsFrom_0 43 rfl) (lv_at hl 4 rfl) ?_
        obtain ⟨x14, e15, hF⟩ := bd hF
        refine mr_ci0 hH ⟨rfl, rfl⟩ (mr_runS (As := [.long (s_t.2.2.2 3 (b4 : Int32).toNatClampNeg), .int b5]) (rest := []) X hH (c_X12_has e15) kM_X12_232 kT_X12_has kN_X12 kC_X12_has hd_X12_has ⟨by dsimp only [rm_X12_ovoidsFrom, rm_X12_has]; omega, by dsimp only [rm_X12_ovoidsFrom, rm_X12_has]; omega⟩ rfl hl.1 (Nat.le_of_ble_eq_true rfl) (dk DX12_ovoidsFrom_0 44 rfl) ⟨Nat.zero_le _, Nat.zero_le _⟩) (fun r h1 H locs hp hH => ?_)
        obtain ⟨hr1, hr2⟩ := hp; rw [hr1]; rw [hr2] at hH; clear hr1 hr2
        refine lv_if_eq (tgt := 125) X.x X.b (dk DX12_ovoidsFrom_0 45 rfl) (by decide) (fun c17 => ?_) (fun c17 => ?_)
        · replace hF := if_t hF c17
          obtain ⟨v18, e19⟩ : ∃ y : Int32, y = b5 + 1 := ⟨_, rfl⟩
          replace hF := bnd_e hF e19
          refine lv_iinc (v := v18) (lv' := [(5, .int v18), (0, .ref (q 53)), (1, .long b1), (3, .int b3), (4, .int b4)]) X.x X.b (dk DX12_ovoidsFrom_1 5 rfl) hl (k := 4) rfl (by rw [e19]; rfl) (by decide) rfl (fun ls hl => ?_)
          replace hl : lv_has ls 6 [(0, .ref (q 53)), (1, .long b1), (3, .int b3), (4, .int b4), (5, .int v18)] := lv_sub hl [1, 2, 3, 4, 0] rfl
          refine lv_goto (tgt := 50) X.x X.b (dk DX12_ovoidsFrom_1 6 rfl) (by decide) ?_
          exact (lp_l hF hx) _ _ _ hH (lv_sub hl [0, 1, 2, 3, 4] rfl) K0
        · replace hF := if_f hF c17
          refine lv_aload_n X.x X.b (dk DX12_ovoidsFrom_0 46 rfl) rfl (lv_at hl 0 rfl) ?_
          refine og_getR (t := 1) OX12 X hq hH 20 (by decide) rfl kF_X12_30 (dk DX12_ovoidsFrom_0 47 rfl) ?_
          refine lv_iload X.x X.b (dk DX12_ovoidsFrom_0 48 rfl) (lv_at hl 4 rfl) ?_
          obtain ⟨c20, hF⟩ := gd hF
          refine og_lald X hq hH 20 (by decide) rfl (inb_in c20) (dk DX12_ovoidsFrom_0 49 rfl) ?_
          refine lv_lload_n X.x X.b (dk DX12_ovoidsFrom_0 50 rfl) rfl (lv_at hl 1 rfl) ?_
          refine lv_land X.x X.b (dk DX12_ovoidsFrom_0 51 rfl) ?_
          refine lv_lconst (v := 0) X.x X.b (dk DX12_ovoidsFrom_0 52 rfl) (by decide) ?_
          refine W.lcmp X.x X.b (dk DX12_ovoidsFrom_0 53 rfl) ?_
          refine lv_if_ne (tgt := 125) X.x X.b (dk DX12_ovoidsFrom_0 54 rfl) (by decide) (fun c21 => ?_) (fun c21 => ?_)
          · replace hF := if_f hF c21
            obtain ⟨v22, e23⟩ : ∃ y : Int32, y = b5 + 1 := ⟨_, rfl⟩
            replace hF := bnd_e hF e23
            refine lv_iinc (v := v22) (lv' := [(5, .int v22), (0, .ref (q 53)), (1, .long b1), (3, .int b3), (4, .int b4)]) X.x X.b (dk DX12_ovoidsFrom_1 5 rfl) hl (k := 4) rfl (by rw [e23]; rfl) (by decide) rfl (fun ls hl => ?_)
            replace hl : lv_has ls 6 [(0, .ref (q 53)), (1, .long b1), (3, .int b3), (4, .int b4), (5, .int v22)] := lv_sub hl [1, 2, 3, 4, 0] rfl
            refine lv_goto (tgt := 50) X.x X.b (dk DX12_ovoidsFrom_1 6 rfl) (by decide) ?_
            exact (lp_l hF hx) _ _ _ hH (lv_sub hl [0, 1, 2, 3, 4] rfl) K0
          · replace hF := if_t hF c21
            refine lv_aload_n X.x X.b (dk DX12_ovoidsFrom_0 55 rfl) rfl (lv_at hl 0 rfl) ?_
            obtain ⟨x24, e25, hF⟩ := bd hF
            refine mr_ci0 hH ⟨rfl, rfl⟩ (mr_runV (As := []) (rest := []) X hH (c_X12_mayTry hq e25) ((oset_at hq (Nat.le_refl _) ohas_N).trans (congrArg some ocell_N)) OX12.1 kM_X12_321 kI_X12_mayTry kS_X12_mayTry kN_X12 kC_X12_mayTry hd_X12_mayTry ⟨by dsimp only [rm_X12_ovoidsFrom, rm_X12_mayTry]; omega, by dsimp only [rm_X12_ovoidsFrom, rm_X12_mayTry]; omega⟩ rfl hl.1 (Nat.le_of_ble_eq_true rfl) (dk DX12_ovoidsFrom_0 56 rfl) ⟨Nat.zero_le _, Nat.zero_le _⟩) (fun r h1 H locs hp hH => ?_)
            obtain ⟨hr1, hr2⟩ := hp; rw [hr1]; rw [hr2] at hH; clear hr1 hr2
            obtain ⟨v26, t27⟩ := x24
            try dsimp only at hF hH ⊢
            refine lv_if_eq (tgt := 125) X.x X.b (dk DX12_ovoidsFrom_0 57 rfl) (by decide) (fun c28 => ?_) (fun c28 => ?_)
            · replace hF := if_t hF c28
              obtain ⟨v29, e30⟩ : ∃ y : Int32, y = b5 + 1 := ⟨_, rfl⟩
              replace hF := bnd_e hF e30
              refine lv_iinc (v := v29) (lv' := [(5, .int v29), (0, .ref (q 53)), (1, .long b1), (3, .int b3), (4, .int b4)]) X.x X.b (dk DX12_ovoidsFrom_1 5 rfl) hl (k := 4) rfl (by rw [e30]; rfl) (by decide) rfl (fun ls hl => ?_)
              replace hl : lv_has ls 6 [(0, .ref (q 53)), (1, .long b1), (3, .int b3), (4, .int b4), (5, .int v29)] := lv_sub hl [1, 2, 3, 4, 0] rfl
              refine lv_goto (tgt := 50) X.x X.b (dk DX12_ovoidsFrom_1 6 rfl) (by decide) ?_
              exact (lp_l hF hx) _ _ _ hH (lv_sub hl [0, 1, 2, 3, 4] rfl) K0
            · replace hF := if_f hF c28
              refine lv_aload_n X.x X.b (dk DX12_ovoidsFrom_0 58 rfl) rfl (lv_at hl 0 rfl) ?_
              refine lv_lload_n X.x X.b (dk DX12_ovoidsFrom_0 59 rfl) rfl (lv_at hl 1 rfl) ?_
              refine lv_iload X.x X.b (dk DX12_ovoidsFrom_1 0 rfl) (lv_at hl 4 rfl) ?_
              obtain ⟨x31, e32, hF⟩ := bd hF
              refine mr_cl0 hH ⟨rfl, rfl⟩ (mr_runS (As := [.int b5]) (rest := [.long b1, .ref (q 53)]) X hH (c_X12_bit e32) kM_X12_111 kT_X12_bit kN_X12 kC_X12_bit hd_X12_bit ⟨by dsimp only [rm_X12_ovoidsFrom, rm_X12_bit]; omega, by dsimp only [rm_X12_ovoidsFrom, rm_X12_bit]; omega⟩ rfl hl.1 (Nat.le_of_ble_eq_true rfl) (dk DX12_ovoidsFrom_1 1 rfl) ⟨Nat.zero_le _, Nat.zero_le _⟩) (fun r h1 H locs hp hH => ?_)
              obtain ⟨hr1, hr2⟩ := hp; rw [hr1]; rw [hr2] at hH; clear hr1 hr2
              refine lv_lor X.x X.b (dk DX12_ovoidsFrom_1 2 rfl) ?_
              refine lv_iload_n X.x X.b (dk DX12_ovoidsFrom_1 3 rfl) rfl (lv_at hl 2 rfl) ?_
              obtain ⟨x34, e35, hF⟩ := bd hF
              refine mr_cv0 hH ⟨rfl, rfl⟩ (mr_runV (As := [.long (b1 ||| x31), .int b3]) (rest := []) X hH (ih t27 (b1 ||| x31) b3 _ e35) ((oset_at hq (Nat.le_refl _) ohas_N).trans (congrArg some ocell_N)) OX12.1 kM_X12_325 kI_X12_ovoidsFrom kS_X12_ovoidsFrom kN_X12 kC_X12_ovoidsFrom hd_X12_ovoidsFrom ⟨by dsimp only [rm_X12_ovoidsFrom, rm_X12_ovoidsFrom]; omega, by dsimp only [rm_X12_ovoidsFrom, rm_X12_ovoidsFrom]; omega⟩ rfl hl.1 (Nat.le_of_ble_eq_true rfl) (dk DX12_ovoidsFrom_1 4 rfl) ⟨Nat.zero_le _, Nat.zero_le _⟩) (fun h1 H locs hp hH => ?_)
              rw [hp] at hH; clear hp
              obtain ⟨v37, e38⟩ : ∃ y : Int32, y = b5 + 1 := ⟨_, rfl⟩
              replace hF := bnd_e hF e38
              refine lv_iinc (v := v37) (lv' := [(5, .int v37), (0, .ref (q 53)), (1, .long b1), (3, .int b3), (4, .int b4)]) X.x X.b (dk DX12_ovoidsFrom_1 5 rfl) hl (k := 4) rfl (by rw [e38]; rfl) (by decide) rfl (fun ls hl => ?_)
              replace hl : lv_has ls 6 [(0, .ref (q 53)), (1, .long b1), (3, .int b3), (4, .int b4), (5, .int v37)] := lv_sub hl [1, 2, 3, 4, 0] rfl
              refine lv_goto (tgt := 50) X.x X.b (dk DX12_ovoidsFrom_1 6 rfl) (by decide) ?_
              exact (lp_l hF hx) _ _ _ hH (lv_sub hl [0, 1, 2, 3, 4] rfl) K0
      · replace hF := if_f hF c12
        refine lv_aload_n X.x X.b (dk DX12_ovoidsFrom_0 36 rfl) rfl (lv_at hl 0 rfl) ?_
        refine og_getI OX12 X hq hH 22 (by decide) rfl kF_X12_306 (dk DX12_ovoidsFrom_0 37 rfl) ?_
        refine lv_if_gt (tgt := 131) X.x X.b (dk DX12_ovoidsFrom_0 38 rfl) (by decide) (fun c39 => ?_) (fun c39 => ?_)
        · replace hF := if_t hF c39
          have hr9 := lp_r hF hx
          subst hr9
          exact K0 _ _ _ hH (lv_sub hl [] rfl)
        · replace hF := if_f hF c39
          refine lv_aload_n X.x X.b (dk DX12_ovoidsFrom_0 39 rfl) rfl (lv_at hl 0 rfl) ?_
          refine og_getR (t := 1) OX12 X hq hH 3 (by decide) rfl kF_X12_7 (dk DX12_ovoidsFrom_0 40 rfl) ?_
          refine lv_iload X.x X.b (dk DX12_ovoidsFrom_0 41 rfl) (lv_at hl 3 rfl) ?_
          obtain ⟨c40, hF⟩ := gd hF
          refine og_lald X hq hH 3 (by decide) rfl (inb_in c40) (dk DX12_ovoidsFrom_0 42 rfl) ?_
          refine lv_iload X.x X.b (dk DX12_ovoidsFrom_0 43 rfl) (lv_at hl 4 rfl) ?_
          obtain ⟨x41, e42, hF⟩ := bd hF
          refine mr_ci0 hH ⟨rfl, rfl⟩ (mr_runS (As := [.long (s_t.2.2.2 3 (b4 : Int32).toNatClampNeg), .int b5]) (rest := []) X hH (c_X12_has e42) kM_X12_232 kT_X12_has kN_X12 kC_X12_has hd_X12_has ⟨by dsimp only [rm_X12_ovoidsFrom, rm_X12_has]; omega, by dsimp only [rm_X12_ovoidsFrom, rm_X12_has]; omega⟩ rfl hl.1 (Nat.le_of_ble_eq_true rfl) (dk DX12_ovoidsFrom_0 44 rfl) ⟨Nat.zero_le _, Nat.zero_le _⟩) (fun r h1 H locs hp hH => ?_)
          obtain ⟨hr1, hr2⟩ := hp; rw [hr1]; rw [hr2] at hH; clear hr1 hr2
          refine lv_if_eq (tgt := 125) X.x X.b (dk DX12_ovoidsFrom_0 45 rfl) (by decide) (fun c44 => ?_) (fun c44 => ?_)
          · replace hF := if_t hF c44
            obtain ⟨v45, e46⟩ : ∃ y : Int32, y = b5 + 1 := ⟨_, rfl⟩
            replace hF := bnd_e hF e46
            refine lv_iinc (v := v45) (lv' := [(5, .int v45), (0, .ref (q 53)), (1, .long b1), (3, .int b3), (4, .int b4)]) X.x X.b (dk DX12_ovoidsFrom_1 5 rfl) hl (k := 4) rfl (by rw [e46]; rfl) (by decide) rfl (fun ls hl => ?_)
            replace hl : lv_has ls 6 [(0, .ref (q 53)), (1, .long b1), (3, .int b3), (4, .int b4), (5, .int v45)] := lv_sub hl [1, 2, 3, 4, 0] rfl
            refine lv_goto (tgt := 50) X.x X.b (dk DX12_ovoidsFrom_1 6 rfl) (by decide) ?_
            exact (lp_l hF hx) _ _ _ hH (lv_sub hl [0, 1, 2, 3, 4] rfl) K0
          · replace hF := if_f hF c44
            refine lv_aload_n X.x X.b (dk DX12_ovoidsFrom_0 46 rfl) rfl (lv_at hl 0 rfl) ?_
            refine og_getR (t := 1) OX12 X hq hH 20 (by decide) rfl kF_X12_30 (dk DX12_ovoidsFrom_0 47 rfl) ?_
            refine lv_iload X.x X.b (dk DX12_ovoidsFrom_0 48 rfl) (lv_at hl 4 rfl) ?_
            obtain ⟨c47, hF⟩ := gd hF
            refine og_lald X hq hH 20 (by decide) rfl (inb_in c47) (dk DX12_ovoidsFrom_0 49 rfl) ?_
            refine lv_lload_n X.x X.b (dk DX12_ovoidsFrom_0 50 rfl) rfl (lv_at hl 1 rfl) ?_
            refine lv_land X.x X.b (dk DX12_ovoidsFrom_0 51 rfl) ?_
            refine lv_lconst (v := 0) X.x X.b (dk DX12_ovoidsFrom_0 52 rfl) (by decide) ?_
            refine W.lcmp X.x X.b (dk DX12_ovoidsFrom_0 53 rfl) ?_
            refine lv_if_ne (tgt := 125) X.x X.b (dk DX12_ovoidsFrom_0 54 rfl) (by decide) (fun c48 => ?_) (fun c48 => ?_)
            · replace hF := if_f hF c48
              obtain ⟨v49, e50⟩ : ∃ y : Int32, y = b5 + 1 := ⟨_, rfl⟩
              replace hF := bnd_e hF e50
              refine lv_iinc (v := v49) (lv' := [(5, .int v49), (0, .ref (q 53)), (1, .long b1), (3, .int b3), (4, .int b4)]) X.x X.b (dk DX12_ovoidsFrom_1 5 rfl) hl (k := 4) rfl (by rw [e50]; rfl) (by decide) rfl (fun ls hl => ?_)
              replace hl : lv_has ls 6 [(0, .ref (q 53)), (1, .long b1), (3, .int b3), (4, .int b4), (5, .int v49)] := lv_sub hl [1, 2, 3, 4, 0] rfl
              refine lv_goto (tgt := 50) X.x X.b (dk DX12_ovoidsFrom_1 6 rfl) (by decide) ?_
              exact (lp_l hF hx) _ _ _ hH (lv_sub hl [0, 1, 2, 3, 4] rfl) K0
            · replace hF := if_t hF c48
              refine lv_aload_n X.x X.b (dk DX12_ovoidsFrom_0 55 rfl) rfl (lv_at hl 0 rfl) ?_
              obtain ⟨x51, e52, hF⟩ := bd hF
              refine mr_ci0 hH ⟨rfl, rfl⟩ (mr_runV (As := []) (rest := []) X hH (c_X12_mayTry hq e52) ((oset_at hq (Nat.le_refl _) ohas_N).trans (congrArg some ocell_N)) OX12.1 kM_X12_321 kI_X12_mayTry kS_X12_mayTry kN_X12 kC_X12_mayTry hd_X12_mayTry ⟨by dsimp only [rm_X12_ovoidsFrom, rm_X12_mayTry]; omega, by dsimp only [rm_X12_ovoidsFrom, rm_X12_mayTry]; omega⟩ rfl hl.1 (Nat.le_of_ble_eq_true rfl) (dk DX12_ovoidsFrom_0 56 rfl) ⟨Nat.zero_le _, Nat.zero_le _⟩) (fun r h1 H locs hp hH => ?_)
              obtain ⟨hr1, hr2⟩ := hp; rw [hr1]; rw [hr2] at hH; clear hr1 hr2
              obtain ⟨v53, t54⟩ := x51
              try dsimp only at hF hH ⊢
              refine lv_if_eq (tgt := 125) X.x X.b (dk DX12_ovoidsFrom_0 57 rfl) (by decide) (fun c55 => ?_) (fun c55 => ?_)
              · replace hF := if_t hF c55
                obtain ⟨v56, e57⟩ : ∃ y : Int32, y = b5 + 1 := ⟨_, rfl⟩
                replace hF := bnd_e hF e57
                refine lv_iinc (v := v56) (lv' := [(5, .int v56), (0, .ref (q 53)), (1, .long b1), (3, .int b3), (4, .int b4)]) X.x X.b (dk DX12_ovoidsFrom_1 5 rfl) hl (k := 4) rfl (by rw [e57]; rfl) (by decide) rfl (fun ls hl => ?_)
                replace hl : lv_has ls 6 [(0, .ref (q 53)), (1, .long b1), (3, .int b3), (4, .int b4), (5, .int v56)] := lv_sub hl [1, 2, 3, 4, 0] rfl
                refine lv_goto (tgt := 50) X.x X.b (dk DX12_ovoidsFrom_1 6 rfl) (by decide) ?_
                exact (lp_l hF hx) _ _ _ hH (lv_sub hl [0, 1, 2, 3, 4] rfl) K0
              · replace hF := if_f hF c55
                refine lv_aload_n X.x X.b (dk DX12_ovoidsFrom_0 58 rfl) rfl (lv_at hl 0 rfl) ?_
                refine lv_lload_n X.x X.b (dk DX12_ovoidsFrom_0 59 rfl) rfl (lv_at hl 1 rfl) ?_
                refine lv_iload X.x X.b (dk DX12_ovoidsFrom_1 0 rfl) (lv_at hl 4 rfl) ?_
                obtain ⟨x58, e59, hF⟩ := bd hF
                refine mr_cl0 hH ⟨rfl, rfl⟩ (mr_runS (As := [.int b5]) (rest := [.long b1, .ref (q 53)]) X hH (c_X12_bit e59) kM_X12_111 kT_X12_bit kN_X12 kC_X12_bit hd_X12_bit ⟨by dsimp only [rm_X12_ovoidsFrom, rm_X12_bit]; omega, by dsimp only [rm_X12_ovoidsFrom, rm_X12_bit]; omega⟩ rfl hl.1 (Nat.le_of_ble_eq_true rfl) (dk DX12_ovoidsFrom_1 1 rfl) ⟨Nat.zero_le _, Nat.zero_le _⟩) (fun r h1 H locs hp hH => ?_)
                obtain ⟨hr1, hr2⟩ := hp; rw [hr1]; rw [hr2] at hH; clear hr1 hr2
                refine lv_lor X.x X.b (dk DX12_ovoidsFrom_1 2 rfl) ?_
                refine lv_iload_n X.x X.b (dk DX12_ovoidsFrom_1 3 rfl) rfl (lv_at hl 2 rfl) ?_
                obtain ⟨x61, e62, hF⟩ := bd hF
                refine mr_cv0 hH ⟨rfl, rfl⟩ (mr_runV (As := [.long (b1 ||| x58), .int b3]) (rest := []) X hH (ih t54 (b1 ||| x58) b3 _ e62) ((oset_at hq (Nat.le_refl _) ohas_N).trans (congrArg some ocell_N)) OX12.1 kM_X12_325 kI_X12_ovoidsFrom kS_X12_ovoidsFrom kN_X12 kC_X12_ovoidsFrom hd_X12_ovoidsFrom ⟨by dsimp only [rm_X12_ovoidsFrom, rm_X12_ovoidsFrom]; omega, by dsimp only [rm_X12_ovoidsFrom, rm_X12_ovoidsFrom]; omega⟩ rfl hl.1 (Nat.le_of_ble_eq_true rfl) (dk DX12_ovoidsFrom_1 4 rfl) ⟨Nat.zero_le _, Nat.zero_le _⟩) (fun h1 H locs hp hH => ?_)
                rw [hp] at hH; clear hp
                obtain ⟨v64, e65⟩ : ∃ y : Int32, y = b5 + 1 := ⟨_, rfl⟩
                replace hF := bnd_e hF e65
                refine lv_iinc (v := v64) (lv' := [(5, .int v64), (0, .ref (q 53)), (1, .long b1), (3, .int b3), (4, .int b4)]) X.x X.b (dk DX12_ovoidsFrom_1 5 rfl) hl (k := 4) rfl (by rw [e65]; rfl) (by decide) rfl (fun ls hl => ?_)
                replace hl : lv_has ls 6 [(0, .ref (q 53)), (1, .long b1), (3, .int b3), (4, .int b4), (5, .int v64)] := lv_sub hl [1, 2, 3, 4, 0] rfl
                refine lv_goto (tgt := 50) X.x X.b (dk DX12_ovoidsFrom_1 6 rfl) (by decide) ?_
                exact (lp_l hF hx) _ _ _ hH (lv_sub hl [0, 1, 2, 3, 4] rfl) K0
set_option maxHeartbeats 4000000 in
set_option maxRecDepth 100000 in
theorem c_X12_ovoidsFrom {l : Launch} {G : mG} {h : mM} {q : Nat → Nat} (hq : oinj LX12 q) (d : Nat) : ∀ (st : OS) (a0 : Int64) (a1 : Int32) (x : OS), f_X12_ovoidsFrom d st a0 a1 = some x → cQ l G yX12_ovoidsFrom cX12_ovoidsFrom 6 none (rm_X12_ovoidsFrom d) [.ref (q 53), .long a0, .int a1] (oset LX12 G q st h) (mQv G (fun h1 => h1 = oset LX12 G q x h)) := by
  induction d with
  | zero => intro st a0 a1 x hF; cases hF
  | succ d ih =>
    intro st a0 a1 x hF
    have hF : f_X12_ovoidsFrom_T (f_X12_ovoidsFrom d) st a0 a1 = some x := hF
    generalize f_X12_ovoidsFrom d = rec at hF ih
    refine mp_of (by decide +kernel) (Nat.le_of_ble_eq_true rfl) ?_
    intro p e s m below meth c X hr hlk hH hname ls hl
    dsimp only [f_X12_ovoidsFrom_T] at hF
    replace hl : lv_has ls 6 [(0, .ref (q 53)), (1, .long a0), (3, .int a1)] := hl
    refine lv_iconst (v := 0) X.x X.b (dk DX12_ovoidsFrom_0 0 rfl) (by decide) ?_
    refine lv_istore (lv' := [(4, .int 0), (0, .ref (q 53)), (1, .long a0), (3, .int a1)]) X.x X.b (dk DX12_ovoidsFrom_0 1 rfl) hl (by decide) rfl (fun ls hl => ?_)
    replace hl : lv_has ls 6 [(0, .ref (q 53)), (1, .long a0), (3, .int a1), (4, .int 0)] := lv_sub hl [1, 2, 3, 0] rfl
    obtain ⟨x6, e7, hF⟩ := bd hF
    replace hl : lv_has ls 6 [(0, .ref (q 53)), (1, .long a0), (3, .int a1), (4, .int 0)] := lv_sub hl [0, 1, 2, 3] rfl
    refine w_X12_ovoidsFrom_3 hq ih X st a0 a1 _ _ e7 _ _ _ hH hl (fun H locs ls hH hl => ?_)
    refine lv_iload X.x X.b (dk DX12_ovoidsFrom_0 17 rfl) (lv_at hl 3 rfl) ?_
    refine lv_aload_n X.x X.b (dk DX12_ovoidsFrom_0 18 rfl) rfl (lv_at hl 0 rfl) ?_
    refine og_getI OX12 X hq hH 1 (by decide) rfl kF_X12_250 (dk DX12_ovoidsFrom_0 19 rfl) ?_
    refine lv_icmp_ne (tgt := 47) X.x X.b (dk DX12_ovoidsFrom_0 20 rfl) (by decide) (fun c9 => ?_) (fun c9 => ?_)
    · replace hF := if_f hF c9
      refine lv_iconst (v := 0) X.x X.b (dk DX12_ovoidsFrom_0 25 rfl) (by decide) ?_
      refine lv_istore (lv' := [(5, .int 0), (0, .ref (q 53)), (1, .long a0), (3, .int a1), (4, .int x6)]) X.x X.b (dk DX12_ovoidsFrom_0 26 rfl) hl (by decide) rfl (fun ls hl => ?_)
      replace hl : lv_has ls 6 [(0, .ref (q 53)), (1, .long a0), (3, .int a1), (4, .int x6), (5, .int 0)] := lv_sub hl [1, 2, 3, 4, 0] rfl
      obtain ⟨x66, e67, hF⟩ := bd hF
      replace hl : lv_has ls 6 [(0, .ref (q 53)), (1, .long a0), (3, .int a1), (4, .int x6), (5, .int 0)] := lv_sub hl [0, 1, 2, 3, 4] rfl
      refine w_X12_ovoidsFrom_50 hq ih X a0 a1 x6 _ _ e67 _ _ _ hH hl (fun H locs ls hH hl => ?_)
      cases sm hF
      exact mr_vret X hr hlk hH rfl (dk DX12_ovoidsFrom_1 7 rfl)
    · replace hF := if_t hF c9
      refine lv_aload_n X.x X.b (dk DX12_ovoidsFrom_0 21 rfl) rfl (lv_at hl 0 rfl) ?_
      refine lv_lload_n X.x X.b (dk DX12_ovoidsFrom_0 22 rfl) rfl (lv_at hl 1 rfl) ?_
      obtain ⟨x69, e70, hF⟩ := bd hF
      refine mr_cv0 hH ⟨rfl, rfl⟩ (mr_runV (As := [.long a0]) (rest := []) X hH (c_X12_finds hq e70) ((oset_at hq (Nat.le_refl _) ohas_N).trans (congrArg some ocell_N)) OX12.1 kM_X12_318 kI_X12_finds kS_X12_finds kN_X12 kC_X12_finds hd_X12_finds ⟨by dsimp only [rm_X12_ovoidsFrom, rm_X12_finds]; omega, by dsimp only [rm_X12_ovoidsFrom, rm_X12_finds]; omega⟩ rfl hl.1 (Nat.le_of_ble_eq_true rfl) (dk DX12_ovoidsFrom_0 23 rfl) ⟨Nat.zero_le _, Nat.zero_le _⟩) (fun h1 H locs hp hH => ?_)
      rw [hp] at hH; clear hp
      cases sm hF
      exact mr_vret X hr hlk hH rfl (dk DX12_ovoidsFrom_0 24 rfl)
