-- X0_firstFound
abbrev rm_X0_firstFound : Room := { frames := 0, cells := 0, slots := 0, locals := 0 }
theorem hd_X0_firstFound : mHd yX0_firstFound 0 := ⟨by decide +kernel, by decide +kernel, by decide +kernel⟩
theorem DX0_firstFound_0 : ∀ t ∈ ([(0, .aload_n 0, 1), (1, .getfield 64, 3), (4, .ifCond .le 8, 3), (7, .aload_n 0, 1), (8, .getfield 67, 3), (11, .lreturn, 1), (12, .aload_n 0, 1), (13, .getfield 70, 3), (16, .ifCond .eq 9, 3), (19, .ldc2_w 95, 3), (22, .goto 6, 3), (25, .ldc2_w 90, 3), (28, .lreturn, 1)] : List (Nat × Instr × Nat)), decode cX0_firstFound t.1 = .ok (t.2.1, t.2.2) := by decide +kernel
noncomputable def f_X0_firstFound (st : OS) : Option (Int64) := (if (st.1 8) ≤ 0 then (if (st.1 10) = 0 then some ((-1)) else some ((-2))) else some (st.2.1 9))
set_option maxHeartbeats 4000000 in
set_option maxRecDepth 100000 in
theorem c_X0_firstFound {l : Launch} {G : mG} {h : mM} {q : Nat → Nat} (hq : oinj LX0 q) {st : OS} {x : Int64} (hF : f_X0_firstFound st = some x) : cQ l G yX0_firstFound cX0_firstFound 1 (some FieldType.long) rm_X0_firstFound [.ref (q 11)] (oset LX0 G q st h) (mQl G (fun r h1 => r = x ∧ h1 = oset LX0 G q st h)) := by
  refine mp_of (by decide +kernel) (Nat.le_of_ble_eq_true rfl) ?_
  intro p e s m below meth c X hr hlk hH hname ls hl
  dsimp only [f_X0_firstFound] at hF
  replace hl : lv_has ls 1 [(0, .ref (q 11))] := hl
  refine lv_aload_n X.x X.b (dk DX0_firstFound_0 0 rfl) rfl (lv_at hl 0 rfl) ?_
  refine og_getI OX0 X hq hH 8 (by decide) rfl kF_X0_64 (dk DX0_firstFound_0 1 rfl) ?_
  refine lv_if_le (tgt := 12) X.x X.b (dk DX0_firstFound_0 2 rfl) (by decide) (fun c1 => ?_) (fun c1 => ?_)
  · replace hF := if_t hF c1
    refine lv_aload_n X.x X.b (dk DX0_firstFound_0 6 rfl) rfl (lv_at hl 0 rfl) ?_
    refine og_getI OX0 X hq hH 10 (by decide) rfl kF_X0_70 (dk DX0_firstFound_0 7 rfl) ?_
    refine lv_if_eq (tgt := 25) X.x X.b (dk DX0_firstFound_0 8 rfl) (by decide) (fun c2 => ?_) (fun c2 => ?_)
    · replace hF := if_t hF c2
      refine lv_ldc2 (v := (-1)) X.x X.b X.ow (X.ts _ kK_X0_90) (dk DX0_firstFound_0 11 rfl) ?_
      cases sm hF
      exact mr_lret X hr hlk hH ⟨rfl, rfl⟩ (dk DX0_firstFound_0 12 rfl)
    · replace hF := if_f hF c2
      refine lv_ldc2 (v := (-2)) X.x X.b X.ow (X.ts _ kK_X0_95) (dk DX0_firstFound_0 9 rfl) ?_
      refine lv_goto (tgt := 28) X.x X.b (dk DX0_firstFound_0 10 rfl) (by decide) ?_
      cases sm hF
      exact mr_lret X hr hlk hH ⟨rfl, rfl⟩ (dk DX0_firstFound_0 12 rfl)
  · replace hF := if_f hF c1
    refine lv_aload_n X.x X.b (dk DX0_firstFound_0 3 rfl) rfl (lv_at hl 0 rfl) ?_
    refine og_getJ OX0 X hq hH 9 (by decide) rfl kF_X0_67 (dk DX0_firstFound_0 4 rfl) ?_
    cases sm hF
    exact mr_lret X hr hlk hH ⟨rfl, rfl⟩ (dk DX0_firstFound_0 5 rfl)
-- X0_manyFound
abbrev rm_X0_manyFound : Room := { frames := 0, cells := 0, slots := 0, locals := 0 }
theorem hd_X0_manyFound : mHd yX0_manyFound 0 := ⟨by decide +kernel, by decide +kernel, by decide +kernel⟩
theorem DX0_manyFound_0 : ∀ t ∈ ([(0, .aload_n 0, 1), (1, .getfield 70, 3), (4, .ifCond .eq 8, 3), (7, .bipush (-2), 2), (9, .goto 7, 3), (12, .aload_n 0, 1), (13, .getfield 64, 3), (16, .ireturn, 1)] : List (Nat × Instr × Nat)), decode cX0_manyFound t.1 = .ok (t.2.1, t.2.2) := by decide +kernel
noncomputable def f_X0_manyFound (st : OS) : Option (Int32) := (if (st.1 10) = 0 then some (st.1 8) else some ((-2)))
set_option maxHeartbeats 4000000 in
set_option maxRecDepth 100000 in
theorem c_X0_manyFound {l : Launch} {G : mG} {h : mM} {q : Nat → Nat} (hq : oinj LX0 q) {st : OS} {x : Int32} (hF : f_X0_manyFound st = some x) : cQ l G yX0_manyFound cX0_manyFound 1 (some FieldType.int) rm_X0_manyFound [.ref (q 11)] (oset LX0 G q st h) (mQi G (fun r h1 => r = x ∧ h1 = oset LX0 G q st h)) := by
  refine mp_of (by decide +kernel) (Nat.le_of_ble_eq_true rfl) ?_
  intro p e s m below meth c X hr hlk hH hname ls hl
  dsimp only [f_X0_manyFound] at hF
  replace hl : lv_has ls 1 [(0, .ref (q 11))] := hl
  refine lv_aload_n X.x X.b (dk DX0_manyFound_0 0 rfl) rfl (lv_at hl 0 rfl) ?_
  refine og_getI OX0 X hq hH 10 (by decide) rfl kF_X0_70 (dk DX0_manyFound_0 1 rfl) ?_
  refine lv_if_eq (tgt := 12) X.x X.b (dk DX0_manyFound_0 2 rfl) (by decide) (fun c1 => ?_) (fun c1 => ?_)
  · replace hF := if_t hF c1
    refine lv_aload_n X.x X.b (dk DX0_manyFound_0 5 rfl) rfl (lv_at hl 0 rfl) ?_
    refine og_getI OX0 X hq hH 8 (by decide) rfl kF_X0_64 (dk DX0_manyFound_0 6 rfl) ?_
    cases sm hF
    exact mr_iret X hr hlk hH ⟨rfl, rfl⟩ (dk DX0_manyFound_0 7 rfl)
  · replace hF := if_f hF c1
    refine lv_bipush (v := (-2)) X.x X.b (dk DX0_manyFound_0 3 rfl) (by decide) ?_
    refine lv_goto (tgt := 16) X.x X.b (dk DX0_manyFound_0 4 rfl) (by decide) ?_
    cases sm hF
    exact mr_iret X hr hlk hH ⟨rfl, rfl⟩ (dk DX0_manyFound_0 7 rfl)
-- X1_forget
abbrev rm_X1_forget : Room := { frames := 0, cells := 0, slots := 0, locals := 0 }
theorem hd_X1_forget : mHd yX1_forget 0 := ⟨by decide +kernel, by decide +kernel, by decide +kernel⟩
theorem DX1_forget_0 : ∀ t ∈ ([(0, .aload_n 0, 1), (1, .iconst 0, 1), (2, .putfield 18, 3), (5, .aload_n 0, 1), (6, .iconst 0, 1), (7, .putfield 22, 3), (10, .return_, 1)] : List (Nat × Instr × Nat)), decode cX1_forget t.1 = .ok (t.2.1, t.2.2) := by decide +kernel
noncomputable def f_X1_forget (st : OS) : Option (OS) := bnd (oI st 2 0) (fun t1 => bnd (oI t1 3 0) (fun t3 => some t3))
set_option maxHeartbeats 4000000 in
set_option maxRecDepth 100000 in
theorem c_X1_forget {l : Launch} {G : mG} {h : mM} {q : Nat → Nat} (hq : oinj LX1 q) {st : OS} {x : OS} (hF : f_X1_forget st = some x) : cQ l G yX1_forget cX1_forget 1 none rm_X1_forget [.ref (q 4)] (oset LX1 G q st h) (mQv G (fun h1 => h1 = oset LX1 G q x h)) := by
  refine mp_of (by decide +kernel) (Nat.le_of_ble_eq_true rfl) ?_
  intro p e s m below meth c X hr hlk hH hname ls hl
  dsimp only [f_X1_forget] at hF
  replace hl : lv_has ls 1 [(0, .ref (q 4))] := hl
  refine lv_aload_n X.x X.b (dk DX1_forget_0 0 rfl) rfl (lv_at hl 0 rfl) ?_
  refine lv_iconst (v := 0) X.x X.b (dk DX1_forget_0 1 rfl) (by decide) ?_
  refine og_putI OX1 X hq hH 2 (by decide) rfl kF_X1_18 rfl rfl rfl (dk DX1_forget_0 2 rfl) (fun H locs hH => ?_)
  obtain ⟨t1, e2⟩ : ∃ y, y = oI st 2 0 := ⟨_, rfl⟩
  rw [← e2] at hH
  replace hF := bnd_e hF e2
  refine lv_aload_n X.x X.b (dk DX1_forget_0 3 rfl) rfl (lv_at hl 0 rfl) ?_
  refine lv_iconst (v := 0) X.x X.b (dk DX1_forget_0 4 rfl) (by decide) ?_
  refine og_putI OX1 X hq hH 3 (by decide) rfl kF_X1_22 rfl rfl rfl (dk DX1_forget_0 5 rfl) (fun H locs hH => ?_)
  obtain ⟨t3, e4⟩ : ∃ y, y = oI t1 3 0 := ⟨_, rfl⟩
  rw [← e4] at hH
  replace hF := bnd_e hF e4
  cases sm hF
  exact mr_vret X hr hlk hH rfl (dk DX1_forget_0 6 rfl)
-- X10_copy
abbrev rm_X10_copy : Room := { frames := 1, cells := 0, slots := 0, locals := 40 }
theorem hd_X10_copy : mHd yX10_copy 1 := ⟨by decide +kernel, by decide +kernel, by decide +kernel⟩
theorem DX10_copy_0 : ∀ t ∈ ([(0, .aload_n 0, 1), (1, .aload_n 1, 1), (2, .getfield 29, 3), (5, .putfield 29, 3), (8, .aload_n 0, 1), (9, .aload_n 1, 1), (10, .getfield 37, 3), (13, .putfield 37, 3), (16, .aload_n 1, 1), (17, .getfield 11, 3), (20, .iconst 0, 1), (21, .aload_n 0, 1), (22, .getfield 11, 3), (25, .iconst 0, 1), (26, .bipush 64, 2), (28, .invokestatic 54, 3), (31, .aload_n 1, 1), (32, .getfield 15, 3), (35, .iconst 0, 1), (36, .aload_n 0, 1), (37, .getfield 15, 3), (40, .iconst 0, 1), (41, .bipush 64, 2), (43, .invokestatic 54, 3), (46, .aload_n 1, 1), (47, .getfield 18, 3), (50, .iconst 0, 1), (51, .aload_n 0, 1), (52, .getfield 18, 3), (55, .iconst 0, 1), (56, .bipush 64, 2), (58, .invokestatic 54, 3), (61, .return_, 1)] : List (Nat × Instr × Nat)), decode cX10_copy t.1 = .ok (t.2.1, t.2.2) := by decide +kernel
noncomputable def f_X10_copy (st : OS) (st1 : OS) : Option (OS) := bnd (oI st 0 (st1.1 0)) (fun t1 => bnd (oI t1 1 (st1.1 1)) (fun t3 => if okc 0 0 64 64 64 = true then bnd (oB t3 2 (va_cpy (st1.2.2.2 2) (t3.2.2.2 2) (0 : Int32).toNatClampNeg (0 : Int32).toNatClampNeg (64 : Int32).toNatClampNeg)) (fun t6 => if okc 0 0 64 64 64 = true then bnd (oB t6 3 (va_cpy (st1.2.2.2 3) (t6.2.2.2 3) (0 : Int32).toNatClampNeg (0 : Int32).toNatClampNeg (64 : Int32).toNatClampNeg)) (fun t9 => if okc 0 0 64 64 64 = true then bnd (oB t9 4 (va_cpy (st1.2.2.2 4) (t9.2.2.2 4) (0 : Int32).toNatClampNeg (0 : Int32).toNatClampNeg (64 : Int32).toNatClampNeg)) (fun t12 => some t12) else none) else none) else none))
set_option maxHeartbeats 4000000 in
set_option maxRecDepth 100000 in
theorem c_X10_copy {l : Launch} {G : mG} {h : mM} {q : Nat → Nat} {q1 : Nat → Nat} (hq : oinj LX10 q) (hq1 : oinj LX10 q1) (ha : oap [(LX10, q), (LX10, q1)]) {st : OS} {st1 : OS} {x : OS} (hF : f_X10_copy st st1 = some x) : cQ l G yX10_copy cX10_copy 2 none rm_X10_copy [.ref (q 5), .ref (q1 5)] (oset LX10 G q st (oset LX10 G q1 st1 h)) (mQv G (fun h1 => h1 = oset LX10 G q x (oset LX10 G q1 st1 h))) := by
  refine mp_of (by decide +kernel) (Nat.le_of_ble_eq_true rfl) ?_
  intro p e s m below meth c X hr hlk hH hname ls hl
  dsimp only [f_X10_copy] at hF
  replace hl : lv_has ls 2 [(0, .ref (q 5)), (1, .ref (q1 5))] := hl
  refine lv_aload_n X.x X.b (dk DX10_copy_0 0 rfl) rfl (lv_at hl 0 rfl) ?_
  refine lv_aload_n X.x X.b (dk DX10_copy_0 1 rfl) rfl (lv_at hl 1 rfl) ?_
  refine og_getI OX10 X hq1 (mH_perm (l1 := [(LX10, q, st), (LX10, q1, st1)]) (l2 := [(LX10, q1, st1), (LX10, q, st)]) ha [1, 0] [1, 0] rfl rfl rfl hH) 0 (by decide) rfl kF_X10_29 (dk DX10_copy_0 2 rfl) ?_
  refine og_putI OX10 X hq hH 0 (by decide) rfl kF_X10_29 rfl rfl rfl (dk DX10_copy_0 3 rfl) (fun H locs hH => ?_)
  obtain ⟨t1, e2⟩ : ∃ y, y = oI st 0 (st1.1 0) := ⟨_, rfl⟩
  rw [← e2] at hH
  replace hF := bnd_e hF e2
  refine lv_aload_n X.x X.b (dk DX10_copy_0 4 rfl) rfl (lv_at hl 0 rfl) ?_
  refine lv_aload_n X.x X.b (dk DX10_copy_0 5 rfl) rfl (lv_at hl 1 rfl) ?_
  refine og_getI OX10 X hq1 (mH_perm (l1 := [(LX10, q, t1), (LX10, q1, st1)]) (l2 := [(LX10, q1, st1), (LX10, q, t1)]) ha [1, 0] [1, 0] rfl rfl rfl hH) 1 (by decide) rfl kF_X10_37 (dk DX10_copy_0 6 rfl) ?_
  refine og_putI OX10 X hq hH 1 (by decide) rfl kF_X10_37 rfl rfl rfl (dk DX10_copy_0 7 rfl) (fun H locs hH => ?_)
  obtain ⟨t3, e4⟩ : ∃ y, y = oI t1 1 (st1.1 1) := ⟨_, rfl⟩
  rw [← e4] at hH
  replace hF := bnd_e hF e4
  refine lv_aload_n X.x X.b (dk DX10_copy_0 8 rfl) rfl (lv_at hl 1 rfl) ?_
  refine og_getR (t := 1) OX10 X hq1 (mH_perm (l1 := [(LX10, q, t3), (LX10, q1, st1)]) (l2 := [(LX10, q1, st1), (LX10, q, t3)]) ha [1, 0] [1, 0] rfl rfl rfl hH) 2 (by decide) rfl kF_X10_11 (dk DX10_copy_0 9 rfl) ?_
  refine lv_iconst (v := 0) X.x X.b (dk DX10_copy_0 10 rfl) (by decide) ?_
  refine lv_aload_n X.x X.b (dk DX10_copy_0 11 rfl) rfl (lv_at hl 0 rfl) ?_
  refine og_getR (t := 1) OX10 X hq hH 2 (by decide) rfl kF_X10_11 (dk DX10_copy_0 12 rfl) ?_
  refine lv_iconst (v := 0) X.x X.b (dk DX10_copy_0 13 rfl) (by decide) ?_
  refine lv_bipush (v := 64) X.x X.b (dk DX10_copy_0 14 rfl) (by decide) ?_
  obtain ⟨c5, hF⟩ := gd hF
  refine og_copyl X hl.1 hq hH 2 (by decide) rfl ((osets_cell (l := [(LX10, q, t3), (LX10, q1, st1)]) ha 1 rfl hq1 (k := 2) (Nat.le_of_ble_eq_true rfl) rfl).trans (congrArg some (oc_k (L := LX10) (t := 3) (n := 64) (by decide) rfl))) c5 kM_X10_54 kV_rraycopyName kT_rraycopyName kN_J10 (Nat.le_of_ble_eq_true rfl) (Nat.le_of_ble_eq_true rfl) (dk DX10_copy_0 15 rfl) (fun H locs hH => ?_)
  obtain ⟨t6, e7⟩ : ∃ y, y = oB t3 2 (va_cpy (st1.2.2.2 2) (t3.2.2.2 2) (0 : Int32).toNatClampNeg (0 : Int32).toNatClampNeg (64 : Int32).toNatClampNeg) := ⟨_, rfl⟩
  rw [← e7] at hH
  replace hF := bnd_e hF e7
  refine lv_aload_n X.x X.b (dk DX10_copy_0 16 rfl) rfl (lv_at hl 1 rfl) ?_
  refine og_getR (t := 1) OX10 X hq1 (mH_perm (l1 := [(LX10, q, t6), (LX10, q1, st1)]) (l2 := [(LX10, q1, st1), (LX10, q, t6)]) ha [1, 0] [1, 0] rfl rfl rfl hH) 3 (by decide) rfl kF_X10_15 (dk DX10_copy_0 17 rfl) ?_
  refine lv_iconst (v := 0) X.x X.b (dk DX10_copy_0 18 rfl) (by decide) ?_
  refine lv_aload_n X.x X.b (dk DX10_copy_0 19 rfl) rfl (lv_at hl 0 rfl) ?_
  refine og_getR (t := 1) OX10 X hq hH 3 (by decide) rfl kF_X10_15 (dk DX10_copy_0 20 rfl) ?_
  refine lv_iconst (v := 0) X.x X.b (dk DX10_copy_0 21 rfl) (by decide) ?_
  refine lv_bipush (v := 64) X.x X.b (dk DX10_copy_0 22 rfl) (by decide) ?_
  obtain ⟨c8, hF⟩ := gd hF
  refine og_copyl X hl.1 hq hH 3 (by decide) rfl ((osets_cell (l := [(LX10, q, t6), (LX10, q1, st1)]) ha 1 rfl hq1 (k := 3) (Nat.le_of_ble_eq_true rfl) rfl).trans (congrArg some (oc_k (L := LX10) (t := 3) (n := 64) (by decide) rfl))) c8 kM_X10_54 kV_rraycopyName kT_rraycopyName kN_J10 (Nat.le_of_ble_eq_true rfl) (Nat.le_of_ble_eq_true rfl) (dk DX10_copy_0 23 rfl) (fun H locs hH => ?_)
  obtain ⟨t9, e10⟩ : ∃ y, y = oB t6 3 (va_cpy (st1.2.2.2 3) (t6.2.2.2 3) (0 : Int32).toNatClampNeg (0 : Int32).toNatClampNeg (64 : Int32).toNatClampNeg) := ⟨_, rfl⟩
  rw [← e10] at hH
  replace hF := bnd_e hF e10
  refine lv_aload_n X.x X.b (dk DX10_copy_0 24 rfl) rfl (lv_at hl 1 rfl) ?_
  refine og_getR (t := 1) OX10 X hq1 (mH_perm (l1 := [(LX10, q, t9), (LX10, q1, st1)]) (l2 := [(LX10, q1, st1), (LX10, q, t9)]) ha [1, 0] [1, 0] rfl rfl rfl hH) 4 (by decide) rfl kF_X10_18 (dk DX10_copy_0 25 rfl) ?_
  refine lv_iconst (v := 0) X.x X.b (dk DX10_copy_0 26 rfl) (by decide) ?_
  refine lv_aload_n X.x X.b (dk DX10_copy_0 27 rfl) rfl (lv_at hl 0 rfl) ?_
  refine og_getR (t := 1) OX10 X hq hH 4 (by decide) rfl kF_X10_18 (dk DX10_copy_0 28 rfl) ?_
  refine lv_iconst (v := 0) X.x X.b (dk DX10_copy_0 29 rfl) (by decide) ?_
  refine lv_bipush (v := 64) X.x X.b (dk DX10_copy_0 30 rfl) (by decide) ?_
  obtain ⟨c11, hF⟩ := gd hF
  refine og_copyl X hl.1 hq hH 4 (by decide) rfl ((osets_cell (l := [(LX10, q, t9), (LX10, q1, st1)]) ha 1 rfl hq1 (k := 4) (Nat.le_of_ble_eq_true rfl) rfl).trans (congrArg some (oc_k (L := LX10) (t := 3) (n := 64) (by decide) rfl))) c11 kM_X10_54 kV_rraycopyName kT_rraycopyName kN_J10 (Nat.le_of_ble_eq_true rfl) (Nat.le_of_ble_eq_true rfl) (dk DX10_copy_0 31 rfl) (fun H locs hH => ?_)
  obtain ⟨t12, e13⟩ : ∃ y, y = oB t9 4 (va_cpy (st1.2.2.2 4) (t9.2.2.2 4) (0 : Int32).toNatClampNeg (0 : Int32).toNatClampNeg (64 : Int32).toNatClampNeg) := ⟨_, rfl⟩
  rw [← e13] at hH
  replace hF := bnd_e hF e13
  cases sm hF
  exact mr_vret X hr hlk hH rfl (dk DX10_copy_0 32 rfl)
-- J13_bitCount_95d88
abbrev rm_J13_bitCount_95d88 : Room := { frames := 0, cells := 0, slots := 0, locals := 0 }
theorem hd_J13_bitCount_95d88 : mHd yJ13_bitCount_95d88 1 := ⟨by decide +kernel, by decide +kernel, by decide +kernel⟩
theorem DJ13_bitCount_95d88_0 : ∀ t ∈ ([(0, .lload_n 0, 1), (1, .lload_n 0, 1), (2, .iconst 1, 1), (3, .lushr, 1), (4, .ldc2_w 314, 3), (7, .land, 1), (8, .lsub, 1), (9, .lstore_n 0, 1), (10, .lload_n 0, 1), (11, .ldc2_w 316, 3), (14, .land, 1), (15, .lload_n 0, 1), (16, .iconst 2, 1), (17, .lushr, 1), (18, .ldc2_w 316, 3), (21, .land, 1), (22, .ladd, 1), (23, .lstore_n 0, 1), (24, .lload_n 0, 1), (25, .lload_n 0, 1), (26, .iconst 4, 1), (27, .lushr, 1), (28, .ladd, 1), (29, .ldc2_w 318, 3), (32, .land, 1), (33, .lstore_n 0, 1), (34, .lload_n 0, 1), (35, .lload_n 0, 1), (36, .bipush 8, 2), (38, .lushr, 1), (39, .ladd, 1), (40, .lstore_n 0, 1), (41, .lload_n 0, 1), (42, .lload_n 0, 1), (43, .bipush 16, 2), (45, .lushr, 1), (46, .ladd, 1), (47, .lstore_n 0, 1), (48, .lload_n 0, 1), (49, .lload_n 0, 1), (50, .bipush 32, 2), (52, .lushr, 1), (53, .ladd, 1), (54, .lstore_n 0, 1), (55, .lload_n 0, 1), (56, .l2i, 1), (57, .bipush 127, 2), (59, .iand, 1), (60, .ireturn, 1)] : List (Nat × Instr × Nat)), decode cJ13_bitCount_95d88 t.1 = .ok (t.2.1, t.2.2) := by decide +kernel
noncomputable def f_J13_bitCount_95d88 (a0 : Int64) : Option (Int32) := bnd (a0 - ((((a0 : Int64).toUInt64 >>> ((1 : Int32).toInt64.toUInt64 &&& Int64.toUInt64 63)).toInt64) &&& 6148914691236517205) : Int64) (fun v1 => bnd ((v1 &&& 3689348814741910323) + ((((v1 : Int64).toUInt64 >>> ((2 : Int32).toInt64.toUInt64 &&& Int64.toUInt64 63)).toInt64) &&& 3689348814741910323) : Int64) (fun v3 => bnd ((v3 + (((v3 : Int64).toUInt64 >>> ((4 : Int32).toInt64.toUInt64 &&& Int64.toUInt64 63)).toInt64)) &&& 1085102592571150095 : Int64) (fun v5 => bnd (v5 + (((v5 : Int64).toUInt64 >>> ((8 : Int32).toInt64.toUInt64 &&& Int64.toUInt64 63)).toInt64) : Int64) (fun v7 => bnd (v7 + (((v7 : Int64).toUInt64 >>> ((16 : Int32).toInt64.toUInt64 &&& Int64.toUInt64 63)).toInt64) : Int64) (fun v9 => bnd (v9 + (((v9 : Int64).toUInt64 >>> ((32 : Int32).toInt64.toUInt64 &&& Int64.toUInt64 63)).toInt64) : Int64) (fun v11 => some (((v11 : Int64).toInt32) &&& 127)))))))
set_option maxHeartbeats 4000000 in
set_option maxRecDepth 100000 in
theorem c_J13_bitCount_95d88 {l : Launch} {G : mG} {h : mM}  {a0 : Int64} {x : Int32} (hF : f_J13_bitCount_95d88 a0 = some x) : cQ l G yJ13_bitCount_95d88 cJ13_bitCount_95d88 2 (some FieldType.int) rm_J13_bitCount_95d88 [.long a0] (h) (mQi G (fun r h1 => r = x ∧ h1 = h)) := by
  refine mp_of (by decide +kernel) (Nat.le_of_ble_eq_true rfl) ?_
  intro p e s m below meth c X hr hlk hH hname ls hl
  dsimp only [f_J13_bitCount_95d88] at hF
  replace hl : lv_has ls 2 [(0, .long a0)] := hl
  refine lv_lload_n X.x X.b (dk DJ13_bitCount_95d88_0 0 rfl) rfl (lv_at hl 0 rfl) ?_
  refine lv_lload_n X.x X.b (dk DJ13_bitCount_95d88_0 1 rfl) rfl (lv_at hl 0 rfl) ?_
  refine lv_iconst (v := 1) X.x X.b (dk DJ13_bitCount_95d88_0 2 rfl) (by decide) ?_
  refine lv_lushr X.x X.b (dk DJ13_bitCount_95d88_0 3 rfl) rfl ?_
  refine lv_ldc2 (v := 6148914691236517205) X.x X.b X.ow (X.ts _ kK_J13_314) (dk DJ13_bitCount_95d88_0 4 rfl) ?_
  refine lv_land X.x X.b (dk DJ13_bitCount_95d88_0 5 rfl) ?_
  refine lv_lsub X.x X.b (dk DJ13_bitCount_95d88_0 6 rfl) ?_
  refine lv_topl (fun v1 e2 => ?_)
  replace hF := bnd_e hF e2
  refine lv_lstore_n (lv' := [(0, .long v1)]) X.x X.b (dk DJ13_bitCount_95d88_0 7 rfl) rfl hl (by decide) rfl (fun ls hl => ?_)
  replace hl : lv_has ls 2 [(0, .long v1)] := lv_sub hl [0] rfl
  refine lv_lload_n X.x X.b (dk DJ13_bitCount_95d88_0 8 rfl) rfl (lv_at hl 0 rfl) ?_
  refine lv_ldc2 (v := 3689348814741910323) X.x X.b X.ow (X.ts _ kK_J13_316) (dk DJ13_bitCount_95d88_0 9 rfl) ?_
  refine lv_land X.x X.b (dk DJ13_bitCount_95d88_0 10 rfl) ?_
  refine lv_lload_n X.x X.b (dk DJ13_bitCount_95d88_0 11 rfl) rfl (lv_at hl 0 rfl) ?_
  refine lv_iconst (v := 2) X.x X.b (dk DJ13_bitCount_95d88_0 12 rfl) (by decide) ?_
  refine lv_lushr X.x X.b (dk DJ13_bitCount_95d88_0 13 rfl) rfl ?_
  refine lv_ldc2 (v := 3689348814741910323) X.x X.b X.ow (X.ts _ kK_J13_316) (dk DJ13_bitCount_95d88_0 14 rfl) ?_
  refine lv_land X.x X.b (dk DJ13_bitCount_95d88_0 15 rfl) ?_
  refine lv_ladd X.x X.b (dk DJ13_bitCount_95d88_0 16 rfl) ?_
  refine lv_topl (fun v3 e4 => ?_)
  replace hF := bnd_e hF e4
  refine lv_lstore_n (lv' := [(0, .long v3)]) X.x X.b (dk DJ13_bitCount_95d88_0 17 rfl) rfl hl (by decide) rfl (fun ls hl => ?_)
  replace hl : lv_has ls 2 [(0, .long v3)] := lv_sub hl [0] rfl
  refine lv_lload_n X.x X.b (dk DJ13_bitCount_95d88_0 18 rfl) rfl (lv_at hl 0 rfl) ?_
  refine lv_lload_n X.x X.b (dk DJ13_bitCount_95d88_0 19 rfl) rfl (lv_at hl 0 rfl) ?_
  refine lv_iconst (v := 4) X.x X.b (dk DJ13_bitCount_95d88_0 20 rfl) (by decide) ?_
  refine lv_lushr X.x X.b (dk DJ13_bitCount_95d88_0 21 rfl) rfl ?_
  refine lv_ladd X.x X.b (dk DJ13_bitCount_95d88_0 22 rfl) ?_
  refine lv_ldc2 (v := 1085102592571150095) X.x X.b X.ow (X.ts _ kK_J13_318) (dk DJ13_bitCount_95d88_0 23 rfl) ?_
  refine lv_land X.x X.b (dk DJ13_bitCount_95d88_0 24 rfl) ?_
  refine lv_topl (fun v5 e6 => ?_)
  replace hF := bnd_e hF e6
  refine lv_lstore_n (lv' := [(0, .long v5)]) X.x X.b (dk DJ13_bitCount_95d88_0 25 rfl) rfl hl (by decide) rfl (fun ls hl => ?_)
  replace hl : lv_has ls 2 [(0, .long v5)] := lv_sub hl [0] rfl
  refine lv_lload_n X.x X.b (dk DJ13_bitCount_95d88_0 26 rfl) rfl (lv_at hl 0 rfl) ?_
  refine lv_lload_n X.x X.b (dk DJ13_bitCount_95d88_0 27 rfl) rfl (lv_at hl 0 rfl) ?_
  refine lv_bipush (v := 8) X.x X.b (dk DJ13_bitCount_95d88_0 28 rfl) (by decide) ?_
  refine lv_lushr X.x X.b (dk DJ13_bitCount_95d88_0 29 rfl) rfl ?_
  refine lv_ladd X.x X.b (dk DJ13_bitCount_95d88_0 30 rfl) ?_
  refine lv_topl (fun v7 e8 => ?_)
  replace hF := bnd_e hF e8
  refine lv_lstore_n (lv' := [(0, .long v7)]) X.x X.b (dk DJ13_bitCount_95d88_0 31 rfl) rfl hl (by decide) rfl (fun ls hl => ?_)
  replace hl : lv_has ls 2 [(0, .long v7)] := lv_sub hl [0] rfl
  refine lv_lload_n X.x X.b (dk DJ13_bitCount_95d88_0 32 rfl) rfl (lv_at hl 0 rfl) ?_
  refine lv_lload_n X.x X.b (dk DJ13_bitCount_95d88_0 33 rfl) rfl (lv_at hl 0 rfl) ?_
  refine lv_bipush (v := 16) X.x X.b (dk DJ13_bitCount_95d88_0 34 rfl) (by decide) ?_
  refine lv_lushr X.x X.b (dk DJ13_bitCount_95d88_0 35 rfl) rfl ?_
  refine lv_ladd X.x X.b (dk DJ13_bitCount_95d88_0 36 rfl) ?_
  refine lv_topl (fun v9 e10 => ?_)
  replace hF := bnd_e hF e10
  refine lv_lstore_n (lv' := [(0, .long v9)]) X.x X.b (dk DJ13_bitCount_95d88_0 37 rfl) rfl hl (by decide) rfl (fun ls hl => ?_)
  replace hl : lv_has ls 2 [(0, .long v9)] := lv_sub hl [0] rfl
  refine lv_lload_n X.x X.b (dk DJ13_bitCount_95d88_0 38 rfl) rfl (lv_at hl 0 rfl) ?_
  refine lv_lload_n X.x X.b (dk DJ13_bitCount_95d88_0 39 rfl) rfl (lv_at hl 0 rfl) ?_
  refine lv_bipush (v := 32) X.x X.b (dk DJ13_bitCount_95d88_0 40 rfl) (by decide) ?_
  refine lv_lushr X.x X.b (dk DJ13_bitCount_95d88_0 41 rfl) rfl ?_
  refine lv_ladd X.x X.b (dk DJ13_bitCount_95d88_0 42 rfl) ?_
  refine lv_topl (fun v11 e12 => ?_)
  replace hF := bnd_e hF e12
  refine lv_lstore_n (lv' := [(0, .long v11)]) X.x X.b (dk DJ13_bitCount_95d88_0 43 rfl) rfl hl (by decide) rfl (fun ls hl => ?_)
  replace hl : lv_has ls 2 [(0, .long v11)] := lv_sub hl [0] rfl
  refine lv_lload_n X.x X.b (dk DJ13_bitCount_95d88_0 44 rfl) rfl (lv_at hl 0 rfl) ?_
  refine lv_l2i X.x X.b (dk DJ13_bitCount_95d88_0 45 rfl) rfl ?_
  refine lv_bipush (v := 127) X.x X.b (dk DJ13_bitCount_95d88_0 46 rfl) (by decide) ?_
  refine lv_iand X.x X.b (dk DJ13_bitCount_95d88_0 47 rfl) ?_
  cases sm hF
  exact mr_iret X hr hlk hH ⟨rfl, rfl⟩ (dk DJ13_bitCount_95d88_0 48 rfl)
-- X2_linesMeetOnce
abbrev rm_X2_linesMeetOnce : Room := { frames := 1, cells := 0, slots := 0, locals := 21 }
theorem hd_X2_linesMeetOnce : mHd yX2_linesMeetOnce 1 := ⟨by decide +kernel, by decide +kernel, by decide +kernel⟩
theorem DX2_linesMeetOnce_0 : ∀ t ∈ ([(0, .iconst 0, 1), (1, .istore_n 1, 1), (2, .iload_n 1, 1), (3, .aload_n 0, 1), (4, .getfield 24, 3), (7, .if_icmp .ge 42, 3), (10, .iconst 0, 1), (11, .istore_n 2, 1), (12, .iload_n 2, 1), (13, .iload_n 1, 1), (14, .if_icmp .ge 29, 3), (17, .aload_n 0, 1), (18, .iload_n 1, 1), (19, .invokevirtual 30, 3), (22, .aload_n 0, 1), (23, .iload_n 2, 1), (24, .invokevirtual 30, 3), (27, .land, 1), (28, .invokestatic 34, 3), (31, .iconst 2, 1), (32, .if_icmp .lt 5, 3), (35, .iconst 0, 1), (36, .ireturn, 1), (37, .iinc 2 1, 3), (40, .goto (-28), 3), (43, .iinc 1 1, 3), (46, .goto (-44), 3), (49, .iconst 1, 1), (50, .ireturn, 1)] : List (Nat × Instr × Nat)), decode cX2_linesMeetOnce t.1 = .ok (t.2.1, t.2.2) := by decide +kernel
noncomputable def f_X2_linesMeetOnce_12 (s_o1 : OS) (b1 : Int32) : Int32 → Option ((Int32) ⊕ (Nat)) := fun b2 => (if b1 ≤ b2 then some (.inr 1) else (f_X10_setAt s_o1 b1).bind (fun x3 => (f_X10_setAt s_o1 b2).bind (fun x6 => (f_J13_bitCount_95d88 (x3 &&& x6)).bind (fun x9 => (if x9 < 2 then bnd (b2 + 1 : Int32) (fun v13 => some (.inl v13)) else some (.inr 0))))))
noncomputable def f_X2_linesMeetOnce_2 (s_o1 : OS) : Int32 → Option ((Int32) ⊕ (Nat)) := fun b1 => (if (s_o1.1 1) ≤ b1 then some (.inr 1) else (lpv (f_X2_linesMeetOnce_12 s_o1 b1) 0).bind (fun x15 => (if x15 = 0 then some (.inr 0) else bnd (b1 + 1 : Int32) (fun v18 => some (.inl v18)))))
noncomputable def f_X2_linesMeetOnce (st1 : OS) : Option (Int32) := (lpv (f_X2_linesMeetOnce_2 st1) 0).bind (fun x20 => (if x20 = 0 then some 0 else some 1))
set_option maxHeartbeats 4000000 in
set_option maxRecDepth 100000 in
theorem w_X2_linesMeetOnce_12 {p : Program} {l : Launch} {e : Env} {s : State} {m : MethodId} {args : Array Value} {below : List Frame} {meth : Method} {c : Code} {Q : State → Prop} {G : mG} {h : mM} {q1 : Nat → Nat} (hq1 : oinj LX10 q1) (X : mX G p m c cX2_linesMeetOnce 3 s args RX2) (s_o1 : OS) (b1 : Int32) : ∀ (z : Int32) (r : Nat), lpv (f_X2_linesMeetOnce_12 s_o1 b1) z = some r → ∀ (H : Heap) (locs : List Loc) (ls : Array Slot), mH G (oset LX10 G q1 s_o1 h) s.heap H locs → lv_has ls 3 [(0, .ref (q1 5)), (1, .int b1), (2, .int z)] → (r = 0 → ∀ (H : Heap) (locs : List Loc) (ls : Array Slot), mH G (oset LX10 G q1 s_o1 h) s.heap H locs → lv_has ls 3 [] → W p l e rm_X2_linesMeetOnce s m args below meth c H locs 0 0 Q (F0 m 35 ls [])) → (r = 1 → ∀ (H : Heap) (locs : List Loc) (ls : Array Slot), mH G (oset LX10 G q1 s_o1 h) s.heap H locs → lv_has ls 3 [(0, .ref (q1 5)), (1, .int b1)] → W p l e rm_X2_linesMeetOnce s m args below meth c H locs 0 0 Q (F0 m 43 ls [])) → W p l e rm_X2_linesMeetOnce s m args below meth c H locs 0 0 Q (F0 m 12 ls []) := by
  refine lpv_rec ?_
  intro z r x hF hx H locs ls hH hl K0 K1
  obtain ⟨b2, hz⟩ : ∃ y, y = z := ⟨_, rfl⟩
  subst hz
  dsimp only [f_X2_linesMeetOnce_12] at hF
  refine lv_iload_n X.x X.b (dk DX2_linesMeetOnce_0 8 rfl) rfl (lv_at hl 2 rfl) ?_
  refine lv_iload_n X.x X.b (dk DX2_linesMeetOnce_0 9 rfl) rfl (lv_at hl 1 rfl) ?_
  refine lv_icmp_ge (tgt := 43) X.x X.b (dk DX2_linesMeetOnce_0 10 rfl) (by decide) (fun c2 => ?_) (fun c2 => ?_)
  · replace hF := if_t hF c2
    have hr9 := lp_r hF hx
    subst hr9
    exact K1 rfl _ _ _ hH (lv_sub hl [0, 1] rfl)
  · replace hF := if_f hF c2
    refine lv_aload_n X.x X.b (dk DX2_linesMeetOnce_0 11 rfl) rfl (lv_at hl 0 rfl) ?_
    refine lv_iload_n X.x X.b (dk DX2_linesMeetOnce_0 12 rfl) rfl (lv_at hl 1 rfl) ?_
    obtain ⟨x3, e4, hF⟩ := bd hF
    refine mr_cl0 hH ⟨rfl, rfl⟩ (mr_runV (As := [.int b1]) (rest := []) X hH (c_X10_setAt hq1 e4) ((oset_at hq1 (Nat.le_refl _) ohas_N).trans (congrArg some ocell_N)) OX10.1 kM_X2_30 kI_X10_setAt kS_X10_setAt kN_X10 kC_X10_setAt hd_X10_setAt ⟨Nat.le_of_ble_eq_true rfl, Nat.le_of_ble_eq_true rfl⟩ rfl hl.1 (Nat.le_of_ble_eq_true rfl) (dk DX2_linesMeetOnce_0 13 rfl) ⟨Nat.zero_le _, Nat.zero_le _⟩) (fun r h1 H locs hp hH => ?_)
    obtain ⟨hr1, hr2⟩ := hp; rw [hr1]; rw [hr2] at hH; clear hr1 hr2
    refine lv_aload_n X.x X.b (dk DX2_linesMeetOnce_0 14 rfl) rfl (lv_at hl 0 rfl) ?_
    refine lv_iload_n X.x X.b (dk DX2_linesMeetOnce_0 15 rfl) rfl (lv_at hl 2 rfl) ?_
    obtain ⟨x6, e7, hF⟩ := bd hF
    refine mr_cl0 hH ⟨rfl, rfl⟩ (mr_runV (As := [.int b2]) (rest := [.long x3]) X hH (c_X10_setAt hq1 e7) ((oset_at hq1 (Nat.le_refl _) ohas_N).trans (congrArg some ocell_N)) OX10.1 kM_X2_30 kI_X10_setAt kS_X10_setAt kN_X10 kC_X10_setAt hd_X10_setAt ⟨Nat.le_of_ble_eq_true rfl, Nat.le_of_ble_eq_true rfl⟩ rfl hl.1 (Nat.le_of_ble_eq_true rfl) (dk DX2_linesMeetOnce_0 16 rfl) ⟨Nat.zero_le _, Nat.zero_le _⟩) (fun r h1 H locs hp hH => ?_)
    obtain ⟨hr1, hr2⟩ := hp; rw [hr1]; rw [hr2] at hH; clear hr1 hr2
    refine lv_land X.x X.b (dk DX2_linesMeetOnce_0 17 rfl) ?_
    obtain ⟨x9, e10, hF⟩ := bd hF
    refine mr_ci0 hH ⟨rfl, rfl⟩ (mr_runS (As := [.long (x3 &&& x6)]) (rest := []) X hH (c_J13_bitCount_95d88 e10) kM_X2_34 kT_J13_bitCount_95d88 kN_J13 kC_J13_bitCount_95d88 hd_J13_bitCount_95d88 ⟨Nat.le_of_ble_eq_true rfl, Nat.le_of_ble_eq_true rfl⟩ rfl hl.1 (Nat.le_of_ble_eq_true rfl) (dk DX2_linesMeetOnce_0 18 rfl) ⟨Nat.zero_le _, Nat.zero_le _⟩) (fun r h1 H locs hp hH => ?_)
    obtain ⟨hr1, hr2⟩ := hp; rw [hr1]; rw [hr2] at hH; clear hr1 hr2
    refine lv_iconst (v := 2) X.x X.b (dk DX2_linesMeetOnce_0 19 rfl) (by decide) ?_
    refine lv_icmp_lt (tgt := 37) X.x X.b (dk DX2_linesMeetOnce_0 20 rfl) (by decide) (fun c12 => ?_) (fun c12 => ?_)
    · replace hF := if_t hF c12
      obtain ⟨v13, e14⟩ : ∃ y : Int32, y = b2 + 1 := ⟨_, rfl⟩
      replace hF := bnd_e hF e14
      refine lv_iinc (v := v13) (lv' := [(2, .int v13), (0, .ref (q1 5)), (1, .int b1)]) X.x X.b (dk DX2_linesMeetOnce_0 23 rfl) hl (k := 2) rfl (by rw [e14]; rfl) (by decide) rfl (fun ls hl => ?_)
      replace hl : lv_has ls 3 [(0, .ref (q1 5)), (1, .int b1), (2, .int v13)] := lv_sub hl [1, 2, 0] rfl
      refine lv_goto (tgt := 12) X.x X.b (dk DX2_linesMeetOnce_0 24 rfl) (by decide) ?_
      exact (lp_l hF hx) _ _ _ hH (lv_sub hl [0, 1, 2] rfl) K0 K1
    · replace hF := if_f hF c12
      have hr9 := lp_r hF hx
      subst hr9
      exact K0 rfl _ _ _ hH (lv_sub hl [] rfl)
set_option maxHeartbeats 4000000 in
set_option maxRecDepth 100000 in
theorem w_X2_linesMeetOnce_2 {p : Program} {l : Launch} {e : Env} {s : State} {m : MethodId} {args : Array Value} {below : List Frame} {meth : Method} {c : Code} {Q : State → Prop} {G : mG} {h : mM} {q1 : Nat → Nat} (hq1 : oinj LX10 q1) (X : mX G p m c cX2_linesMeetOnce 3 s args RX2) (s_o1 : OS) : ∀ (z : Int32) (r : Nat), lpv (f_X2_linesMeetOnce_2 s_o1) z = some r → ∀ (H : Heap) (locs : List Loc) (ls : Array Slot), mH G (oset LX10 G q1 s_o1 h) s.heap H locs → lv_has ls 3 [(0, .ref (q1 5)), (1, .int z)] → (r = 0 → ∀ (H : Heap) (locs : List Loc) (ls : Array Slot), mH G (oset LX10 G q1 s_o1 h) s.heap H locs → lv_has ls 3 [] → W p l e rm_X2_linesMeetOnce s m args below meth c H locs 0 0 Q (F0 m 35 ls [])) → (r = 1 → ∀ (H : Heap) (locs : List Loc) (ls : Array Slot), mH G (oset LX10 G q1 s_o1 h) s.heap H locs → lv_has ls 3 [] → W p l e rm_X2_linesMeetOnce s m args below meth c H locs 0 0 Q (F0 m 49 ls [])) → W p l e rm_X2_linesMeetOnce s m args below meth c H locs 0 0 Q (F0 m 2 ls []) := by
  refine lpv_rec ?_
  intro z r x hF hx H locs ls hH hl K0 K1
  obtain ⟨b1, hz⟩ : ∃ y, y = z := ⟨_, rfl⟩
  subst hz
  dsimp only [f_X2_linesMeetOnce_2] at hF
  refine lv_iload_n X.x X.b (dk DX2_linesMeetOnce_0 2 rfl) rfl (lv_at hl 1 rfl) ?_
  refine lv_aload_n X.x X.b (dk DX2_linesMeetOnce_0 3 rfl) rfl (lv_at hl 0 rfl) ?_
  refine og_getIN OX10 X hq1 hH 1 (by decide) rfl kFN_X2_24 (dk DX2_linesMeetOnce_0 4 rfl) ?_
  refine lv_icmp_ge (tgt := 49) X.x X.b (dk DX2_linesMeetOnce_0 5 rfl) (by decide) (fun c1 => ?_) (fun c1 => ?_)
  · replace hF := if_t hF c1
    have hr9 := lp_r hF hx
    subst hr9
    exact K1 rfl _ _ _ hH (lv_sub hl [] rfl)
  · replace hF := if_f hF c1
    refine lv_iconst (v := 0) X.x X.b (dk DX2_linesMeetOnce_0 6 rfl) (by decide) ?_
    refine lv_istore_n (lv' := [(2, .int 0), (0, .ref (q1 5)), (1, .int b1)]) X.x X.b (dk DX2_linesMeetOnce_0 7 rfl) rfl hl (by decide) rfl (fun ls hl => ?_)
    replace hl : lv_has ls 3 [(0, .ref (q1 5)), (1, .int b1), (2, .int 0)] := lv_sub hl [1, 2, 0] rfl
    obtain ⟨x15, e16, hF⟩ := bd hF
    replace hl : lv_has ls 3 [(0, .ref (q1 5)), (1, .int b1), (2, .int 0)] := lv_sub hl [0, 1, 2] rfl
    refine w_X2_linesMeetOnce_12 hq1 X s_o1 b1 _ _ e16 _ _ _ hH hl (fun hk H locs ls hH hl => ?_) (fun hk H locs ls hH hl => ?_)
    · subst hk
      replace hF := if_t hF rfl
      have hr9 := lp_r hF hx
      subst hr9
      exact K0 rfl _ _ _ hH (lv_sub hl [] rfl)
    · subst hk
      replace hF := if_f hF (by decide)
      obtain ⟨v18, e19⟩ : ∃ y : Int32, y = b1 + 1 := ⟨_, rfl⟩
      replace hF := bnd_e hF e19
      refine lv_iinc (v := v18) (lv' := [(1, .int v18), (0, .ref (q1 5))]) X.x X.b (dk DX2_linesMeetOnce_0 25 rfl) hl (k := 1) rfl (by rw [e19]; rfl) (by decide) rfl (fun ls hl => ?_)
      replace hl : lv_has ls 3 [(0, .ref (q1 5)), (1, .int v18)] := lv_sub hl [1, 0] rfl
      refine lv_goto (tgt := 2) X.x X.b (dk DX2_linesMeetOnce_0 26 rfl) (by decide) ?_
      exact (lp_l hF hx) _ _ _ hH (lv_sub hl [0, 1] rfl) K0 K1
set_option maxHeartbeats 4000000 in
set_option maxRecDepth 100000 in
theorem c_X2_linesMeetOnce {l : Launch} {G : mG} {h : mM} {q1 : Nat → Nat} (hq1 : oinj LX10 q1) {st1 : OS} {x : Int32} (hF : f_X2_linesMeetOnce st1 = some x) : cQ l G yX2_linesMeetOnce cX2_linesMeetOnce 3 (some FieldType.boolean) rm_X2_linesMeetOnce [.ref (q1 5)] (oset LX10 G q1 st1 h) (mQi G (fun r h1 => r = x ∧ h1 = oset LX10 G q1 st1 h)) := by
  refine mp_of (by decide +kernel) (Nat.le_of_ble_eq_true rfl) ?_
  intro p e s m below meth c X hr hlk hH hname ls hl
  dsimp only [f_X2_linesMeetOnce] at hF
  replace hl : lv_has ls 3 [(0, .ref (q1 5))] := hl
  refine lv_iconst (v := 0) X.x X.b (dk DX2_linesMeetOnce_0 0 rfl) (by decide) ?_
  refine lv_istore_n (lv' := [(1, .int 0), (0, .ref (q1 5))]) X.x X.b (dk DX2_linesMeetOnce_0 1 rfl) rfl hl (by decide) rfl (fun ls hl => ?_)
  replace hl : lv_has ls 3 [(0, .ref (q1 5)), (1, .int 0)] := lv_sub hl [1, 0] rfl
  obtain ⟨x20, e21, hF⟩ := bd hF
  replace hl : lv_has ls 3 [(0, .ref (q1 5)), (1, .int 0)] := lv_sub hl [0, 1] rfl
  refine w_X2_linesMeetOnce_2 hq1 X st1 _ _ e21 _ _ _ hH hl (fun hk H locs ls hH hl => ?_) (fun hk H locs ls hH hl => ?_)
  · subst hk
    replace hF := if_t hF rfl
    refine lv_iconst (v := 0) X.x X.b (dk DX2_linesMeetOnce_0 21 rfl) (by decide) ?_
    cases sm hF
    exact mr_zret X hr hlk hH rfl ⟨rfl, rfl⟩ (dk DX2_linesMeetOnce_0 22 rfl)
  · subst hk
    replace hF := if_f hF (by decide)
    refine lv_iconst (v := 1) X.x X.b (dk DX2_linesMeetOnce_0 27 rfl) (by decide) ?_
    cases sm hF
    exact mr_zret X hr hlk hH rfl ⟨rfl, rfl⟩ (dk DX2_linesMeetOnce_0 28 rfl)
-- X2_linesAreAsLong
abbrev rm_X2_linesAreAsLong : Room := { frames := 1, cells := 0, slots := 0, locals := 21 }
theorem hd_X2_linesAreAsLong : mHd yX2_linesAreAsLong 1 := ⟨by decide +kernel, by decide +kernel, by decide +kernel⟩
theorem DX2_linesAreAsLong_0 : ∀ t ∈ ([(0, .iconst 1, 1), (1, .istore_n 1, 1), (2, .iload_n 1, 1), (3, .aload_n 0, 1), (4, .getfield 24, 3), (7, .if_icmp .ge 30, 3), (10, .aload_n 0, 1), (11, .iload_n 1, 1), (12, .invokevirtual 30, 3), (15, .invokestatic 34, 3), (18, .aload_n 0, 1), (19, .iconst 0, 1), (20, .invokevirtual 30, 3), (23, .invokestatic 34, 3), (26, .if_icmp .eq 5, 3), (29, .iconst 0, 1), (30, .ireturn, 1), (31, .iinc 1 1, 3), (34, .goto (-32), 3), (37, .iconst 1, 1), (38, .ireturn, 1)] : List (Nat × Instr × Nat)), decode cX2_linesAreAsLong t.1 = .ok (t.2.1, t.2.2) := by decide +kernel
noncomputable def f_X2_linesAreAsLong_2 (s_o1 : OS) : Int32 → Option ((Int32) ⊕ (Nat)) := fun b1 => (if (s_o1.1 1) ≤ b1 then some (.inr 1) else (f_X10_setAt s_o1 b1).bind (fun x2 => (f_J13_bitCount_95d88 x2).bind (fun x5 => (f_X10_setAt s_o1 0).bind (fun x8 => (f_J13_bitCount_95d88 x8).bind (fun x11 => (if x5 = x11 then bnd (b1 + 1 : Int32) (fun v15 => some (.inl v15)) else some (.inr 0)))))))
noncomputable def f_X2_linesAreAsLong (st1 : OS) : Option (Int32) := (lpv (f_X2_linesAreAsLong_2 st1) 1).bind (fun x17 => (if x17 = 0 then some 0 else some 1))
set_option maxHeartbeats 4000000 in
set_option maxRecDepth 100000 in
theorem w_X2_linesAreAsLong_2 {p : Program} {l : Launch} {e : Env} {s : State} {m : MethodId} {args : Array Value} {below : List Frame} {meth : Method} {c : Code} {Q : State → Prop} {G : mG} {h : mM} {q1 : Nat → Nat} (hq1 : oinj LX10 q1) (X : mX G p m c cX2_linesAreAsLong 2 s args RX2) (s_o1 : OS) : ∀ (z : Int32) (r : Nat), lpv (f_X2_linesAreAsLong_2 s_o1) z = some r → ∀ (H : Heap) (locs : List Loc) (ls : Array Slot), mH G (oset LX10 G q1 s_o1 h) s.heap H locs → lv_has ls 2 [(0, .ref (q1 5)), (1, .int z)] → (r = 0 → ∀ (H : Heap) (locs : List Loc) (ls : Array Slot), mH G (oset LX10 G q1 s_o1 h) s.heap H locs → lv_has ls 2 [] → W p l e rm_X2_linesAreAsLong s m args below meth c H locs 0 0 Q (F0 m 29 ls [])) → (r = 1 → ∀ (H : Heap) (locs : List Loc) (ls : Array Slot), mH G (oset LX10 G q1 s_o1 h) s.heap H locs → lv_has ls 2 [] → W p l e rm_X2_linesAreAsLong s m args below meth c H locs 0 0 Q (F0 m 37 ls [])) → W p l e rm_X2_linesAreAsLong s m args below meth c H locs 0 0 Q (F0 m 2 ls []) := by
  refine lpv_rec ?_
  intro z r x hF hx H locs ls hH hl K0 K1
  obtain ⟨b1, hz⟩ : ∃ y, y = z := ⟨_, rfl⟩
  subst hz
  dsimp only [f_X2_linesAreAsLong_2] at hF
  refine lv_iload_n X.x X.b (dk DX2_linesAreAsLong_0 2 rfl) rfl (lv_at hl 1 rfl) ?_
  refine lv_aload_n X.x X.b (dk DX2_linesAreAsLong_0 3 rfl) rfl (lv_at hl 0 rfl) ?_
  refine og_getIN OX10 X hq1 hH 1 (by decide) rfl kFN_X2_24 (dk DX2_linesAreAsLong_0 4 rfl) ?_
  refine lv_icmp_ge (tgt := 37) X.x X.b (dk DX2_linesAreAsLong_0 5 rfl) (by decide) (fun c1 => ?_) (fun c1 => ?_)
  · replace hF := if_t hF c1
    have hr9 := lp_r hF hx
    subst hr9
    exact K1 rfl _ _ _ hH (lv_sub hl [] rfl)
  · replace hF := if_f hF c1
    refine lv_aload_n X.x X.b (dk DX2_linesAreAsLong_0 6 rfl) rfl (lv_at hl 0 rfl) ?_
    refine lv_iload_n X.x X.b (dk DX2_linesAreAsLong_0 7 rfl) rfl (lv_at hl 1 rfl) ?_
    obtain ⟨x2, e3, hF⟩ := bd hF
    refine mr_cl0 hH ⟨rfl, rfl⟩ (mr_runV (As := [.int b1]) (rest := []) X hH (c_X10_setAt hq1 e3) ((oset_at hq1 (Nat.le_refl _) ohas_N).trans (congrArg some ocell_N)) OX10.1 kM_X2_30 kI_X10_setAt kS_X10_setAt kN_X10 kC_X10_setAt hd_X10_setAt ⟨Nat.le_of_ble_eq_true rfl, Nat.le_of_ble_eq_true rfl⟩ rfl hl.1 (Nat.le_of_ble_eq_true rfl) (dk DX2_linesAreAsLong_0 8 rfl) ⟨Nat.zero_le _, Nat.zero_le _⟩) (fun r h1 H locs hp hH => ?_)
    obtain ⟨hr1, hr2⟩ := hp; rw [hr1]; rw [hr2] at hH; clear hr1 hr2
    obtain ⟨x5, e6, hF⟩ := bd hF
    refine mr_ci0 hH ⟨rfl, rfl⟩ (mr_runS (As := [.long x2]) (rest := []) X hH (c_J13_bitCount_95d88 e6) kM_X2_34 kT_J13_bitCount_95d88 kN_J13 kC_J13_bitCount_95d88 hd_J13_bitCount_95d88 ⟨Nat.le_of_ble_eq_true rfl, Nat.le_of_ble_eq_true rfl⟩ rfl hl.1 (Nat.le_of_ble_eq_true rfl) (dk DX2_linesAreAsLong_0 9 rfl) ⟨Nat.zero_le _, Nat.zero_le _⟩) (fun r h1 H locs hp hH => ?_)
    obtain ⟨hr1, hr2⟩ := hp; rw [hr1]; rw [hr2] at hH; clear hr1 hr2
    refine lv_aload_n X.x X.b (dk DX2_linesAreAsLong_0 10 rfl) rfl (lv_at hl 0 rfl) ?_
    refine lv_iconst (v := 0) X.x X.b (dk DX2_linesAreAsLong_0 11 rfl) (by decide) ?_
    obtain ⟨x8, e9, hF⟩ := bd hF
    refine mr_cl0 hH ⟨rfl, rfl⟩ (mr_runV (As := [.int 0]) (rest := [.int x5]) X hH (c_X10_setAt hq1 e9) ((oset_at hq1 (Nat.le_refl _) ohas_N).trans (congrArg some ocell_N)) OX10.1 kM_X2_30 kI_X10_setAt kS_X10_setAt kN_X10 kC_X10_setAt hd_X10_setAt ⟨Nat.le_of_ble_eq_true rfl, Nat.le_of_ble_eq_true rfl⟩ rfl hl.1 (Nat.le_of_ble_eq_true rfl) (dk DX2_linesAreAsLong_0 12 rfl) ⟨Nat.zero_le _, Nat.zero_le _⟩) (fun r h1 H locs hp hH => ?_)
    obtain ⟨hr1, hr2⟩ := hp; rw [hr1]; rw [hr2] at hH; clear hr1 hr2
    obtain ⟨x11, e12, hF⟩ := bd hF
    refine mr_ci0 hH ⟨rfl, rfl⟩ (mr_runS (As := [.long x8]) (rest := [.int x5]) X hH (c_J13_bitCount_95d88 e12) kM_X2_34 kT_J13_bitCount_95d88 kN_J13 kC_J13_bitCount_95d88 hd_J13_bitCount_95d88 ⟨Nat.le_of_ble_eq_true rfl, Nat.le_of_ble_eq_true rfl⟩ rfl hl.1 (Nat.le_of_ble_eq_true rfl) (dk DX2_linesAreAsLong_0 13 rfl) ⟨Nat.zero_le _, Nat.zero_le _⟩) (fun r h1 H locs hp hH => ?_)
    obtain ⟨hr1, hr2⟩ := hp; rw [hr1]; rw [hr2] at hH; clear hr1 hr2
    refine lv_icmp_eq (tgt := 31) X.x X.b (dk DX2_linesAreAsLong_0 14 rfl) (by decide) (fun c14 => ?_) (fun c14 => ?_)
    · replace hF := if_t hF c14
      obtain ⟨v15, e16⟩ : ∃ y : Int32, y = b1 + 1 := ⟨_, rfl⟩
      replace hF := bnd_e hF e16
      refine lv_iinc (v := v15) (lv' := [(1, .int v15), (0, .ref (q1 5))]) X.x X.b (dk DX2_linesAreAsLong_0 17 rfl) hl (k := 1) rfl (by rw [e16]; rfl) (by decide) rfl (fun ls hl => ?_)
      replace hl : lv_has ls 2 [(0, .ref (q1 5)), (1, .int v15)] := lv_sub hl [1, 0] rfl
      refine lv_goto (tgt := 2) X.x X.b (dk DX2_linesAreAsLong_0 18 rfl) (by decide) ?_
      exact (lp_l hF hx) _ _ _ hH (lv_sub hl [0, 1] rfl) K0 K1
    · replace hF := if_f hF c14
      have hr9 := lp_r hF hx
      subst hr9
      exact K0 rfl _ _ _ hH (lv_sub hl [] rfl)
set_option maxHeartbeats 4000000 in
set_option maxRecDepth 100000 in
theorem c_X2_linesAreAsLong {l : Launch} {G : mG} {h : mM} {q1 : Nat → Nat} (hq1 : oinj LX10 q1) {st1 : OS} {x : Int32} (hF : f_X2_linesAreAsLong st1 = some x) : cQ l G yX2_linesAreAsLong cX2_linesAreAsLong 2 (some FieldType.boolean) rm_X2_linesAreAsLong [.ref (q1 5)] (oset LX10 G q1 st1 h) (mQi G (fun r h1 => r = x ∧ h1 = oset LX10 G q1 st1 h)) := by
  refine mp_of (by decide +kernel) (Nat.le_of_ble_eq_true rfl) ?_
  intro p e s m below meth c X hr hlk hH hname ls hl
  dsimp only [f_X2_linesAreAsLong] at hF
  replace hl : lv_has ls 2 [(0, .ref (q1 5))] := hl
  refine lv_iconst (v := 1) X.x X.b (dk DX2_linesAreAsLong_0 0 rfl) (by decide) ?_
  refine lv_istore_n (lv' := [(1, .int 1), (0, .ref (q1 5))]) X.x X.b (dk DX2_linesAreAsLong_0 1 rfl) rfl hl (by decide) rfl (fun ls hl => ?_)
  replace hl : lv_has ls 2 [(0, .ref (q1 5)), (1, .int 1)] := lv_sub hl [1, 0] rfl
  obtain ⟨x17, e18, hF⟩ := bd hF
  replace hl : lv_has ls 2 [(0, .ref (q1 5)), (1, .int 1)] := lv_sub hl [0, 1] rfl
  refine w_X2_linesAreAsLong_2 hq1 X st1 _ _ e18 _ _ _ hH hl (fun hk H locs ls hH hl => ?_) (fun hk H locs ls hH hl => ?_)
  · subst hk
    replace hF := if_t hF rfl
    refine lv_iconst (v := 0) X.x X.b (dk DX2_linesAreAsLong_0 15 rfl) (by decide) ?_
    cases sm hF
    exact mr_zret X hr hlk hH rfl ⟨rfl, rfl⟩ (dk DX2_linesAreAsLong_0 16 rfl)
  · subst hk
    replace hF := if_f hF (by decide)
    refine lv_iconst (v := 1) X.x X.b (dk DX2_linesAreAsLong_0 19 rfl) (by decide) ?_
    cases sm hF
    exact mr_zret X hr hlk hH rfl ⟨rfl, rfl⟩ (dk DX2_linesAreAsLong_0 20 rfl)
-- X2_pointsHaveAsMany
abbrev rm_X2_pointsHaveAsMany : Room := { frames := 1, cells := 0, slots := 0, locals := 21 }
theorem hd_X2_pointsHaveAsMany : mHd yX2_pointsHaveAsMany 1 := ⟨by decide +kernel, by decide +kernel, by decide +kernel⟩
theorem DX2_pointsHaveAsMany_0 : ∀ t ∈ ([(0, .iconst 1, 1), (1, .istore_n 1, 1), (2, .iload_n 1, 1), (3, .aload_n 0, 1), (4, .getfield 40, 3), (7, .if_icmp .ge 30, 3), (10, .aload_n 0, 1), (11, .iload_n 1, 1), (12, .invokevirtual 43, 3), (15, .invokestatic 34, 3), (18, .aload_n 0, 1), (19, .iconst 0, 1), (20, .invokevirtual 43, 3), (23, .invokestatic 34, 3), (26, .if_icmp .eq 5, 3), (29, .iconst 0, 1), (30, .ireturn, 1), (31, .iinc 1 1, 3), (34, .goto (-32), 3), (37, .iconst 1, 1), (38, .ireturn, 1)] : List (Nat × Instr × Nat)), decode cX2_pointsHaveAsMany t.1 = .ok (t.2.1, t.2.2) := by decide +kernel
noncomputable def f_X2_pointsHaveAsMany_2 (s_o1 : OS) : Int32 → Option ((Int32) ⊕ (Nat)) := fun b1 => (if (s_o1.1 0) ≤ b1 then some (.inr 1) else (f_X10_throughAt s_o1 b1).bind (fun x2 => (f_J13_bitCount_95d88 x2).bind (fun x5 => (f_X10_throughAt s_o1 0).bind (fun x8 => (f_J13_bitCount_95d88 x8).bind (fun x11 => (if x5 = x11 then bnd (b1 + 1 : Int32) (fun v15 => some (.inl v15)) else some (.inr 0)))))))
noncomputable def f_X2_pointsHaveAsMany (st1 : OS) : Option (Int32) := (lpv (f_X2_pointsHaveAsMany_2 st1) 1).bind (fun x17 => (if x17 = 0 then some 0 else some 1))
set_option maxHeartbeats 4000000 in
set_option maxRecDepth 100000 in
theorem w_X2_pointsHaveAsMany_2 {p : Program} {l : Launch} {e : Env} {s : State} {m : MethodId} {args : Array Value} {below : List Frame} {meth : Method} {c : Code} {Q : State → Prop} {G : mG} {h : mM} {q1 : Nat → Nat} (hq1 : oinj LX10 q1) (X : mX G p m c cX2_pointsHaveAsMany 2 s args RX2) (s_o1 : OS) : ∀ (z : Int32) (r : Nat), lpv (f_X2_pointsHaveAsMany_2 s_o1) z = some r → ∀ (H : Heap) (locs : List Loc) (ls : Array Slot), mH G (oset LX10 G q1 s_o1 h) s.heap H locs → lv_has ls 2 [(0, .ref (q1 5)), (1, .int z)] → (r = 0 → ∀ (H : Heap) (locs : List Loc) (ls : Array Slot), mH G (oset LX10 G q1 s_o1 h) s.heap H locs → lv_has ls 2 [] → W p l e rm_X2_pointsHaveAsMany s m args below meth c H locs 0 0 Q (F0 m 29 ls [])) → (r = 1 → ∀ (H : Heap) (locs : List Loc) (ls : Array Slot), mH G (oset LX10 G q1 s_o1 h) s.heap H locs → lv_has ls 2 [] → W p l e rm_X2_pointsHaveAsMany s m args below meth c H locs 0 0 Q (F0 m 37 ls [])) → W p l e rm_X2_pointsHaveAsMany s m args below meth c H locs 0 0 Q (F0 m 2 ls []) := by
  refine lpv_rec ?_
  intro z r x hF hx H locs ls hH hl K0 K1
  obtain ⟨b1, hz⟩ : ∃ y, y = z := ⟨_, rfl⟩
  subst hz
  dsimp only [f_X2_pointsHaveAsMany_2] at hF
  refine lv_iload_n X.x X.b (dk DX2_pointsHaveAsMany_0 2 rfl) rfl (lv_at hl 1 rfl) ?_
  refine lv_aload_n X.x X.b (dk DX2_pointsHaveAsMany_0 3 rfl) rfl (lv_at hl 0 rfl) ?_
  refine og_getIN OX10 X hq1 hH 0 (by decide) rfl kFN_X2_40 (dk DX2_pointsHaveAsMany_0 4 rfl) ?_
  refine lv_icmp_ge (tgt := 37) X.x X.b (dk DX2_pointsHaveAsMany_0 5 rfl) (by decide) (fun c1 => ?_) (fun c1 => ?_)
  · replace hF := if_t hF c1
    have hr9 := lp_r hF hx
    subst hr9
    exact K1 rfl _ _ _ hH (lv_sub hl [] rfl)
  · replace hF := if_f hF c1
    refine lv_aload_n X.x X.b (dk DX2_pointsHaveAsMany_0 6 rfl) rfl (lv_at hl 0 rfl) ?_
    refine lv_iload_n X.x X.b (dk DX2_pointsHaveAsMany_0 7 rfl) rfl (lv_at hl 1 rfl) ?_
    obtain ⟨x2, e3, hF⟩ := bd hF
    refine mr_cl0 hH ⟨rfl, rfl⟩ (mr_runV (As := [.int b1]) (rest := []) X hH (c_X10_throughAt hq1 e3) ((oset_at hq1 (Nat.le_refl _) ohas_N).trans (congrArg some ocell_N)) OX10.1 kM_X2_43 kI_X10_throughAt kS_X10_throughAt kN_X10 kC_X10_throughAt hd_X10_throughAt ⟨Nat.le_of_ble_eq_true rfl, Nat.le_of_ble_eq_true rfl⟩ rfl hl.1 (Nat.le_of_ble_eq_true rfl) (dk DX2_pointsHaveAsMany_0 8 rfl) ⟨Nat.zero_le _, Nat.zero_le _⟩) (fun r h1 H locs hp hH => ?_)
    obtain ⟨hr1, hr2⟩ := hp; rw [hr1]; rw [hr2] at hH; clear hr1 hr2
    obtain ⟨x5, e6, hF⟩ := bd hF
    refine mr_ci0 hH ⟨rfl, rfl⟩ (mr_runS (As := [.long x2]) (rest := []) X hH (c_J13_bitCount_95d88 e6) kM_X2_34 kT_J13_bitCount_95d88 kN_J13 kC_J13_bitCount_95d88 hd_J13_bitCount_95d88 ⟨Nat.le_of_ble_eq_true rfl, Nat.le_of_ble_eq_true rfl⟩ rfl hl.1 (Nat.le_of_ble_eq_true rfl) (dk DX2_pointsHaveAsMany_0 9 rfl) ⟨Nat.zero_le _, Nat.zero_le _⟩) (fun r h1 H locs hp hH => ?_)
    obtain ⟨hr1, hr2⟩ := hp; rw [hr1]; rw [hr2] at hH; clear hr1 hr2
    refine lv_aload_n X.x X.b (dk DX2_pointsHaveAsMany_0 10 rfl) rfl (lv_at hl 0 rfl) ?_
    refine lv_iconst (v := 0) X.x X.b (dk DX2_pointsHaveAsMany_0 11 rfl) (by decide) ?_
    obtain ⟨x8, e9, hF⟩ := bd hF
    refine mr_cl0 hH ⟨rfl, rfl⟩ (mr_runV (As := [.int 0]) (rest := [.int x5]) X hH (c_X10_throughAt hq1 e9) ((oset_at hq1 (Nat.le_refl _) ohas_N).trans (congrArg some ocell_N)) OX10.1 kM_X2_43 kI_X10_throughAt kS_X10_throughAt kN_X10 kC_X10_throughAt hd_X10_throughAt ⟨Nat.le_of_ble_eq_true rfl, Nat.le_of_ble_eq_true rfl⟩ rfl hl.1 (Nat.le_of_ble_eq_true rfl) (dk DX2_pointsHaveAsMany_0 12 rfl) ⟨Nat.zero_le _, Nat.zero_le _⟩) (fun r h1 H locs hp hH => ?_)
    obtain ⟨hr1, hr2⟩ := hp; rw [hr1]; rw [hr2] at hH; clear hr1 hr2
    obtain ⟨x11, e12, hF⟩ := bd hF
    refine mr_ci0 hH ⟨rfl, rfl⟩ (mr_runS (As := [.long x8]) (rest := [.int x5]) X hH (c_J13_bitCount_95d88 e12) kM_X2_34 kT_J13_bitCount_95d88 kN_J13 kC_J13_bitCount_95d88 hd_J13_bitCount_95d88 ⟨Nat.le_of_ble_eq_true rfl, Nat.le_of_ble_eq_true rfl⟩ rfl hl.1 (Nat.le_of_ble_eq_true rfl) (dk DX2_pointsHaveAsMany_0 13 rfl) ⟨Nat.zero_le _, Nat.zero_le _⟩) (fun r h1 H locs hp hH => ?_)
    obtain ⟨hr1, hr2⟩ := hp; rw [hr1]; rw [hr2] at hH; clear hr1 hr2
    refine lv_icmp_eq (tgt := 31) X.x X.b (dk DX2_pointsHaveAsMany_0 14 rfl) (by decide) (fun c14 => ?_) (fun c14 => ?_)
    · replace hF := if_t hF c14
      obtain ⟨v15, e16⟩ : ∃ y : Int32, y = b1 + 1 := ⟨_, rfl⟩
      replace hF := bnd_e hF e16
      refine lv_iinc (v := v15) (lv' := [(1, .int v15), (0, .ref (q1 5))]) X.x X.b (dk DX2_pointsHaveAsMany_0 17 rfl) hl (k := 1) rfl (by rw [e16]; rfl) (by decide) rfl (fun ls hl => ?_)
      replace hl : lv_has ls 2 [(0, .ref (q1 5)), (1, .int v15)] := lv_sub hl [1, 0] rfl
      refine lv_goto (tgt := 2) X.x X.b (dk DX2_pointsHaveAsMany_0 18 rfl) (by decide) ?_
      exact (lp_l hF hx) _ _ _ hH (lv_sub hl [0, 1] rfl) K0 K1
    · replace hF := if_f hF c14
      have hr9 := lp_r hF hx
      subst hr9
      exact K0 rfl _ _ _ hH (lv_sub hl [] rfl)
set_option maxHeartbeats 4000000 in
set_option maxRecDepth 100000 in
theorem c_X2_pointsHaveAsMany {l : Launch} {G : mG} {h : mM} {q1 : Nat → Nat} (hq1 : oinj LX10 q1) {st1 : OS} {x : Int32} (hF : f_X2_pointsHaveAsMany st1 = some x) : cQ l G yX2_pointsHaveAsMany cX2_pointsHaveAsMany 2 (some FieldType.boolean) rm_X2_pointsHaveAsMany [.ref (q1 5)] (oset LX10 G q1 st1 h) (mQi G (fun r h1 => r = x ∧ h1 = oset LX10 G q1 st1 h)) := by
  refine mp_of (by decide +kernel) (Nat.le_of_ble_eq_true rfl) ?_
  intro p e s m below meth c X hr hlk hH hname ls hl
  dsimp only [f_X2_pointsHaveAsMany] at hF
  replace hl : lv_has ls 2 [(0, .ref (q1 5))] := hl
  refine lv_iconst (v := 1) X.x X.b (dk DX2_pointsHaveAsMany_0 0 rfl) (by decide) ?_
  refine lv_istore_n (lv' := [(1, .int 1), (0, .ref (q1 5))]) X.x X.b (dk DX2_pointsHaveAsMany_0 1 rfl) rfl hl (by decide) rfl (fun ls hl => ?_)
  replace hl : lv_has ls 2 [(0, .ref (q1 5)), (1, .int 1)] := lv_sub hl [1, 0] rfl
  obtain ⟨x17, e18, hF⟩ := bd hF
  replace hl : lv_has ls 2 [(0, .ref (q1 5)), (1, .int 1)] := lv_sub hl [0, 1] rfl
  refine w_X2_pointsHaveAsMany_2 hq1 X st1 _ _ e18 _ _ _ hH hl (fun hk H locs ls hH hl => ?_) (fun hk H locs ls hH hl => ?_)
  · subst hk
    replace hF := if_t hF rfl
    refine lv_iconst (v := 0) X.x X.b (dk DX2_pointsHaveAsMany_0 15 rfl) (by decide) ?_
    cases sm hF
    exact mr_zret X hr hlk hH rfl ⟨rfl, rfl⟩ (dk DX2_pointsHaveAsMany_0 16 rfl)
  · subst hk
    replace hF := if_f hF (by decide)
    refine lv_iconst (v := 1) X.x X.b (dk DX2_pointsHaveAsMany_0 19 rfl) (by decide) ?_
    cases sm hF
    exact mr_zret X hr hlk hH rfl ⟨rfl, rfl⟩ (dk DX2_pointsHaveAsMany_0 20 rfl)
-- X10_nearAt
abbrev rm_X10_nearAt : Room := { frames := 0, cells := 0, slots := 0, locals := 0 }
theorem hd_X10_nearAt : mHd yX10_nearAt 1 := ⟨by decide +kernel, by decide +kernel, by decide +kernel⟩
theorem DX10_nearAt_0 : ∀ t ∈ ([(0, .iload_n 1, 1), (1, .ifCond .lt 26, 3), (4, .iload_n 1, 1), (5, .aload_n 0, 1), (6, .getfield 29, 3), (9, .if_icmp .ge 18, 3), (12, .iload_n 1, 1), (13, .bipush 64, 2), (15, .if_icmp .ge 12, 3), (18, .aload_n 0, 1), (19, .getfield 15, 3), (22, .iload_n 1, 1), (23, .laload, 1), (24, .goto 4, 3), (27, .lconst 0, 1), (28, .lreturn, 1)] : List (Nat × Instr × Nat)), decode cX10_nearAt t.1 = .ok (t.2.1, t.2.2) := by decide +kernel
noncomputable def f_X10_nearAt (st : OS) (a0 : Int32) : Option (Int64) := (if a0 < 0 then some 0 else (if (st.1 0) ≤ a0 then some 0 else (if 64 ≤ a0 then some 0 else if inb a0 64 = true then some (st.2.2.2 3 (a0 : Int32).toNatClampNeg) else none)))
set_option maxHeartbeats 4000000 in
set_option maxRecDepth 100000 in
theorem c_X10_nearAt {l : Launch} {G : mG} {h : mM} {q : Nat → Nat} (hq : oinj LX10 q) {st : OS} {a0 : Int32} {x : Int64} (hF : f_X10_nearAt st a0 = some x) : cQ l G yX10_nearAt cX10_nearAt 2 (some FieldType.long) rm_X10_nearAt [.ref (q 5), .int a0] (oset LX10 G q st h) (mQl G (fun r h1 => r = x ∧ h1 = oset LX10 G q st h)) := by
  refine mp_of (by decide +kernel) (Nat.le_of_ble_eq_true rfl) ?_
  intro p e s m below meth c X hr hlk hH hname ls hl
  dsimp only [f_X10_nearAt] at hF
  replace hl : lv_has ls 2 [(0, .ref (q 5)), (1, .int a0)] := hl
  refine lv_iload_n X.x X.b (dk DX10_nearAt_0 0 rfl) rfl (lv_at hl 1 rfl) ?_
  refine lv_if_lt (tgt := 27) X.x X.b (dk DX10_nearAt_0 1 rfl) (by decide) (fun c1 => ?_) (fun c1 => ?_)
  · replace hF := if_t hF c1
    refine lv_lconst (v := 0) X.x X.b (dk DX10_nearAt_0 14 rfl) (by decide) ?_
    cases sm hF
    exact mr_lret X hr hlk hH ⟨rfl, rfl⟩ (dk DX10_nearAt_0 15 rfl)
  · replace hF := if_f hF c1
    refine lv_iload_n X.x X.b (dk DX10_nearAt_0 2 rfl) rfl (lv_at hl 1 rfl) ?_
    refine lv_aload_n X.x X.b (dk DX10_nearAt_0 3 rfl) rfl (lv_at hl 0 rfl) ?_
    refine og_getI OX10 X hq hH 0 (by decide) rfl kF_X10_29 (dk DX10_nearAt_0 4 rfl) ?_
    refine lv_icmp_ge (tgt := 27) X.x X.b (dk DX10_nearAt_0 5 rfl) (by decide) (fun c2 => ?_) (fun c2 => ?_)
    · replace hF := if_t hF c2
      refine lv_lconst (v := 0) X.x X.b (dk DX10_nearAt_0 14 rfl) (by decide) ?_
      cases sm hF
      exact mr_lret X hr hlk hH ⟨rfl, rfl⟩ (dk DX10_nearAt_0 15 rfl)
    · replace hF := if_f hF c2
      refine lv_iload_n X.x X.b (dk DX10_nearAt_0 6 rfl) rfl (lv_at hl 1 rfl) ?_
      refine lv_bipush (v := 64) X.x X.b (dk DX10_nearAt_0 7 rfl) (by decide) ?_
      refine lv_icmp_ge (tgt := 27) X.x X.b (dk DX10_nearAt_0 8 rfl) (by decide) (fun c3 => ?_) (fun c3 => ?_)
      · replace hF := if_t hF c3
        refine lv_lconst (v := 0) X.x X.b (dk DX10_nearAt_0 14 rfl) (by decide) ?_
        cases sm hF
        exact mr_lret X hr hlk hH ⟨rfl, rfl⟩ (dk DX10_nearAt_0 15 rfl)
      · replace hF := if_f hF c3
        refine lv_aload_n X.x X.b (dk DX10_nearAt_0 9 rfl) rfl (lv_at hl 0 rfl) ?_
        refine og_getR (t := 1) OX10 X hq hH 3 (by decide) rfl kF_X10_15 (dk DX10_nearAt_0 10 rfl) ?_
        refine lv_iload_n X.x X.b (dk DX10_nearAt_0 11 rfl) rfl (lv_at hl 1 rfl) ?_
        obtain ⟨c4, hF⟩ := gd hF
        refine og_lald X hq hH 3 (by decide) rfl (inb_in c4) (dk DX10_nearAt_0 12 rfl) ?_
        refine lv_goto (tgt := 28) X.x X.b (dk DX10_nearAt_0 13 rfl) (by decide) ?_
        cases sm hF
        exact mr_lret X hr hlk hH ⟨rfl, rfl⟩ (dk DX10_nearAt_0 15 rfl)
-- X2_justOneIsJoined
abbrev rm_X2_justOneIsJoined : Room := { frames := 1, cells := 0, slots := 0, locals := 22 }
theorem hd_X2_justOneIsJoined : mHd yX2_justOneIsJoined 1 := ⟨by decide +kernel, by decide +kernel, by decide +kernel⟩
theorem DX2_justOneIsJoined_0 : ∀ t ∈ ([(0, .iconst 0, 1), (1, .istore_n 1, 1), (2, .iload_n 1, 1), (3, .aload_n 0, 1), (4, .getfield 40, 3), (7, .if_icmp .ge 63, 3), (10, .aload_n 0, 1), (11, .iload_n 1, 1), (12, .invokevirtual 46, 3), (15, .lstore_n 2, 1), (16, .iconst 0, 1), (17, .istore 4, 2), (19, .iload 4, 2), (21, .aload_n 0, 1), (22, .getfield 24, 3), (25, .if_icmp .ge 39, 3), (28, .aload_n 0, 1), (29, .iload 4, 2), (31, .invokevirtual 30, 3), (34, .iload_n 1, 1), (35, .invokestatic 49, 3), (38, .ifCond .ne 20, 3), (41, .lload_n 2, 1), (42, .aload_n 0, 1), (43, .iload 4, 2), (45, .invokevirtual 30, 3), (48, .land, 1), (49, .invokestatic 34, 3), (52, .iconst 1, 1), (53, .if_icmp .eq 5, 3), (56, .iconst 0, 1), (57, .ireturn, 1), (58, .iinc 4 1, 3), (61, .goto (-42), 3), (64, .iinc 1 1, 3), (67, .goto (-65), 3), (70, .iconst 1, 1), (71, .ireturn, 1)] : List (Nat × Instr × Nat)), decode cX2_justOneIsJoined t.1 = .ok (t.2.1, t.2.2) := by decide +kernel
noncomputable def f_X2_justOneIsJoined_19 (s_o1 : OS) (b1 : Int32) (b2 : Int64) : Int32 → Option ((Int32) ⊕ (Nat)) := fun b4 => (if (s_o1.1 1) ≤ b4 then some (.inr 1) else (f_X10_setAt s_o1 b4).bind (fun x6 => (f_X10_has x6 b1).bind (fun x9 => (if x9 = 0 then (f_X10_setAt s_o1 b4).bind (fun x15 => (f_J13_bitCount_95d88 (b2 &&& x15)).bind (fun x18 => (if x18 = 1 then bnd (b4 + 1 : Int32) (fun v22 => some (.inl v22)) else some (.inr 0)))) else bnd (b4 + 1 : Int32) (fun v13 => some (.inl v13))))))
noncomputable def f_X2_justOneIsJoined_2 (s_o1 : OS) : Int32 → Option ((Int32) ⊕ (Nat)) := fun b1 => (if (s_o1.1 0) ≤ b1 then some (.inr 1) else (f_X10_nearAt s_o1 b1).bind (fun x2 => (lpv (f_X2_justOneIsJoined_19 s_o1 b1 x2) 0).bind (fun x24 => (if x24 = 0 then some (.inr 0) else bnd (b1 + 1 : Int32) (fun v27 => some (.inl v27))))))
noncomputable def f_X2_justOneIsJoined (st1 : OS) : Option (Int32) := (lpv (f_X2_justOneIsJoined_2 st1) 0).bind (fun x29 => (if x29 = 0 then some 0 else some 1))
set_option maxHeartbeats 4000000 in
set_option maxRecDepth 100000 in
theorem w_X2_justOneIsJoined_19 {p : Program} {l : Launch} {e : Env} {s : State} {m : MethodId} {args : Array Value} {below : List Frame} {meth : Method} {c : Code} {Q : State → Prop} {G : mG} {h : mM} {q1 : Nat → Nat} (hq1 : oinj LX10 q1) (X : mX G p m c cX2_justOneIsJoined 5 s args RX2) (s_o1 : OS) (b1 : Int32) (b2 : Int64) : ∀ (z : Int32) (r : Nat), lpv (f_X2_justOneIsJoined_19 s_o1 b1 b2) z = some r → ∀ (H : Heap) (locs : List Loc) (ls : Array Slot), mH G (oset LX10 G q1 s_o1 h) s.heap H locs → lv_has ls 5 [(0, .ref (q1 5)), (1, .int b1), (2, .long b2), (4, .int z)] → (r = 0 → ∀ (H : Heap) (locs : List Loc) (ls : Array Slot), mH G (oset LX10 G q1 s_o1 h) s.heap H locs → lv_has ls 5 [] → W p l e rm_X2_justOneIsJoined s m args below meth c H locs 0 0 Q (F0 m 56 ls [])) → (r = 1 → ∀ (H : Heap) (locs : List Loc) (ls : Array Slot), mH G (oset LX10 G q1 s_o1 h) s.heap H locs → lv_has ls 5 [(0, .ref (q1 5)), (1, .int b1)] → W p l e rm_X2_justOneIsJoined s m args below meth c H locs 0 0 Q (F0 m 64 ls [])) → W p l e rm_X2_justOneIsJoined s m args below meth c H locs 0 0 Q (F0 m 19 ls []) := by
  refine lpv_rec ?_
  intro z r x hF hx H locs ls hH hl K0 K1
  obtain ⟨b4, hz⟩ : ∃ y, y = z := ⟨_, rfl⟩
  subst hz
  dsimp only [f_X2_justOneIsJoined_19] at hF
  refine lv_iload X.x X.b (dk DX2_justOneIsJoined_0 12 rfl) (lv_at hl 3 rfl) ?_
  refine lv_aload_n X.x X.b (dk DX2_justOneIsJoined_0 13 rfl) rfl (lv_at hl 0 rfl) ?_
  refine og_getIN OX10 X hq1 hH 1 (by decide) rfl kFN_X2_24 (dk DX2_justOneIsJoined_0 14 rfl) ?_
  refine lv_icmp_ge (tgt := 64) X.x X.b (dk DX2_justOneIsJoined_0 15 rfl) (by decide) (fun c5 => ?_) (fun c5 => ?_)
  · replace hF := if_t hF c5
    have hr9 := lp_r hF hx
    subst hr9
    exact K1 rfl _ _ _ hH (lv_sub hl [0, 1] rfl)
  · replace hF := if_f hF c5
    refine lv_aload_n X.x X.b (dk DX2_justOneIsJoined_0 16 rfl) rfl (lv_at hl 0 rfl) ?_
    refine lv_iload X.x X.b (dk DX2_justOneIsJoined_0 17 rfl) (lv_at hl 3 rfl) ?_
    obtain ⟨x6, e7, hF⟩ := bd hF
    refine mr_cl0 hH ⟨rfl, rfl⟩ (mr_runV (As := [.int b4]) (rest := []) X hH (c_X10_setAt hq1 e7) ((oset_at hq1 (Nat.le_refl _) ohas_N).trans (congrArg some ocell_N)) OX10.1 kM_X2_30 kI_X10_setAt kS_X10_setAt kN_X10 kC_X10_setAt hd_X10_setAt ⟨Nat.le_of_ble_eq_true rfl, Nat.le_of_ble_eq_true rfl⟩ rfl hl.1 (Nat.le_of_ble_eq_true rfl) (dk DX2_justOneIsJoined_0 18 rfl) ⟨Nat.zero_le _, Nat.zero_le _⟩) (fun r h1 H locs hp hH => ?_)
    obtain ⟨hr1, hr2⟩ := hp; rw [hr1]; rw [hr2] at hH; clear hr1 hr2
    refine lv_iload_n X.x X.b (dk DX2_justOneIsJoined_0 19 rfl) rfl (lv_at hl 1 rfl) ?_
    obtain ⟨x9, e10, hF⟩ := bd hF
    refine mr_ci0 hH ⟨rfl, rfl⟩ (mr_runS (As := [.long x6, .int b1]) (rest := []) X hH (c_X10_has e10) kM_X2_49 kT_X10_has kN_X10 kC_X10_has hd_X10_has ⟨Nat.le_of_ble_eq_true rfl, Nat.le_of_ble_eq_true rfl⟩ rfl hl.1 (Nat.le_of_ble_eq_true rfl) (dk DX2_justOneIsJoined_0 20 rfl) ⟨Nat.zero_le _, Nat.zero_le _⟩) (fun r h1 H locs hp hH => ?_)
    obtain ⟨hr1, hr2⟩ := hp; rw [hr1]; rw [hr2] at hH; clear hr1 hr2
    refine lv_if_ne (tgt := 58) X.x X.b (dk DX2_justOneIsJoined_0 21 rfl) (by decide) (fun c12 => ?_) (fun c12 => ?_)
    · replace hF := if_f hF c12
      obtain ⟨v13, e14⟩ : ∃ y : Int32, y = b4 + 1 := ⟨_, rfl⟩
      replace hF := bnd_e hF e14
      refine lv_iinc (v := v13) (lv' := [(4, .int v13), (0, .ref (q1 5)), (1, .int b1), (2, .long b2)]) X.x X.b (dk DX2_justOneIsJoined_0 32 rfl) hl (k := 3) rfl (by rw [e14]; rfl) (by decide) rfl (fun ls hl => ?_)
      replace hl : lv_has ls 5 [(0, .ref (q1 5)), (1, .int b1), (2, .long b2), (4, .int v13)] := lv_sub hl [1, 2, 3, 0] rfl
      refine lv_goto (tgt := 19) X.x X.b (dk DX2_justOneIsJoined_0 33 rfl) (by decide) ?_
      exact (lp_l hF hx) _ _ _ hH (lv_sub hl [0, 1, 2, 3] rfl) K0 K1
    · replace hF := if_t hF c12
      refine lv_lload_n X.x X.b (dk DX2_justOneIsJoined_0 22 rfl) rfl (lv_at hl 2 rfl) ?_
      refine lv_aload_n X.x X.b (dk DX2_justOneIsJoined_0 23 rfl) rfl (lv_at hl 0 rfl) ?_
      refine lv_iload X.x X.b (dk DX2_justOneIsJoined_0 24 rfl) (lv_at hl 3 rfl) ?_
      obtain ⟨x15, e16, hF⟩ := bd hF
      refine mr_cl0 hH ⟨rfl, rfl⟩ (mr_runV (As := [.int b4]) (rest := [.long b2]) X hH (c_X10_setAt hq1 e16) ((oset_at hq1 (Nat.le_refl _) ohas_N).trans (congrArg some ocell_N)) OX10.1 kM_X2_30 kI_X10_setAt kS_X10_setAt kN_X10 kC_X10_setAt hd_X10_setAt ⟨Nat.le_of_ble_eq_true rfl, Nat.le_of_ble_eq_true rfl⟩ rfl hl.1 (Nat.le_of_ble_eq_true rfl) (dk DX2_justOneIsJoined_0 25 rfl) ⟨Nat.zero_le _, Nat.zero_le _⟩) (fun r h1 H locs hp hH => ?_)
      obtain ⟨hr1, hr2⟩ := hp; rw [hr1]; rw [hr2] at hH; clear hr1 hr2
      refine lv_land X.x X.b (dk DX2_justOneIsJoined_0 26 rfl) ?_
      obtain ⟨x18, e19, hF⟩ := bd hF
      refine mr_ci0 hH ⟨rfl, rfl⟩ (mr_runS (As := [.long (b2 &&& x15)]) (rest := []) X hH (c_J13_bitCount_95d88 e19) kM_X2_34 kT_J13_bitCount_95d88 kN_J13 kC_J13_bitCount_95d88 hd_J13_bitCount_95d88 ⟨Nat.le_of_ble_eq_true rfl, Nat.le_of_ble_eq_true rfl⟩ rfl hl.1 (Nat.le_of_ble_eq_true rfl) (dk DX2_justOneIsJoined_0 27 rfl) ⟨Nat.zero_le _, Nat.zero_le _⟩) (fun r h1 H locs hp hH => ?_)
      obtain ⟨hr1, hr2⟩ := hp; rw [hr1]; rw [hr2] at hH; clear hr1 hr2
      refine lv_iconst (v := 1) X.x X.b (dk DX2_justOneIsJoined_0 28 rfl) (by decide) ?_
      refine lv_icmp_eq (tgt := 58) X.x X.b (dk DX2_justOneIsJoined_0 29 rfl) (by decide) (fun c21 => ?_) (fun c21 => ?_)
      · replace hF := if_t hF c21
        obtain ⟨v22, e23⟩ : ∃ y : Int32, y = b4 + 1 := ⟨_, rfl⟩
        replace hF := bnd_e hF e23
        refine lv_iinc (v := v22) (lv' := [(4, .int v22), (0, .ref (q1 5)), (1, .int b1), (2, .long b2)]) X.x X.b (dk DX2_justOneIsJoined_0 32 rfl) hl (k := 3) rfl (by rw [e23]; rfl) (by decide) rfl (fun ls hl => ?_)
        replace hl : lv_has ls 5 [(0, .ref (q1 5)), (1, .int b1), (2, .long b2), (4, .int v22)] := lv_sub hl [1, 2, 3, 0] rfl
        refine lv_goto (tgt := 19) X.x X.b (dk DX2_justOneIsJoined_0 33 rfl) (by decide) ?_
        exact (lp_l hF hx) _ _ _ hH (lv_sub hl [0, 1, 2, 3] rfl) K0 K1
      · replace hF := if_f hF c21
        have hr9 := lp_r hF hx
        subst hr9
        exact K0 rfl _ _ _ hH (lv_sub hl [] rfl)
set_option maxHeartbeats 4000000 in
set_option maxRecDepth 100000 in
theorem w_X2_justOneIsJoined_2 {p : Program} {l : Launch} {e : Env} {s : State} {m : MethodId} {args : Array Value} {below : List Frame} {meth : Method} {c : Code} {Q : State → Prop} {G : mG} {h : mM} {q1 : Nat → Nat} (hq1 : oinj LX10 q1) (X : mX G p m c cX2_justOneIsJoined 5 s args RX2) (s_o1 : OS) : ∀ (z : Int32) (r : Nat), lpv (f_X2_justOneIsJoined_2 s_o1) z = some r → ∀ (H : Heap) (locs : List Loc) (ls : Array Slot), mH G (oset LX10 G q1 s_o1 h) s.heap H locs → lv_has ls 5 [(0, .ref (q1 5)), (1, .int z)] → (r = 0 → ∀ (H : Heap) (locs : List Loc) (ls : Array Slot), mH G (oset LX10 G q1 s_o1 h) s.heap H locs → lv_has ls 5 [] → W p l e rm_X2_justOneIsJoined s m args below meth c H locs 0 0 Q (F0 m 56 ls [])) → (r = 1 → ∀ (H : Heap) (locs : List Loc) (ls : Array Slot), mH G (oset LX10 G q1 s_o1 h) s.heap H locs → lv_has ls 5 [] → W p l e rm_X2_justOneIsJoined s m args below meth c H locs 0 0 Q (F0 m 70 ls [])) → W p l e rm_X2_justOneIsJoined s m args below meth c H locs 0 0 Q (F0 m 2 ls []) := by
  refine lpv_rec ?_
  intro z r x hF hx H locs ls hH hl K0 K1
  obtain ⟨b1, hz⟩ : ∃ y, y = z := ⟨_, rfl⟩
  subst hz
  dsimp only [f_X2_justOneIsJoined_2] at hF
  refine lv_iload_n X.x X.b (dk DX2_justOneIsJoined_0 2 rfl) rfl (lv_at hl 1 rfl) ?_
  refine lv_aload_n X.x X.b (dk DX2_justOneIsJoined_0 3 rfl) rfl (lv_at hl 0 rfl) ?_
  refine og_getIN OX10 X hq1 hH 0 (by decide) rfl kFN_X2_40 (dk DX2_justOneIsJoined_0 4 rfl) ?_
  refine lv_icmp_ge (tgt := 70) X.x X.b (dk DX2_justOneIsJoined_0 5 rfl) (by decide) (fun c1 => ?_) (fun c1 => ?_)
  · replace hF := if_t hF c1
    have hr9 := lp_r hF hx
    subst hr9
    exact K1 rfl _ _ _ hH (lv_sub hl [] rfl)
  · replace hF := if_f hF c1
    refine lv_aload_n X.x X.b (dk DX2_justOneIsJoined_0 6 rfl) rfl (lv_at hl 0 rfl) ?_
    refine lv_iload_n X.x X.b (dk DX2_justOneIsJoined_0 7 rfl) rfl (lv_at hl 1 rfl) ?_
    obtain ⟨x2, e3, hF⟩ := bd hF
    refine mr_cl0 hH ⟨rfl, rfl⟩ (mr_runV (As := [.int b1]) (rest := []) X hH (c_X10_nearAt hq1 e3) ((oset_at hq1 (Nat.le_refl _) ohas_N).trans (congrArg some ocell_N)) OX10.1 kM_X2_46 kI_X10_nearAt kS_X10_nearAt kN_X10 kC_X10_nearAt hd_X10_nearAt ⟨Nat.le_of_ble_eq_true rfl, Nat.le_of_ble_eq_true rfl⟩ rfl hl.1 (Nat.le_of_ble_eq_true rfl) (dk DX2_justOneIsJoined_0 8 rfl) ⟨Nat.zero_le _, Nat.zero_le _⟩) (fun r h1 H locs hp hH => ?_)
    obtain ⟨hr1, hr2⟩ := hp; rw [hr1]; rw [hr2] at hH; clear hr1 hr2
    refine lv_lstore_n (lv' := [(2, .long x2), (0, .ref (q1 5)), (1, .int b1)]) X.x X.b (dk DX2_justOneIsJoined_0 9 rfl) rfl hl (by decide) rfl (fun ls hl => ?_)
    replace hl : lv_has ls 5 [(0, .ref (q1 5)), (1, .int b1), (2, .long x2)] := lv_sub hl [1, 2, 0] rfl
    refine lv_iconst (v := 0) X.x X.b (dk DX2_justOneIsJoined_0 10 rfl) (by decide) ?_
    refine lv_istore (lv' := [(4, .int 0), (0, .ref (q1 5)), (1, .int b1), (2, .long x2)]) X.x X.b (dk DX2_justOneIsJoined_0 11 rfl) hl (by decide) rfl (fun ls hl => ?_)
    replace hl : lv_has ls 5 [(0, .ref (q1 5)), (1, .int b1), (2, .long x2), (4, .int 0)] := lv_sub hl [1, 2, 3, 0] rfl
    obtain ⟨x24, e25, hF⟩ := bd hF
    replace hl : lv_has ls 5 [(0, .ref (q1 5)), (1, .int b1), (2, .long x2), (4, .int 0)] := lv_sub hl [0, 1, 2, 3] rfl
    refine w_X2_justOneIsJoined_19 hq1 X s_o1 b1 x2 _ _ e25 _ _ _ hH hl (fun hk H locs ls hH hl => ?_) (fun hk H locs ls hH hl => ?_)
    · subst hk
      replace hF := if_t hF rfl
      have hr9 := lp_r hF hx
      subst hr9
      exact K0 rfl _ _ _ hH (lv_sub hl [] rfl)
    · subst hk
      replace hF := if_f hF (by decide)
      obtain ⟨v27, e28⟩ : ∃ y : Int32, y = b1 + 1 := ⟨_, rfl⟩
      replace hF := bnd_e hF e28
      refine lv_iinc (v := v27) (lv' := [(1, .int v27), (0, .ref (q1 5))]) X.x X.b (dk DX2_justOneIsJoined_0 34 rfl) hl (k := 1) rfl (by rw [e28]; rfl) (by decide) rfl (fun ls hl => ?_)
      replace hl : lv_has ls 5 [(0, .ref (q1 5)), (1, .int v27)] := lv_sub hl [1, 0] rfl
      refine lv_goto (tgt := 2) X.x X.b (dk DX2_justOneIsJoined_0 35 rfl) (by decide) ?_
      exact (lp_l hF hx) _ _ _ hH (lv_sub hl [0, 1] rfl) K0 K1
set_option maxHeartbeats 4000000 in
set_option maxRecDepth 100000 in
theorem c_X2_justOneIsJoined {l : Launch} {G : mG} {h : mM} {q1 : Nat → Nat} (hq1 : oinj LX10 q1) {st1 : OS} {x : Int32} (hF : f_X2_justOneIsJoined st1 = some x) : cQ l G yX2_justOneIsJoined cX2_justOneIsJoined 5 (some FieldType.boolean) rm_X2_justOneIsJoined [.ref (q1 5)] (oset LX10 G q1 st1 h) (mQi G (fun r h1 => r = x ∧ h1 = oset LX10 G q1 st1 h)) := by
  refine mp_of (by decide +kernel) (Nat.le_of_ble_eq_true rfl) ?_
  intro p e s m below meth c X hr hlk hH hname ls hl
  dsimp only [f_X2_justOneIsJoined] at hF
  replace hl : lv_has ls 5 [(0, .ref (q1 5))] := hl
  refine lv_iconst (v := 0) X.x X.b (dk DX2_justOneIsJoined_0 0 rfl) (by decide) ?_
  refine lv_istore_n (lv' := [(1, .int 0), (0, .ref (q1 5))]) X.x X.b (dk DX2_justOneIsJoined_0 1 rfl) rfl hl (by decide) rfl (fun ls hl => ?_)
  replace hl : lv_has ls 5 [(0, .ref (q1 5)), (1, .int 0)] := lv_sub hl [1, 0] rfl
  obtain ⟨x29, e30, hF⟩ := bd hF
  replace hl : lv_has ls 5 [(0, .ref (q1 5)), (1, .int 0)] := lv_sub hl [0, 1] rfl
  refine w_X2_justOneIsJoined_2 hq1 X st1 _ _ e30 _ _ _ hH hl (fun hk H locs ls hH hl => ?_) (fun hk H locs ls hH hl => ?_)
  · subst hk
    replace hF := if_t hF rfl
    refine lv_iconst (v := 0) X.x X.b (dk DX2_justOneIsJoined_0 30 rfl) (by decide) ?_
    cases sm hF
    exact mr_zret X hr hlk hH rfl ⟨rfl, rfl⟩ (dk DX2_justOneIsJoined_0 31 rfl)
  · subst hk
    replace hF := if_f hF (by decide)
    refine lv_iconst (v := 1) X.x X.b (dk DX2_justOneIsJoined_0 36 rfl) (by decide) ?_
    cases sm hF
    exact mr_zret X hr hlk hH rfl ⟨rfl, rfl⟩ (dk DX2_justOneIsJoined_0 37 rfl)
-- X2_firstBroken
abbrev rm_X2_firstBroken : Room := { frames := 2, cells := 0, slots := 0, locals := 46 }
theorem hd_X2_firstBroken : mHd yX2_firstBroken 1 := ⟨by decide +kernel, by decide +kernel, by decide +kernel⟩
theorem DX2_firstBroken_0 : ∀ t ∈ ([(0, .aload_n 0, 1), (1, .invokestatic 9, 3), (4, .ifCond .ne 5, 3), (7, .iconst 1, 1), (8, .ireturn, 1), (9, .aload_n 0, 1), (10, .invokestatic 15, 3), (13, .ifCond .ne 5, 3), (16, .iconst 2, 1), (17, .ireturn, 1), (18, .aload_n 0, 1), (19, .invokestatic 18, 3), (22, .ifCond .ne 5, 3), (25, .iconst 3, 1), (26, .ireturn, 1), (27, .aload_n 0, 1), (28, .invokestatic 21, 3), (31, .ifCond .eq 7, 3), (34, .iconst 0, 1), (35, .goto 4, 3), (38, .iconst 4, 1), (39, .ireturn, 1)] : List (Nat × Instr × Nat)), decode cX2_firstBroken t.1 = .ok (t.2.1, t.2.2) := by decide +kernel
noncomputable def f_X2_firstBroken (st1 : OS) : Option (Int32) := (f_X2_linesMeetOnce st1).bind (fun x1 => (if x1 = 0 then some 1 else (f_X2_linesAreAsLong st1).bind (fun x5 => (if x5 = 0 then some 2 else (f_X2_pointsHaveAsMany st1).bind (fun x9 => (if x9 = 0 then some 3 else (f_X2_justOneIsJoined st1).bind (fun x13 => (if x13 = 0 then some 4 else some 0))))))))
set_option maxHeartbeats 4000000 in
set_option maxRecDepth 100000 in
theorem c_X2_firstBroken {l : Launch} {G : mG} {h : mM} {q1 : Nat → Nat} (hq1 : oinj LX10 q1) {st1 : OS} {x : Int32} (hF : f_X2_firstBroken st1 = some x) : cQ l G yX2_firstBroken cX2_firstBroken 1 (some FieldType.int) rm_X2_firstBroken [.ref (q1 5)] (oset LX10 G q1 st1 h) (mQi G (fun r h1 => r = x ∧ h1 = oset LX10 G q1 st1 h)) := by
  refine mp_of (by decide +kernel) (Nat.le_of_ble_eq_true rfl) ?_
  intro p e s m below meth c X hr hlk hH hname ls hl
  dsimp only [f_X2_firstBroken] at hF
  replace hl : lv_has ls 1 [(0, .ref (q1 5))] := hl
  refine lv_aload_n X.x X.b (dk DX2_firstBroken_0 0 rfl) rfl (lv_at hl 0 rfl) ?_
  obtain ⟨x1, e2, hF⟩ := bd hF
  refine mr_ci0 hH ⟨rfl, rfl⟩ (mr_runS (As := [.ref (q1 5)]) (rest := []) X hH (c_X2_linesMeetOnce hq1 e2) kM_X2_9 kT_X2_linesMeetOnce kN_X2 kC_X2_linesMeetOnce hd_X2_linesMeetOnce ⟨Nat.le_of_ble_eq_true rfl, Nat.le_of_ble_eq_true rfl⟩ rfl hl.1 (Nat.le_of_ble_eq_true rfl) (dk DX2_firstBroken_0 1 rfl) ⟨Nat.zero_le _, Nat.zero_le _⟩) (fun r h1 H locs hp hH => ?_)
  obtain ⟨hr1, hr2⟩ := hp; rw [hr1]; rw [hr2] at hH; clear hr1 hr2
  refine lv_if_ne (tgt := 9) X.x X.b (dk DX2_firstBroken_0 2 rfl) (by decide) (fun c4 => ?_) (fun c4 => ?_)
  · replace hF := if_f hF c4
    refine lv_aload_n X.x X.b (dk DX2_firstBroken_0 5 rfl) rfl (lv_at hl 0 rfl) ?_
    obtain ⟨x5, e6, hF⟩ := bd hF
    refine mr_ci0 hH ⟨rfl, rfl⟩ (mr_runS (As := [.ref (q1 5)]) (rest := []) X hH (c_X2_linesAreAsLong hq1 e6) kM_X2_15 kT_X2_linesAreAsLong kN_X2 kC_X2_linesAreAsLong hd_X2_linesAreAsLong ⟨Nat.le_of_ble_eq_true rfl, Nat.le_of_ble_eq_true rfl⟩ rfl hl.1 (Nat.le_of_ble_eq_true rfl) (dk DX2_firstBroken_0 6 rfl) ⟨Nat.zero_le _, Nat.zero_le _⟩) (fun r h1 H locs hp hH => ?_)
    obtain ⟨hr1, hr2⟩ := hp; rw [hr1]; rw [hr2] at hH; clear hr1 hr2
    refine lv_if_ne (tgt := 18) X.x X.b (dk DX2_firstBroken_0 7 rfl) (by decide) (fun c8 => ?_) (fun c8 => ?_)
    · replace hF := if_f hF c8
      refine lv_aload_n X.x X.b (dk DX2_firstBroken_0 10 rfl) rfl (lv_at hl 0 rfl) ?_
      obtain ⟨x9, e10, hF⟩ := bd hF
      refine mr_ci0 hH ⟨rfl, rfl⟩ (mr_runS (As := [.ref (q1 5)]) (rest := []) X hH (c_X2_pointsHaveAsMany hq1 e10) kM_X2_18 kT_X2_pointsHaveAsMany kN_X2 kC_X2_pointsHaveAsMany hd_X2_pointsHaveAsMany ⟨Nat.le_of_ble_eq_true rfl, Nat.le_of_ble_eq_true rfl⟩ rfl hl.1 (Nat.le_of_ble_eq_true rfl) (dk DX2_firstBroken_0 11 rfl) ⟨Nat.zero_le _, Nat.zero_le _⟩) (fun r h1 H locs hp hH => ?_)
      obtain ⟨hr1, hr2⟩ := hp; rw [hr1]; rw [hr2] at hH; clear hr1 hr2
      refine lv_if_ne (tgt := 27) X.x X.b (dk DX2_firstBroken_0 12 rfl) (by decide) (fun c12 => ?_) (fun c12 => ?_)
      · replace hF := if_f hF c12
        refine lv_aload_n X.x X.b (dk DX2_firstBroken_0 15 rfl) rfl (lv_at hl 0 rfl) ?_
        obtain ⟨x13, e14, hF⟩ := bd hF
        refine mr_ci0 hH ⟨rfl, rfl⟩ (mr_runS (As := [.ref (q1 5)]) (rest := []) X hH (c_X2_justOneIsJoined hq1 e14) kM_X2_21 kT_X2_justOneIsJoined kN_X2 kC_X2_justOneIsJoined hd_X2_justOneIsJoined ⟨Nat.le_of_ble_eq_true rfl, Nat.le_of_ble_eq_true rfl⟩ rfl hl.1 (Nat.le_of_ble_eq_true rfl) (dk DX2_firstBroken_0 16 rfl) ⟨Nat.zero_le _, Nat.zero_le _⟩) (fun r h1 H locs hp hH => ?_)
        obtain ⟨hr1, hr2⟩ := hp; rw [hr1]; rw [hr2] at hH; clear hr1 hr2
        refine lv_if_eq (tgt := 38) X.x X.b (dk DX2_firstBroken_0 17 rfl) (by decide) (fun c16 => ?_) (fun c16 => ?_)
        · replace hF := if_t hF c16
          refine lv_iconst (v := 4) X.x X.b (dk DX2_firstBroken_0 20 rfl) (by decide) ?_
          cases sm hF
          exact mr_iret X hr hlk hH ⟨rfl, rfl⟩ (dk DX2_firstBroken_0 21 rfl)
        · replace hF := if_f hF c16
          refine lv_iconst (v := 0) X.x X.b (dk DX2_firstBroken_0 18 rfl) (by decide) ?_
          refine lv_goto (tgt := 39) X.x X.b (dk DX2_firstBroken_0 19 rfl) (by decide) ?_
          cases sm hF
          exact mr_iret X hr hlk hH ⟨rfl, rfl⟩ (dk DX2_firstBroken_0 21 rfl)
      · replace hF := if_t hF c12
        refine lv_iconst (v := 3) X.x X.b (dk DX2_firstBroken_0 13 rfl) (by decide) ?_
        cases sm hF
        exact mr_iret X hr hlk hH ⟨rfl, rfl⟩ (dk DX2_firstBroken_0 14 rfl)
    · replace hF := if_t hF c8
      refine lv_iconst (v := 2) X.x X.b (dk DX2_firstBroken_0 8 rfl) (by decide) ?_
      cases sm hF
      exact mr_iret X hr hlk hH ⟨rfl, rfl⟩ (dk DX2_firstBroken_0 9 rfl)
  · replace hF := if_t hF c4
    refine lv_iconst (v := 1) X.x X.b (dk DX2_firstBroken_0 3 rfl) (by decide) ?_
    cases sm hF
    exact mr_iret X hr hlk hH ⟨rfl, rfl⟩ (dk DX2_firstBroken_0 4 rfl)
-- X2_haveOrders
abbrev rm_X2_haveOrders : Room := { frames := 3, cells := 0, slots := 0, locals := 66 }
theorem hd_X2_haveOrders : mHd yX2_haveOrders 1 := ⟨by decide +kernel, by decide +kernel, by decide +kernel⟩
theorem DX2_haveOrders_0 : ∀ t ∈ ([(0, .aload_n 0, 1), (1, .getfield 24, 3), (4, .ifCond .le 14, 3), (7, .aload_n 0, 1), (8, .invokestatic 53, 3), (11, .ifCond .ne 7, 3), (14, .iconst 1, 1), (15, .goto 4, 3), (18, .iconst 0, 1), (19, .ireturn, 1)] : List (Nat × Instr × Nat)), decode cX2_haveOrders t.1 = .ok (t.2.1, t.2.2) := by decide +kernel
noncomputable def f_X2_haveOrders (st1 : OS) : Option (Int32) := (if (st1.1 1) ≤ 0 then some 0 else (f_X2_firstBroken st1).bind (fun x2 => (if x2 = 0 then some 1 else some 0)))
set_option maxHeartbeats 4000000 in
set_option maxRecDepth 100000 in
theorem c_X2_haveOrders {l : Launch} {G : mG} {h : mM} {q1 : Nat → Nat} (hq1 : oinj LX10 q1) {st1 : OS} {x : Int32} (hF : f_X2_haveOrders st1 = some x) : cQ l G yX2_haveOrders cX2_haveOrders 1 (some FieldType.boolean) rm_X2_haveOrders [.ref (q1 5)] (oset LX10 G q1 st1 h) (mQi G (fun r h1 => r = x ∧ h1 = oset LX10 G q1 st1 h)) := by
  refine mp_of (by decide +kernel) (Nat.le_of_ble_eq_true rfl) ?_
  intro p e s m below meth c X hr hlk hH hname ls hl
  dsimp only [f_X2_haveOrders] at hF
  replace hl : lv_has ls 1 [(0, .ref (q1 5))] := hl
  refine lv_aload_n X.x X.b (dk DX2_haveOrders_0 0 rfl) rfl (lv_at hl 0 rfl) ?_
  refine og_getIN OX10 X hq1 hH 1 (by decide) rfl kFN_X2_24 (dk DX2_haveOrders_0 1 rfl) ?_
  refine lv_if_le (tgt := 18) X.x X.b (dk DX2_haveOrders_0 2 rfl) (by decide) (fun c1 => ?_) (fun c1 => ?_)
  · replace hF := if_t hF c1
    refine lv_iconst (v := 0) X.x X.b (dk DX2_haveOrders_0 8 rfl) (by decide) ?_
    cases sm hF
    exact mr_zret X hr hlk hH rfl ⟨rfl, rfl⟩ (dk DX2_haveOrders_0 9 rfl)
  · replace hF := if_f hF c1
    refine lv_aload_n X.x X.b (dk DX2_haveOrders_0 3 rfl) rfl (lv_at hl 0 rfl) ?_
    obtain ⟨x2, e3, hF⟩ := bd hF
    refine mr_ci0 hH ⟨rfl, rfl⟩ (mr_runS (As := [.ref (q1 5)]) (rest := []) X hH (c_X2_firstBroken hq1 e3) kM_X2_53 kT_X2_firstBroken kN_X2 kC_X2_firstBroken hd_X2_firstBroken ⟨Nat.le_of_ble_eq_true rfl, Nat.le_of_ble_eq_true rfl⟩ rfl hl.1 (Nat.le_of_ble_eq_true rfl) (dk DX2_haveOrders_0 4 rfl) ⟨Nat.zero_le _, Nat.zero_le _⟩) (fun r h1 H locs hp hH => ?_)
    obtain ⟨hr1, hr2⟩ := hp; rw [hr1]; rw [hr2] at hH; clear hr1 hr2
    refine lv_if_ne (tgt := 18) X.x X.b (dk DX2_haveOrders_0 5 rfl) (by decide) (fun c5 => ?_) (fun c5 => ?_)
    · replace hF := if_f hF c5
      refine lv_iconst (v := 0) X.x X.b (dk DX2_haveOrders_0 8 rfl) (by decide) ?_
      cases sm hF
      exact mr_zret X hr hlk hH rfl ⟨rfl, rfl⟩ (dk DX2_haveOrders_0 9 rfl)
    · replace hF := if_t hF c5
      refine lv_iconst (v := 1) X.x X.b (dk DX2_haveOrders_0 6 rfl) (by decide) ?_
      refine lv_goto (tgt := 19) X.x X.b (dk DX2_haveOrders_0 7 rfl) (by decide) ?_
      cases sm hF
      exact mr_zret X hr hlk hH rfl ⟨rfl, rfl⟩ (dk DX2_haveOrders_0 9 rfl)
-- X2_firstOrder
abbrev rm_X2_firstOrder : Room := { frames := 4, cells := 0, slots := 0, locals := 86 }
theorem hd_X2_firstOrder : mHd yX2_firstOrder 1 := ⟨by decide +kernel, by decide +kernel, by decide +kernel⟩
theorem DX2_firstOrder_0 : ∀ t ∈ ([(0, .aload_n 0, 1), (1, .invokestatic 57, 3), (4, .ifCond .eq 16, 3), (7, .aload_n 0, 1), (8, .iconst 0, 1), (9, .invokevirtual 30, 3), (12, .invokestatic 34, 3), (15, .iconst 1, 1), (16, .isub, 1), (17, .goto 4, 3), (20, .iconst (-1), 1), (21, .ireturn, 1)] : List (Nat × Instr × Nat)), decode cX2_firstOrder t.1 = .ok (t.2.1, t.2.2) := by decide +kernel
noncomputable def f_X2_firstOrder (st1 : OS) : Option (Int32) := (f_X2_haveOrders st1).bind (fun x1 => (if x1 = 0 then some ((-1)) else (f_X10_setAt st1 0).bind (fun x5 => (f_J13_bitCount_95d88 x5).bind (fun x8 => some (x8 - 1)))))
set_option maxHeartbeats 4000000 in
set_option maxRecDepth 100000 in
theorem c_X2_firstOrder {l : Launch} {G : mG} {h : mM} {q1 : Nat → Nat} (hq1 : oinj LX10 q1) {st1 : OS} {x : Int32} (hF : f_X2_firstOrder st1 = some x) : cQ l G yX2_firstOrder cX2_firstOrder 1 (some FieldType.int) rm_X2_firstOrder [.ref (q1 5)] (oset LX10 G q1 st1 h) (mQi G (fun r h1 => r = x ∧ h1 = oset LX10 G q1 st1 h)) := by
  refine mp_of (by decide +kernel) (Nat.le_of_ble_eq_true rfl) ?_
  intro p e s m below meth c X hr hlk hH hname ls hl
  dsimp only [f_X2_firstOrder] at hF
  replace hl : lv_has ls 1 [(0, .ref (q1 5))] := hl
  refine lv_aload_n X.x X.b (dk DX2_firstOrder_0 0 rfl) rfl (lv_at hl 0 rfl) ?_
  obtain ⟨x1, e2, hF⟩ := bd hF
  refine mr_ci0 hH ⟨rfl, rfl⟩ (mr_runS (As := [.ref (q1 5)]) (rest := []) X hH (c_X2_haveOrders hq1 e2) kM_X2_57 kT_X2_haveOrders kN_X2 kC_X2_haveOrders hd_X2_haveOrders ⟨Nat.le_of_ble_eq_true rfl, Nat.le_of_ble_eq_true rfl⟩ rfl hl.1 (Nat.le_of_ble_eq_true rfl) (dk DX2_firstOrder_0 1 rfl) ⟨Nat.zero_le _, Nat.zero_le _⟩) (fun r h1 H locs hp hH => ?_)
  obtain ⟨hr1, hr2⟩ := hp; rw [hr1]; rw [hr2] at hH; clear hr1 hr2
  refine lv_if_eq (tgt := 20) X.x X.b (dk DX2_firstOrder_0 2 rfl) (by decide) (fun c4 => ?_) (fun c4 => ?_)
  · replace hF := if_t hF c4
    refine lv_iconst (v := (-1)) X.x X.b (dk DX2_firstOrder_0 10 rfl) (by decide) ?_
    cases sm hF
    exact mr_iret X hr hlk hH ⟨rfl, rfl⟩ (dk DX2_firstOrder_0 11 rfl)
  · replace hF := if_f hF c4
    refine lv_aload_n X.x X.b (dk DX2_firstOrder_0 3 rfl) rfl (lv_at hl 0 rfl) ?_
    refine lv_iconst (v := 0) X.x X.b (dk DX2_firstOrder_0 4 rfl) (by decide) ?_
    obtain ⟨x5, e6, hF⟩ := bd hF
    refine mr_cl0 hH ⟨rfl, rfl⟩ (mr_runV (As := [.int 0]) (rest := []) X hH (c_X10_setAt hq1 e6) ((oset_at hq1 (Nat.le_refl _) ohas_N).trans (congrArg some ocell_N)) OX10.1 kM_X2_30 kI_X10_setAt kS_X10_setAt kN_X10 kC_X10_setAt hd_X10_setAt ⟨Nat.le_of_ble_eq_true rfl, Nat.le_of_ble_eq_true rfl⟩ rfl hl.1 (Nat.le_of_ble_eq_true rfl) (dk DX2_firstOrder_0 5 rfl) ⟨Nat.zero_le _, Nat.zero_le _⟩) (fun r h1 H locs hp hH => ?_)
    obtain ⟨hr1, hr2⟩ := hp; rw [hr1]; rw [hr2] at hH; clear hr1 hr2
    obtain ⟨x8, e9, hF⟩ := bd hF
    refine mr_ci0 hH ⟨rfl, rfl⟩ (mr_runS (As := [.long x5]) (rest := []) X hH (c_J13_bitCount_95d88 e9) kM_X2_34 kT_J13_bitCount_95d88 kN_J13 kC_J13_bitCount_95d88 hd_J13_bitCount_95d88 ⟨Nat.le_of_ble_eq_true rfl, Nat.le_of_ble_eq_true rfl⟩ rfl hl.1 (Nat.le_of_ble_eq_true rfl) (dk DX2_firstOrder_0 6 rfl) ⟨Nat.zero_le _, Nat.zero_le _⟩) (fun r h1 H locs hp hH => ?_)
    obtain ⟨hr1, hr2⟩ := hp; rw [hr1]; rw [hr2] at hH; clear hr1 hr2
    refine lv_iconst (v := 1) X.x X.b (dk DX2_firstOrder_0 7 rfl) (by decide) ?_
    refine lv_isub X.x X.b (dk DX2_firstOrder_0 8 rfl) ?_
    refine lv_goto (tgt := 21) X.x X.b (dk DX2_firstOrder_0 9 rfl) (by decide) ?_
    cases sm hF
    exact mr_iret X hr hlk hH ⟨rfl, rfl⟩ (dk DX2_firstOrder_0 11 rfl)
-- X2_secondOrder
abbrev rm_X2_secondOrder : Room := { frames := 4, cells := 0, slots := 0, locals := 86 }
theorem hd_X2_secondOrder : mHd yX2_secondOrder 1 := ⟨by decide +kernel, by decide +kernel, by decide +kernel⟩
theorem DX2_secondOrder_0 : ∀ t ∈ ([(0, .aload_n 0, 1), (1, .invokestatic 57, 3), (4, .ifCond .eq 16, 3), (7, .aload_n 0, 1), (8, .iconst 0, 1), (9, .invokevirtual 43, 3), (12, .invokestatic 34, 3), (15, .iconst 1, 1), (16, .isub, 1), (17, .goto 4, 3), (20, .iconst (-1), 1), (21, .ireturn, 1)] : List (Nat × Instr × Nat)), decode cX2_secondOrder t.1 = .ok (t.2.1, t.2.2) := by decide +kernel
noncomputable def f_X2_secondOrder (st1 : OS) : Option (Int32) := (f_X2_haveOrders st1).bind (fun x1 => (if x1 = 0 then some ((-1)) else (f_X10_throughAt st1 0).bind (fun x5 => (f_J13_bitCount_95d88 x5).bind (fun x8 => some (x8 - 1)))))
set_option maxHeartbeats 4000000 in
set_option maxRecDepth 100000 in
theorem c_X2_secondOrder {l : Launch} {G : mG} {h : mM} {q1 : Nat → Nat} (hq1 : oinj LX10 q1) {st1 : OS} {x : Int32} (hF : f_X2_secondOrder st1 = some x) : cQ l G yX2_secondOrder cX2_secondOrder 1 (some FieldType.int) rm_X2_secondOrder [.ref (q1 5)] (oset LX10 G q1 st1 h) (mQi G (fun r h1 => r = x ∧ h1 = oset LX10 G q1 st1 h)) := by
  refine mp_of (by decide +kernel) (Nat.le_of_ble_eq_true rfl) ?_
  intro p e s m below meth c X hr hlk hH hname ls hl
  dsimp only [f_X2_secondOrder] at hF
  replace hl : lv_has ls 1 [(0, .ref (q1 5))] := hl
  refine lv_aload_n X.x X.b (dk DX2_secondOrder_0 0 rfl) rfl (lv_at hl 0 rfl) ?_
  obtain ⟨x1, e2, hF⟩ := bd hF
  refine mr_ci0 hH ⟨rfl, rfl⟩ (mr_runS (As := [.ref (q1 5)]) (rest := []) X hH (c_X2_haveOrders hq1 e2) kM_X2_57 kT_X2_haveOrders kN_X2 kC_X2_haveOrders hd_X2_haveOrders ⟨Nat.le_of_ble_eq_true rfl, Nat.le_of_ble_eq_true rfl⟩ rfl hl.1 (Nat.le_of_ble_eq_true rfl) (dk DX2_secondOrder_0 1 rfl) ⟨Nat.zero_le _, Nat.zero_le _⟩) (fun r h1 H locs hp hH => ?_)
  obtain ⟨hr1, hr2⟩ := hp; rw [hr1]; rw [hr2] at hH; clear hr1 hr2
  refine lv_if_eq (tgt := 20) X.x X.b (dk DX2_secondOrder_0 2 rfl) (by decide) (fun c4 => ?_) (fun c4 => ?_)
  · replace hF := if_t hF c4
    refine lv_iconst (v := (-1)) X.x X.b (dk DX2_secondOrder_0 10 rfl) (by decide) ?_
    cases sm hF
    exact mr_iret X hr hlk hH ⟨rfl, rfl⟩ (dk DX2_secondOrder_0 11 rfl)
  · replace hF := if_f hF c4
    refine lv_aload_n X.x X.b (dk DX2_secondOrder_0 3 rfl) rfl (lv_at hl 0 rfl) ?_
    refine lv_iconst (v := 0) X.x X.b (dk DX2_secondOrder_0 4 rfl) (by decide) ?_
    obtain ⟨x5, e6, hF⟩ := bd hF
    refine mr_cl0 hH ⟨rfl, rfl⟩ (mr_runV (As := [.int 0]) (rest := []) X hH (c_X10_throughAt hq1 e6) ((oset_at hq1 (Nat.le_refl _) ohas_N).trans (congrArg some ocell_N)) OX10.1 kM_X2_43 kI_X10_throughAt kS_X10_throughAt kN_X10 kC_X10_throughAt hd_X10_throughAt ⟨Nat.le_of_ble_eq_true rfl, Nat.le_of_ble_eq_true rfl⟩ rfl hl.1 (Nat.le_of_ble_eq_true rfl) (dk DX2_secondOrder_0 5 rfl) ⟨Nat.zero_le _, Nat.zero_le _⟩) (fun r h1 H locs hp hH => ?_)
    obtain ⟨hr1, hr2⟩ := hp; rw [hr1]; rw [hr2] at hH; clear hr1 hr2
    obtain ⟨x8, e9, hF⟩ := bd hF
    refine mr_ci0 hH ⟨rfl, rfl⟩ (mr_runS (As := [.long x5]) (rest := []) X hH (c_J13_bitCount_95d88 e9) kM_X2_34 kT_J13_bitCount_95d88 kN_J13 kC_J13_bitCount_95d88 hd_J13_bitCount_95d88 ⟨Nat.le_of_ble_eq_true rfl, Nat.le_of_ble_eq_true rfl⟩ rfl hl.1 (Nat.le_of_ble_eq_true rfl) (dk DX2_secondOrder_0 6 rfl) ⟨Nat.zero_le _, Nat.zero_le _⟩) (fun r h1 H locs hp hH => ?_)
    obtain ⟨hr1, hr2⟩ := hp; rw [hr1]; rw [hr2] at hH; clear hr1 hr2
    refine lv_iconst (v := 1) X.x X.b (dk DX2_secondOrder_0 7 rfl) (by decide) ?_
    refine lv_isub X.x X.b (dk DX2_secondOrder_0 8 rfl) ?_
    refine lv_goto (tgt := 21) X.x X.b (dk DX2_secondOrder_0 9 rfl) (by decide) ?_
    cases sm hF
    exact mr_iret X hr hlk hH ⟨rfl, rfl⟩ (dk DX2_secondOrder_0 11 rfl)
-- X2_ownNumber
abbrev rm_X2_ownNumber : Room := { frames := 5, cells := 0, slots := 0, locals := 106 }
theorem hd_X2_ownNumber : mHd yX2_ownNumber 2 := ⟨by decide +kernel, by decide +kernel, by decide +kernel⟩
theorem DX2_ownNumber_0 : ∀ t ∈ ([(0, .aload_n 0, 1), (1, .invokestatic 60, 3), (4, .istore_n 2, 1), (5, .aload_n 0, 1), (6, .invokestatic 63, 3), (9, .istore_n 3, 1), (10, .iload_n 2, 1), (11, .ifCond .lt 13, 3), (14, .iload_n 3, 1), (15, .ifCond .lt 9, 3), (18, .iload_n 2, 1), (19, .iload_n 3, 1), (20, .iadd, 1), (21, .ifCond .ne 5, 3), (24, .iconst (-1), 1), (25, .ireturn, 1), (26, .iload_n 1, 1), (27, .ifCond .ne 9, 3), (30, .iload_n 2, 1), (31, .iload_n 3, 1), (32, .iconst 1, 1), (33, .iadd, 1), (34, .imul, 1), (35, .ireturn, 1), (36, .iload_n 1, 1), (37, .iconst 1, 1), (38, .if_icmp .ne 9, 3), (41, .iload_n 2, 1), (42, .iconst 1, 1), (43, .isub, 1), (44, .goto 7, 3), (47, .iload_n 3, 1), (48, .ineg, 1), (49, .iconst 1, 1), (50, .isub, 1), (51, .ireturn, 1)] : List (Nat × Instr × Nat)), decode cX2_ownNumber t.1 = .ok (t.2.1, t.2.2) := by decide +kernel
noncomputable def f_X2_ownNumber (st1 : OS) (a1 : Int32) : Option (Int32) := (f_X2_firstOrder st1).bind (fun x1 => (f_X2_secondOrder st1).bind (fun x4 => (if x1 < 0 then some ((-1)) else (if x4 < 0 then some ((-1)) else (if (x1 + x4) = 0 then some ((-1)) else (if a1 = 0 then some (x1 * (x4 + 1)) else (if a1 = 1 then some (x1 - 1) else some ((-x4) - 1))))))))
set_option maxHeartbeats 4000000 in
set_option maxRecDepth 100000 in
theorem c_X2_ownNumber {l : Launch} {G : mG} {h : mM} {q1 : Nat → Nat} (hq1 : oinj LX10 q1) {st1 : OS} {a1 : Int32} {x : Int32} (hF : f_X2_ownNumber st1 a1 = some x) : cQ l G yX2_ownNumber cX2_ownNumber 4 (some FieldType.int) rm_X2_ownNumber [.ref (q1 5), .int a1] (oset LX10 G q1 st1 h) (mQi G (fun r h1 => r = x ∧ h1 = oset LX10 G q1 st1 h)) := by
  refine mp_of (by decide +kernel) (Nat.le_of_ble_eq_true rfl) ?_
  intro p e s m below meth c X hr hlk hH hname ls hl
  dsimp only [f_X2_ownNumber] at hF
  replace hl : lv_has ls 4 [(0, .ref (q1 5)), (1, .int a1)] := hl
  refine lv_aload_n X.x X.b (dk DX2_ownNumber_0 0 rfl) rfl (lv_at hl 0 rfl) ?_
  obtain ⟨x1, e2, hF⟩ := bd hF
  refine mr_ci0 hH ⟨rfl, rfl⟩ (mr_runS (As := [.ref (q1 5)]) (rest := []) X hH (c_X2_firstOrder hq1 e2) kM_X2_60 kT_X2_firstOrder kN_X2 kC_X2_firstOrder hd_X2_firstOrder ⟨Nat.le_of_ble_eq_true rfl, Nat.le_of_ble_eq_true rfl⟩ rfl hl.1 (Nat.le_of_ble_eq_true rfl) (dk DX2_ownNumber_0 1 rfl) ⟨Nat.zero_le _, Nat.zero_le _⟩) (fun r h1 H locs hp hH => ?_)
  obtain ⟨hr1, hr2⟩ := hp; rw [hr1]; rw [hr2] at hH; clear hr1 hr2
  refine lv_istore_n (lv' := [(2, .int x1), (0, .ref (q1 5)), (1, .int a1)]) X.x X.b (dk DX2_ownNumber_0 2 rfl) rfl hl (by decide) rfl (fun ls hl => ?_)
  replace hl : lv_has ls 4 [(0, .ref (q1 5)), (1, .int a1), (2, .int x1)] := lv_sub hl [1, 2, 0] rfl
  refine lv_aload_n X.x X.b (dk DX2_ownNumber_0 3 rfl) rfl (lv_at hl 0 rfl) ?_
  obtain ⟨x4, e5, hF⟩ := bd hF
  refine mr_ci0 hH ⟨rfl, rfl⟩ (mr_runS (As := [.ref (q1 5)]) (rest := []) X hH (c_X2_secondOrder hq1 e5) kM_X2_63 kT_X2_secondOrder kN_X2 kC_X2_secondOrder hd_X2_secondOrder ⟨Nat.le_of_ble_eq_true rfl, Nat.le_of_ble_eq_true rfl⟩ rfl hl.1 (Nat.le_of_ble_eq_true rfl) (dk DX2_ownNumber_0 4 rfl) ⟨Nat.zero_le _, Nat.zero_le _⟩) (fun r h1 H locs hp hH => ?_)
  obtain ⟨hr1, hr2⟩ := hp; rw [hr1]; rw [hr2] at hH; clear hr1 hr2
  refine lv_istore_n (lv' := [(3, .int x4), (0, .ref (q1 5)), (1, .int a1), (2, .int x1)]) X.x X.b (dk DX2_ownNumber_0 5 rfl) rfl hl (by decide) rfl (fun ls hl => ?_)
  replace hl : lv_has ls 4 [(1, .int a1), (2, .int x1), (3, .int x4)] := lv_sub hl [2, 3, 0] rfl
  refine lv_iload_n X.x X.b (dk DX2_ownNumber_0 6 rfl) rfl (lv_at hl 1 rfl) ?_
  refine lv_if_lt (tgt := 24) X.x X.b (dk DX2_ownNumber_0 7 rfl) (by decide) (fun c7 => ?_) (fun c7 => ?_)
  · replace hF := if_t hF c7
    refine lv_iconst (v := (-1)) X.x X.b (dk DX2_ownNumber_0 14 rfl) (by decide) ?_
    cases sm hF
    exact mr_iret X hr hlk hH ⟨rfl, rfl⟩ (dk DX2_ownNumber_0 15 rfl)
  · replace hF := if_f hF c7
    refine lv_iload_n X.x X.b (dk DX2_ownNumber_0 8 rfl) rfl (lv_at hl 2 rfl) ?_
    refine lv_if_lt (tgt := 24) X.x X.b (dk DX2_ownNumber_0 9 rfl) (by decide) (fun c8 => ?_) (fun c8 => ?_)
    · replace hF := if_t hF c8
      refine lv_iconst (v := (-1)) X.x X.b (dk DX2_ownNumber_0 14 rfl) (by decide) ?_
      cases sm hF
      exact mr_iret X hr hlk hH ⟨rfl, rfl⟩ (dk DX2_ownNumber_0 15 rfl)
    · replace hF := if_f hF c8
      refine lv_iload_n X.x X.b (dk DX2_ownNumber_0 10 rfl) rfl (lv_at hl 1 rfl) ?_
      refine lv_iload_n X.x X.b (dk DX2_ownNumber_0 11 rfl) rfl (lv_at hl 2 rfl) ?_
      refine lv_iadd X.x X.b (dk DX2_ownNumber_0 12 rfl) ?_
      refine lv_if_ne (tgt := 26) X.x X.b (dk DX2_ownNumber_0 13 rfl) (by decide) (fun c9 => ?_) (fun c9 => ?_)
      · replace hF := if_f hF c9
        refine lv_iload_n X.x X.b (dk DX2_ownNumber_0 16 rfl) rfl (lv_at hl 0 rfl) ?_
        refine lv_if_ne (tgt := 36) X.x X.b (dk DX2_ownNumber_0 17 rfl) (by decide) (fun c10 => ?_) (fun c10 => ?_)
        · replace hF := if_f hF c10
          refine lv_iload_n X.x X.b (dk DX2_ownNumber_0 24 rfl) rfl (lv_at hl 0 rfl) ?_
          refine lv_iconst (v := 1) X.x X.b (dk DX2_ownNumber_0 25 rfl) (by decide) ?_
          refine lv_icmp_ne (tgt := 47) X.x X.b (dk DX2_ownNumber_0 26 rfl) (by decide) (fun c11 => ?_) (fun c11 => ?_)
          · replace hF := if_f hF c11
            refine lv_iload_n X.x X.b (dk DX2_ownNumber_0 31 rfl) rfl (lv_at hl 2 rfl) ?_
            refine lv_ineg X.x X.b (dk DX2_ownNumber_0 32 rfl) ?_
            refine lv_iconst (v := 1) X.x X.b (dk DX2_ownNumber_0 33 rfl) (by decide) ?_
            refine lv_isub X.x X.b (dk DX2_ownNumber_0 34 rfl) ?_
            cases sm hF
            exact mr_iret X hr hlk hH ⟨rfl, rfl⟩ (dk DX2_ownNumber_0 35 rfl)
          · replace hF := if_t hF c11
            refine lv_iload_n X.x X.b (dk DX2_ownNumber_0 27 rfl) rfl (lv_at hl 1 rfl) ?_
            refine lv_iconst (v := 1) X.x X.b (dk DX2_ownNumber_0 28 rfl) (by decide) ?_
            refine lv_isub X.x X.b (dk DX2_ownNumber_0 29 rfl) ?_
            refine lv_goto (tgt := 51) X.x X.b (dk DX2_ownNumber_0 30 rfl) (by decide) ?_
            cases sm hF
            exact mr_iret X hr hlk hH ⟨rfl, rfl⟩ (dk DX2_ownNumber_0 35 rfl)
        · replace hF := if_t hF c10
          refine lv_iload_n X.x X.b (dk DX2_ownNumber_0 18 rfl) rfl (lv_at hl 1 rfl) ?_
          refine lv_iload_n X.x X.b (dk DX2_ownNumber_0 19 rfl) rfl (lv_at hl 2 rfl) ?_
          refine lv_iconst (v := 1) X.x X.b (dk DX2_ownNumber_0 20 rfl) (by decide) ?_
          refine lv_iadd X.x X.b (dk DX2_ownNumber_0 21 rfl) ?_
          refine lv_imul X.x X.b (dk DX2_ownNumber_0 22 rfl) ?_
          cases sm hF
          exact mr_iret X hr hlk hH ⟨rfl, rfl⟩ (dk DX2_ownNumber_0 23 rfl)
      · replace hF := if_t hF c9
        refine lv_iconst (v := (-1)) X.x X.b (dk DX2_ownNumber_0 14 rfl) (by decide) ?_
        cases sm hF
        exact mr_iret X hr hlk hH ⟨rfl, rfl⟩ (dk DX2_ownNumber_0 15 rfl)
-- X2_ownTimes
abbrev rm_X2_ownTimes : Room := { frames := 5, cells := 0, slots := 0, locals := 106 }
theorem hd_X2_ownTimes : mHd yX2_ownTimes 2 := ⟨by decide +kernel, by decide +kernel, by decide +kernel⟩
theorem DX2_ownTimes_0 : ∀ t ∈ ([(0, .aload_n 0, 1), (1, .invokestatic 60, 3), (4, .istore_n 2, 1), (5, .aload_n 0, 1), (6, .invokestatic 63, 3), (9, .istore_n 3, 1), (10, .iload_n 2, 1), (11, .ifCond .lt 13, 3), (14, .iload_n 3, 1), (15, .ifCond .lt 9, 3), (18, .iload_n 2, 1), (19, .iload_n 3, 1), (20, .iadd, 1), (21, .ifCond .ne 5, 3), (24, .iconst (-1), 1), (25, .ireturn, 1), (26, .iload_n 1, 1), (27, .ifCond .ne 5, 3), (30, .iconst 1, 1), (31, .ireturn, 1), (32, .iload_n 1, 1), (33, .iconst 1, 1), (34, .if_icmp .ne 21, 3), (37, .iload_n 2, 1), (38, .iload_n 3, 1), (39, .imul, 1), (40, .iload_n 2, 1), (41, .iconst 1, 1), (42, .iadd, 1), (43, .imul, 1), (44, .iload_n 3, 1), (45, .iconst 1, 1), (46, .iadd, 1), (47, .imul, 1), (48, .iload_n 2, 1), (49, .iload_n 3, 1), (50, .iadd, 1), (51, .idiv, 1), (52, .goto 16, 3), (55, .iload_n 2, 1), (56, .iload_n 2, 1), (57, .imul, 1), (58, .iload_n 2, 1), (59, .iload_n 3, 1), (60, .imul, 1), (61, .iconst 1, 1), (62, .iadd, 1), (63, .imul, 1), (64, .iload_n 2, 1), (65, .iload_n 3, 1), (66, .iadd, 1), (67, .idiv, 1), (68, .ireturn, 1)] : List (Nat × Instr × Nat)), decode cX2_ownTimes t.1 = .ok (t.2.1, t.2.2) := by decide +kernel
noncomputable def f_X2_ownTimes (st1 : OS) (a1 : Int32) : Option (Int32) := (f_X2_firstOrder st1).bind (fun x1 => (f_X2_secondOrder st1).bind (fun x4 => (if x1 < 0 then some ((-1)) else (if x4 < 0 then some ((-1)) else (if (x1 + x4) = 0 then some ((-1)) else (if a1 = 0 then some 1 else (if a1 = 1 then if x1 + x4 = 0 then none else some ((((x1 * x4) * (x1 + 1)) * (x4 + 1)) / (x1 + x4)) else if x1 + x4 = 0 then none else some (((x1 * x1) * ((x1 * x4) + 1)) / (x1 + x4)))))))))
set_option maxHeartbeats 4000000 in
set_option maxRecDepth 100000 in
theorem c_X2_ownTimes {l : Launch} {G : mG} {h : mM} {q1 : Nat → Nat} (hq1 : oinj LX10 q1) {st1 : OS} {a1 : Int32} {x : Int32} (hF : f_X2_ownTimes st1 a1 = some x) : cQ l G yX2_ownTimes cX2_ownTimes 4 (some FieldType.int) rm_X2_ownTimes [.ref (q1 5), .int a1] (oset LX10 G q1 st1 h) (mQi G (fun r h1 => r = x ∧ h1 = oset LX10 G q1 st1 h)) := by
  refine mp_of (by decide +kernel) (Nat.le_of_ble_eq_true rfl) ?_
  intro p e s m below meth c X hr hlk hH hname ls hl
  dsimp only [f_X2_ownTimes] at hF
  replace hl : lv_has ls 4 [(0, .ref (q1 5)), (1, .int a1)] := hl
  refine lv_aload_n X.x X.b (dk DX2_ownTimes_0 0 rfl) rfl (lv_at hl 0 rfl) ?_
  obtain ⟨x1, e2, hF⟩ := bd hF
  refine mr_ci0 hH ⟨rfl, rfl⟩ (mr_runS (As := [.ref (q1 5)]) (rest := []) X hH (c_X2_firstOrder hq1 e2) kM_X2_60 kT_X2_firstOrder kN_X2 kC_X2_firstOrder hd_X2_firstOrder ⟨Nat.le_of_ble_eq_true rfl, Nat.le_of_ble_eq_true rfl⟩ rfl hl.1 (Nat.le_of_ble_eq_true rfl) (dk DX2_ownTimes_0 1 rfl) ⟨Nat.zero_le _, Nat.zero_le _⟩) (fun r h1 H locs hp hH => ?_)
  obtain ⟨hr1, hr2⟩ := hp; rw [hr1]; rw [hr2] at hH; clear hr1 hr2
  refine lv_istore_n (lv' := [(2, .int x1), (0, .ref (q1 5)), (1, .int a1)]) X.x X.b (dk DX2_ownTimes_0 2 rfl) rfl hl (by decide) rfl (fun ls hl => ?_)
  replace hl : lv_has ls 4 [(0, .ref (q1 5)), (1, .int a1), (2, .int x1)] := lv_sub hl [1, 2, 0] rfl
  refine lv_aload_n X.x X.b (dk DX2_ownTimes_0 3 rfl) rfl (lv_at hl 0 rfl) ?_
  obtain ⟨x4, e5, hF⟩ := bd hF
  refine mr_ci0 hH ⟨rfl, rfl⟩ (mr_runS (As := [.ref (q1 5)]) (rest := []) X hH (c_X2_secondOrder hq1 e5) kM_X2_63 kT_X2_secondOrder kN_X2 kC_X2_secondOrder hd_X2_secondOrder ⟨Nat.le_of_ble_eq_true rfl, Nat.le_of_ble_eq_true rfl⟩ rfl hl.1 (Nat.le_of_ble_eq_true rfl) (dk DX2_ownTimes_0 4 rfl) ⟨Nat.zero_le _, Nat.zero_le _⟩) (fun r h1 H locs hp hH => ?_)
  obtain ⟨hr1, hr2⟩ := hp; rw [hr1]; rw [hr2] at hH; clear hr1 hr2
  refine lv_istore_n (lv' := [(3, .int x4), (0, .ref (q1 5)), (1, .int a1), (2, .int x1)]) X.x X.b (dk DX2_ownTimes_0 5 rfl) rfl hl (by decide) rfl (fun ls hl => ?_)
  replace hl : lv_has ls 4 [(1, .int a1), (2, .int x1), (3, .int x4)] := lv_sub hl [2, 3, 0] rfl
  refine lv_iload_n X.x X.b (dk DX2_ownTimes_0 6 rfl) rfl (lv_at hl 1 rfl) ?_
  refine lv_if_lt (tgt := 24) X.x X.b (dk DX2_ownTimes_0 7 rfl) (by decide) (fun c7 => ?_) (fun c7 => ?_)
  · replace hF := if_t hF c7
    refine lv_iconst (v := (-1)) X.x X.b (dk DX2_ownTimes_0 14 rfl) (by decide) ?_
    cases sm hF
    exact mr_iret X hr hlk hH ⟨rfl, rfl⟩ (dk DX2_ownTimes_0 15 rfl)
  · replace hF := if_f hF c7
    refine lv_iload_n X.x X.b (dk DX2_ownTimes_0 8 rfl) rfl (lv_at hl 2 rfl) ?_
    refine lv_if_lt (tgt := 24) X.x X.b (dk DX2_ownTimes_0 9 rfl) (by decide) (fun c8 => ?_) (fun c8 => ?_)
    · replace hF := if_t hF c8
      refine lv_iconst (v := (-1)) X.x X.b (dk DX2_ownTimes_0 14 rfl) (by decide) ?_
      cases sm hF
      exact mr_iret X hr hlk hH ⟨rfl, rfl⟩ (dk DX2_ownTimes_0 15 rfl)
    · replace hF := if_f hF c8
      refine lv_iload_n X.x X.b (dk DX2_ownTimes_0 10 rfl) rfl (lv_at hl 1 rfl) ?_
      refine lv_iload_n X.x X.b (dk DX2_ownTimes_0 11 rfl) rfl (lv_at hl 2 rfl) ?_
      refine lv_iadd X.x X.b (dk DX2_ownTimes_0 12 rfl) ?_
      refine lv_if_ne (tgt := 26) X.x X.b (dk DX2_ownTimes_0 13 rfl) (by decide) (fun c9 => ?_) (fun c9 => ?_)
      · replace hF := if_f hF c9
        refine lv_iload_n X.x X.b (dk DX2_ownTimes_0 16 rfl) rfl (lv_at hl 0 rfl) ?_
        refine lv_if_ne (tgt := 32) X.x X.b (dk DX2_ownTimes_0 17 rfl) (by decide) (fun c10 => ?_) (fun c10 => ?_)
        · replace hF := if_f hF c10
          refine lv_iload_n X.x X.b (dk DX2_ownTimes_0 20 rfl) rfl (lv_at hl 0 rfl) ?_
          refine lv_iconst (v := 1) X.x X.b (dk DX2_ownTimes_0 21 rfl) (by decide) ?_
          refine lv_icmp_ne (tgt := 55) X.x X.b (dk DX2_ownTimes_0 22 rfl) (by decide) (fun c11 => ?_) (fun c11 => ?_)
          · replace hF := if_f hF c11
            refine lv_iload_n X.x X.b (dk DX2_ownTimes_0 39 rfl) rfl (lv_at hl 1 rfl) ?_
            refine lv_iload_n X.x X.b (dk DX2_ownTimes_0 40 rfl) rfl (lv_at hl 1 rfl) ?_
            refine lv_imul X.x X.b (dk DX2_ownTimes_0 41 rfl) ?_
            refine lv_iload_n X.x X.b (dk DX2_ownTimes_0 42 rfl) rfl (lv_at hl 1 rfl) ?_
            refine lv_iload_n X.x X.b (dk DX2_ownTimes_0 43 rfl) rfl (lv_at hl 2 rfl) ?_
            refine lv_imul X.x X.b (dk DX2_ownTimes_0 44 rfl) ?_
            refine lv_iconst (v := 1) X.x X.b (dk DX2_ownTimes_0 45 rfl) (by decide) ?_
            refine lv_iadd X.x X.b (dk DX2_ownTimes_0 46 rfl) ?_
            refine lv_imul X.x X.b (dk DX2_ownTimes_0 47 rfl) ?_
            refine lv_iload_n X.x X.b (dk DX2_ownTimes_0 48 rfl) rfl (lv_at hl 1 rfl) ?_
            refine lv_iload_n X.x X.b (dk DX2_ownTimes_0 49 rfl) rfl (lv_at hl 2 rfl) ?_
            refine lv_iadd X.x X.b (dk DX2_ownTimes_0 50 rfl) ?_
            obtain ⟨c12, hF⟩ := gn hF
            refine lv_idiv X.x X.b (dk DX2_ownTimes_0 51 rfl) c12 ?_
            cases sm hF
            exact mr_iret X hr hlk hH ⟨rfl, rfl⟩ (dk DX2_ownTimes_0 52 rfl)
          · replace hF := if_t hF c11
            refine lv_iload_n X.x X.b (dk DX2_ownTimes_0 23 rfl) rfl (lv_at hl 1 rfl) ?_
            refine lv_iload_n X.x X.b (dk DX2_ownTimes_0 24 rfl) rfl (lv_at hl 2 rfl) ?_
            refine lv_imul X.x X.b (dk DX2_ownTimes_0 25 rfl) ?_
            refine lv_iload_n X.x X.b (dk DX2_ownTimes_0 26 rfl) rfl (lv_at hl 1 rfl) ?_
            refine lv_iconst (v := 1) X.x X.b (dk DX2_ownTimes_0 27 rfl) (by decide) ?_
            refine lv_iadd X.x X.b (dk DX2_ownTimes_0 28 rfl) ?_
            refine lv_imul X.x X.b (dk DX2_ownTimes_0 29 rfl) ?_
            refine lv_iload_n X.x X.b (dk DX2_ownTimes_0 30 rfl) rfl (lv_at hl 2 rfl) ?_
            refine lv_iconst (v := 1) X.x X.b (dk DX2_ownTimes_0 31 rfl) (by decide) ?_
            refine lv_iadd X.x X.b (dk DX2_ownTimes_0 32 rfl) ?_
            refine lv_imul X.x X.b (dk DX2_ownTimes_0 33 rfl) ?_
            refine lv_iload_n X.x X.b (dk DX2_ownTimes_0 34 rfl) rfl (lv_at hl 1 rfl) ?_
            refine lv_iload_n X.x X.b (dk DX2_ownTimes_0 35 rfl) rfl (lv_at hl 2 rfl) ?_
            refine lv_iadd X.x X.b (dk DX2_ownTimes_0 36 rfl) ?_
            obtain ⟨c13, hF⟩ := gn hF
            refine lv_idiv X.x X.b (dk DX2_ownTimes_0 37 rfl) c13 ?_
            refine lv_goto (tgt := 68) X.x X.b (dk DX2_ownTimes_0 38 rfl) (by decide) ?_
            cases sm hF
            exact mr_iret X hr hlk hH ⟨rfl, rfl⟩ (dk DX2_ownTimes_0 52 rfl)
        · replace hF := if_t hF c10
          refine lv_iconst (v := 1) X.x X.b (dk DX2_ownTimes_0 18 rfl) (by decide) ?_
          cases sm hF
          exact mr_iret X hr hlk hH ⟨rfl, rfl⟩ (dk DX2_ownTimes_0 19 rfl)
      · replace hF := if_t hF c9
        refine lv_iconst (v := (-1)) X.x X.b (dk DX2_ownTimes_0 14 rfl) (by decide) ?_
        cases sm hF
        exact mr_iret X hr hlk hH ⟨rfl, rfl⟩ (dk DX2_ownTimes_0 15 rfl)
-- X10_clear
abbrev rm_X10_clear : Room := { frames := 1, cells := 0, slots := 0, locals := 21 }
theorem hd_X10_clear : mHd yX10_clear 1 := ⟨by decide +kernel, by decide +kernel, by decide +kernel⟩
theorem DX10_clear_0 : ∀ t ∈ ([(0, .aload_n 0, 1), (1, .iload_n 1, 1), (2, .ifCond .ge 7, 3), (5, .iconst 0, 1), (6, .goto 9, 3), (9, .iload_n 1, 1), (10, .bipush 64, 2), (12, .invokestatic 40, 3), (15, .putfield 29, 3), (18, .aload_n 0, 1), (19, .iconst 0, 1), (20, .putfield 37, 3), (23, .return_, 1)] : List (Nat × Instr × Nat)), decode cX10_clear t.1 = .ok (t.2.1, t.2.2) := by decide +kernel
noncomputable def f_X10_clear (st : OS) (a0 : Int32) : Option (OS) := (if 0 ≤ a0 then (f_J9_min_7cf53 a0 64).bind (fun x2 => bnd (oI st 0 x2) (fun t5 => bnd (oI t5 1 0) (fun t7 => some t7))) else bnd (oI st 0 0) (fun t9 => bnd (oI t9 1 0) (fun t11 => some t11)))
set_option maxHeartbeats 4000000 in
set_option maxRecDepth 100000 in
theorem c_X10_clear {l : Launch} {G : mG} {h : mM} {q : Nat → Nat} (hq : oinj LX10 q) {st : OS} {a0 : Int32} {x : OS} (hF : f_X10_clear st a0 = some x) : cQ l G yX10_clear cX10_clear 2 none rm_X10_clear [.ref (q 5), .int a0] (oset LX10 G q st h) (mQv G (fun h1 => h1 = oset LX10 G q x h)) := by
  refine mp_of (by decide +kernel) (Nat.le_of_ble_eq_true rfl) ?_
  intro p e s m below meth c X hr hlk hH hname ls hl
  dsimp only [f_X10_clear] at hF
  replace hl : lv_has ls 2 [(0, .ref (q 5)), (1, .int a0)] := hl
  refine lv_aload_n X.x X.b (dk DX10_clear_0 0 rfl) rfl (lv_at hl 0 rfl) ?_
  refine lv_iload_n X.x X.b (dk DX10_clear_0 1 rfl) rfl (lv_at hl 1 rfl) ?_
  refine lv_if_ge (tgt := 9) X.x X.b (dk DX10_clear_0 2 rfl) (by decide) (fun c1 => ?_) (fun c1 => ?_)
  · replace hF := if_t hF c1
    refine lv_iload_n X.x X.b (dk DX10_clear_0 5 rfl) rfl (lv_at hl 1 rfl) ?_
    refine lv_bipush (v := 64) X.x X.b (dk DX10_clear_0 6 rfl) (by decide) ?_
    obtain ⟨x2, e3, hF⟩ := bd hF
    refine mr_ci0 hH ⟨rfl, rfl⟩ (mr_runS (As := [.int a0, .int 64]) (rest := [.ref (q 5)]) X hH (c_J9_min_7cf53 e3) kM_X10_40 kT_J9_min_7cf53 kN_J9 kC_J9_min_7cf53 hd_J9_min_7cf53 ⟨Nat.le_of_ble_eq_true rfl, Nat.le_of_ble_eq_true rfl⟩ rfl hl.1 (Nat.le_of_ble_eq_true rfl) (dk DX10_clear_0 7 rfl) ⟨Nat.zero_le _, Nat.zero_le _⟩) (fun r h1 H locs hp hH => ?_)
    obtain ⟨hr1, hr2⟩ := hp; rw [hr1]; rw [hr2] at hH; clear hr1 hr2
    refine og_putI OX10 X hq hH 0 (by decide) rfl kF_X10_29 rfl rfl rfl (dk DX10_clear_0 8 rfl) (fun H locs hH => ?_)
    obtain ⟨t5, e6⟩ : ∃ y, y = oI st 0 x2 := ⟨_, rfl⟩
    rw [← e6] at hH
    replace hF := bnd_e hF e6
    refine lv_aload_n X.x X.b (dk DX10_clear_0 9 rfl) rfl (lv_at hl 0 rfl) ?_
    refine lv_iconst (v := 0) X.x X.b (dk DX10_clear_0 10 rfl) (by decide) ?_
    refine og_putI OX10 X hq hH 1 (by decide) rfl kF_X10_37 rfl rfl rfl (dk DX10_clear_0 11 rfl) (fun H locs hH => ?_)
    obtain ⟨t7, e8⟩ : ∃ y, y = oI t5 1 0 := ⟨_, rfl⟩
    rw [← e8] at hH
    replace hF := bnd_e hF e8
    cases sm hF
    exact mr_vret X hr hlk hH rfl (dk DX10_clear_0 12 rfl)
  · replace hF := if_f hF c1
    refine lv_iconst (v := 0) X.x X.b (dk DX10_clear_0 3 rfl) (by decide) ?_
    refine lv_goto (tgt := 15) X.x X.b (dk DX10_clear_0 4 rfl) (by decide) ?_
    refine og_putI OX10 X hq hH 0 (by decide) rfl kF_X10_29 rfl rfl rfl (dk DX10_clear_0 8 rfl) (fun H locs hH => ?_)
    obtain ⟨t9, e10⟩ : ∃ y, y = oI st 0 0 := ⟨_, rfl⟩
    rw [← e10] at hH
    replace hF := bnd_e hF e10
    refine lv_aload_n X.x X.b (dk DX10_clear_0 9 rfl) rfl (lv_at hl 0 rfl) ?_
    refine lv_iconst (v := 0) X.x X.b (dk DX10_clear_0 10 rfl) (by decide) ?_
    refine og_putI OX10 X hq hH 1 (by decide) rfl kF_X10_37 rfl rfl rfl (dk DX10_clear_0 11 rfl) (fun H locs hH => ?_)
    obtain ⟨t11, e12⟩ : ∃ y, y = oI t9 1 0 := ⟨_, rfl⟩
    rw [← e12] at hH
    replace hF := bnd_e hF e12
    cases sm hF
    exact mr_vret X hr hlk hH rfl (dk DX10_clear_0 12 rfl)
-- X10_append
abbrev rm_X10_append : Room := { frames := 0, cells := 0, slots := 0, locals := 0 }
theorem hd_X10_append : mHd yX10_append 1 := ⟨by decide +kernel, by decide +kernel, by decide +kernel⟩
theorem DX10_append_0 : ∀ t ∈ ([(0, .aload_n 0, 1), (1, .getfield 37, 3), (4, .ifCond .lt 32, 3), (7, .aload_n 0, 1), (8, .getfield 37, 3), (11, .bipush 64, 2), (13, .if_icmp .ge 23, 3), (16, .aload_n 0, 1), (17, .getfield 11, 3), (20, .aload_n 0, 1), (21, .getfield 37, 3), (24, .lload_n 1, 1), (25, .lastore, 1), (26, .aload_n 0, 1), (27, .dup, 1), (28, .getfield 37, 3), (31, .iconst 1, 1), (32, .iadd, 1), (33, .putfield 37, 3), (36, .return_, 1)] : List (Nat × Instr × Nat)), decode cX10_append t.1 = .ok (t.2.1, t.2.2) := by decide +kernel
noncomputable def f_X10_append (st : OS) (a0 : Int64) : Option (OS) := (if (st.1 1) < 0 then some st else (if 64 ≤ (st.1 1) then some st else if inb (st.1 1) 64 = true then bnd (oB st 2 (vp_updL (st.2.2.2 2) (st.1 1 : Int32).toNatClampNeg a0)) (fun t4 => bnd (oI t4 1 ((t4.1 1) + 1)) (fun t6 => some t6)) else none))
set_option maxHeartbeats 4000000 in
set_option maxRecDepth 100000 in
theorem c_X10_append {l : Launch} {G : mG} {h : mM} {q : Nat → Nat} (hq : oinj LX10 q) {st : OS} {a0 : Int64} {x : OS} (hF : f_X10_append st a0 = some x) : cQ l G yX10_append cX10_append 3 none rm_X10_append [.ref (q 5), .long a0] (oset LX10 G q st h) (mQv G (fun h1 => h1 = oset LX10 G q x h)) := by
  refine mp_of (by decide +kernel) (Nat.le_of_ble_eq_true rfl) ?_
  intro p e s m below meth c X hr hlk hH hname ls hl
  dsimp only [f_X10_append] at hF
  replace hl : lv_has ls 3 [(0, .ref (q 5)), (1, .long a0)] := hl
  refine lv_aload_n X.x X.b (dk DX10_append_0 0 rfl) rfl (lv_at hl 0 rfl) ?_
  refine og_getI OX10 X hq hH 1 (by decide) rfl kF_X10_37 (dk DX10_append_0 1 rfl) ?_
  refine lv_if_lt (tgt := 36) X.x X.b (dk DX10_append_0 2 rfl) (by decide) (fun c1 => ?_) (fun c1 => ?_)
  · replace hF := if_t hF c1
    cases sm hF
    exact mr_vret X hr hlk hH rfl (dk DX10_append_0 19 rfl)
  · replace hF := if_f hF c1
    refine lv_aload_n X.x X.b (dk DX10_append_0 3 rfl) rfl (lv_at hl 0 rfl) ?_
    refine og_getI OX10 X hq hH 1 (by decide) rfl kF_X10_37 (dk DX10_append_0 4 rfl) ?_
    refine lv_bipush (v := 64) X.x X.b (dk DX10_append_0 5 rfl) (by decide) ?_
    refine lv_icmp_ge (tgt := 36) X.x X.b (dk DX10_append_0 6 rfl) (by decide) (fun c2 => ?_) (fun c2 => ?_)
    · replace hF := if_t hF c2
      cases sm hF
      exact mr_vret X hr hlk hH rfl (dk DX10_append_0 19 rfl)
    · replace hF := if_f hF c2
      refine lv_aload_n X.x X.b (dk DX10_append_0 7 rfl) rfl (lv_at hl 0 rfl) ?_
      refine og_getR (t := 1) OX10 X hq hH 2 (by decide) rfl kF_X10_11 (dk DX10_append_0 8 rfl) ?_
      refine lv_aload_n X.x X.b (dk DX10_append_0 9 rfl) rfl (lv_at hl 0 rfl) ?_
      refine og_getI OX10 X hq hH 1 (by decide) rfl kF_X10_37 (dk DX10_append_0 10 rfl) ?_
      refine lv_lload_n X.x X.b (dk DX10_append_0 11 rfl) rfl (lv_at hl 1 rfl) ?_
      obtain ⟨c3, hF⟩ := gd hF
      refine og_last X hq hH 2 (by decide) rfl (inb_in c3) (dk DX10_append_0 12 rfl) (fun H locs hH => ?_)
      obtain ⟨t4, e5⟩ : ∃ y, y = oB st 2 (vp_updL (st.2.2.2 2) (st.1 1 : Int32).toNatClampNeg a0) := ⟨_, rfl⟩
      rw [← e5] at hH
      replace hF := bnd_e hF e5
      refine lv_aload_n X.x X.b (dk DX10_append_0 13 rfl) rfl (lv_at hl 0 rfl) ?_
      refine lv_dup X.x X.b (dk DX10_append_0 14 rfl) rfl ?_
      refine og_getI OX10 X hq hH 1 (by decide) rfl kF_X10_37 (dk DX10_append_0 15 rfl) ?_
      refine lv_iconst (v := 1) X.x X.b (dk DX10_append_0 16 rfl) (by decide) ?_
      refine lv_iadd X.x X.b (dk DX10_append_0 17 rfl) ?_
      refine og_putI OX10 X hq hH 1 (by decide) rfl kF_X10_37 rfl rfl rfl (dk DX10_append_0 18 rfl) (fun H locs hH => ?_)
      obtain ⟨t6, e7⟩ : ∃ y, y = oI t4 1 ((t4.1 1) + 1) := ⟨_, rfl⟩
      rw [← e7] at hH
      replace hF := bnd_e hF e7
      cases sm hF
      exact mr_vret X hr hlk hH rfl (dk DX10_append_0 19 rfl)
-- X3_makeGrid
abbrev rm_X3_makeGrid : Room := { frames := 2, cells := 0, slots := 0, locals := 42 }
theorem hd_X3_makeGrid : mHd yX3_makeGrid 3 := ⟨by decide +kernel, by decide +kernel, by decide +kernel⟩
theorem DX3_makeGrid_0 : ∀ t ∈ ([(0, .aload_n 1, 1), (1, .iload_n 2, 1), (2, .iload_n 3, 1), (3, .imul, 1), (4, .invokevirtual 21, 3), (7, .iconst 0, 1), (8, .istore 4, 2), (10, .iload 4, 2), (12, .iload_n 2, 1), (13, .if_icmp .ge 22, 3), (16, .aload_n 1, 1), (17, .iload_n 3, 1), (18, .invokestatic 27, 3), (21, .iload_n 3, 1), (22, .iload 4, 2), (24, .imul, 1), (25, .lshl, 1), (26, .invokevirtual 31, 3), (29, .iinc 4 1, 3), (32, .goto (-22), 3), (35, .iconst 0, 1), (36, .istore 4, 2), (38, .iload 4, 2), (40, .iload_n 3, 1), (41, .if_icmp .ge 47, 3), (44, .lconst 0, 1), (45, .lstore 5, 2), (47, .iconst 0, 1), (48, .istore 7, 2), (50, .iload 7, 2), (52, .iload_n 2, 1), (53, .if_icmp .ge 23, 3), (56, .lload 5, 2), (58, .lconst 1, 1), (59, .iload_n 3, 1), (60, .iload 7, 2), (62, .imul, 1), (63, .iload 4, 2), (65, .iadd, 1), (66, .lshl, 1), (67, .lor, 1), (68, .lstore 5, 2), (70, .iinc 7 1, 3), (73, .goto (-23), 3), (76, .aload_n 1, 1), (77, .lload 5, 2), (79, .invokevirtual 31, 3), (82, .iinc 4 1, 3), (85, .goto (-47), 3), (88, .return_, 1)] : List (Nat × Instr × Nat)), decode cX3_makeGrid t.1 = .ok (t.2.1, t.2.2) := by decide +kernel
noncomputable def f_X3_makeGrid_10 (s_t : OS) (b2 : Int32) (b3 : Int32) : (OS × Int32) → Option ((OS × Int32) ⊕ (OS)) := fun z => match z with | (s_o1, b4) => (if b2 ≤ b4 then some (.inr s_o1) else (f_X10_first b3).bind (fun x5 => (f_X10_append s_o1 (((x5 : Int64)) <<< ((b3 * b4 : Int32).toInt64 &&& 63))).bind (fun x8 => bnd (b4 + 1 : Int32) (fun v11 => some (.inl ((x8, v11)))))))
noncomputable def f_X3_makeGrid_50 (s_t : OS) (s_o1 : OS) (b2 : Int32) (b3 : Int32) (b4 : Int32) : (Int64 × Int32) → Option ((Int64 × Int32) ⊕ (Int64)) := fun z => match z with | (b5, b7) => (if b2 ≤ b7 then some (.inr b5) else bnd (b5 ||| (((1 : Int64)) <<< (((b3 * b7) + b4 : Int32).toInt64 &&& 63)) : Int64) (fun v18 => bnd (b7 + 1 : Int32) (fun v20 => some (.inl ((v18, v20))))))
noncomputable def f_X3_makeGrid_38 (s_t : OS) (b2 : Int32) (b3 : Int32) : (OS × Int32) → Option ((OS × Int32) ⊕ (OS)) := fun z => match z with | (s_o1, b4) => (if b3 ≤ b4 then some (.inr s_o1) else (lpv (f_X3_makeGrid_50 s_t s_o1 b2 b3 b4) ((0, 0))).bind (fun x22 => (f_X10_append s_o1 x22).bind (fun x25 => bnd (b4 + 1 : Int32) (fun v28 => some (.inl ((x25, v28)))))))
noncomputable def f_X3_makeGrid (st : OS) (st1 : OS) (a1 : Int32) (a2 : Int32) : Option (OS) := (f_X10_clear st1 (a1 * a2)).bind (fun x1 => (lpv (f_X3_makeGrid_10 st a1 a2) ((x1, 0))).bind (fun x13 => (lpv (f_X3_makeGrid_38 st a1 a2) ((x13, 0))).bind (fun x30 => some x30)))
set_option maxHeartbeats 4000000 in
set_option maxRecDepth 100000 in
theorem w_X3_makeGrid_10 {p : Program} {l : Launch} {e : Env} {s : State} {m : MethodId} {args : Array Value} {below : List Frame} {meth : Method} {c : Code} {Q : State → Prop} {G : mG} {h : mM} {q : Nat → Nat} {q1 : Nat → Nat} (hq : oinj LX3 q) (hq1 : oinj LX10 q1) (ha : oap [(LX3, q), (LX10, q1)]) (X : mX G p m c cX3_makeGrid 8 s args RX3) (s_t : OS) (b2 : Int32) (b3 : Int32) : ∀ (z : OS × Int32) (r : OS), lpv (f_X3_makeGrid_10 s_t b2 b3) z = some r → ∀ (H : Heap) (locs : List Loc) (ls : Array Slot), mH G (oset LX3 G q s_t (oset LX10 G q1 z.1 h)) s.heap H locs → lv_has ls 8 [(1, .ref (q1 5)), (2, .int b2), (3, .int b3), (4, .int z.2)] → (∀ (H : Heap) (locs : List Loc) (ls : Array Slot), mH G (oset LX3 G q s_t (oset LX10 G q1 r h)) s.heap H locs → lv_has ls 8 [(1, .ref (q1 5)), (2, .int b2), (3, .int b3)] → W p l e rm_X3_makeGrid s m args below meth c H locs 0 0 Q (F0 m 35 ls [])) → W p l e rm_X3_makeGrid s m args below meth c H locs 0 0 Q (F0 m 10 ls []) := by
  refine lpv_rec ?_
  intro z r x hF hx H locs ls hH hl K0
  obtain ⟨s_o1, b4⟩ := z
  dsimp only [f_X3_makeGrid_10] at hF
  try dsimp only at hH hl
  refine lv_iload X.x X.b (dk DX3_makeGrid_0 7 rfl) (lv_at hl 3 rfl) ?_
  refine lv_iload_n X.x X.b (dk DX3_makeGrid_0 8 rfl) rfl (lv_at hl 1 rfl) ?_
  refine lv_icmp_ge (tgt := 35) X.x X.b (dk DX3_makeGrid_0 9 rfl) (by decide) (fun c4 => ?_) (fun c4 => ?_)
  · replace hF := if_t hF c4
    have hr9 := lp_r hF hx
    subst hr9
    exact K0 _ _ _ hH (lv_sub hl [0, 1, 2] rfl)
  · replace hF := if_f hF c4
    refine lv_aload_n X.x X.b (dk DX3_makeGrid_0 10 rfl) rfl (lv_at hl 0 rfl) ?_
    refine lv_iload_n X.x X.b (dk DX3_makeGrid_0 11 rfl) rfl (lv_at hl 2 rfl) ?_
    obtain ⟨x5, e6, hF⟩ := bd hF
    refine mr_cl0 hH ⟨rfl, rfl⟩ (mr_runS (As := [.int b3]) (rest := [.ref (q1 5)]) X hH (c_X10_first e6) kM_X3_27 kT_X10_first kN_X10 kC_X10_first hd_X10_first ⟨Nat.le_of_ble_eq_true rfl, Nat.le_of_ble_eq_true rfl⟩ rfl hl.1 (Nat.le_of_ble_eq_true rfl) (dk DX3_makeGrid_0 12 rfl) ⟨Nat.zero_le _, Nat.zero_le _⟩) (fun r h1 H locs hp hH => ?_)
    obtain ⟨hr1, hr2⟩ := hp; rw [hr1]; rw [hr2] at hH; clear hr1 hr2
    refine lv_iload_n X.x X.b (dk DX3_makeGrid_0 13 rfl) rfl (lv_at hl 2 rfl) ?_
    refine lv_iload X.x X.b (dk DX3_makeGrid_0 14 rfl) (lv_at hl 3 rfl) ?_
    refine lv_imul X.x X.b (dk DX3_makeGrid_0 15 rfl) ?_
    refine lv_lshl X.x X.b (dk DX3_makeGrid_0 16 rfl) rfl ?_
    obtain ⟨x8, e9, hF⟩ := bd hF
    refine mr_cv0 (mH_perm (l1 := [(LX3, q, s_t), (LX10, q1, s_o1)]) (l2 := [(LX10, q1, s_o1), (LX3, q, s_t)]) ha [1, 0] [1, 0] rfl rfl rfl hH) ⟨rfl, rfl⟩ (mr_runV (As := [.long (((x5 : Int64)) <<< ((b3 * b4 : Int32).toInt64 &&& 63))]) (rest := []) X (mH_perm (l1 := [(LX3, q, s_t), (LX10, q1, s_o1)]) (l2 := [(LX10, q1, s_o1), (LX3, q, s_t)]) ha [1, 0] [1, 0] rfl rfl rfl hH) (c_X10_append hq1 e9) ((oset_at hq1 (Nat.le_refl _) ohas_N).trans (congrArg some ocell_N)) OX10.1 kM_X3_31 kI_X10_append kS_X10_append kN_X10 kC_X10_append hd_X10_append ⟨Nat.le_of_ble_eq_true rfl, Nat.le_of_ble_eq_true rfl⟩ rfl hl.1 (Nat.le_of_ble_eq_true rfl) (dk DX3_makeGrid_0 17 rfl) ⟨Nat.zero_le _, Nat.zero_le _⟩) (fun h1 H locs hp hH => ?_)
    rw [hp] at hH; clear hp
    replace hH : mH G (oset LX3 G q s_t (oset LX10 G q1 x8 h)) s.heap H locs := mH_unperm (l1 := [(LX3, q, s_t), (LX10, q1, x8)]) (l2 := [(LX10, q1, x8), (LX3, q, s_t)]) ha [1, 0] [1, 0] rfl rfl rfl hH
    obtain ⟨v11, e12⟩ : ∃ y : Int32, y = b4 + 1 := ⟨_, rfl⟩
    replace hF := bnd_e hF e12
    refine lv_iinc (v := v11) (lv' := [(4, .int v11), (1, .ref (q1 5)), (2, .int b2), (3, .int b3)]) X.x X.b (dk DX3_makeGrid_0 18 rfl) hl (k := 3) rfl (by rw [e12]; rfl) (by decide) rfl (fun ls hl => ?_)
    replace hl : lv_has ls 8 [(1, .ref (q1 5)), (2, .int b2), (3, .int b3), (4, .int v11)] := lv_sub hl [1, 2, 3, 0] rfl
    refine lv_goto (tgt := 10) X.x X.b (dk DX3_makeGrid_0 19 rfl) (by decide) ?_
    exact (lp_l hF hx) _ _ _ hH (lv_sub hl [0, 1, 2, 3] rfl) K0
set_option maxHeartbeats 4000000 in
set_option maxRecDepth 100000 in
theorem w_X3_makeGrid_50 {p : Program} {l : Launch} {e : Env} {s : State} {m : MethodId} {args : Array Value} {below : List Frame} {meth : Method} {c : Code} {Q : State → Prop} {G : mG} {h : mM} {q : Nat → Nat} {q1 : Nat → Nat} (hq : oinj LX3 q) (hq1 : oinj LX10 q1) (ha : oap [(LX3, q), (LX10, q1)]) (X : mX G p m c cX3_makeGrid 8 s args RX3) (s_t : OS) (s_o1 : OS) (b2 : Int32) (b3 : Int32) (b4 : Int32) : ∀ (z : Int64 × Int32) (r : Int64), lpv (f_X3_makeGrid_50 s_t s_o1 b2 b3 b4) z = some r → ∀ (H : Heap) (locs : List Loc) (ls : Array Slot), mH G (oset LX3 G q s_t (oset LX10 G q1 s_o1 h)) s.heap H locs → lv_has ls 8 [(1, .ref (q1 5)), (2, .int b2), (3, .int b3), (4, .int b4), (5, .long z.1), (7, .int z.2)] → (∀ (H : Heap) (locs : List Loc) (ls : Array Slot), mH G (oset LX3 G q s_t (oset LX10 G q1 s_o1 h)) s.heap H locs → lv_has ls 8 [(1, .ref (q1 5)), (2, .int b2), (3, .int b3), (4, .int b4), (5, .long r)] → W p l e rm_X3_makeGrid s m args below meth c H locs 0 0 Q (F0 m 76 ls [])) → W p l e rm_X3_makeGrid s m args below meth c H locs 0 0 Q (F0 m 50 ls []) := by
  refine lpv_rec ?_
  intro z r x hF hx H locs ls hH hl K0
  obtain ⟨b5, b7⟩ := z
  dsimp only [f_X3_makeGrid_50] at hF
  try dsimp only at hH hl
  refine lv_iload X.x X.b (dk DX3_makeGrid_0 29 rfl) (lv_at hl 5 rfl) ?_
  refine lv_iload_n X.x X.b (dk DX3_makeGrid_0 30 rfl) rfl (lv_at hl 1 rfl) ?_
  refine lv_icmp_ge (tgt := 76) X.x X.b (dk DX3_makeGrid_0 31 rfl) (by decide) (fun c17 => ?_) (fun c17 => ?_)
  · replace hF := if_t hF c17
    have hr9 := lp_r hF hx
    subst hr9
    exact K0 _ _ _ hH (lv_sub hl [0, 1, 2, 3, 4] rfl)
  · replace hF := if_f hF c17
    refine lv_lload X.x X.b (dk DX3_makeGrid_0 32 rfl) (lv_at hl 4 rfl) ?_
    refine lv_lconst (v := 1) X.x X.b (dk DX3_makeGrid_0 33 rfl) (by decide) ?_
    refine lv_iload_n X.x X.b (dk DX3_makeGrid_0 34 rfl) rfl (lv_at hl 2 rfl) ?_
    refine lv_iload X.x X.b (dk DX3_makeGrid_0 35 rfl) (lv_at hl 5 rfl) ?_
    refine lv_imul X.x X.b (dk DX3_makeGrid_0 36 rfl) ?_
    refine lv_iload X.x X.b (dk DX3_makeGrid_0 37 rfl) (lv_at hl 3 rfl) ?_
    refine lv_iadd X.x X.b (dk DX3_makeGrid_0 38 rfl) ?_
    refine lv_lshl X.x X.b (dk DX3_makeGrid_0 39 rfl) rfl ?_
    refine lv_lor X.x X.b (dk DX3_makeGrid_0 40 rfl) ?_
    refine lv_topl (fun v18 e19 => ?_)
    replace hF := bnd_e hF e19
    refine lv_lstore (lv' := [(5, .long v18), (1, .ref (q1 5)), (2, .int b2), (3, .int b3), (4, .int b4), (7, .int b7)]) X.x X.b (dk DX3_makeGrid_0 41 rfl) hl (by decide) rfl (fun ls hl => ?_)
    replace hl : lv_has ls 8 [(1, .ref (q1 5)), (2, .int b2), (3, .int b3), (4, .int b4), (5, .long v18), (7, .int b7)] := lv_sub hl [1, 2, 3, 4, 0, 5] rfl
    obtain ⟨v20, e21⟩ : ∃ y : Int32, y = b7 + 1 := ⟨_, rfl⟩
    replace hF := bnd_e hF e21
    refine lv_iinc (v := v20) (lv' := [(7, .int v20), (1, .ref (q1 5)), (2, .int b2), (3, .int b3), (4, .int b4), (5, .long v18)]) X.x X.b (dk DX3_makeGrid_0 42 rfl) hl (k := 5) rfl (by rw [e21]; rfl) (by decide) rfl (fun ls hl => ?_)
    replace hl : lv_has ls 8 [(1, .ref (q1 5)), (2, .int b2), (3, .int b3), (4, .int b4), (5, .long v18), (7, .int v20)] := lv_sub hl [1, 2, 3, 4, 5, 0] rfl
    refine lv_goto (tgt := 50) X.x X.b (dk DX3_makeGrid_0 43 rfl) (by decide) ?_
    exact (lp_l hF hx) _ _ _ hH (lv_sub hl [0, 1, 2, 3, 4, 5] rfl) K0
set_option maxHeartbeats 4000000 in
set_option maxRecDepth 100000 in
theorem w_X3_makeGrid_38 {p : Program} {l : Launch} {e : Env} {s : State} {m : MethodId} {args : Array Value} {below : List Frame} {meth : Method} {c : Code} {Q : State → Prop} {G : mG} {h : mM} {q : Nat → Nat} {q1 : Nat → Nat} (hq : oinj LX3 q) (hq1 : oinj LX10 q1) (ha : oap [(LX3, q), (LX10, q1)]) (X : mX G p m c cX3_makeGrid 8 s args RX3) (s_t : OS) (b2 : Int32) (b3 : Int32) : ∀ (z : OS × Int32) (r : OS), lpv (f_X3_makeGrid_38 s_t b2 b3) z = some r → ∀ (H : Heap) (locs : List Loc) (ls : Array Slot), mH G (oset LX3 G q s_t (oset LX10 G q1 z.1 h)) s.heap H locs → lv_has ls 8 [(1, .ref (q1 5)), (2, .int b2), (3, .int b3), (4, .int z.2)] → (∀ (H : Heap) (locs : List Loc) (ls : Array Slot), mH G (oset LX3 G q s_t (oset LX10 G q1 r h)) s.heap H locs → lv_has ls 8 [] → W p l e rm_X3_makeGrid s m args below meth c H locs 0 0 Q (F0 m 88 ls [])) → W p l e rm_X3_makeGrid s m args below meth c H locs 0 0 Q (F0 m 38 ls []) := by
  refine lpv_rec ?_
  intro z r x hF hx H locs ls hH hl K0
  obtain ⟨s_o1, b4⟩ := z
  dsimp only [f_X3_makeGrid_38] at hF
  try dsimp only at hH hl
  refine lv_iload X.x X.b (dk DX3_makeGrid_0 22 rfl) (lv_at hl 3 rfl) ?_
  refine lv_iload_n X.x X.b (dk DX3_makeGrid_0 23 rfl) rfl (lv_at hl 2 rfl) ?_
  refine lv_icmp_ge (tgt := 88) X.x X.b (dk DX3_makeGrid_0 24 rfl) (by decide) (fun c16 => ?_) (fun c16 => ?_)
  · replace hF := if_t hF c16
    have hr9 := lp_r hF hx
    subst hr9
    exact K0 _ _ _ hH (lv_sub hl [] rfl)
  · replace hF := if_f hF c16
    refine lv_lconst (v := 0) X.x X.b (dk DX3_makeGrid_0 25 rfl) (by decide) ?_
    refine lv_lstore (lv' := [(5, .long 0), (1, .ref (q1 5)), (2, .int b2), (3, .int b3), (4, .int b4)]) X.x X.b (dk DX3_makeGrid_0 26 rfl) hl (by decide) rfl (fun ls hl => ?_)
    replace hl : lv_has ls 8 [(1, .ref (q1 5)), (2, .int b2), (3, .int b3), (4, .int b4), (5, .long 0)] := lv_sub hl [1, 2, 3, 4, 0] rfl
    refine lv_iconst (v := 0) X.x X.b (dk DX3_makeGrid_0 27 rfl) (by decide) ?_
    refine lv_istore (lv' := [(7, .int 0), (1, .ref (q1 5)), (2, .int b2), (3, .int b3), (4, .int b4), (5, .long 0)]) X.x X.b (dk DX3_makeGrid_0 28 rfl) hl (by decide) rfl (fun ls hl => ?_)
    replace hl : lv_has ls 8 [(1, .ref (q1 5)), (2, .int b2), (3, .int b3), (4, .int b4), (5, .long 0), (7, .int 0)] := lv_sub hl [1, 2, 3, 4, 5, 0] rfl
    obtain ⟨x22, e23, hF⟩ := bd hF
    replace hl : lv_has ls 8 [(1, .ref (q1 5)), (2, .int b2), (3, .int b3), (4, .int b4), (5, .long 0), (7, .int 0)] := lv_sub hl [0, 1, 2, 3, 4, 5] rfl
    refine w_X3_makeGrid_50 hq hq1 ha X s_t s_o1 b2 b3 b4 _ _ e23 _ _ _ hH hl (fun H locs ls hH hl => ?_)
    refine lv_aload_n X.x X.b (dk DX3_makeGrid_0 44 rfl) rfl (lv_at hl 0 rfl) ?_
    refine lv_lload X.x X.b (dk DX3_makeGrid_0 45 rfl) (lv_at hl 4 rfl) ?_
    obtain ⟨x25, e26, hF⟩ := bd hF
    refine mr_cv0 (mH_perm (l1 := [(LX3, q, s_t), (LX10, q1, s_o1)]) (l2 := [(LX10, q1, s_o1), (LX3, q, s_t)]) ha [1, 0] [1, 0] rfl rfl rfl hH) ⟨rfl, rfl⟩ (mr_runV (As := [.long x22]) (rest := []) X (mH_perm (l1 := [(LX3, q, s_t), (LX10, q1, s_o1)]) (l2 := [(LX10, q1, s_o1), (LX3, q, s_t)]) ha [1, 0] [1, 0] rfl rfl rfl hH) (c_X10_append hq1 e26) ((oset_at hq1 (Nat.le_refl _) ohas_N).trans (congrArg some ocell_N)) OX10.1 kM_X3_31 kI_X10_append kS_X10_append kN_X10 kC_X10_append hd_X10_append ⟨Nat.le_of_ble_eq_true rfl, Nat.le_of_ble_eq_true rfl⟩ rfl hl.1 (Nat.le_of_ble_eq_true rfl) (dk DX3_makeGrid_0 46 rfl) ⟨Nat.zero_le _, Nat.zero_le _⟩) (fun h1 H locs hp hH => ?_)
    rw [hp] at hH; clear hp
    replace hH : mH G (oset LX3 G q s_t (oset LX10 G q1 x25 h)) s.heap H locs := mH_unperm (l1 := [(LX3, q, s_t), (LX10, q1, x25)]) (l2 := [(LX10, q1, x25), (LX3, q, s_t)]) ha [1, 0] [1, 0] rfl rfl rfl hH
    obtain ⟨v28, e29⟩ : ∃ y : Int32, y = b4 + 1 := ⟨_, rfl⟩
    replace hF := bnd_e hF e29
    refine lv_iinc (v := v28) (lv' := [(4, .int v28), (1, .ref (q1 5)), (2, .int b2), (3, .int b3), (5, .long x22)]) X.x X.b (dk DX3_makeGrid_0 47 rfl) hl (k := 3) rfl (by rw [e29]; rfl) (by decide) rfl (fun ls hl => ?_)
    replace hl : lv_has ls 8 [(1, .ref (q1 5)), (2, .int b2), (3, .int b3), (4, .int v28)] := lv_sub hl [1, 2, 3, 0] rfl
    refine lv_goto (tgt := 38) X.x X.b (dk DX3_makeGrid_0 48 rfl) (by decide) ?_
    exact (lp_l hF hx) _ _ _ hH (lv_sub hl [0, 1, 2, 3] rfl) K0
set_option maxHeartbeats 4000000 in
set_option maxRecDepth 100000 in
theorem c_X3_makeGrid {l : Launch} {G : mG} {h : mM} {q : Nat → Nat} {q1 : Nat → Nat} (hq : oinj LX3 q) (hq1 : oinj LX10 q1) (ha : oap [(LX3, q), (LX10, q1)]) {st : OS} {st1 : OS} {a1 : Int32} {a2 : Int32} {x : OS} (hF : f_X3_makeGrid st st1 a1 a2 = some x) : cQ l G yX3_makeGrid cX3_makeGrid 8 none rm_X3_makeGrid [.ref (q 3), .ref (q1 5), .int a1, .int a2] (oset LX3 G q st (oset LX10 G q1 st1 h)) (mQv G (fun h1 => h1 = oset LX3 G q st (oset LX10 G q1 x h))) := by
  refine mp_of (by decide +kernel) (Nat.le_of_ble_eq_true rfl) ?_
  intro p e s m below meth c X hr hlk hH hname ls hl
  dsimp only [f_X3_makeGrid] at hF
  replace hl : lv_has ls 8 [(0, .ref (q 3)), (1, .ref (q1 5)), (2, .int a1), (3, .int a2)] := hl
  refine lv_aload_n X.x X.b (dk DX3_makeGrid_0 0 rfl) rfl (lv_at hl 1 rfl) ?_
  refine lv_iload_n X.x X.b (dk DX3_makeGrid_0 1 rfl) rfl (lv_at hl 2 rfl) ?_
  refine lv_iload_n X.x X.b (dk DX3_makeGrid_0 2 rfl) rfl (lv_at hl 3 rfl) ?_
  refine lv_imul X.x X.b (dk DX3_makeGrid_0 3 rfl) ?_
  obtain ⟨x1, e2, hF⟩ := bd hF
  refine mr_cv0 (mH_perm (l1 := [(LX3, q, st), (LX10, q1, st1)]) (l2 := [(LX10, q1, st1), (LX3, q, st)]) ha [1, 0] [1, 0] rfl rfl rfl hH) ⟨rfl, rfl⟩ (mr_runV (As := [.int (a1 * a2)]) (rest := []) X (mH_perm (l1 := [(LX3, q, st), (LX10, q1, st1)]) (l2 := [(LX10, q1, st1), (LX3, q, st)]) ha [1, 0] [1, 0] rfl rfl rfl hH) (c_X10_clear hq1 e2) ((oset_at hq1 (Nat.le_refl _) ohas_N).trans (congrArg some ocell_N)) OX10.1 kM_X3_21 kI_X10_clear kS_X10_clear kN_X10 kC_X10_clear hd_X10_clear ⟨Nat.le_of_ble_eq_true rfl, Nat.le_of_ble_eq_true rfl⟩ rfl hl.1 (Nat.le_of_ble_eq_true rfl) (dk DX3_makeGrid_0 4 rfl) ⟨Nat.zero_le _, Nat.zero_le _⟩) (fun h1 H locs hp hH => ?_)
  rw [hp] at hH; clear hp
  replace hH : mH G (oset LX3 G q st (oset LX10 G q1 x1 h)) s.heap H locs := mH_unperm (l1 := [(LX3, q, st), (LX10, q1, x1)]) (l2 := [(LX10, q1, x1), (LX3, q, st)]) ha [1, 0] [1, 0] rfl rfl rfl hH
  refine lv_iconst (v := 0) X.x X.b (dk DX3_makeGrid_0 5 rfl) (by decide) ?_
  refine lv_istore (lv' := [(4, .int 0), (0, .ref (q 3)), (1, .ref (q1 5)), (2, .int a1), (3, .int a2)]) X.x X.b (dk DX3_makeGrid_0 6 rfl) hl (by decide) rfl (fun ls hl => ?_)
  replace hl : lv_has ls 8 [(1, .ref (q1 5)), (2, .int a1), (3, .int a2), (4, .int 0)] := lv_sub hl [2, 3, 4, 0] rfl
  obtain ⟨x13, e14, hF⟩ := bd hF
  replace hl : lv_has ls 8 [(1, .ref (q1 5)), (2, .int a1), (3, .int a2), (4, .int 0)] := lv_sub hl [0, 1, 2, 3] rfl
  refine w_X3_makeGrid_10 hq hq1 ha X st a1 a2 _ _ e14 _ _ _ hH hl (fun H locs ls hH hl => ?_)
  refine lv_iconst (v := 0) X.x X.b (dk DX3_makeGrid_0 20 rfl) (by decide) ?_
  refine lv_istore (lv' := [(4, .int 0), (1, .ref (q1 5)), (2, .int a1), (3, .int a2)]) X.x X.b (dk DX3_makeGrid_0 21 rfl) hl (by decide) rfl (fun ls hl => ?_)
  replace hl : lv_has ls 8 [(1, .ref (q1 5)), (2, .int a1), (3, .int a2), (4, .int 0)] := lv_sub hl [1, 2, 3, 0] rfl
  obtain ⟨x30, e31, hF⟩ := bd hF
  replace hl : lv_has ls 8 [(1, .ref (q1 5)), (2, .int a1), (3, .int a2), (4, .int 0)] := lv_sub hl [0, 1, 2, 3] rfl
  refine w_X3_makeGrid_38 hq hq1 ha X st a1 a2 _ _ e31 _ _ _ hH hl (fun H locs ls hH hl => ?_)
  cases sm hF
  exact mr_vret X hr hlk hH rfl (dk DX3_makeGrid_0 49 rfl)
