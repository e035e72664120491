-- X12_isOn
abbrev rm_X12_isOn : Room := { frames := 1, cells := 0, slots := 0, locals := 22 }
theorem hd_X12_isOn : mHd yX12_isOn 2 := ⟨by decide +kernel, by decide +kernel, by decide +kernel⟩
theorem DX12_isOn_0 : ∀ t ∈ ([(0, .iload_n 1, 1), (1, .aload_n 0, 1), (2, .getfield 248, 3), (5, .if_icmp .ge 37, 3), (8, .iload_n 2, 1), (9, .aload_n 0, 1), (10, .getfield 248, 3), (13, .if_icmp .lt 25, 3), (16, .aload_n 0, 1), (17, .getfield 7, 3), (20, .iload_n 2, 1), (21, .aload_n 0, 1), (22, .getfield 248, 3), (25, .isub, 1), (26, .laload, 1), (27, .iload_n 1, 1), (28, .invokestatic 232, 3), (31, .ifCond .eq 7, 3), (34, .iconst 1, 1), (35, .goto 38, 3), (38, .iconst 0, 1), (39, .goto 34, 3), (42, .iload_n 2, 1), (43, .aload_n 0, 1), (44, .getfield 248, 3), (47, .if_icmp .ge 25, 3), (50, .aload_n 0, 1), (51, .getfield 7, 3), (54, .iload_n 1, 1), (55, .aload_n 0, 1), (56, .getfield 248, 3), (59, .isub, 1), (60, .laload, 1), (61, .iload_n 2, 1), (62, .invokestatic 232, 3), (65, .ifCond .eq 7, 3), (68, .iconst 1, 1), (69, .goto 4, 3), (72, .iconst 0, 1), (73, .ireturn, 1)] : List (Nat × Instr × Nat)), decode cX12_isOn t.1 = .ok (t.2.1, t.2.2) := by decide +kernel
noncomputable def f_X12_isOn (st : OS) (a0 : Int32) (a1 : Int32) : Option (Int32) := (if (st.1 0) ≤ a0 then (if (st.1 0) ≤ a1 then some 0 else if inb (a0 - (st.1 0)) 64 = true then (f_X12_has (st.2.2.2 3 (a0 - (st.1 0) : Int32).toNatClampNeg) a1).bind (fun x4 => (if x4 = 0 then some 0 else some 1)) else none) else (if a1 < (st.1 0) then some 0 else if inb (a1 - (st.1 0)) 64 = true then (f_X12_has (st.2.2.2 3 (a1 - (st.1 0) : Int32).toNatClampNeg) a0).bind (fun x9 => (if x9 = 0 then some 0 else some 1)) else none))
set_option maxHeartbeats 4000000 in
set_option maxRecDepth 100000 in
theorem c_X12_isOn {l : Launch} {G : mG} {h : mM} {q : Nat → Nat} (hq : oinj LX12 q) {st : OS} {a0 : Int32} {a1 : Int32} {x : Int32} (hF : f_X12_isOn st a0 a1 = some x) : cQ l G yX12_isOn cX12_isOn 3 (some FieldType.boolean) rm_X12_isOn [.ref (q 53), .int a0, .int a1] (oset LX12 G q st h) (mQi G (fun r h1 => r = x ∧ h1 = oset LX12 G q st h)) := by
  refine mp_of (by decide +kernel) (Nat.le_of_ble_eq_true rfl) ?_
  intro p e s m below meth c X hr hlk hH hname ls hl
  dsimp only [f_X12_isOn] at hF
  replace hl : lv_has ls 3 [(0, .ref (q 53)), (1, .int a0), (2, .int a1)] := hl
  refine lv_iload_n X.x X.b (dk DX12_isOn_0 0 rfl) rfl (lv_at hl 1 rfl) ?_
  refine lv_aload_n X.x X.b (dk DX12_isOn_0 1 rfl) rfl (lv_at hl 0 rfl) ?_
  refine og_getI OX12 X hq hH 0 (by decide) rfl kF_X12_248 (dk DX12_isOn_0 2 rfl) ?_
  refine lv_icmp_ge (tgt := 42) X.x X.b (dk DX12_isOn_0 3 rfl) (by decide) (fun c1 => ?_) (fun c1 => ?_)
  · replace hF := if_t hF c1
    refine lv_iload_n X.x X.b (dk DX12_isOn_0 22 rfl) rfl (lv_at hl 2 rfl) ?_
    refine lv_aload_n X.x X.b (dk DX12_isOn_0 23 rfl) rfl (lv_at hl 0 rfl) ?_
    refine og_getI OX12 X hq hH 0 (by decide) rfl kF_X12_248 (dk DX12_isOn_0 24 rfl) ?_
    refine lv_icmp_ge (tgt := 72) X.x X.b (dk DX12_isOn_0 25 rfl) (by decide) (fun c2 => ?_) (fun c2 => ?_)
    · replace hF := if_t hF c2
      refine lv_iconst (v := 0) X.x X.b (dk DX12_isOn_0 38 rfl) (by decide) ?_
      cases sm hF
      exact mr_zret X hr hlk hH rfl ⟨rfl, rfl⟩ (dk DX12_isOn_0 39 rfl)
    · replace hF := if_f hF c2
      refine lv_aload_n X.x X.b (dk DX12_isOn_0 26 rfl) rfl (lv_at hl 0 rfl) ?_
      refine og_getR (t := 1) OX12 X hq hH 3 (by decide) rfl kF_X12_7 (dk DX12_isOn_0 27 rfl) ?_
      refine lv_iload_n X.x X.b (dk DX12_isOn_0 28 rfl) rfl (lv_at hl 1 rfl) ?_
      refine lv_aload_n X.x X.b (dk DX12_isOn_0 29 rfl) rfl (lv_at hl 0 rfl) ?_
      refine og_getI OX12 X hq hH 0 (by decide) rfl kF_X12_248 (dk DX12_isOn_0 30 rfl) ?_
      refine lv_isub X.x X.b (dk DX12_isOn_0 31 rfl) ?_
      obtain ⟨c3, hF⟩ := gd hF
      refine og_lald X hq hH 3 (by decide) rfl (inb_in c3) (dk DX12_isOn_0 32 rfl) ?_
      refine lv_iload_n X.x X.b (dk DX12_isOn_0 33 rfl) rfl (lv_at hl 2 rfl) ?_
      obtain ⟨x4, e5, hF⟩ := bd hF
      refine mr_ci0 hH ⟨rfl, rfl⟩ (mr_runS (As := [.long (st.2.2.2 3 (a0 - (st.1 0) : Int32).toNatClampNeg), .int a1]) (rest := []) X hH (c_X12_has e5) kM_X12_232 kT_X12_has kN_X12 kC_X12_has hd_X12_has ⟨Nat.le_of_ble_eq_true rfl, Nat.le_of_ble_eq_true rfl⟩ rfl hl.1 (Nat.le_of_ble_eq_true rfl) (dk DX12_isOn_0 34 rfl) ⟨Nat.zero_le _, Nat.zero_le _⟩) (fun r h1 H locs hp hH => ?_)
      obtain ⟨hr1, hr2⟩ := hp; rw [hr1]; rw [hr2] at hH; clear hr1 hr2
      refine lv_if_eq (tgt := 72) X.x X.b (dk DX12_isOn_0 35 rfl) (by decide) (fun c6 => ?_) (fun c6 => ?_)
      · replace hF := if_t hF c6
        refine lv_iconst (v := 0) X.x X.b (dk DX12_isOn_0 38 rfl) (by decide) ?_
        cases sm hF
        exact mr_zret X hr hlk hH rfl ⟨rfl, rfl⟩ (dk DX12_isOn_0 39 rfl)
      · replace hF := if_f hF c6
        refine lv_iconst (v := 1) X.x X.b (dk DX12_isOn_0 36 rfl) (by decide) ?_
        refine lv_goto (tgt := 73) X.x X.b (dk DX12_isOn_0 37 rfl) (by decide) ?_
        cases sm hF
        exact mr_zret X hr hlk hH rfl ⟨rfl, rfl⟩ (dk DX12_isOn_0 39 rfl)
  · replace hF := if_f hF c1
    refine lv_iload_n X.x X.b (dk DX12_isOn_0 4 rfl) rfl (lv_at hl 2 rfl) ?_
    refine lv_aload_n X.x X.b (dk DX12_isOn_0 5 rfl) rfl (lv_at hl 0 rfl) ?_
    refine og_getI OX12 X hq hH 0 (by decide) rfl kF_X12_248 (dk DX12_isOn_0 6 rfl) ?_
    refine lv_icmp_lt (tgt := 38) X.x X.b (dk DX12_isOn_0 7 rfl) (by decide) (fun c7 => ?_) (fun c7 => ?_)
    · replace hF := if_t hF c7
      refine lv_iconst (v := 0) X.x X.b (dk DX12_isOn_0 20 rfl) (by decide) ?_
      refine lv_goto (tgt := 73) X.x X.b (dk DX12_isOn_0 21 rfl) (by decide) ?_
      cases sm hF
      exact mr_zret X hr hlk hH rfl ⟨rfl, rfl⟩ (dk DX12_isOn_0 39 rfl)
    · replace hF := if_f hF c7
      refine lv_aload_n X.x X.b (dk DX12_isOn_0 8 rfl) rfl (lv_at hl 0 rfl) ?_
      refine og_getR (t := 1) OX12 X hq hH 3 (by decide) rfl kF_X12_7 (dk DX12_isOn_0 9 rfl) ?_
      refine lv_iload_n X.x X.b (dk DX12_isOn_0 10 rfl) rfl (lv_at hl 2 rfl) ?_
      refine lv_aload_n X.x X.b (dk DX12_isOn_0 11 rfl) rfl (lv_at hl 0 rfl) ?_
      refine og_getI OX12 X hq hH 0 (by decide) rfl kF_X12_248 (dk DX12_isOn_0 12 rfl) ?_
      refine lv_isub X.x X.b (dk DX12_isOn_0 13 rfl) ?_
      obtain ⟨c8, hF⟩ := gd hF
      refine og_lald X hq hH 3 (by decide) rfl (inb_in c8) (dk DX12_isOn_0 14 rfl) ?_
      refine lv_iload_n X.x X.b (dk DX12_isOn_0 15 rfl) rfl (lv_at hl 1 rfl) ?_
      obtain ⟨x9, e10, hF⟩ := bd hF
      refine mr_ci0 hH ⟨rfl, rfl⟩ (mr_runS (As := [.long (st.2.2.2 3 (a1 - (st.1 0) : Int32).toNatClampNeg), .int a0]) (rest := []) X hH (c_X12_has e10) kM_X12_232 kT_X12_has kN_X12 kC_X12_has hd_X12_has ⟨Nat.le_of_ble_eq_true rfl, Nat.le_of_ble_eq_true rfl⟩ rfl hl.1 (Nat.le_of_ble_eq_true rfl) (dk DX12_isOn_0 16 rfl) ⟨Nat.zero_le _, Nat.zero_le _⟩) (fun r h1 H locs hp hH => ?_)
      obtain ⟨hr1, hr2⟩ := hp; rw [hr1]; rw [hr2] at hH; clear hr1 hr2
      refine lv_if_eq (tgt := 38) X.x X.b (dk DX12_isOn_0 17 rfl) (by decide) (fun c11 => ?_) (fun c11 => ?_)
      · replace hF := if_t hF c11
        refine lv_iconst (v := 0) X.x X.b (dk DX12_isOn_0 20 rfl) (by decide) ?_
        refine lv_goto (tgt := 73) X.x X.b (dk DX12_isOn_0 21 rfl) (by decide) ?_
        cases sm hF
        exact mr_zret X hr hlk hH rfl ⟨rfl, rfl⟩ (dk DX12_isOn_0 39 rfl)
      · replace hF := if_f hF c11
        refine lv_iconst (v := 1) X.x X.b (dk DX12_isOn_0 18 rfl) (by decide) ?_
        refine lv_goto (tgt := 73) X.x X.b (dk DX12_isOn_0 19 rfl) (by decide) ?_
        cases sm hF
        exact mr_zret X hr hlk hH rfl ⟨rfl, rfl⟩ (dk DX12_isOn_0 39 rfl)
-- X12_lays
abbrev rm_X12_lays : Room := { frames := 2, cells := 0, slots := 0, locals := 44 }
theorem hd_X12_lays : mHd yX12_lays 1 := ⟨by decide +kernel, by decide +kernel, by decide +kernel⟩
theorem DX12_lays_0 : ∀ t ∈ ([(0, .aload_n 0, 1), (1, .getfield 248, 3), (4, .aload_n 0, 1), (5, .getfield 250, 3), (8, .iadd, 1), (9, .istore_n 2, 1), (10, .iconst 0, 1), (11, .istore_n 3, 1), (12, .iload_n 3, 1), (13, .iload_n 2, 1), (14, .if_icmp .ge 16, 3), (17, .aload_n 0, 1), (18, .getfield 39, 3), (21, .iload_n 3, 1), (22, .iconst (-1), 1), (23, .iastore, 1), (24, .iinc 3 1, 3), (27, .goto (-15), 3), (30, .iconst (-1), 1), (31, .istore_n 3, 1), (32, .iconst 1, 1), (33, .istore 4, 2), (35, .aload_n 0, 1), (36, .getfield 39, 3), (39, .iload_n 1, 1), (40, .iconst 0, 1), (41, .iastore, 1), (42, .aload_n 0, 1), (43, .getfield 42, 3), (46, .iload_n 1, 1), (47, .iconst (-1), 1), (48, .iastore, 1), (49, .aload_n 0, 1), (50, .getfield 45, 3), (53, .iconst 0, 1), (54, .iload_n 1, 1), (55, .iastore, 1), (56, .iconst 0, 1), (57, .istore 5, 2), (59, .iload 5, 2), (61, .iload 4, 2), (63, .if_icmp .ge 154, 3), (66, .aload_n 0, 1), (67, .getfield 45, 3), (70, .iload 5, 2), (72, .iaload, 1), (73, .istore 6, 2), (75, .iconst 0, 1), (76, .istore 7, 2), (78, .iload 7, 2), (80, .iload_n 2, 1), (81, .if_icmp .ge 130, 3), (84, .aload_n 0, 1), (85, .iload 6, 2), (87, .iload 7, 2), (89, .invokevirtual 350, 3), (92, .ifCond .eq 113, 3), (95, .iload 7, 2), (97, .aload_n 0, 1), (98, .getfield 42, 3)] : List (Nat × Instr × Nat)), decode cX12_lays t.1 = .ok (t.2.1, t.2.2) := by decide +kernel
theorem DX12_lays_1 : ∀ t ∈ ([(101, .iload 6, 2), (103, .iaload, 1), (104, .if_icmp .ne 6, 3), (107, .goto 98, 3), (110, .aload_n 0, 1), (111, .getfield 39, 3), (114, .iload 7, 2), (116, .iaload, 1), (117, .iconst (-1), 1), (118, .if_icmp .ne 43, 3), (121, .aload_n 0, 1), (122, .getfield 39, 3), (125, .iload 7, 2), (127, .aload_n 0, 1), (128, .getfield 39, 3), (131, .iload 6, 2), (133, .iaload, 1), (134, .iconst 1, 1), (135, .iadd, 1), (136, .iastore, 1), (137, .aload_n 0, 1), (138, .getfield 42, 3), (141, .iload 7, 2), (143, .iload 6, 2), (145, .iastore, 1), (146, .aload_n 0, 1), (147, .getfield 45, 3), (150, .iload 4, 2), (152, .iload 7, 2), (154, .iastore, 1), (155, .iinc 4 1, 3), (158, .goto 47, 3), (161, .iload_n 3, 1), (162, .iconst (-1), 1), (163, .if_icmp .eq 24, 3), (166, .aload_n 0, 1), (167, .getfield 39, 3), (170, .iload 6, 2), (172, .iaload, 1), (173, .aload_n 0, 1), (174, .getfield 39, 3), (177, .iload 7, 2), (179, .iaload, 1), (180, .iadd, 1), (181, .iconst 1, 1), (182, .iadd, 1), (183, .iload_n 3, 1), (184, .if_icmp .ge 21, 3), (187, .aload_n 0, 1), (188, .getfield 39, 3), (191, .iload 6, 2), (193, .iaload, 1), (194, .aload_n 0, 1), (195, .getfield 39, 3), (198, .iload 7, 2), (200, .iaload, 1), (201, .iadd, 1), (202, .iconst 1, 1), (203, .iadd, 1), (204, .istore_n 3, 1)] : List (Nat × Instr × Nat)), decode cX12_lays t.1 = .ok (t.2.1, t.2.2) := by decide +kernel
theorem DX12_lays_2 : ∀ t ∈ ([(205, .iinc 7 1, 3), (208, .goto (-130), 3), (211, .iinc 5 1, 3), (214, .goto (-155), 3), (217, .iload_n 3, 1), (218, .ireturn, 1)] : List (Nat × Instr × Nat)), decode cX12_lays t.1 = .ok (t.2.1, t.2.2) := by decide +kernel
noncomputable def f_X12_lays_12 (b1 : Int32) (b2 : Int32) : (OS × Int32) → Option ((OS × Int32) ⊕ (OS)) := fun z => match z with | (s0, b3) => (if b2 ≤ b3 then some (.inr s0) else if inb b3 128 = true then bnd (oA s0 27 (upd (s0.2.2.1 27) (b3 : Int32).toNatClampNeg ((-1)))) (fun t5 => bnd (b3 + 1 : Int32) (fun v7 => some (.inl ((t5, v7))))) else none)
noncomputable def f_X12_lays_78 (b2 : Int32) (b5 : Int32) (b6 : Int32) : (OS × Int32 × Int32 × Int32) → Option ((OS × Int32 × Int32 × Int32) ⊕ (OS × Int32 × Int32)) := fun z => match z with | (s0, b3, b4, b7) => (if b2 ≤ b7 then some (.inr ((s0, b3, b4))) else (f_X12_isOn s0 b6 b7).bind (fun x25 => (if x25 = 0 then bnd (b7 + 1 : Int32) (fun v28 => some (.inl ((s0, b3, b4, v28)))) else if inb b6 128 = true then (if b7 = (s0.2.2.1 28 (b6 : Int32).toNatClampNeg) then bnd (b7 + 1 : Int32) (fun v57 => some (.inl ((s0, b3, b4, v57)))) else if inb b7 128 = true then (if (s0.2.2.1 27 (b7 : Int32).toNatClampNeg) = ((-1)) then bnd (oA s0 27 (upd (s0.2.2.1 27) (b7 : Int32).toNatClampNeg ((s0.2.2.1 27 (b6 : Int32).toNatClampNeg) + 1))) (fun t46 => bnd (oA t46 28 (upd (t46.2.2.1 28) (b7 : Int32).toNatClampNeg b6)) (fun t48 => if inb b4 128 = true then bnd (oA t48 29 (upd (t48.2.2.1 29) (b4 : Int32).toNatClampNeg b7)) (fun t51 => bnd (b4 + 1 : Int32) (fun v53 => bnd (b7 + 1 : Int32) (fun v55 => some (.inl ((t51, b3, v53, v55)))))) else none)) else (if b3 = ((-1)) then bnd (((s0.2.2.1 27 (b6 : Int32).toNatClampNeg) + (s0.2.2.1 27 (b7 : Int32).toNatClampNeg)) + 1 : Int32) (fun v35 => bnd (b7 + 1 : Int32) (fun v37 => some (.inl ((s0, v35, b4, v37))))) else (if b3 ≤ ((s0.2.2.1 27 (b6 : Int32).toNatClampNeg) + (s0.2.2.1 27 (b7 : Int32).toNatClampNeg)) + 1 then bnd (b7 + 1 : Int32) (fun v40 => some (.inl ((s0, b3, b4, v40)))) else bnd (((s0.2.2.1 27 (b6 : Int32).toNatClampNeg) + (s0.2.2.1 27 (b7 : Int32).toNatClampNeg)) + 1 : Int32) (fun v42 => bnd (b7 + 1 : Int32) (fun v44 => some (.inl ((s0, v42, b4, v44)))))))) else none) else none)))
noncomputable def f_X12_lays_59 (b2 : Int32) : (OS × Int32 × Int32 × Int32) → Option ((OS × Int32 × Int32 × Int32) ⊕ (OS × Int32)) := fun z => match z with | (s0, b3, b4, b5) => (if b4 ≤ b5 then some (.inr ((s0, b3))) else if inb b5 128 = true then bnd (s0.2.2.1 29 (b5 : Int32).toNatClampNeg : Int32) (fun v22 => (lpv (f_X12_lays_78 b2 b5 v22) ((s0, b3, b4, 0))).bind (fun x59 => match x59 with | (t61, v62, v63) => bnd (b5 + 1 : Int32) (fun v64 => some (.inl ((t61, v62, v63, v64)))))) else none)
noncomputable def f_X12_lays (st : OS) (a0 : Int32) : Option (Int32 × OS) := bnd ((st.1 0) + (st.1 1) : Int32) (fun v1 => (lpv (f_X12_lays_12 a0 v1) ((st, 0))).bind (fun x9 => if inb a0 128 = true then bnd (oA x9 27 (upd (x9.2.2.1 27) (a0 : Int32).toNatClampNeg 0)) (fun t13 => bnd (oA t13 28 (upd (t13.2.2.1 28) (a0 : Int32).toNatClampNeg ((-1)))) (fun t15 => if inb 0 128 = true then bnd (oA t15 29 (upd (t15.2.2.1 29) (0 : Int32).toNatClampNeg a0)) (fun t18 => (lpv (f_X12_lays_59 v1) ((t18, (-1), 1, 0))).bind (fun x66 => match x66 with | (t68, v69) => some ((v69, t68)))) else none)) else none))
set_option maxHeartbeats 4000000 in
set_option maxRecDepth 100000 in
theorem w_X12_lays_12 {p : Program} {l : Launch} {e : Env} {s : State} {m : MethodId} {args : Array Value} {below : List Frame} {meth : Method} {c : Code} {Q : State → Prop} {G : mG} {h : mM} {q : Nat → Nat} (hq : oinj LX12 q) (X : mX G p m c cX12_lays 8 s args RX12) (b1 : Int32) (b2 : Int32) : ∀ (z : OS × Int32) (r : OS), lpv (f_X12_lays_12 b1 b2) z = some r → ∀ (H : Heap) (locs : List Loc) (ls : Array Slot), mH G (oset LX12 G q z.1 h) s.heap H locs → lv_has ls 8 [(0, .ref (q 53)), (1, .int b1), (2, .int b2), (3, .int z.2)] → (∀ (H : Heap) (locs : List Loc) (ls : Array Slot), mH G (oset LX12 G q r h) s.heap H locs → lv_has ls 8 [(0, .ref (q 53)), (1, .int b1), (2, .int b2)] → W p l e rm_X12_lays s m args below meth c H locs 0 0 Q (F0 m 30 ls [])) → W p l e rm_X12_lays s m args below meth c H locs 0 0 Q (F0 m 12 ls []) := by
  refine lpv_rec ?_
  intro z r x hF hx H locs ls hH hl K0
  obtain ⟨s0, b3⟩ := z
  dsimp only [f_X12_lays_12] at hF
  try dsimp only at hH hl
  refine lv_iload_n X.x X.b (dk DX12_lays_0 8 rfl) rfl (lv_at hl 3 rfl) ?_
  refine lv_iload_n X.x X.b (dk DX12_lays_0 9 rfl) rfl (lv_at hl 2 rfl) ?_
  refine lv_icmp_ge (tgt := 30) X.x X.b (dk DX12_lays_0 10 rfl) (by decide) (fun c3 => ?_) (fun c3 => ?_)
  · replace hF := if_t hF c3
    have hr9 := lp_r hF hx
    subst hr9
    exact K0 _ _ _ hH (lv_sub hl [0, 1, 2] rfl)
  · replace hF := if_f hF c3
    refine lv_aload_n X.x X.b (dk DX12_lays_0 11 rfl) rfl (lv_at hl 0 rfl) ?_
    refine og_getR (t := 0) OX12 X hq hH 27 (by decide) rfl kF_X12_39 (dk DX12_lays_0 12 rfl) ?_
    refine lv_iload_n X.x X.b (dk DX12_lays_0 13 rfl) rfl (lv_at hl 3 rfl) ?_
    refine lv_iconst (v := (-1)) X.x X.b (dk DX12_lays_0 14 rfl) (by decide) ?_
    obtain ⟨c4, hF⟩ := gd hF
    refine og_iast X hq hH 27 (by decide) rfl (inb_in c4) (dk DX12_lays_0 15 rfl) (fun H locs hH => ?_)
    obtain ⟨t5, e6⟩ : ∃ y, y = oA s0 27 (upd (s0.2.2.1 27) (b3 : Int32).toNatClampNeg ((-1))) := ⟨_, rfl⟩
    rw [← e6] at hH
    replace hF := bnd_e hF e6
    obtain ⟨v7, e8⟩ : ∃ y : Int32, y = b3 + 1 := ⟨_, rfl⟩
    replace hF := bnd_e hF e8
    refine lv_iinc (v := v7) (lv' := [(3, .int v7), (0, .ref (q 53)), (1, .int b1), (2, .int b2)]) X.x X.b (dk DX12_lays_0 16 rfl) hl (k := 3) rfl (by rw [e8]; rfl) (by decide) rfl (fun ls hl => ?_)
    replace hl : lv_has ls 8 [(0, .ref (q 53)), (1, .int b1), (2, .int b2), (3, .int v7)] := lv_sub hl [1, 2, 3, 0] rfl
    refine lv_goto (tgt := 12) X.x X.b (dk DX12_lays_0 17 rfl) (by decide) ?_
    exact (lp_l hF hx) _ _ _ hH (lv_sub hl [0, 1, 2, 3] rfl) K0
set_option maxHeartbeats 4000000 in
set_option maxRecDepth 100000 in
theorem w_X12_lays_78 {p : Program} {l : Launch} {e : Env} {s : State} {m : MethodId} {args : Array Value} {below : List Frame} {meth : Method} {c : Code} {Q : State → Prop} {G : mG} {h : mM} {q : Nat → Nat} (hq : oinj LX12 q) (X : mX G p m c cX12_lays 8 s args RX12) (b2 : Int32) (b5 : Int32) (b6 : Int32) : ∀ (z : OS × Int32 × Int32 × Int32) (r : OS × Int32 × Int32), lpv (f_X12_lays_78 b2 b5 b6) z = some r → ∀ (H : Heap) (locs : List Loc) (ls : Array Slot), mH G (oset LX12 G q z.1 h) s.heap H locs → lv_has ls 8 [(0, .ref (q 53)), (2, .int b2), (3, .int z.2.1), (4, .int z.2.2.1), (5, .int b5), (6, .int b6), (7, .int z.2.2.2)] → (∀ (H : Heap) (locs : List Loc) (ls : Array Slot), mH G (oset LX12 G q r.1 h) s.heap H locs → lv_has ls 8 [(0, .ref (q 53)), (2, .int b2), (3, .int r.2.1), (4, .int r.2.2), (5, .int b5)] → W p l e rm_X12_lays s m args below meth c H locs 0 0 Q (F0 m 211 ls [])) → W p l e rm_X12_lays s m args below meth c H locs 0 0 Q (F0 m 78 ls []) := by
  refine lpv_rec ?_
  intro z r x hF hx H locs ls hH hl K0
  obtain ⟨s0, b3, b4, b7⟩ := z
  dsimp only [f_X12_lays_78] at hF
  try dsimp only at hH hl
  refine lv_iload X.x X.b (dk DX12_lays_0 49 rfl) (lv_at hl 6 rfl) ?_
  refine lv_iload_n X.x X.b (dk DX12_lays_0 50 rfl) rfl (lv_at hl 1 rfl) ?_
  refine lv_icmp_ge (tgt := 211) X.x X.b (dk DX12_lays_0 51 rfl) (by decide) (fun c24 => ?_) (fun c24 => ?_)
  · replace hF := if_t hF c24
    have hr9 := lp_r hF hx
    subst hr9
    exact K0 _ _ _ hH (lv_sub hl [0, 1, 2, 3, 4] rfl)
  · replace hF := if_f hF c24
    refine lv_aload_n X.x X.b (dk DX12_lays_0 52 rfl) rfl (lv_at hl 0 rfl) ?_
    refine lv_iload X.x X.b (dk DX12_lays_0 53 rfl) (lv_at hl 5 rfl) ?_
    refine lv_iload X.x X.b (dk DX12_lays_0 54 rfl) (lv_at hl 6 rfl) ?_
    obtain ⟨x25, e26, hF⟩ := bd hF
    refine mr_ci0 hH ⟨rfl, rfl⟩ (mr_runV (As := [.int b6, .int b7]) (rest := []) X hH (c_X12_isOn hq e26) ((oset_at hq (Nat.le_refl _) ohas_N).trans (congrArg some ocell_N)) OX12.1 kM_X12_350 kI_X12_isOn kS_X12_isOn kN_X12 kC_X12_isOn hd_X12_isOn ⟨Nat.le_of_ble_eq_true rfl, Nat.le_of_ble_eq_true rfl⟩ rfl hl.1 (Nat.le_of_ble_eq_true rfl) (dk DX12_lays_0 55 rfl) ⟨Nat.zero_le _, Nat.zero_le _⟩) (fun r h1 H locs hp hH => ?_)
    obtain ⟨hr1, hr2⟩ := hp; rw [hr1]; rw [hr2] at hH; clear hr1 hr2
    refine lv_if_eq (tgt := 205) X.x X.b (dk DX12_lays_0 56 rfl) (by decide) (fun c27 => ?_) (fun c27 => ?_)
    · replace hF := if_t hF c27
      obtain ⟨v28, e29⟩ : ∃ y : Int32, y = b7 + 1 := ⟨_, rfl⟩
      replace hF := bnd_e hF e29
      refine lv_iinc (v := v28) (lv' := [(7, .int v28), (0, .ref (q 53)), (2, .int b2), (3, .int b3), (4, .int b4), (5, .int b5), (6, .int b6)]) X.x X.b (dk DX12_lays_2 0 rfl) hl (k := 6) rfl (by rw [e29]; rfl) (by decide) rfl (fun ls hl => ?_)
      replace hl : lv_has ls 8 [(0, .ref (q 53)), (2, .int b2), (3, .int b3), (4, .int b4), (5, .int b5), (6, .int b6), (7, .int v28)] := lv_sub hl [1, 2, 3, 4, 5, 6, 0] rfl
      refine lv_goto (tgt := 78) X.x X.b (dk DX12_lays_2 1 rfl) (by decide) ?_
      exact (lp_l hF hx) _ _ _ hH (lv_sub hl [0, 1, 2, 3, 4, 5, 6] rfl) K0
    · replace hF := if_f hF c27
      refine lv_iload X.x X.b (dk DX12_lays_0 57 rfl) (lv_at hl 6 rfl) ?_
      refine lv_aload_n X.x X.b (dk DX12_lays_0 58 rfl) rfl (lv_at hl 0 rfl) ?_
      refine og_getR (t := 0) OX12 X hq hH 28 (by decide) rfl kF_X12_42 (dk DX12_lays_0 59 rfl) ?_
      refine lv_iload X.x X.b (dk DX12_lays_1 0 rfl) (lv_at hl 5 rfl) ?_
      obtain ⟨c30, hF⟩ := gd hF
      refine og_iald X hq hH 28 (by decide) rfl (inb_in c30) (dk DX12_lays_1 1 rfl) ?_
      refine lv_icmp_ne (tgt := 110) X.x X.b (dk DX12_lays_1 2 rfl) (by decide) (fun c31 => ?_) (fun c31 => ?_)
      · replace hF := if_f hF c31
        refine lv_aload_n X.x X.b (dk DX12_lays_1 4 rfl) rfl (lv_at hl 0 rfl) ?_
        refine og_getR (t := 0) OX12 X hq hH 27 (by decide) rfl kF_X12_39 (dk DX12_lays_1 5 rfl) ?_
        refine lv_iload X.x X.b (dk DX12_lays_1 6 rfl) (lv_at hl 6 rfl) ?_
        obtain ⟨c32, hF⟩ := gd hF
        refine og_iald X hq hH 27 (by decide) rfl (inb_in c32) (dk DX12_lays_1 7 rfl) ?_
        refine lv_iconst (v := (-1)) X.x X.b (dk DX12_lays_1 8 rfl) (by decide) ?_
        refine lv_icmp_ne (tgt := 161) X.x X.b (dk DX12_lays_1 9 rfl) (by decide) (fun c33 => ?_) (fun c33 => ?_)
        · replace hF := if_f hF c33
          refine lv_iload_n X.x X.b (dk DX12_lays_1 32 rfl) rfl (lv_at hl 2 rfl) ?_
          refine lv_iconst (v := (-1)) X.x X.b (dk DX12_lays_1 33 rfl) (by decide) ?_
          refine lv_icmp_eq (tgt := 187) X.x X.b (dk DX12_lays_1 34 rfl) (by decide) (fun c34 => ?_) (fun c34 => ?_)
          · replace hF := if_t hF c34
            refine lv_aload_n X.x X.b (dk DX12_lays_1 48 rfl) rfl (lv_at hl 0 rfl) ?_
            refine og_getR (t := 0) OX12 X hq hH 27 (by decide) rfl kF_X12_39 (dk DX12_lays_1 49 rfl) ?_
            refine lv_iload X.x X.b (dk DX12_lays_1 50 rfl) (lv_at hl 5 rfl) ?_
            refine og_iald X hq hH 27 (by decide) rfl (inb_in c30) (dk DX12_lays_1 51 rfl) ?_
            refine lv_aload_n X.x X.b (dk DX12_lays_1 52 rfl) rfl (lv_at hl 0 rfl) ?_
            refine og_getR (t := 0) OX12 X hq hH 27 (by decide) rfl kF_X12_39 (dk DX12_lays_1 53 rfl) ?_
            refine lv_iload X.x X.b (dk DX12_lays_1 54 rfl) (lv_at hl 6 rfl) ?_
            refine og_iald X hq hH 27 (by decide) rfl (inb_in c32) (dk DX12_lays_1 55 rfl) ?_
            refine lv_iadd X.x X.b (dk DX12_lays_1 56 rfl) ?_
            refine lv_iconst (v := 1) X.x X.b (dk DX12_lays_1 57 rfl) (by decide) ?_
            refine lv_iadd X.x X.b (dk DX12_lays_1 58 rfl) ?_
            refine lv_topi (fun v35 e36 => ?_)
            replace hF := bnd_e hF e36
            refine lv_istore_n (lv' := [(3, .int v35), (0, .ref (q 53)), (2, .int b2), (4, .int b4), (5, .int b5), (6, .int b6), (7, .int b7)]) X.x X.b (dk DX12_lays_1 59 rfl) rfl hl (by decide) rfl (fun ls hl => ?_)
            replace hl : lv_has ls 8 [(0, .ref (q 53)), (2, .int b2), (3, .int v35), (4, .int b4), (5, .int b5), (6, .int b6), (7, .int b7)] := lv_sub hl [1, 2, 0, 3, 4, 5, 6] rfl
            obtain ⟨v37, e38⟩ : ∃ y : Int32, y = b7 + 1 := ⟨_, rfl⟩
            replace hF := bnd_e hF e38
            refine lv_iinc (v := v37) (lv' := [(7, .int v37), (0, .ref (q 53)), (2, .int b2), (3, .int v35), (4, .int b4), (5, .int b5), (6, .int b6)]) X.x X.b (dk DX12_lays_2 0 rfl) hl (k := 6) rfl (by rw [e38]; rfl) (by decide) rfl (fun ls hl => ?_)
            replace hl : lv_has ls 8 [(0, .ref (q 53)), (2, .int b2), (3, .int v35), (4, .int b4), (5, .int b5), (6, .int b6), (7, .int v37)] := lv_sub hl [1, 2, 3, 4, 5, 6, 0] rfl
            refine lv_goto (tgt := 78) X.x X.b (dk DX12_lays_2 1 rfl) (by decide) ?_
            exact (lp_l hF hx) _ _ _ hH (lv_sub hl [0, 1, 2, 3, 4, 5, 6] rfl) K0
          · replace hF := if_f hF c34
            refine lv_aload_n X.x X.b (dk DX12_lays_1 35 rfl) rfl (lv_at hl 0 rfl) ?_
            refine og_getR (t := 0) OX12 X hq hH 27 (by decide) rfl kF_X12_39 (dk DX12_lays_1 36 rfl) ?_
            refine lv_iload X.x X.b (dk DX12_lays_1 37 rfl) (lv_at hl 5 rfl) ?_
            refine og_iald X hq hH 27 (by decide) rfl (inb_in c30) (dk DX12_lays_1 38 rfl) ?_
            refine lv_aload_n X.x X.b (dk DX12_lays_1 39 rfl) rfl (lv_at hl 0 rfl) ?_
            refine og_getR (t := 0) OX12 X hq hH 27 (by decide) rfl kF_X12_39 (dk DX12_lays_1 40 rfl) ?_
            refine lv_iload X.x X.b (dk DX12_lays_1 41 rfl) (lv_at hl 6 rfl) ?_
            refine og_iald X hq hH 27 (by decide) rfl (inb_in c32) (dk DX12_lays_1 42 rfl) ?_
            refine lv_iadd X.x X.b (dk DX12_lays_1 43 rfl) ?_
            refine lv_iconst (v := 1) X.x X.b (dk DX12_lays_1 44 rfl) (by decide) ?_
            refine lv_iadd X.x X.b (dk DX12_lays_1 45 rfl) ?_
            refine lv_iload_n X.x X.b (dk DX12_lays_1 46 rfl) rfl (lv_at hl 2 rfl) ?_
            refine lv_icmp_ge (tgt := 205) X.x X.b (dk DX12_lays_1 47 rfl) (by decide) (fun c39 => ?_) (fun c39 => ?_)
            · replace hF := if_t hF c39
              obtain ⟨v40, e41⟩ : ∃ y : Int32, y = b7 + 1 := ⟨_, rfl⟩
              replace hF := bnd_e hF e41
              refine lv_iinc (v := v40) (lv' := [(7, .int v40), (0, .ref (q 53)), (2, .int b2), (3, .int b3), (4, .int b4), (5, .int b5), (6, .int b6)]) X.x X.b (dk DX12_lays_2 0 rfl) hl (k := 6) rfl (by rw [e41]; rfl) (by decide) rfl (fun ls hl => ?_)
              replace hl : lv_has ls 8 [(0, .ref (q 53)), (2, .int b2), (3, .int b3), (4, .int b4), (5, .int b5), (6, .int b6), (7, .int v40)] := lv_sub hl [1, 2, 3, 4, 5, 6, 0] rfl
              refine lv_goto (tgt := 78) X.x X.b (dk DX12_lays_2 1 rfl) (by decide) ?_
              exact (lp_l hF hx) _ _ _ hH (lv_sub hl [0, 1, 2, 3, 4, 5, 6] rfl) K0
            · replace hF := if_f hF c39
              refine lv_aload_n X.x X.b (dk DX12_lays_1 48 rfl) rfl (lv_at hl 0 rfl) ?_
              refine og_getR (t := 0) OX12 X hq hH 27 (by decide) rfl kF_X12_39 (dk DX12_lays_1 49 rfl) ?_
              refine lv_iload X.x X.b (dk DX12_lays_1 50 rfl) (lv_at hl 5 rfl) ?_
              refine og_iald X hq hH 27 (by decide) rfl (inb_in c30) (dk DX12_lays_1 51 rfl) ?_
              refine lv_aload_n X.x X.b (dk DX12_lays_1 52 rfl) rfl (lv_at hl 0 rfl) ?_
              refine og_getR (t := 0) OX12 X hq hH 27 (by decide) rfl kF_X12_39 (dk DX12_lays_1 53 rfl) ?_
              refine lv_iload X.x X.b (dk DX12_lays_1 54 rfl) (lv_at hl 6 rfl) ?_
              refine og_iald X hq hH 27 (by decide) rfl (inb_in c32) (dk DX12_lays_1 55 rfl) ?_
              refine lv_iadd X.x X.b (dk DX12_lays_1 56 rfl) ?_
              refine lv_iconst (v := 1) X.x X.b (dk DX12_lays_1 57 rfl) (by decide) ?_
              refine lv_iadd X.x X.b (dk DX12_lays_1 58 rfl) ?_
              refine lv_topi (fun v42 e43 => ?_)
              replace hF := bnd_e hF e43
              refine lv_istore_n (lv' := [(3, .int v42), (0, .ref (q 53)), (2, .int b2), (4, .int b4), (5, .int b5), (6, .int b6), (7, .int b7)]) X.x X.b (dk DX12_lays_1 59 rfl) rfl hl (by decide) rfl (fun ls hl => ?_)
              replace hl : lv_has ls 8 [(0, .ref (q 53)), (2, .int b2), (3, .int v42), (4, .int b4), (5, .int b5), (6, .int b6), (7, .int b7)] := lv_sub hl [1, 2, 0, 3, 4, 5, 6] rfl
              obtain ⟨v44, e45⟩ : ∃ y : Int32, y = b7 + 1 := ⟨_, rfl⟩
              replace hF := bnd_e hF e45
              refine lv_iinc (v := v44) (lv' := [(7, .int v44), (0, .ref (q 53)), (2, .int b2), (3, .int v42), (4, .int b4), (5, .int b5), (6, .int b6)]) X.x X.b (dk DX12_lays_2 0 rfl) hl (k := 6) rfl (by rw [e45]; rfl) (by decide) rfl (fun ls hl => ?_)
              replace hl : lv_has ls 8 [(0, .ref (q 53)), (2, .int b2), (3, .int v42), (4, .int b4), (5, .int b5), (6, .int b6), (7, .int v44)] := lv_sub hl [1, 2, 3, 4, 5, 6, 0] rfl
              refine lv_goto (tgt := 78) X.x X.b (dk DX12_lays_2 1 rfl) (by decide) ?_
              exact (lp_l hF hx) _ _ _ hH (lv_sub hl [0, 1, 2, 3, 4, 5, 6] rfl) K0
        · replace hF := if_t hF c33
          refine lv_aload_n X.x X.b (dk DX12_lays_1 10 rfl) rfl (lv_at hl 0 rfl) ?_
          refine og_getR (t := 0) OX12 X hq hH 27 (by decide) rfl kF_X12_39 (dk DX12_lays_1 11 rfl) ?_
          refine lv_iload X.x X.b (dk DX12_lays_1 12 rfl) (lv_at hl 6 rfl) ?_
          refine lv_aload_n X.x X.b (dk DX12_lays_1 13 rfl) rfl (lv_at hl 0 rfl) ?_
          refine og_getR (t := 0) OX12 X hq hH 27 (by decide) rfl kF_X12_39 (dk DX12_lays_1 14 rfl) ?_
          refine lv_iload X.x X.b (dk DX12_lays_1 15 rfl) (lv_at hl 5 rfl) ?_
          refine og_iald X hq hH 27 (by decide) rfl (inb_in c30) (dk DX12_lays_1 16 rfl) ?_
          refine lv_iconst (v := 1) X.x X.b (dk DX12_lays_1 17 rfl) (by decide) ?_
          refine lv_iadd X.x X.b (dk DX12_lays_1 18 rfl) ?_
          refine og_iast X hq hH 27 (by decide) rfl (inb_in c32) (dk DX12_lays_1 19 rfl) (fun H locs hH => ?_)
          obtain ⟨t46, e47⟩ : ∃ y, y = oA s0 27 (upd (s0.2.2.1 27) (b7 : Int32).toNatClampNeg ((s0.2.2.1 27 (b6 : Int32).toNatClampNeg) + 1)) := ⟨_, rfl⟩
          rw [← e47] at hH
          replace hF := bnd_e hF e47
          refine lv_aload_n X.x X.b (dk DX12_lays_1 20 rfl) rfl (lv_at hl 0 rfl) ?_
          refine og_getR (t := 0) OX12 X hq hH 28 (by decide) rfl kF_X12_42 (dk DX12_lays_1 21 rfl) ?_
          refine lv_iload X.x X.b (dk DX12_lays_1 22 rfl) (lv_at hl 6 rfl) ?_
          refine lv_iload X.x X.b (dk DX12_lays_1 23 rfl) (lv_at hl 5 rfl) ?_
          refine og_iast X hq hH 28 (by decide) rfl (inb_in c32) (dk DX12_lays_1 24 rfl) (fun H locs hH => ?_)
          obtain ⟨t48, e49⟩ : ∃ y, y = oA t46 28 (upd (t46.2.2.1 28) (b7 : Int32).toNatClampNeg b6) := ⟨_, rfl⟩
          rw [← e49] at hH
          replace hF := bnd_e hF e49
          refine lv_aload_n X.x X.b (dk DX12_lays_1 25 rfl) rfl (lv_at hl 0 rfl) ?_
          refine og_getR (t := 0) OX12 X hq hH 29 (by decide) rfl kF_X12_45 (dk DX12_lays_1 26 rfl) ?_
          refine lv_iload X.x X.b (dk DX12_lays_1 27 rfl) (lv_at hl 3 rfl) ?_
          refine lv_iload X.x X.b (dk DX12_lays_1 28 rfl) (lv_at hl 6 rfl) ?_
          obtain ⟨c50, hF⟩ := gd hF
          refine og_iast X hq hH 29 (by decide) rfl (inb_in c50) (dk DX12_lays_1 29 rfl) (fun H locs hH => ?_)
          obtain ⟨t51, e52⟩ : ∃ y, y = oA t48 29 (upd (t48.2.2.1 29) (b4 : Int32).toNatClampNeg b7) := ⟨_, rfl⟩
          rw [← e52] at hH
          replace hF := bnd_e hF e52
          obtain ⟨v53, e54⟩ : ∃ y : Int32, y = b4 + 1 := ⟨_, rfl⟩
          replace hF := bnd_e hF e54
          refine lv_iinc (v := v53) (lv' := [(4, .int v53), (0, .ref (q 53)), (2, .int b2), (3, .int b3), (5, .int b5), (6, .int b6), (7, .int b7)]) X.x X.b (dk DX12_lays_1 30 rfl) hl (k := 3) rfl (by rw [e54]; rfl) (by decide) rfl (fun ls hl => ?_)
          replace hl : lv_has ls 8 [(0, .ref (q 53)), (2, .int b2), (3, .int b3), (4, .int v53), (5, .int b5), (6, .int b6), (7, .int b7)] := lv_sub hl [1, 2, 3, 0, 4, 5, 6] rfl
          refine lv_goto (tgt := 205) X.x X.b (dk DX12_lays_1 31 rfl) (by decide) ?_
          obtain ⟨v55, e56⟩ : ∃ y : Int32, y = b7 + 1 := ⟨_, rfl⟩
          replace hF := bnd_e hF e56
          refine lv_iinc (v := v55) (lv' := [(7, .int v55), (0, .ref (q 53)), (2, .int b2), (3, .int b3), (4, .int v53), (5, .int b5), (6, .int b6)]) X.x X.b (dk DX12_lays_2 0 rfl) hl (k := 6) rfl (by rw [e56]; rfl) (by decide) rfl (fun ls hl => ?_)
          replace hl : lv_has ls 8 [(0, .ref (q 53)), (2, .int b2), (3, .int b3), (4, .int v53), (5, .int b5), (6, .int b6), (7, .int v55)] := lv_sub hl [1, 2, 3, 4, 5, 6, 0] rfl
          refine lv_goto (tgt := 78) X.x X.b (dk DX12_lays_2 1 rfl) (by decide) ?_
          exact (lp_l hF hx) _ _ _ hH (lv_sub hl [0, 1, 2, 3, 4, 5, 6] rfl) K0
      · replace hF := if_t hF c31
        refine lv_goto (tgt := 205) X.x X.b (dk DX12_lays_1 3 rfl) (by decide) ?_
        obtain ⟨v57, e58⟩ : ∃ y : Int32, y = b7 + 1 := ⟨_, rfl⟩
        replace hF := bnd_e hF e58
        refine lv_iinc (v := v57) (lv' := [(7, .int v57), (0, .ref (q 53)), (2, .int b2), (3, .int b3), (4, .int b4), (5, .int b5), (6, .int b6)]) X.x X.b (dk DX12_lays_2 0 rfl) hl (k := 6) rfl (by rw [e58]; rfl) (by decide) rfl (fun ls hl => ?_)
        replace hl : lv_has ls 8 [(0, .ref (q 53)), (2, .int b2), (3, .int b3), (4, .int b4), (5, .int b5), (6, .int b6), (7, .int v57)] := lv_sub hl [1, 2, 3, 4, 5, 6, 0] rfl
        refine lv_goto (tgt := 78) X.x X.b (dk DX12_lays_2 1 rfl) (by decide) ?_
        exact (lp_l hF hx) _ _ _ hH (lv_sub hl [0, 1, 2, 3, 4, 5, 6] rfl) K0
set_option maxHeartbeats 4000000 in
set_option maxRecDepth 100000 in
theorem w_X12_lays_59 {p : Program} {l : Launch} {e : Env} {s : State} {m : MethodId} {args : Array Value} {below : List Frame} {meth : Method} {c : Code} {Q : State → Prop} {G : mG} {h : mM} {q : Nat → Nat} (hq : oinj LX12 q) (X : mX G p m c cX12_lays 8 s args RX12) (b2 : Int32) : ∀ (z : OS × Int32 × Int32 × Int32) (r : OS × Int32), lpv (f_X12_lays_59 b2) z = some r → ∀ (H : Heap) (locs : List Loc) (ls : Array Slot), mH G (oset LX12 G q z.1 h) s.heap H locs → lv_has ls 8 [(0, .ref (q 53)), (2, .int b2), (3, .int z.2.1), (4, .int z.2.2.1), (5, .int z.2.2.2)] → (∀ (H : Heap) (locs : List Loc) (ls : Array Slot), mH G (oset LX12 G q r.1 h) s.heap H locs → lv_has ls 8 [(3, .int r.2)] → W p l e rm_X12_lays s m args below meth c H locs 0 0 Q (F0 m 217 ls [])) → W p l e rm_X12_lays s m args below meth c H locs 0 0 Q (F0 m 59 ls []) := by
  refine lpv_rec ?_
  intro z r x hF hx H locs ls hH hl K0
  obtain ⟨s0, b3, b4, b5⟩ := z
  dsimp only [f_X12_lays_59] at hF
  try dsimp only at hH hl
  refine lv_iload X.x X.b (dk DX12_lays_0 39 rfl) (lv_at hl 4 rfl) ?_
  refine lv_iload X.x X.b (dk DX12_lays_0 40 rfl) (lv_at hl 3 rfl) ?_
  refine lv_icmp_ge (tgt := 217) X.x X.b (dk DX12_lays_0 41 rfl) (by decide) (fun c20 => ?_) (fun c20 => ?_)
  · replace hF := if_t hF c20
    have hr9 := lp_r hF hx
    subst hr9
    exact K0 _ _ _ hH (lv_sub hl [2] rfl)
  · replace hF := if_f hF c20
    refine lv_aload_n X.x X.b (dk DX12_lays_0 42 rfl) rfl (lv_at hl 0 rfl) ?_
    refine og_getR (t := 0) OX12 X hq hH 29 (by decide) rfl kF_X12_45 (dk DX12_lays_0 43 rfl) ?_
    refine lv_iload X.x X.b (dk DX12_lays_0 44 rfl) (lv_at hl 4 rfl) ?_
    obtain ⟨c21, hF⟩ := gd hF
    refine og_iald X hq hH 29 (by decide) rfl (inb_in c21) (dk DX12_lays_0 45 rfl) ?_
    refine lv_topi (fun v22 e23 => ?_)
    replace hF := bnd_e hF e23
    refine lv_istore (lv' := [(6, .int v22), (0, .ref (q 53)), (2, .int b2), (3, .int b3), (4, .int b4), (5, .int b5)]) X.x X.b (dk DX12_lays_0 46 rfl) hl (by decide) rfl (fun ls hl => ?_)
    replace hl : lv_has ls 8 [(0, .ref (q 53)), (2, .int b2), (3, .int b3), (4, .int b4), (5, .int b5), (6, .int v22)] := lv_sub hl [1, 2, 3, 4, 5, 0] rfl
    refine lv_iconst (v := 0) X.x X.b (dk DX12_lays_0 47 rfl) (by decide) ?_
    refine lv_istore (lv' := [(7, .int 0), (0, .ref (q 53)), (2, .int b2), (3, .int b3), (4, .int b4), (5, .int b5), (6, .int v22)]) X.x X.b (dk DX12_lays_0 48 rfl) hl (by decide) rfl (fun ls hl => ?_)
    replace hl : lv_has ls 8 [(0, .ref (q 53)), (2, .int b2), (3, .int b3), (4, .int b4), (5, .int b5), (6, .int v22), (7, .int 0)] := lv_sub hl [1, 2, 3, 4, 5, 6, 0] rfl
    obtain ⟨x59, e60, hF⟩ := bd hF
    replace hl : lv_has ls 8 [(0, .ref (q 53)), (2, .int b2), (3, .int b3), (4, .int b4), (5, .int b5), (6, .int v22), (7, .int 0)] := lv_sub hl [0, 1, 2, 3, 4, 5, 6] rfl
    obtain ⟨t61, v62, v63⟩ := x59
    try dsimp only at hF
    refine w_X12_lays_78 hq X b2 b5 v22 _ _ e60 _ _ _ hH hl (fun H locs ls hH hl => ?_)
    try dsimp only at hH hl
    obtain ⟨v64, e65⟩ : ∃ y : Int32, y = b5 + 1 := ⟨_, rfl⟩
    replace hF := bnd_e hF e65
    refine lv_iinc (v := v64) (lv' := [(5, .int v64), (0, .ref (q 53)), (2, .int b2), (3, .int v62), (4, .int v63)]) X.x X.b (dk DX12_lays_2 2 rfl) hl (k := 4) rfl (by rw [e65]; rfl) (by decide) rfl (fun ls hl => ?_)
    replace hl : lv_has ls 8 [(0, .ref (q 53)), (2, .int b2), (3, .int v62), (4, .int v63), (5, .int v64)] := lv_sub hl [1, 2, 3, 4, 0] rfl
    refine lv_goto (tgt := 59) X.x X.b (dk DX12_lays_2 3 rfl) (by decide) ?_
    exact (lp_l hF hx) _ _ _ hH (lv_sub hl [0, 1, 2, 3, 4] rfl) K0
set_option maxHeartbeats 4000000 in
set_option maxRecDepth 100000 in
theorem c_X12_lays {l : Launch} {G : mG} {h : mM} {q : Nat → Nat} (hq : oinj LX12 q) {st : OS} {a0 : Int32} {x : Int32 × OS} (hF : f_X12_lays st a0 = some x) : cQ l G yX12_lays cX12_lays 8 (some FieldType.int) rm_X12_lays [.ref (q 53), .int a0] (oset LX12 G q st h) (mQi G (fun r h1 => r = x.1 ∧ h1 = oset LX12 G q x.2 h)) := by
  refine mp_of (by decide +kernel) (Nat.le_of_ble_eq_true rfl) ?_
  intro p e s m below meth c X hr hlk hH hname ls hl
  dsimp only [f_X12_lays] at hF
  replace hl : lv_has ls 8 [(0, .ref (q 53)), (1, .int a0)] := hl
  refine lv_aload_n X.x X.b (dk DX12_lays_0 0 rfl) rfl (lv_at hl 0 rfl) ?_
  refine og_getI OX12 X hq hH 0 (by decide) rfl kF_X12_248 (dk DX12_lays_0 1 rfl) ?_
  refine lv_aload_n X.x X.b (dk DX12_lays_0 2 rfl) rfl (lv_at hl 0 rfl) ?_
  refine og_getI OX12 X hq hH 1 (by decide) rfl kF_X12_250 (dk DX12_lays_0 3 rfl) ?_
  refine lv_iadd X.x X.b (dk DX12_lays_0 4 rfl) ?_
  refine lv_topi (fun v1 e2 => ?_)
  replace hF := bnd_e hF e2
  refine lv_istore_n (lv' := [(2, .int v1), (0, .ref (q 53)), (1, .int a0)]) X.x X.b (dk DX12_lays_0 5 rfl) rfl hl (by decide) rfl (fun ls hl => ?_)
  replace hl : lv_has ls 8 [(0, .ref (q 53)), (1, .int a0), (2, .int v1)] := lv_sub hl [1, 2, 0] rfl
  refine lv_iconst (v := 0) X.x X.b (dk DX12_lays_0 6 rfl) (by decide) ?_
  refine lv_istore_n (lv' := [(3, .int 0), (0, .ref (q 53)), (1, .int a0), (2, .int v1)]) X.x X.b (dk DX12_lays_0 7 rfl) rfl hl (by decide) rfl (fun ls hl => ?_)
  replace hl : lv_has ls 8 [(0, .ref (q 53)), (1, .int a0), (2, .int v1), (3, .int 0)] := lv_sub hl [1, 2, 3, 0] rfl
  obtain ⟨x9, e10, hF⟩ := bd hF
  replace hl : lv_has ls 8 [(0, .ref (q 53)), (1, .int a0), (2, .int v1), (3, .int 0)] := lv_sub hl [0, 1, 2, 3] rfl
  refine w_X12_lays_12 hq X a0 v1 _ _ e10 _ _ _ hH hl (fun H locs ls hH hl => ?_)
  refine lv_iconst (v := (-1)) X.x X.b (dk DX12_lays_0 18 rfl) (by decide) ?_
  refine lv_istore_n (lv' := [(3, .int ((-1))), (0, .ref (q 53)), (1, .int a0), (2, .int v1)]) X.x X.b (dk DX12_lays_0 19 rfl) rfl hl (by decide) rfl (fun ls hl => ?_)
  replace hl : lv_has ls 8 [(0, .ref (q 53)), (1, .int a0), (2, .int v1), (3, .int ((-1)))] := lv_sub hl [1, 2, 3, 0] rfl
  refine lv_iconst (v := 1) X.x X.b (dk DX12_lays_0 20 rfl) (by decide) ?_
  refine lv_istore (lv' := [(4, .int 1), (0, .ref (q 53)), (1, .int a0), (2, .int v1), (3, .int ((-1)))]) X.x X.b (dk DX12_lays_0 21 rfl) hl (by decide) rfl (fun ls hl => ?_)
  replace hl : lv_has ls 8 [(0, .ref (q 53)), (1, .int a0), (2, .int v1), (3, .int ((-1))), (4, .int 1)] := lv_sub hl [1, 2, 3, 4, 0] rfl
  refine lv_aload_n X.x X.b (dk DX12_lays_0 22 rfl) rfl (lv_at hl 0 rfl) ?_
  refine og_getR (t := 0) OX12 X hq hH 27 (by decide) rfl kF_X12_39 (dk DX12_lays_0 23 rfl) ?_
  refine lv_iload_n X.x X.b (dk DX12_lays_0 24 rfl) rfl (lv_at hl 1 rfl) ?_
  refine lv_iconst (v := 0) X.x X.b (dk DX12_lays_0 25 rfl) (by decide) ?_
  obtain ⟨c12, hF⟩ := gd hF
  refine og_iast X hq hH 27 (by decide) rfl (inb_in c12) (dk DX12_lays_0 26 rfl) (fun H locs hH => ?_)
  obtain ⟨t13, e14⟩ : ∃ y, y = oA x9 27 (upd (x9.2.2.1 27) (a0 : Int32).toNatClampNeg 0) := ⟨_, rfl⟩
  rw [← e14] at hH
  replace hF := bnd_e hF e14
  refine lv_aload_n X.x X.b (dk DX12_lays_0 27 rfl) rfl (lv_at hl 0 rfl) ?_
  refine og_getR (t := 0) OX12 X hq hH 28 (by decide) rfl kF_X12_42 (dk DX12_lays_0 28 rfl) ?_
  refine lv_iload_n X.x X.b (dk DX12_lays_0 29 rfl) rfl (lv_at hl 1 rfl) ?_
  refine lv_iconst (v := (-1)) X.x X.b (dk DX12_lays_0 30 rfl) (by decide) ?_
  refine og_iast X hq hH 28 (by decide) rfl (inb_in c12) (dk DX12_lays_0 31 rfl) (fun H locs hH => ?_)
  obtain ⟨t15, e16⟩ : ∃ y, y = oA t13 28 (upd (t13.2.2.1 28) (a0 : Int32).toNatClampNeg ((-1))) := ⟨_, rfl⟩
  rw [← e16] at hH
  replace hF := bnd_e hF e16
  refine lv_aload_n X.x X.b (dk DX12_lays_0 32 rfl) rfl (lv_at hl 0 rfl) ?_
  refine og_getR (t := 0) OX12 X hq hH 29 (by decide) rfl kF_X12_45 (dk DX12_lays_0 33 rfl) ?_
  refine lv_iconst (v := 0) X.x X.b (dk DX12_lays_0 34 rfl) (by decide) ?_
  refine lv_iload_n X.x X.b (dk DX12_lays_0 35 rfl) rfl (lv_at hl 1 rfl) ?_
  obtain ⟨c17, hF⟩ := gd hF
  refine og_iast X hq hH 29 (by decide) rfl (inb_in c17) (dk DX12_lays_0 36 rfl) (fun H locs hH => ?_)
  obtain ⟨t18, e19⟩ : ∃ y, y = oA t15 29 (upd (t15.2.2.1 29) (0 : Int32).toNatClampNeg a0) := ⟨_, rfl⟩
  rw [← e19] at hH
  replace hF := bnd_e hF e19
  refine lv_iconst (v := 0) X.x X.b (dk DX12_lays_0 37 rfl) (by decide) ?_
  refine lv_istore (lv' := [(5, .int 0), (0, .ref (q 53)), (1, .int a0), (2, .int v1), (3, .int ((-1))), (4, .int 1)]) X.x X.b (dk DX12_lays_0 38 rfl) hl (by decide) rfl (fun ls hl => ?_)
  replace hl : lv_has ls 8 [(0, .ref (q 53)), (2, .int v1), (3, .int ((-1))), (4, .int 1), (5, .int 0)] := lv_sub hl [1, 3, 4, 5, 0] rfl
  obtain ⟨x66, e67, hF⟩ := bd hF
  replace hl : lv_has ls 8 [(0, .ref (q 53)), (2, .int v1), (3, .int ((-1))), (4, .int 1), (5, .int 0)] := lv_sub hl [0, 1, 2, 3, 4] rfl
  obtain ⟨t68, v69⟩ := x66
  try dsimp only at hF
  refine w_X12_lays_59 hq X v1 _ _ e67 _ _ _ hH hl (fun H locs ls hH hl => ?_)
  try dsimp only at hH hl
  refine lv_iload_n X.x X.b (dk DX12_lays_2 4 rfl) rfl (lv_at hl 0 rfl) ?_
  cases sm hF
  exact mr_iret X hr hlk hH ⟨rfl, rfl⟩ (dk DX12_lays_2 5 rfl)
-- X12_far
abbrev rm_X12_far : Room := { frames := 3, cells := 0, slots := 0, locals := 71 }
theorem hd_X12_far : mHd yX12_far 2 := ⟨by decide +kernel, by decide +kernel, by decide +kernel⟩
theorem DX12_far_0 : ∀ t ∈ ([(0, .aload_n 0, 1), (1, .iconst 0, 1), (2, .putfield 106, 3), (5, .aload_n 0, 1), (6, .iload_n 1, 1), (7, .invokevirtual 266, 3), (10, .ifCond .eq 11, 3), (13, .aload_n 0, 1), (14, .iload_n 2, 1), (15, .invokevirtual 266, 3), (18, .ifCond .ne 9, 3), (21, .aload_n 0, 1), (22, .iconst 1, 1), (23, .invokevirtual 236, 3), (26, .ireturn, 1), (27, .aload_n 0, 1), (28, .iload_n 1, 1), (29, .invokevirtual 353, 3), (32, .pop, 1), (33, .aload_n 0, 1), (34, .getfield 39, 3), (37, .iload_n 2, 1), (38, .iaload, 1), (39, .ireturn, 1)] : List (Nat × Instr × Nat)), decode cX12_far t.1 = .ok (t.2.1, t.2.2) := by decide +kernel
noncomputable def f_X12_far (st : OS) (a0 : Int32) (a1 : Int32) : Option (Int32 × OS) := bnd (oI st 2 0) (fun t1 => (f_X12_isPoint t1 a0).bind (fun x3 => (if x3 = 0 then (f_X12_fails t1 1).bind (fun x6 => match x6 with | (v9, t8) => some ((v9, t8))) else (f_X12_isPoint t1 a1).bind (fun x10 => (if x10 = 0 then (f_X12_fails t1 1).bind (fun x18 => match x18 with | (v21, t20) => some ((v21, t20))) else (f_X12_lays t1 a0).bind (fun x13 => match x13 with | (v16, t15) => if inb a1 128 = true then some ((t15.2.2.1 27 (a1 : Int32).toNatClampNeg, t15)) else none))))))
set_option maxHeartbeats 4000000 in
set_option maxRecDepth 100000 in
theorem c_X12_far {l : Launch} {G : mG} {h : mM} {q : Nat → Nat} (hq : oinj LX12 q) {st : OS} {a0 : Int32} {a1 : Int32} {x : Int32 × OS} (hF : f_X12_far st a0 a1 = some x) : cQ l G yX12_far cX12_far 3 (some FieldType.int) rm_X12_far [.ref (q 53), .int a0, .int a1] (oset LX12 G q st h) (mQi G (fun r h1 => r = x.1 ∧ h1 = oset LX12 G q x.2 h)) := by
  refine mp_of (by decide +kernel) (Nat.le_of_ble_eq_true rfl) ?_
  intro p e s m below meth c X hr hlk hH hname ls hl
  dsimp only [f_X12_far] at hF
  replace hl : lv_has ls 3 [(0, .ref (q 53)), (1, .int a0), (2, .int a1)] := hl
  refine lv_aload_n X.x X.b (dk DX12_far_0 0 rfl) rfl (lv_at hl 0 rfl) ?_
  refine lv_iconst (v := 0) X.x X.b (dk DX12_far_0 1 rfl) (by decide) ?_
  refine og_putI OX12 X hq hH 2 (by decide) rfl kF_X12_106 rfl rfl rfl (dk DX12_far_0 2 rfl) (fun H locs hH => ?_)
  obtain ⟨t1, e2⟩ : ∃ y, y = oI st 2 0 := ⟨_, rfl⟩
  rw [← e2] at hH
  replace hF := bnd_e hF e2
  refine lv_aload_n X.x X.b (dk DX12_far_0 3 rfl) rfl (lv_at hl 0 rfl) ?_
  refine lv_iload_n X.x X.b (dk DX12_far_0 4 rfl) rfl (lv_at hl 1 rfl) ?_
  obtain ⟨x3, e4, hF⟩ := bd hF
  refine mr_ci0 hH ⟨rfl, rfl⟩ (mr_runV (As := [.int a0]) (rest := []) X hH (c_X12_isPoint hq e4) ((oset_at hq (Nat.le_refl _) ohas_N).trans (congrArg some ocell_N)) OX12.1 kM_X12_266 kI_X12_isPoint kS_X12_isPoint kN_X12 kC_X12_isPoint hd_X12_isPoint ⟨Nat.le_of_ble_eq_true rfl, Nat.le_of_ble_eq_true rfl⟩ rfl hl.1 (Nat.le_of_ble_eq_true rfl) (dk DX12_far_0 5 rfl) ⟨Nat.zero_le _, Nat.zero_le _⟩) (fun r h1 H locs hp hH => ?_)
  obtain ⟨hr1, hr2⟩ := hp; rw [hr1]; rw [hr2] at hH; clear hr1 hr2
  refine lv_if_eq (tgt := 21) X.x X.b (dk DX12_far_0 6 rfl) (by decide) (fun c5 => ?_) (fun c5 => ?_)
  · replace hF := if_t hF c5
    refine lv_aload_n X.x X.b (dk DX12_far_0 11 rfl) rfl (lv_at hl 0 rfl) ?_
    refine lv_iconst (v := 1) X.x X.b (dk DX12_far_0 12 rfl) (by decide) ?_
    obtain ⟨x6, e7, hF⟩ := bd hF
    refine mr_ci0 hH ⟨rfl, rfl⟩ (mr_runV (As := [.int 1]) (rest := []) X hH (c_X12_fails hq e7) ((oset_at hq (Nat.le_refl _) ohas_N).trans (congrArg some ocell_N)) OX12.1 kM_X12_236 kI_X12_fails kS_X12_fails kN_X12 kC_X12_fails hd_X12_fails ⟨Nat.le_of_ble_eq_true rfl, Nat.le_of_ble_eq_true rfl⟩ rfl hl.1 (Nat.le_of_ble_eq_true rfl) (dk DX12_far_0 13 rfl) ⟨Nat.zero_le _, Nat.zero_le _⟩) (fun r h1 H locs hp hH => ?_)
    obtain ⟨hr1, hr2⟩ := hp; rw [hr1]; rw [hr2] at hH; clear hr1 hr2
    obtain ⟨v9, t8⟩ := x6
    try dsimp only at hF hH ⊢
    cases sm hF
    exact mr_iret X hr hlk hH ⟨rfl, rfl⟩ (dk DX12_far_0 14 rfl)
  · replace hF := if_f hF c5
    refine lv_aload_n X.x X.b (dk DX12_far_0 7 rfl) rfl (lv_at hl 0 rfl) ?_
    refine lv_iload_n X.x X.b (dk DX12_far_0 8 rfl) rfl (lv_at hl 2 rfl) ?_
    obtain ⟨x10, e11, hF⟩ := bd hF
    refine mr_ci0 hH ⟨rfl, rfl⟩ (mr_runV (As := [.int a1]) (rest := []) X hH (c_X12_isPoint hq e11) ((oset_at hq (Nat.le_refl _) ohas_N).trans (congrArg some ocell_N)) OX12.1 kM_X12_266 kI_X12_isPoint kS_X12_isPoint kN_X12 kC_X12_isPoint hd_X12_isPoint ⟨Nat.le_of_ble_eq_true rfl, Nat.le_of_ble_eq_true rfl⟩ rfl hl.1 (Nat.le_of_ble_eq_true rfl) (dk DX12_far_0 9 rfl) ⟨Nat.zero_le _, Nat.zero_le _⟩) (fun r h1 H locs hp hH => ?_)
    obtain ⟨hr1, hr2⟩ := hp; rw [hr1]; rw [hr2] at hH; clear hr1 hr2
    refine lv_if_ne (tgt := 27) X.x X.b (dk DX12_far_0 10 rfl) (by decide) (fun c12 => ?_) (fun c12 => ?_)
    · replace hF := if_f hF c12
      refine lv_aload_n X.x X.b (dk DX12_far_0 15 rfl) rfl (lv_at hl 0 rfl) ?_
      refine lv_iload_n X.x X.b (dk DX12_far_0 16 rfl) rfl (lv_at hl 1 rfl) ?_
      obtain ⟨x13, e14, hF⟩ := bd hF
      refine mr_ci0 hH ⟨rfl, rfl⟩ (mr_runV (As := [.int a0]) (rest := []) X hH (c_X12_lays hq e14) ((oset_at hq (Nat.le_refl _) ohas_N).trans (congrArg some ocell_N)) OX12.1 kM_X12_353 kI_X12_lays kS_X12_lays kN_X12 kC_X12_lays hd_X12_lays ⟨Nat.le_of_ble_eq_true rfl, Nat.le_of_ble_eq_true rfl⟩ rfl hl.1 (Nat.le_of_ble_eq_true rfl) (dk DX12_far_0 17 rfl) ⟨Nat.zero_le _, Nat.zero_le _⟩) (fun r h1 H locs hp hH => ?_)
      obtain ⟨hr1, hr2⟩ := hp; rw [hr1]; rw [hr2] at hH; clear hr1 hr2
      obtain ⟨v16, t15⟩ := x13
      try dsimp only at hF hH ⊢
      refine lv_pop X.x X.b (dk DX12_far_0 18 rfl) rfl ?_
      refine lv_aload_n X.x X.b (dk DX12_far_0 19 rfl) rfl (lv_at hl 0 rfl) ?_
      refine og_getR (t := 0) OX12 X hq hH 27 (by decide) rfl kF_X12_39 (dk DX12_far_0 20 rfl) ?_
      refine lv_iload_n X.x X.b (dk DX12_far_0 21 rfl) rfl (lv_at hl 2 rfl) ?_
      obtain ⟨c17, hF⟩ := gd hF
      refine og_iald X hq hH 27 (by decide) rfl (inb_in c17) (dk DX12_far_0 22 rfl) ?_
      cases sm hF
      exact mr_iret X hr hlk hH ⟨rfl, rfl⟩ (dk DX12_far_0 23 rfl)
    · replace hF := if_t hF c12
      refine lv_aload_n X.x X.b (dk DX12_far_0 11 rfl) rfl (lv_at hl 0 rfl) ?_
      refine lv_iconst (v := 1) X.x X.b (dk DX12_far_0 12 rfl) (by decide) ?_
      obtain ⟨x18, e19, hF⟩ := bd hF
      refine mr_ci0 hH ⟨rfl, rfl⟩ (mr_runV (As := [.int 1]) (rest := []) X hH (c_X12_fails hq e19) ((oset_at hq (Nat.le_refl _) ohas_N).trans (congrArg some ocell_N)) OX12.1 kM_X12_236 kI_X12_fails kS_X12_fails kN_X12 kC_X12_fails hd_X12_fails ⟨Nat.le_of_ble_eq_true rfl, Nat.le_of_ble_eq_true rfl⟩ rfl hl.1 (Nat.le_of_ble_eq_true rfl) (dk DX12_far_0 13 rfl) ⟨Nat.zero_le _, Nat.zero_le _⟩) (fun r h1 H locs hp hH => ?_)
      obtain ⟨hr1, hr2⟩ := hp; rw [hr1]; rw [hr2] at hH; clear hr1 hr2
      obtain ⟨v21, t20⟩ := x18
      try dsimp only at hF hH ⊢
      cases sm hF
      exact mr_iret X hr hlk hH ⟨rfl, rfl⟩ (dk DX12_far_0 14 rfl)
-- X12_parts
abbrev rm_X12_parts : Room := { frames := 3, cells := 0, slots := 0, locals := 71 }
theorem hd_X12_parts : mHd yX12_parts 0 := ⟨by decide +kernel, by decide +kernel, by decide +kernel⟩
theorem DX12_parts_0 : ∀ t ∈ ([(0, .aload_n 0, 1), (1, .iconst 0, 1), (2, .putfield 106, 3), (5, .iconst 0, 1), (6, .istore_n 1, 1), (7, .iconst 0, 1), (8, .istore_n 2, 1), (9, .iload_n 2, 1), (10, .aload_n 0, 1), (11, .getfield 248, 3), (14, .if_icmp .ge 65, 3), (17, .aload_n 0, 1), (18, .iload_n 2, 1), (19, .invokevirtual 353, 3), (22, .pop, 1), (23, .iconst 1, 1), (24, .istore_n 3, 1), (25, .iconst 0, 1), (26, .istore 4, 2), (28, .iload 4, 2), (30, .iload_n 2, 1), (31, .if_icmp .ge 30, 3), (34, .iload_n 3, 1), (35, .ifCond .eq 18, 3), (38, .aload_n 0, 1), (39, .getfield 39, 3), (42, .iload 4, 2), (44, .iaload, 1), (45, .iconst (-1), 1), (46, .if_icmp .ne 7, 3), (49, .iconst 1, 1), (50, .goto 4, 3), (53, .iconst 0, 1), (54, .istore_n 3, 1), (55, .iinc 4 1, 3), (58, .goto (-30), 3), (61, .iload_n 1, 1), (62, .iload_n 3, 1), (63, .ifCond .eq 7, 3), (66, .iconst 1, 1), (67, .goto 4, 3), (70, .iconst 0, 1), (71, .iadd, 1), (72, .istore_n 1, 1), (73, .iinc 2 1, 3), (76, .goto (-67), 3), (79, .iload_n 1, 1), (80, .ireturn, 1)] : List (Nat × Instr × Nat)), decode cX12_parts t.1 = .ok (t.2.1, t.2.2) := by decide +kernel
noncomputable def f_X12_parts_28 (s0 : OS) (b1 : Int32) (b2 : Int32) : (Int32 × Int32) → Option ((Int32 × Int32) ⊕ (Int32)) := fun z => match z with | (b3, b4) => (if b2 ≤ b4 then some (.inr b3) else (if b3 = 0 then bnd (b4 + 1 : Int32) (fun v10 => some (.inl ((0, v10)))) else if inb b4 128 = true then (if (s0.2.2.1 27 (b4 : Int32).toNatClampNeg) = ((-1)) then bnd (b4 + 1 : Int32) (fun v16 => some (.inl ((1, v16)))) else bnd (b4 + 1 : Int32) (fun v14 => some (.inl ((0, v14))))) else none))
noncomputable def f_X12_parts_9 : (OS × Int32 × Int32) → Option ((OS × Int32 × Int32) ⊕ (OS × Int32)) := fun z => match z with | (s0, b1, b2) => (if (s0.1 0) ≤ b2 then some (.inr ((s0, b1))) else (f_X12_lays s0 b2).bind (fun x4 => match x4 with | (v7, t6) => (lpv (f_X12_parts_28 t6 b1 b2) ((1, 0))).bind (fun x18 => (if x18 = 0 then bnd (b1 + 0 : Int32) (fun v22 => bnd (b2 + 1 : Int32) (fun v24 => some (.inl ((t6, v22, v24))))) else bnd (b1 + 1 : Int32) (fun v26 => bnd (b2 + 1 : Int32) (fun v28 => some (.inl ((t6, v26, v28)))))))))
noncomputable def f_X12_parts (st : OS) : Option (Int32 × OS) := bnd (oI st 2 0) (fun t1 => (lpv (f_X12_parts_9) ((t1, 0, 0))).bind (fun x30 => match x30 with | (t32, v33) => some ((v33, t32))))
set_option maxHeartbeats 4000000 in
set_option maxRecDepth 100000 in
theorem w_X12_parts_28 {p : Program} {l : Launch} {e : Env} {s : State} {m : MethodId} {args : Array Value} {below : List Frame} {meth : Method} {c : Code} {Q : State → Prop} {G : mG} {h : mM} {q : Nat → Nat} (hq : oinj LX12 q) (X : mX G p m c cX12_parts 5 s args RX12) (s0 : OS) (b1 : Int32) (b2 : Int32) : ∀ (z : Int32 × Int32) (r : Int32), lpv (f_X12_parts_28 s0 b1 b2) z = some r → ∀ (H : Heap) (locs : List Loc) (ls : Array Slot), mH G (oset LX12 G q s0 h) s.heap H locs → lv_has ls 5 [(0, .ref (q 53)), (1, .int b1), (2, .int b2), (3, .int z.1), (4, .int z.2)] → (∀ (H : Heap) (locs : List Loc) (ls : Array Slot), mH G (oset LX12 G q s0 h) s.heap H locs → lv_has ls 5 [(0, .ref (q 53)), (1, .int b1), (2, .int b2), (3, .int r)] → W p l e rm_X12_parts s m args below meth c H locs 0 0 Q (F0 m 61 ls [])) → W p l e rm_X12_parts s m args below meth c H locs 0 0 Q (F0 m 28 ls []) := by
  refine lpv_rec ?_
  intro z r x hF hx H locs ls hH hl K0
  obtain ⟨b3, b4⟩ := z
  dsimp only [f_X12_parts_28] at hF
  try dsimp only at hH hl
  refine lv_iload X.x X.b (dk DX12_parts_0 19 rfl) (lv_at hl 4 rfl) ?_
  refine lv_iload_n X.x X.b (dk DX12_parts_0 20 rfl) rfl (lv_at hl 2 rfl) ?_
  refine lv_icmp_ge (tgt := 61) X.x X.b (dk DX12_parts_0 21 rfl) (by decide) (fun c8 => ?_) (fun c8 => ?_)
  · replace hF := if_t hF c8
    have hr9 := lp_r hF hx
    subst hr9
    exact K0 _ _ _ hH (lv_sub hl [0, 1, 2, 3] rfl)
  · replace hF := if_f hF c8
    refine lv_iload_n X.x X.b (dk DX12_parts_0 22 rfl) rfl (lv_at hl 3 rfl) ?_
    refine lv_if_eq (tgt := 53) X.x X.b (dk DX12_parts_0 23 rfl) (by decide) (fun c9 => ?_) (fun c9 => ?_)
    · replace hF := if_t hF c9
      refine lv_iconst (v := 0) X.x X.b (dk DX12_parts_0 32 rfl) (by decide) ?_
      refine lv_istore_n (lv' := [(3, .int 0), (0, .ref (q 53)), (1, .int b1), (2, .int b2), (4, .int b4)]) X.x X.b (dk DX12_parts_0 33 rfl) rfl hl (by decide) rfl (fun ls hl => ?_)
      replace hl : lv_has ls 5 [(0, .ref (q 53)), (1, .int b1), (2, .int b2), (3, .int 0), (4, .int b4)] := lv_sub hl [1, 2, 3, 0, 4] rfl
      obtain ⟨v10, e11⟩ : ∃ y : Int32, y = b4 + 1 := ⟨_, rfl⟩
      replace hF := bnd_e hF e11
      refine lv_iinc (v := v10) (lv' := [(4, .int v10), (0, .ref (q 53)), (1, .int b1), (2, .int b2), (3, .int 0)]) X.x X.b (dk DX12_parts_0 34 rfl) hl (k := 4) rfl (by rw [e11]; rfl) (by decide) rfl (fun ls hl => ?_)
      replace hl : lv_has ls 5 [(0, .ref (q 53)), (1, .int b1), (2, .int b2), (3, .int 0), (4, .int v10)] := lv_sub hl [1, 2, 3, 4, 0] rfl
      refine lv_goto (tgt := 28) X.x X.b (dk DX12_parts_0 35 rfl) (by decide) ?_
      exact (lp_l hF hx) _ _ _ hH (lv_sub hl [0, 1, 2, 3, 4] rfl) K0
    · replace hF := if_f hF c9
      refine lv_aload_n X.x X.b (dk DX12_parts_0 24 rfl) rfl (lv_at hl 0 rfl) ?_
      refine og_getR (t := 0) OX12 X hq hH 27 (by decide) rfl kF_X12_39 (dk DX12_parts_0 25 rfl) ?_
      refine lv_iload X.x X.b (dk DX12_parts_0 26 rfl) (lv_at hl 4 rfl) ?_
      obtain ⟨c12, hF⟩ := gd hF
      refine og_iald X hq hH 27 (by decide) rfl (inb_in c12) (dk DX12_parts_0 27 rfl) ?_
      refine lv_iconst (v := (-1)) X.x X.b (dk DX12_parts_0 28 rfl) (by decide) ?_
      refine lv_icmp_ne (tgt := 53) X.x X.b (dk DX12_parts_0 29 rfl) (by decide) (fun c13 => ?_) (fun c13 => ?_)
      · replace hF := if_f hF c13
        refine lv_iconst (v := 0) X.x X.b (dk DX12_parts_0 32 rfl) (by decide) ?_
        refine lv_istore_n (lv' := [(3, .int 0), (0, .ref (q 53)), (1, .int b1), (2, .int b2), (4, .int b4)]) X.x X.b (dk DX12_parts_0 33 rfl) rfl hl (by decide) rfl (fun ls hl => ?_)
        replace hl : lv_has ls 5 [(0, .ref (q 53)), (1, .int b1), (2, .int b2), (3, .int 0), (4, .int b4)] := lv_sub hl [1, 2, 3, 0, 4] rfl
        obtain ⟨v14, e15⟩ : ∃ y : Int32, y = b4 + 1 := ⟨_, rfl⟩
        replace hF := bnd_e hF e15
        refine lv_iinc (v := v14) (lv' := [(4, .int v14), (0, .ref (q 53)), (1, .int b1), (2, .int b2), (3, .int 0)]) X.x X.b (dk DX12_parts_0 34 rfl) hl (k := 4) rfl (by rw [e15]; rfl) (by decide) rfl (fun ls hl => ?_)
        replace hl : lv_has ls 5 [(0, .ref (q 53)), (1, .int b1), (2, .int b2), (3, .int 0), (4, .int v14)] := lv_sub hl [1, 2, 3, 4, 0] rfl
        refine lv_goto (tgt := 28) X.x X.b (dk DX12_parts_0 35 rfl) (by decide) ?_
        exact (lp_l hF hx) _ _ _ hH (lv_sub hl [0, 1, 2, 3, 4] rfl) K0
      · replace hF := if_t hF c13
        refine lv_iconst (v := 1) X.x X.b (dk DX12_parts_0 30 rfl) (by decide) ?_
        refine lv_goto (tgt := 54) X.x X.b (dk DX12_parts_0 31 rfl) (by decide) ?_
        refine lv_istore_n (lv' := [(3, .int 1), (0, .ref (q 53)), (1, .int b1), (2, .int b2), (4, .int b4)]) X.x X.b (dk DX12_parts_0 33 rfl) rfl hl (by decide) rfl (fun ls hl => ?_)
        replace hl : lv_has ls 5 [(0, .ref (q 53)), (1, .int b1), (2, .int b2), (3, .int 1), (4, .int b4)] := lv_sub hl [1, 2, 3, 0, 4] rfl
        obtain ⟨v16, e17⟩ : ∃ y : Int32, y = b4 + 1 := ⟨_, rfl⟩
        replace hF := bnd_e hF e17
        refine lv_iinc (v := v16) (lv' := [(4, .int v16), (0, .ref (q 53)), (1, .int b1), (2, .int b2), (3, .int 1)]) X.x X.b (dk DX12_parts_0 34 rfl) hl (k := 4) rfl (by rw [e17]; rfl) (by decide) rfl (fun ls hl => ?_)
        replace hl : lv_has ls 5 [(0, .ref (q 53)), (1, .int b1), (2, .int b2), (3, .int 1), (4, .int v16)] := lv_sub hl [1, 2, 3, 4, 0] rfl
        refine lv_goto (tgt := 28) X.x X.b (dk DX12_parts_0 35 rfl) (by decide) ?_
        exact (lp_l hF hx) _ _ _ hH (lv_sub hl [0, 1, 2, 3, 4] rfl) K0
set_option maxHeartbeats 4000000 in
set_option maxRecDepth 100000 in
theorem w_X12_parts_9 {p : Program} {l : Launch} {e : Env} {s : State} {m : MethodId} {args : Array Value} {below : List Frame} {meth : Method} {c : Code} {Q : State → Prop} {G : mG} {h : mM} {q : Nat → Nat} (hq : oinj LX12 q) (X : mX G p m c cX12_parts 5 s args RX12) : ∀ (z : OS × Int32 × Int32) (r : OS × Int32), lpv (f_X12_parts_9) z = some r → ∀ (H : Heap) (locs : List Loc) (ls : Array Slot), mH G (oset LX12 G q z.1 h) s.heap H locs → lv_has ls 5 [(0, .ref (q 53)), (1, .int z.2.1), (2, .int z.2.2)] → (∀ (H : Heap) (locs : List Loc) (ls : Array Slot), mH G (oset LX12 G q r.1 h) s.heap H locs → lv_has ls 5 [(1, .int r.2)] → W p l e rm_X12_parts s m args below meth c H locs 0 0 Q (F0 m 79 ls [])) → W p l e rm_X12_parts s m args below meth c H locs 0 0 Q (F0 m 9 ls []) := by
  refine lpv_rec ?_
  intro z r x hF hx H locs ls hH hl K0
  obtain ⟨s0, b1, b2⟩ := z
  dsimp only [f_X12_parts_9] at hF
  try dsimp only at hH hl
  refine lv_iload_n X.x X.b (dk DX12_parts_0 7 rfl) rfl (lv_at hl 2 rfl) ?_
  refine lv_aload_n X.x X.b (dk DX12_parts_0 8 rfl) rfl (lv_at hl 0 rfl) ?_
  refine og_getI OX12 X hq hH 0 (by decide) rfl kF_X12_248 (dk DX12_parts_0 9 rfl) ?_
  refine lv_icmp_ge (tgt := 79) X.x X.b (dk DX12_parts_0 10 rfl) (by decide) (fun c3 => ?_) (fun c3 => ?_)
  · replace hF := if_t hF c3
    have hr9 := lp_r hF hx
    subst hr9
    exact K0 _ _ _ hH (lv_sub hl [1] rfl)
  · replace hF := if_f hF c3
    refine lv_aload_n X.x X.b (dk DX12_parts_0 11 rfl) rfl (lv_at hl 0 rfl) ?_
    refine lv_iload_n X.x X.b (dk DX12_parts_0 12 rfl) rfl (lv_at hl 2 rfl) ?_
    obtain ⟨x4, e5, hF⟩ := bd hF
    refine mr_ci0 hH ⟨rfl, rfl⟩ (mr_runV (As := [.int b2]) (rest := []) X hH (c_X12_lays hq e5) ((oset_at hq (Nat.le_refl _) ohas_N).trans (congrArg some ocell_N)) OX12.1 kM_X12_353 kI_X12_lays kS_X12_lays kN_X12 kC_X12_lays hd_X12_lays ⟨Nat.le_of_ble_eq_true rfl, Nat.le_of_ble_eq_true rfl⟩ rfl hl.1 (Nat.le_of_ble_eq_true rfl) (dk DX12_parts_0 13 rfl) ⟨Nat.zero_le _, Nat.zero_le _⟩) (fun r h1 H locs hp hH => ?_)
    obtain ⟨hr1, hr2⟩ := hp; rw [hr1]; rw [hr2] at hH; clear hr1 hr2
    obtain ⟨v7, t6⟩ := x4
    try dsimp only at hF hH ⊢
    refine lv_pop X.x X.b (dk DX12_parts_0 14 rfl) rfl ?_
    refine lv_iconst (v := 1) X.x X.b (dk DX12_parts_0 15 rfl) (by decide) ?_
    refine lv_istore_n (lv' := [(3, .int 1), (0, .ref (q 53)), (1, .int b1), (2, .int b2)]) X.x X.b (dk DX12_parts_0 16 rfl) rfl hl (by decide) rfl (fun ls hl => ?_)
    replace hl : lv_has ls 5 [(0, .ref (q 53)), (1, .int b1), (2, .int b2), (3, .int 1)] := lv_sub hl [1, 2, 3, 0] rfl
    refine lv_iconst (v := 0) X.x X.b (dk DX12_parts_0 17 rfl) (by decide) ?_
    refine lv_istore (lv' := [(4, .int 0), (0, .ref (q 53)), (1, .int b1), (2, .int b2), (3, .int 1)]) X.x X.b (dk DX12_parts_0 18 rfl) hl (by decide) rfl (fun ls hl => ?_)
    replace hl : lv_has ls 5 [(0, .ref (q 53)), (1, .int b1), (2, .int b2), (3, .int 1), (4, .int 0)] := lv_sub hl [1, 2, 3, 4, 0] rfl
    obtain ⟨x18, e19, hF⟩ := bd hF
    replace hl : lv_has ls 5 [(0, .ref (q 53)), (1, .int b1), (2, .int b2), (3, .int 1), (4, .int 0)] := lv_sub hl [0, 1, 2, 3, 4] rfl
    refine w_X12_parts_28 hq X t6 b1 b2 _ _ e19 _ _ _ hH hl (fun H locs ls hH hl => ?_)
    refine lv_iload_n X.x X.b (dk DX12_parts_0 36 rfl) rfl (lv_at hl 1 rfl) ?_
    refine lv_iload_n X.x X.b (dk DX12_parts_0 37 rfl) rfl (lv_at hl 3 rfl) ?_
    refine lv_if_eq (tgt := 70) X.x X.b (dk DX12_parts_0 38 rfl) (by decide) (fun c21 => ?_) (fun c21 => ?_)
    · replace hF := if_t hF c21
      refine lv_iconst (v := 0) X.x X.b (dk DX12_parts_0 41 rfl) (by decide) ?_
      refine lv_iadd X.x X.b (dk DX12_parts_0 42 rfl) ?_
      refine lv_topi (fun v22 e23 => ?_)
      replace hF := bnd_e hF e23
      refine lv_istore_n (lv' := [(1, .int v22), (0, .ref (q 53)), (2, .int b2), (3, .int x18)]) X.x X.b (dk DX12_parts_0 43 rfl) rfl hl (by decide) rfl (fun ls hl => ?_)
      replace hl : lv_has ls 5 [(0, .ref (q 53)), (1, .int v22), (2, .int b2)] := lv_sub hl [1, 0, 2] rfl
      obtain ⟨v24, e25⟩ : ∃ y : Int32, y = b2 + 1 := ⟨_, rfl⟩
      replace hF := bnd_e hF e25
      refine lv_iinc (v := v24) (lv' := [(2, .int v24), (0, .ref (q 53)), (1, .int v22)]) X.x X.b (dk DX12_parts_0 44 rfl) hl (k := 2) rfl (by rw [e25]; rfl) (by decide) rfl (fun ls hl => ?_)
      replace hl : lv_has ls 5 [(0, .ref (q 53)), (1, .int v22), (2, .int v24)] := lv_sub hl [1, 2, 0] rfl
      refine lv_goto (tgt := 9) X.x X.b (dk DX12_parts_0 45 rfl) (by decide) ?_
      exact (lp_l hF hx) _ _ _ hH (lv_sub hl [0, 1, 2] rfl) K0
    · replace hF := if_f hF c21
      refine lv_iconst (v := 1) X.x X.b (dk DX12_parts_0 39 rfl) (by decide) ?_
      refine lv_goto (tgt := 71) X.x X.b (dk DX12_parts_0 40 rfl) (by decide) ?_
      refine lv_iadd X.x X.b (dk DX12_parts_0 42 rfl) ?_
      refine lv_topi (fun v26 e27 => ?_)
      replace hF := bnd_e hF e27
      refine lv_istore_n (lv' := [(1, .int v26), (0, .ref (q 53)), (2, .int b2), (3, .int x18)]) X.x X.b (dk DX12_parts_0 43 rfl) rfl hl (by decide) rfl (fun ls hl => ?_)
      replace hl : lv_has ls 5 [(0, .ref (q 53)), (1, .int v26), (2, .int b2)] := lv_sub hl [1, 0, 2] rfl
      obtain ⟨v28, e29⟩ : ∃ y : Int32, y = b2 + 1 := ⟨_, rfl⟩
      replace hF := bnd_e hF e29
      refine lv_iinc (v := v28) (lv' := [(2, .int v28), (0, .ref (q 53)), (1, .int v26)]) X.x X.b (dk DX12_parts_0 44 rfl) hl (k := 2) rfl (by rw [e29]; rfl) (by decide) rfl (fun ls hl => ?_)
      replace hl : lv_has ls 5 [(0, .ref (q 53)), (1, .int v26), (2, .int v28)] := lv_sub hl [1, 2, 0] rfl
      refine lv_goto (tgt := 9) X.x X.b (dk DX12_parts_0 45 rfl) (by decide) ?_
      exact (lp_l hF hx) _ _ _ hH (lv_sub hl [0, 1, 2] rfl) K0
set_option maxHeartbeats 4000000 in
set_option maxRecDepth 100000 in
theorem c_X12_parts {l : Launch} {G : mG} {h : mM} {q : Nat → Nat} (hq : oinj LX12 q) {st : OS} {x : Int32 × OS} (hF : f_X12_parts st = some x) : cQ l G yX12_parts cX12_parts 5 (some FieldType.int) rm_X12_parts [.ref (q 53)] (oset LX12 G q st h) (mQi G (fun r h1 => r = x.1 ∧ h1 = oset LX12 G q x.2 h)) := by
  refine mp_of (by decide +kernel) (Nat.le_of_ble_eq_true rfl) ?_
  intro p e s m below meth c X hr hlk hH hname ls hl
  dsimp only [f_X12_parts] at hF
  replace hl : lv_has ls 5 [(0, .ref (q 53))] := hl
  refine lv_aload_n X.x X.b (dk DX12_parts_0 0 rfl) rfl (lv_at hl 0 rfl) ?_
  refine lv_iconst (v := 0) X.x X.b (dk DX12_parts_0 1 rfl) (by decide) ?_
  refine og_putI OX12 X hq hH 2 (by decide) rfl kF_X12_106 rfl rfl rfl (dk DX12_parts_0 2 rfl) (fun H locs hH => ?_)
  obtain ⟨t1, e2⟩ : ∃ y, y = oI st 2 0 := ⟨_, rfl⟩
  rw [← e2] at hH
  replace hF := bnd_e hF e2
  refine lv_iconst (v := 0) X.x X.b (dk DX12_parts_0 3 rfl) (by decide) ?_
  refine lv_istore_n (lv' := [(1, .int 0), (0, .ref (q 53))]) X.x X.b (dk DX12_parts_0 4 rfl) rfl hl (by decide) rfl (fun ls hl => ?_)
  replace hl : lv_has ls 5 [(0, .ref (q 53)), (1, .int 0)] := lv_sub hl [1, 0] rfl
  refine lv_iconst (v := 0) X.x X.b (dk DX12_parts_0 5 rfl) (by decide) ?_
  refine lv_istore_n (lv' := [(2, .int 0), (0, .ref (q 53)), (1, .int 0)]) X.x X.b (dk DX12_parts_0 6 rfl) rfl hl (by decide) rfl (fun ls hl => ?_)
  replace hl : lv_has ls 5 [(0, .ref (q 53)), (1, .int 0), (2, .int 0)] := lv_sub hl [1, 2, 0] rfl
  obtain ⟨x30, e31, hF⟩ := bd hF
  replace hl : lv_has ls 5 [(0, .ref (q 53)), (1, .int 0), (2, .int 0)] := lv_sub hl [0, 1, 2] rfl
  obtain ⟨t32, v33⟩ := x30
  try dsimp only at hF
  refine w_X12_parts_9 hq X _ _ e31 _ _ _ hH hl (fun H locs ls hH hl => ?_)
  try dsimp only at hH hl
  refine lv_iload_n X.x X.b (dk DX12_parts_0 46 rfl) rfl (lv_at hl 0 rfl) ?_
  cases sm hF
  exact mr_iret X hr hlk hH ⟨rfl, rfl⟩ (dk DX12_parts_0 47 rfl)
-- X12_rankOf
abbrev rm_X12_rankOf : Room := { frames := 1, cells := 0, slots := 0, locals := 22 }
theorem hd_X12_rankOf : mHd yX12_rankOf 1 := ⟨by decide +kernel, by decide +kernel, by decide +kernel⟩
theorem DX12_rankOf_0 : ∀ t ∈ ([(0, .iconst 0, 1), (1, .istore_n 2, 1), (2, .iload_n 2, 1), (3, .aload_n 0, 1), (4, .getfield 250, 3), (7, .if_icmp .ge 54, 3), (10, .iconst 0, 1), (11, .istore_n 3, 1), (12, .iload_n 3, 1), (13, .aload_n 0, 1), (14, .getfield 248, 3), (17, .if_icmp .ge 38, 3), (20, .aload_n 0, 1), (21, .getfield 48, 3), (24, .bipush 64, 2), (26, .iload_n 2, 1), (27, .imul, 1), (28, .iload_n 3, 1), (29, .iadd, 1), (30, .aload_n 0, 1), (31, .getfield 7, 3), (34, .iload_n 2, 1), (35, .laload, 1), (36, .iload_n 3, 1), (37, .invokestatic 232, 3), (40, .ifCond .eq 7, 3), (43, .iconst 1, 1), (44, .goto 4, 3), (47, .iconst 0, 1), (48, .iastore, 1), (49, .iinc 3 1, 3), (52, .goto (-40), 3), (55, .iinc 2 1, 3), (58, .goto (-56), 3), (61, .iconst 0, 1), (62, .istore_n 2, 1), (63, .iconst 0, 1), (64, .istore_n 3, 1), (65, .iload_n 3, 1), (66, .aload_n 0, 1), (67, .getfield 248, 3), (70, .if_icmp .ge 270, 3), (73, .iload_n 2, 1), (74, .aload_n 0, 1), (75, .getfield 250, 3), (78, .if_icmp .ge 262, 3), (81, .iload_n 2, 1), (82, .istore 4, 2), (84, .iload 4, 2), (86, .aload_n 0, 1), (87, .getfield 250, 3), (90, .if_icmp .ge 24, 3), (93, .aload_n 0, 1), (94, .getfield 48, 3), (97, .bipush 64, 2), (99, .iload 4, 2), (101, .imul, 1), (102, .iload_n 3, 1), (103, .iadd, 1), (104, .iaload, 1)] : List (Nat × Instr × Nat)), decode cX12_rankOf t.1 = .ok (t.2.1, t.2.2) := by decide +kernel
theorem DX12_rankOf_1 : ∀ t ∈ ([(105, .ifCond .ne 9, 3), (108, .iinc 4 1, 3), (111, .goto (-27), 3), (114, .iload 4, 2), (116, .aload_n 0, 1), (117, .getfield 250, 3), (120, .if_icmp .ne 6, 3), (123, .goto 211, 3), (126, .iconst 1, 1), (127, .istore 5, 2), (129, .iload 5, 2), (131, .aload_n 0, 1), (132, .getfield 48, 3), (135, .bipush 64, 2), (137, .iload 4, 2), (139, .imul, 1), (140, .iload_n 3, 1), (141, .iadd, 1), (142, .iaload, 1), (143, .imul, 1), (144, .iload_n 1, 1), (145, .irem, 1), (146, .iconst 1, 1), (147, .if_icmp .eq 9, 3), (150, .iinc 5 1, 3), (153, .goto (-24), 3), (156, .iconst 0, 1), (157, .istore 6, 2), (159, .iload 6, 2), (161, .aload_n 0, 1), (162, .getfield 248, 3), (165, .if_icmp .ge 68, 3), (168, .aload_n 0, 1), (169, .getfield 48, 3), (172, .bipush 64, 2), (174, .iload 4, 2), (176, .imul, 1), (177, .iload 6, 2), (179, .iadd, 1), (180, .iaload, 1), (181, .iload 5, 2), (183, .imul, 1), (184, .iload_n 1, 1), (185, .irem, 1), (186, .istore 7, 2), (188, .aload_n 0, 1), (189, .getfield 48, 3), (192, .bipush 64, 2), (194, .iload 4, 2), (196, .imul, 1), (197, .iload 6, 2), (199, .iadd, 1), (200, .aload_n 0, 1), (201, .getfield 48, 3), (204, .bipush 64, 2), (206, .iload_n 2, 1), (207, .imul, 1), (208, .iload 6, 2), (210, .iadd, 1), (211, .iaload, 1)] : List (Nat × Instr × Nat)), decode cX12_rankOf t.1 = .ok (t.2.1, t.2.2) := by decide +kernel
theorem DX12_rankOf_2 : ∀ t ∈ ([(212, .iastore, 1), (213, .aload_n 0, 1), (214, .getfield 48, 3), (217, .bipush 64, 2), (219, .iload_n 2, 1), (220, .imul, 1), (221, .iload 6, 2), (223, .iadd, 1), (224, .iload 7, 2), (226, .iastore, 1), (227, .iinc 6 1, 3), (230, .goto (-71), 3), (233, .iload_n 2, 1), (234, .iconst 1, 1), (235, .iadd, 1), (236, .istore 6, 2), (238, .iload 6, 2), (240, .aload_n 0, 1), (241, .getfield 250, 3), (244, .if_icmp .ge 87, 3), (247, .iload_n 1, 1), (248, .aload_n 0, 1), (249, .getfield 48, 3), (252, .bipush 64, 2), (254, .iload 6, 2), (256, .imul, 1), (257, .iload_n 3, 1), (258, .iadd, 1), (259, .iaload, 1), (260, .isub, 1), (261, .istore 7, 2), (263, .iconst 0, 1), (264, .istore 8, 2), (266, .iload 8, 2), (268, .aload_n 0, 1), (269, .getfield 248, 3), (272, .if_icmp .ge 53, 3), (275, .aload_n 0, 1), (276, .getfield 48, 3), (279, .bipush 64, 2), (281, .iload 6, 2), (283, .imul, 1), (284, .iload 8, 2), (286, .iadd, 1), (287, .aload_n 0, 1), (288, .getfield 48, 3), (291, .bipush 64, 2), (293, .iload 6, 2), (295, .imul, 1), (296, .iload 8, 2), (298, .iadd, 1), (299, .iaload, 1), (300, .iload 7, 2), (302, .aload_n 0, 1), (303, .getfield 48, 3), (306, .bipush 64, 2), (308, .iload_n 2, 1), (309, .imul, 1), (310, .iload 8, 2), (312, .iadd, 1)] : List (Nat × Instr × Nat)), decode cX12_rankOf t.1 = .ok (t.2.1, t.2.2) := by decide +kernel
theorem DX12_rankOf_3 : ∀ t ∈ ([(313, .iaload, 1), (314, .imul, 1), (315, .iadd, 1), (316, .iload_n 1, 1), (317, .irem, 1), (318, .iastore, 1), (319, .iinc 8 1, 3), (322, .goto (-56), 3), (325, .iinc 6 1, 3), (328, .goto (-90), 3), (331, .iinc 2 1, 3), (334, .iinc 3 1, 3), (337, .goto (-272), 3), (340, .iload_n 2, 1), (341, .ireturn, 1)] : List (Nat × Instr × Nat)), decode cX12_rankOf t.1 = .ok (t.2.1, t.2.2) := by decide +kernel
noncomputable def f_X12_rankOf_12 (b1 : Int32) (b2 : Int32) : (OS × Int32) → Option ((OS × Int32) ⊕ (OS)) := fun z => match z with | (s0, b3) => (if (s0.1 0) ≤ b3 then some (.inr s0) else if inb b2 64 = true then (f_X12_has (s0.2.2.2 3 (b2 : Int32).toNatClampNeg) b3).bind (fun x4 => (if x4 = 0 then if inb (((64 : Int32) * b2) + b3) 4096 = true then bnd (oA s0 30 (upd (s0.2.2.1 30) (((64 : Int32) * b2) + b3 : Int32).toNatClampNeg 0)) (fun t8 => bnd (b3 + 1 : Int32) (fun v10 => some (.inl ((t8, v10))))) else none else if inb (((64 : Int32) * b2) + b3) 4096 = true then bnd (oA s0 30 (upd (s0.2.2.1 30) (((64 : Int32) * b2) + b3 : Int32).toNatClampNeg 1)) (fun t13 => bnd (b3 + 1 : Int32) (fun v15 => some (.inl ((t13, v15))))) else none)) else none)
noncomputable def f_X12_rankOf_2 (b1 : Int32) : (OS × Int32) → Option ((OS × Int32) ⊕ (OS)) := fun z => match z with | (s0, b2) => (if (s0.1 1) ≤ b2 then some (.inr s0) else (lpv (f_X12_rankOf_12 b1 b2) ((s0, 0))).bind (fun x17 => bnd (b2 + 1 : Int32) (fun v20 => some (.inl ((x17, v20))))))
noncomputable def f_X12_rankOf_84 (s0 : OS) (b1 : Int32) (b2 : Int32) (b3 : Int32) : Int32 → Option ((Int32) ⊕ (Int32)) := fun b4 => (if (s0.1 1) ≤ b4 then some (.inr b4) else if inb (((64 : Int32) * b4) + b3) 4096 = true then (if (s0.2.2.1 30 (((64 : Int32) * b4) + b3 : Int32).toNatClampNeg) = 0 then bnd (b4 + 1 : Int32) (fun v30 => some (.inl v30)) else some (.inr b4)) else none)
noncomputable def f_X12_rankOf_129 (s0 : OS) (b1 : Int32) (b2 : Int32) (b3 : Int32) (b4 : Int32) : Int32 → Option ((Int32) ⊕ (Int32)) := fun b5 => if inb (((64 : Int32) * b4) + b3) 4096 = true then if b1 = 0 then none else (if (b5 * (s0.2.2.1 30 (((64 : Int32) * b4) + b3 : Int32).toNatClampNeg)) - (b5 * (s0.2.2.1 30 (((64 : Int32) * b4) + b3 : Int32).toNatClampNeg)) / b1 * b1 = 1 then some (.inr b5) else bnd (b5 + 1 : Int32) (fun v39 => some (.inl v39))) else none
noncomputable def f_X12_rankOf_159 (b1 : Int32) (b2 : Int32) (b3 : Int32) (b4 : Int32) (b5 : Int32) : (OS × Int32) → Option ((OS × Int32) ⊕ (OS)) := fun z => match z with | (s0, b6) => (if (s0.1 0) ≤ b6 then some (.inr s0) else if inb (((64 : Int32) * b4) + b6) 4096 = true then if b1 = 0 then none else bnd (((s0.2.2.1 30 (((64 : Int32) * b4) + b6 : Int32).toNatClampNeg) * b5) - ((s0.2.2.1 30 (((64 : Int32) * b4) + b6 : Int32).toNatClampNeg) * b5) / b1 * b1 : Int32) (fun v47 => if inb (((64 : Int32) * b2) + b6) 4096 = true then bnd (oA s0 30 (upd (s0.2.2.1 30) (((64 : Int32) * b4) + b6 : Int32).toNatClampNeg (s0.2.2.1 30 (((64 : Int32) * b2) + b6 : Int32).toNatClampNeg))) (fun t50 => bnd (oA t50 30 (upd (t50.2.2.1 30) (((64 : Int32) * b2) + b6 : Int32).toNatClampNeg v47)) (fun t52 => bnd (b6 + 1 : Int32) (fun v54 => some (.inl ((t52, v54)))))) else none) else none)
noncomputable def f_X12_rankOf_266 (b1 : Int32) (b2 : Int32) (b3 : Int32) (b6 : Int32) (b7 : Int32) : (OS × Int32) → Option ((OS × Int32) ⊕ (OS)) := fun z => match z with | (s0, b8) => (if (s0.1 0) ≤ b8 then some (.inr s0) else if inb (((64 : Int32) * b6) + b8) 4096 = true then if inb (((64 : Int32) * b2) + b8) 4096 = true then if b1 = 0 then none else bnd (oA s0 30 (upd (s0.2.2.1 30) (((64 : Int32) * b6) + b8 : Int32).toNatClampNeg (((s0.2.2.1 30 (((64 : Int32) * b6) + b8 : Int32).toNatClampNeg) + (b7 * (s0.2.2.1 30 (((64 : Int32) * b2) + b8 : Int32).toNatClampNeg))) - ((s0.2.2.1 30 (((64 : Int32) * b6) + b8 : Int32).toNatClampNeg) + (b7 * (s0.2.2.1 30 (((64 : Int32) * b2) + b8 : Int32).toNatClampNeg))) / b1 * b1))) (fun t69 => bnd (b8 + 1 : Int32) (fun v71 => some (.inl ((t69, v71))))) else none else none)
noncomputable def f_X12_rankOf_238 (b1 : Int32) (b2 : Int32) (b3 : Int32) : (OS × Int32) → Option ((OS × Int32) ⊕ (OS)) := fun z => match z with | (s0, b6) => (if (s0.1 1) ≤ b6 then some (.inr s0) else if inb (((64 : Int32) * b6) + b3) 4096 = true then bnd (b1 - (s0.2.2.1 30 (((64 : Int32) * b6) + b3 : Int32).toNatClampNeg) : Int32) (fun v63 => (lpv (f_X12_rankOf_266 b1 b2 b3 b6 v63) ((s0, 0))).bind (fun x73 => bnd (b6 + 1 : Int32) (fun v76 => some (.inl ((x73, v76)))))) else none)
noncomputable def f_X12_rankOf_65 (b1 : Int32) : (OS × Int32 × Int32) → Option ((OS × Int32 × Int32) ⊕ (OS × Int32)) := fun z => match z with | (s0, b2, b3) => (if (s0.1 0) ≤ b3 then some (.inr ((s0, b2))) else (if (s0.1 1) ≤ b2 then some (.inr ((s0, b2))) else (lpv (f_X12_rankOf_84 s0 b1 b2 b3) b2).bind (fun x32 => (if x32 = (s0.1 1) then bnd (b3 + 1 : Int32) (fun v85 => some (.inl ((s0, b2, v85)))) else (lpv (f_X12_rankOf_129 s0 b1 b2 b3 x32) 1).bind (fun x41 => (lpv (f_X12_rankOf_159 b1 b2 b3 x32 x41) ((s0, 0))).bind (fun x56 => bnd (b2 + 1 : Int32) (fun v59 => (lpv (f_X12_rankOf_238 b1 b2 b3) ((x56, v59))).bind (fun x78 => bnd (b2 + 1 : Int32) (fun v81 => bnd (b3 + 1 : Int32) (fun v83 => some (.inl ((x78, v81, v83)))))))))))))
noncomputable def f_X12_rankOf (st : OS) (a0 : Int32) : Option (Int32 × OS) := (lpv (f_X12_rankOf_2 a0) ((st, 0))).bind (fun x22 => (lpv (f_X12_rankOf_65 a0) ((x22, 0, 0))).bind (fun x87 => match x87 with | (t89, v90) => some ((v90, t89))))
set_option maxHeartbeats 4000000 in
set_option maxRecDepth 100000 in
theorem w_X12_rankOf_12 {p : Program} {l : Launch} {e : Env} {s : State} {m : MethodId} {args : Array Value} {below : List Frame} {meth : Method} {c : Code} {Q : State → Prop} {G : mG} {h : mM} {q : Nat → Nat} (hq : oinj LX12 q) (X : mX G p m c cX12_rankOf 9 s args RX12) (b1 : Int32) (b2 : Int32) : ∀ (z : OS × Int32) (r : OS), lpv (f_X12_rankOf_12 b1 b2) z = some r → ∀ (H : Heap) (locs : List Loc) (ls : Array Slot), mH G (oset LX12 G q z.1 h) s.heap H locs → lv_has ls 9 [(0, .ref (q 53)), (1, .int b1), (2, .int b2), (3, .int z.2)] → (∀ (H : Heap) (locs : List Loc) (ls : Array Slot), mH G (oset LX12 G q r h) s.heap H locs → lv_has ls 9 [(0, .ref (q 53)), (1, .int b1), (2, .int b2)] → W p l e rm_X12_rankOf s m args below meth c H locs 0 0 Q (F0 m 55 ls [])) → W p l e rm_X12_rankOf s m args below meth c H locs 0 0 Q (F0 m 12 ls []) := by
  refine lpv_rec ?_
  intro z r x hF hx H locs ls hH hl K0
  obtain ⟨s0, b3⟩ := z
  dsimp only [f_X12_rankOf_12] at hF
  try dsimp only at hH hl
  refine lv_iload_n X.x X.b (dk DX12_rankOf_0 8 rfl) rfl (lv_at hl 3 rfl) ?_
  refine lv_aload_n X.x X.b (dk DX12_rankOf_0 9 rfl) rfl (lv_at hl 0 rfl) ?_
  refine og_getI OX12 X hq hH 0 (by decide) rfl kF_X12_248 (dk DX12_rankOf_0 10 rfl) ?_
  refine lv_icmp_ge (tgt := 55) X.x X.b (dk DX12_rankOf_0 11 rfl) (by decide) (fun c2 => ?_) (fun c2 => ?_)
  · replace hF := if_t hF c2
    have hr9 := lp_r hF hx
    subst hr9
    exact K0 _ _ _ hH (lv_sub hl [0, 1, 2] rfl)
  · replace hF := if_f hF c2
    refine lv_aload_n X.x X.b (dk DX12_rankOf_0 12 rfl) rfl (lv_at hl 0 rfl) ?_
    refine og_getR (t := 0) OX12 X hq hH 30 (by decide) rfl kF_X12_48 (dk DX12_rankOf_0 13 rfl) ?_
    refine lv_bipush (v := 64) X.x X.b (dk DX12_rankOf_0 14 rfl) (by decide) ?_
    refine lv_iload_n X.x X.b (dk DX12_rankOf_0 15 rfl) rfl (lv_at hl 2 rfl) ?_
    refine lv_imul X.x X.b (dk DX12_rankOf_0 16 rfl) ?_
    refine lv_iload_n X.x X.b (dk DX12_rankOf_0 17 rfl) rfl (lv_at hl 3 rfl) ?_
    refine lv_iadd X.x X.b (dk DX12_rankOf_0 18 rfl) ?_
    refine lv_aload_n X.x X.b (dk DX12_rankOf_0 19 rfl) rfl (lv_at hl 0 rfl) ?_
    refine og_getR (t := 1) OX12 X hq hH 3 (by decide) rfl kF_X12_7 (dk DX12_rankOf_0 20 rfl) ?_
    refine lv_iload_n X.x X.b (dk DX12_rankOf_0 21 rfl) rfl (lv_at hl 2 rfl) ?_
    obtain ⟨c3, hF⟩ := gd hF
    refine og_lald X hq hH 3 (by decide) rfl (inb_in c3) (dk DX12_rankOf_0 22 rfl) ?_
    refine lv_iload_n X.x X.b (dk DX12_rankOf_0 23 rfl) rfl (lv_at hl 3 rfl) ?_
    obtain ⟨x4, e5, hF⟩ := bd hF
    refine mr_ci0 hH ⟨rfl, rfl⟩ (mr_runS (As := [.long (s0.2.2.2 3 (b2 : Int32).toNatClampNeg), .int b3]) (rest := [.int (((64 : Int32) * b2) + b3), .ref (q 30)]) X hH (c_X12_has e5) kM_X12_232 kT_X12_has kN_X12 kC_X12_has hd_X12_has ⟨Nat.le_of_ble_eq_true rfl, Nat.le_of_ble_eq_true rfl⟩ rfl hl.1 (Nat.le_of_ble_eq_true rfl) (dk DX12_rankOf_0 24 rfl) ⟨Nat.zero_le _, Nat.zero_le _⟩) (fun r h1 H locs hp hH => ?_)
    obtain ⟨hr1, hr2⟩ := hp; rw [hr1]; rw [hr2] at hH; clear hr1 hr2
    refine lv_if_eq (tgt := 47) X.x X.b (dk DX12_rankOf_0 25 rfl) (by decide) (fun c6 => ?_) (fun c6 => ?_)
    · replace hF := if_t hF c6
      refine lv_iconst (v := 0) X.x X.b (dk DX12_rankOf_0 28 rfl) (by decide) ?_
      obtain ⟨c7, hF⟩ := gd hF
      refine og_iast X hq hH 30 (by decide) rfl (inb_in c7) (dk DX12_rankOf_0 29 rfl) (fun H locs hH => ?_)
      obtain ⟨t8, e9⟩ : ∃ y, y = oA s0 30 (upd (s0.2.2.1 30) (((64 : Int32) * b2) + b3 : Int32).toNatClampNeg 0) := ⟨_, rfl⟩
      rw [← e9] at hH
      replace hF := bnd_e hF e9
      obtain ⟨v10, e11⟩ : ∃ y : Int32, y = b3 + 1 := ⟨_, rfl⟩
      replace hF := bnd_e hF e11
      refine lv_iinc (v := v10) (lv' := [(3, .int v10), (0, .ref (q 53)), (1, .int b1), (2, .int b2)]) X.x X.b (dk DX12_rankOf_0 30 rfl) hl (k := 3) rfl (by rw [e11]; rfl) (by decide) rfl (fun ls hl => ?_)
      replace hl : lv_has ls 9 [(0, .ref (q 53)), (1, .int b1), (2, .int b2), (3, .int v10)] := lv_sub hl [1, 2, 3, 0] rfl
      refine lv_goto (tgt := 12) X.x X.b (dk DX12_rankOf_0 31 rfl) (by decide) ?_
      exact (lp_l hF hx) _ _ _ hH (lv_sub hl [0, 1, 2, 3] rfl) K0
    · replace hF := if_f hF c6
      refine lv_iconst (v := 1) X.x X.b (dk DX12_rankOf_0 26 rfl) (by decide) ?_
      refine lv_goto (tgt := 48) X.x X.b (dk DX12_rankOf_0 27 rfl) (by decide) ?_
      obtain ⟨c12, hF⟩ := gd hF
      refine og_iast X hq hH 30 (by decide) rfl (inb_in c12) (dk DX12_rankOf_0 29 rfl) (fun H locs hH => ?_)
      obtain ⟨t13, e14⟩ : ∃ y, y = oA s0 30 (upd (s0.2.2.1 30) (((64 : Int32) * b2) + b3 : Int32).toNatClampNeg 1) := ⟨_, rfl⟩
      rw [← e14] at hH
      replace hF := bnd_e hF e14
      obtain ⟨v15, e16⟩ : ∃ y : Int32, y = b3 + 1 := ⟨_, rfl⟩
      replace hF := bnd_e hF e16
      refine lv_iinc (v := v15) (lv' := [(3, .int v15), (0, .ref (q 53)), (1, .int b1), (2, .int b2)]) X.x X.b (dk DX12_rankOf_0 30 rfl) hl (k := 3) rfl (by rw [e16]; rfl) (by decide) rfl (fun ls hl => ?_)
      replace hl : lv_has ls 9 [(0, .ref (q 53)), (1, .int b1), (2, .int b2), (3, .int v15)] := lv_sub hl [1, 2, 3, 0] rfl
      refine lv_goto (tgt := 12) X.x X.b (dk DX12_rankOf_0 31 rfl) (by decide) ?_
      exact (lp_l hF hx) _ _ _ hH (lv_sub hl [0, 1, 2, 3] rfl) K0
set_option maxHeartbeats 4000000 in
set_option maxRecDepth 100000 in
theorem w_X12_rankOf_2 {p : Program} {l : Launch} {e : Env} {s : State} {m : MethodId} {args : Array Value} {below : List Frame} {meth : Method} {c : Code} {Q : State → Prop} {G : mG} {h : mM} {q : Nat → Nat} (hq : oinj LX12 q) (X : mX G p m c cX12_rankOf 9 s args RX12) (b1 : Int32) : ∀ (z : OS × Int32) (r : OS), lpv (f_X12_rankOf_2 b1) z = some r → ∀ (H : Heap) (locs : List Loc) (ls : Array Slot), mH G (oset LX12 G q z.1 h) s.heap H locs → lv_has ls 9 [(0, .ref (q 53)), (1, .int b1), (2, .int z.2)] → (∀ (H : Heap) (locs : List Loc) (ls : Array Slot), mH G (oset LX12 G q r h) s.heap H locs → lv_has ls 9 [(0, .ref (q 53)), (1, .int b1)] → W p l e rm_X12_rankOf s m args below meth c H locs 0 0 Q (F0 m 61 ls [])) → W p l e rm_X12_rankOf s m args below meth c H locs 0 0 Q (F0 m 2 ls []) := by
  refine lpv_rec ?_
  intro z r x hF hx H locs ls hH hl K0
  obtain ⟨s0, b2⟩ := z
  dsimp only [f_X12_rankOf_2] at hF
  try dsimp only at hH hl
  refine lv_iload_n X.x X.b (dk DX12_rankOf_0 2 rfl) rfl (lv_at hl 2 rfl) ?_
  refine lv_aload_n X.x X.b (dk DX12_rankOf_0 3 rfl) rfl (lv_at hl 0 rfl) ?_
  refine og_getI OX12 X hq hH 1 (by decide) rfl kF_X12_250 (dk DX12_rankOf_0 4 rfl) ?_
  refine lv_icmp_ge (tgt := 61) X.x X.b (dk DX12_rankOf_0 5 rfl) (by decide) (fun c1 => ?_) (fun c1 => ?_)
  · replace hF := if_t hF c1
    have hr9 := lp_r hF hx
    subst hr9
    exact K0 _ _ _ hH (lv_sub hl [0, 1] rfl)
  · replace hF := if_f hF c1
    refine lv_iconst (v := 0) X.x X.b (dk DX12_rankOf_0 6 rfl) (by decide) ?_
    refine lv_istore_n (lv' := [(3, .int 0), (0, .ref (q 53)), (1, .int b1), (2, .int b2)]) X.x X.b (dk DX12_rankOf_0 7 rfl) rfl hl (by decide) rfl (fun ls hl => ?_)
    replace hl : lv_has ls 9 [(0, .ref (q 53)), (1, .int b1), (2, .int b2), (3, .int 0)] := lv_sub hl [1, 2, 3, 0] rfl
    obtain ⟨x17, e18, hF⟩ := bd hF
    replace hl : lv_has ls 9 [(0, .ref (q 53)), (1, .int b1), (2, .int b2), (3, .int 0)] := lv_sub hl [0, 1, 2, 3] rfl
    refine w_X12_rankOf_12 hq X b1 b2 _ _ e18 _ _ _ hH hl (fun H locs ls hH hl => ?_)
    obtain ⟨v20, e21⟩ : ∃ y : Int32, y = b2 + 1 := ⟨_, rfl⟩
    replace hF := bnd_e hF e21
    refine lv_iinc (v := v20) (lv' := [(2, .int v20), (0, .ref (q 53)), (1, .int b1)]) X.x X.b (dk DX12_rankOf_0 32 rfl) hl (k := 2) rfl (by rw [e21]; rfl) (by decide) rfl (fun ls hl => ?_)
    replace hl : lv_has ls 9 [(0, .ref (q 53)), (1, .int b1), (2, .int v20)] := lv_sub hl [1, 2, 0] rfl
    refine lv_goto (tgt := 2) X.x X.b (dk DX12_rankOf_0 33 rfl) (by decide) ?_
    exact (lp_l hF hx) _ _ _ hH (lv_sub hl [0, 1, 2] rfl) K0
set_option maxHeartbeats 4000000 in
set_option maxRecDepth 100000 in
theorem w_X12_rankOf_84 {p : Program} {l : Launch} {e : Env} {s : State} {m : MethodId} {args : Array Value} {below : List Frame} {meth : Method} {c : Code} {Q : State → Prop} {G : mG} {h : mM} {q : Nat → Nat} (hq : oinj LX12 q) (X : mX G p m c cX12_rankOf 9 s args RX12) (s0 : OS) (b1 : Int32) (b2 : Int32) (b3 : Int32) : ∀ (z : Int32) (r : Int32), lpv (f_X12_rankOf_84 s0 b1 b2 b3) z = some r → ∀ (H : Heap) (locs : List Loc) (ls : Array Slot), mH G (oset LX12 G q s0 h) s.heap H locs → lv_has ls 9 [(0, .ref (q 53)), (1, .int b1), (2, .int b2), (3, .int b3), (4, .int z)] → (∀ (H : Heap) (locs : List Loc) (ls : Array Slot), mH G (oset LX12 G q s0 h) s.heap H locs → lv_has ls 9 [(0, .ref (q 53)), (1, .int b1), (2, .int b2), (3, .int b3), (4, .int r)] → W p l e rm_X12_rankOf s m args below meth c H locs 0 0 Q (F0 m 114 ls [])) → W p l e rm_X12_rankOf s m args below meth c H locs 0 0 Q (F0 m 84 ls []) := by
  refine lpv_rec ?_
  intro z r x hF hx H locs ls hH hl K0
  obtain ⟨b4, hz⟩ : ∃ y, y = z := ⟨_, rfl⟩
  subst hz
  dsimp only [f_X12_rankOf_84] at hF
  refine lv_iload X.x X.b (dk DX12_rankOf_0 48 rfl) (lv_at hl 4 rfl) ?_
  refine lv_aload_n X.x X.b (dk DX12_rankOf_0 49 rfl) rfl (lv_at hl 0 rfl) ?_
  refine og_getI OX12 X hq hH 1 (by decide) rfl kF_X12_250 (dk DX12_rankOf_0 50 rfl) ?_
  refine lv_icmp_ge (tgt := 114) X.x X.b (dk DX12_rankOf_0 51 rfl) (by decide) (fun c27 => ?_) (fun c27 => ?_)
  · replace hF := if_t hF c27
    have hr9 := lp_r hF hx
    subst hr9
    exact K0 _ _ _ hH (lv_sub hl [0, 1, 2, 3, 4] rfl)
  · replace hF := if_f hF c27
    refine lv_aload_n X.x X.b (dk DX12_rankOf_0 52 rfl) rfl (lv_at hl 0 rfl) ?_
    refine og_getR (t := 0) OX12 X hq hH 30 (by decide) rfl kF_X12_48 (dk DX12_rankOf_0 53 rfl) ?_
    refine lv_bipush (v := 64) X.x X.b (dk DX12_rankOf_0 54 rfl) (by decide) ?_
    refine lv_iload X.x X.b (dk DX12_rankOf_0 55 rfl) (lv_at hl 4 rfl) ?_
    refine lv_imul X.x X.b (dk DX12_rankOf_0 56 rfl) ?_
    refine lv_iload_n X.x X.b (dk DX12_rankOf_0 57 rfl) rfl (lv_at hl 3 rfl) ?_
    refine lv_iadd X.x X.b (dk DX12_rankOf_0 58 rfl) ?_
    obtain ⟨c28, hF⟩ := gd hF
    refine og_iald X hq hH 30 (by decide) rfl (inb_in c28) (dk DX12_rankOf_0 59 rfl) ?_
    refine lv_if_ne (tgt := 114) X.x X.b (dk DX12_rankOf_1 0 rfl) (by decide) (fun c29 => ?_) (fun c29 => ?_)
    · replace hF := if_f hF c29
      have hr9 := lp_r hF hx
      subst hr9
      exact K0 _ _ _ hH (lv_sub hl [0, 1, 2, 3, 4] rfl)
    · replace hF := if_t hF c29
      obtain ⟨v30, e31⟩ : ∃ y : Int32, y = b4 + 1 := ⟨_, rfl⟩
      replace hF := bnd_e hF e31
      refine lv_iinc (v := v30) (lv' := [(4, .int v30), (0, .ref (q 53)), (1, .int b1), (2, .int b2), (3, .int b3)]) X.x X.b (dk DX12_rankOf_1 1 rfl) hl (k := 4) rfl (by rw [e31]; rfl) (by decide) rfl (fun ls hl => ?_)
      replace hl : lv_has ls 9 [(0, .ref (q 53)), (1, .int b1), (2, .int b2), (3, .int b3), (4, .int v30)] := lv_sub hl [1, 2, 3, 4, 0] rfl
      refine lv_goto (tgt := 84) X.x X.b (dk DX12_rankOf_1 2 rfl) (by decide) ?_
      exact (lp_l hF hx) _ _ _ hH (lv_sub hl [0, 1, 2, 3, 4] rfl) K0
set_option maxHeartbeats 4000000 in
set_option maxRecDepth 100000 in
theorem w_X12_rankOf_129 {p : Program} {l : Launch} {e : Env} {s : State} {m : MethodId} {args : Array Value} {below : List Frame} {meth : Method} {c : Code} {Q : State → Prop} {G : mG} {h : mM} {q : Nat → Nat} (hq : oinj LX12 q) (X : mX G p m c cX12_rankOf 9 s args RX12) (s0 : OS) (b1 : Int32) (b2 : Int32) (b3 : Int32) (b4 : Int32) : ∀ (z : Int32) (r : Int32), lpv (f_X12_rankOf_129 s0 b1 b2 b3 b4) z = some r → ∀ (H : Heap) (locs : List Loc) (ls : Array Slot), mH G (oset LX12 G q s0 h) s.heap H locs → lv_has ls 9 [(0, .ref (q 53)), (1, .int b1), (2, .int b2), (3, .int b3), (4, .int b4), (5, .int z)] → (∀ (H : Heap) (locs : List Loc) (ls : Array Slot), mH G (oset LX12 G q s0 h) s.heap H locs → lv_has ls 9 [(0, .ref (q 53)), (1, .int b1), (2, .int b2), (3, .int b3), (4, .int b4), (5, .int r)] → W p l e rm_X12_rankOf s m args below meth c H locs 0 0 Q (F0 m 156 ls [])) → W p l e rm_X12_rankOf s m args below meth c H locs 0 0 Q (F0 m 129 ls []) := by
  refine lpv_rec ?_
  intro z r x hF hx H locs ls hH hl K0
  obtain ⟨b5, hz⟩ : ∃ y, y = z := ⟨_, rfl⟩
  subst hz
  dsimp only [f_X12_rankOf_129] at hF
  refine lv_iload X.x X.b (dk DX12_rankOf_1 10 rfl) (lv_at hl 5 rfl) ?_
  refine lv_aload_n X.x X.b (dk DX12_rankOf_1 11 rfl) rfl (lv_at hl 0 rfl) ?_
  refine og_getR (t := 0) OX12 X hq hH 30 (by decide) rfl kF_X12_48 (dk DX12_rankOf_1 12 rfl) ?_
  refine lv_bipush (v := 64) X.x X.b (dk DX12_rankOf_1 13 rfl) (by decide) ?_
  refine lv_iload X.x X.b (dk DX12_rankOf_1 14 rfl) (lv_at hl 4 rfl) ?_
  refine lv_imul X.x X.b (dk DX12_rankOf_1 15 rfl) ?_
  refine lv_iload_n X.x X.b (dk DX12_rankOf_1 16 rfl) rfl (lv_at hl 3 rfl) ?_
  refine lv_iadd X.x X.b (dk DX12_rankOf_1 17 rfl) ?_
  obtain ⟨c36, hF⟩ := gd hF
  refine og_iald X hq hH 30 (by decide) rfl (inb_in c36) (dk DX12_rankOf_1 18 rfl) ?_
  refine lv_imul X.x X.b (dk DX12_rankOf_1 19 rfl) ?_
  refine lv_iload_n X.x X.b (dk DX12_rankOf_1 20 rfl) rfl (lv_at hl 1 rfl) ?_
  obtain ⟨c37, hF⟩ := gn hF
  refine lv_irem X.x X.b (dk DX12_rankOf_1 21 rfl) c37 ?_
  refine lv_iconst (v := 1) X.x X.b (dk DX12_rankOf_1 22 rfl) (by decide) ?_
  refine lv_icmp_eq (tgt := 156) X.x X.b (dk DX12_rankOf_1 23 rfl) (by decide) (fun c38 => ?_) (fun c38 => ?_)
  · replace hF := if_t hF c38
    have hr9 := lp_r hF hx
    subst hr9
    exact K0 _ _ _ hH (lv_sub hl [0, 1, 2, 3, 4, 5] rfl)
  · replace hF := if_f hF c38
    obtain ⟨v39, e40⟩ : ∃ y : Int32, y = b5 + 1 := ⟨_, rfl⟩
    replace hF := bnd_e hF e40
    refine lv_iinc (v := v39) (lv' := [(5, .int v39), (0, .ref (q 53)), (1, .int b1), (2, .int b2), (3, .int b3), (4, .int b4)]) X.x X.b (dk DX12_rankOf_1 24 rfl) hl (k := 5) rfl (by rw [e40]; rfl) (by decide) rfl (fun ls hl => ?_)
    replace hl : lv_has ls 9 [(0, .ref (q 53)), (1, .int b1), (2, .int b2), (3, .int b3), (4, .int b4), (5, .int v39)] := lv_sub hl [1, 2, 3, 4, 5, 0] rfl
    refine lv_goto (tgt := 129) X.x X.b (dk DX12_rankOf_1 25 rfl) (by decide) ?_
    exact (lp_l hF hx) _ _ _ hH (lv_sub hl [0, 1, 2, 3, 4, 5] rfl) K0
set_option maxHeartbeats 4000000 in
set_option maxRecDepth 100000 in
theorem w_X12_rankOf_159 {p : Program} {l : Launch} {e : Env} {s : State} {m : MethodId} {args : Array Value} {below : List Frame} {meth : Method} {c : Code} {Q : State → Prop} {G : mG} {h : mM} {q : Nat → Nat} (hq : oinj LX12 q) (X : mX G p m c cX12_rankOf 9 s args RX12) (b1 : Int32) (b2 : Int32) (b3 : Int32) (b4 : Int32) (b5 : Int32) : ∀ (z : OS × Int32) (r : OS), lpv (f_X12_rankOf_159 b1 b2 b3 b4 b5) z = some r → ∀ (H : Heap) (locs : List Loc) (ls : Array Slot), mH G (oset LX12 G q z.1 h) s.heap H locs → lv_has ls 9 [(0, .ref (q 53)), (1, .int b1), (2, .int b2), (3, .int b3), (4, .int b4), (5, .int b5), (6, .int z.2)] → (∀ (H : Heap) (locs : List Loc) (ls : Array Slot), mH G (oset LX12 G q r h) s.heap H locs → lv_has ls 9 [(0, .ref (q 53)), (1, .int b1), (2, .int b2), (3, .int b3)] → W p l e rm_X12_rankOf s m args below meth c H locs 0 0 Q (F0 m 233 ls [])) → W p l e rm_X12_rankOf s m args below meth c H locs 0 0 Q (F0 m 159 ls []) := by
  refine lpv_rec ?_
  intro z r x hF hx H locs ls hH hl K0
  obtain ⟨s0, b6⟩ := z
  dsimp only [f_X12_rankOf_159] at hF
  try dsimp only at hH hl
  refine lv_iload X.x X.b (dk DX12_rankOf_1 28 rfl) (lv_at hl 6 rfl) ?_
  refine lv_aload_n X.x X.b (dk DX12_rankOf_1 29 rfl) rfl (lv_at hl 0 rfl) ?_
  refine og_getI OX12 X hq hH 0 (by decide) rfl kF_X12_248 (dk DX12_rankOf_1 30 rfl) ?_
  refine lv_icmp_ge (tgt := 233) X.x X.b (dk DX12_rankOf_1 31 rfl) (by decide) (fun c44 => ?_) (fun c44 => ?_)
  · replace hF := if_t hF c44
    have hr9 := lp_r hF hx
    subst hr9
    exact K0 _ _ _ hH (lv_sub hl [0, 1, 2, 3] rfl)
  · replace hF := if_f hF c44
    refine lv_aload_n X.x X.b (dk DX12_rankOf_1 32 rfl) rfl (lv_at hl 0 rfl) ?_
    refine og_getR (t := 0) OX12 X hq hH 30 (by decide) rfl kF_X12_48 (dk DX12_rankOf_1 33 rfl) ?_
    refine lv_bipush (v := 64) X.x X.b (dk DX12_rankOf_1 34 rfl) (by decide) ?_
    refine lv_iload X.x X.b (dk DX12_rankOf_1 35 rfl) (lv_at hl 4 rfl) ?_
    refine lv_imul X.x X.b (dk DX12_rankOf_1 36 rfl) ?_
    refine lv_iload X.x X.b (dk DX12_rankOf_1 37 rfl) (lv_at hl 6 rfl) ?_
    refine lv_iadd X.x X.b (dk DX12_rankOf_1 38 rfl) ?_
    obtain ⟨c45, hF⟩ := gd hF
    refine og_iald X hq hH 30 (by decide) rfl (inb_in c45) (dk DX12_rankOf_1 39 rfl) ?_
    refine lv_iload X.x X.b (dk DX12_rankOf_1 40 rfl) (lv_at hl 5 rfl) ?_
    refine lv_imul X.x X.b (dk DX12_rankOf_1 41 rfl) ?_
    refine lv_iload_n X.x X.b (dk DX12_rankOf_1 42 rfl) rfl (lv_at hl 1 rfl) ?_
    obtain ⟨c46, hF⟩ := gn hF
    refine lv_irem X.x X.b (dk DX12_rankOf_1 43 rfl) c46 ?_
    refine lv_topi (fun v47 e48 => ?_)
    replace hF := bnd_e hF e48
    refine lv_istore (lv' := [(7, .int v47), (0, .ref (q 53)), (1, .int b1), (2, .int b2), (3, .int b3), (4, .int b4), (5, .int b5), (6, .int b6)]) X.x X.b (dk DX12_rankOf_1 44 rfl) hl (by decide) rfl (fun ls hl => ?_)
    replace hl : lv_has ls 9 [(0, .ref (q 53)), (1, .int b1), (2, .int b2), (3, .int b3), (4, .int b4), (5, .int b5), (6, .int b6), (7, .int v47)] := lv_sub hl [1, 2, 3, 4, 5, 6, 7, 0] rfl
    refine lv_aload_n X.x X.b (dk DX12_rankOf_1 45 rfl) rfl (lv_at hl 0 rfl) ?_
    refine og_getR (t := 0) OX12 X hq hH 30 (by decide) rfl kF_X12_48 (dk DX12_rankOf_1 46 rfl) ?_
    refine lv_bipush (v := 64) X.x X.b (dk DX12_rankOf_1 47 rfl) (by decide) ?_
    refine lv_iload X.x X.b (dk DX12_rankOf_1 48 rfl) (lv_at hl 4 rfl) ?_
    refine lv_imul X.x X.b (dk DX12_rankOf_1 49 rfl) ?_
    refine lv_iload X.x X.b (dk DX12_rankOf_1 50 rfl) (lv_at hl 6 rfl) ?_
    refine lv_iadd X.x X.b (dk DX12_rankOf_1 51 rfl) ?_
    refine lv_aload_n X.x X.b (dk DX12_rankOf_1 52 rfl) rfl (lv_at hl 0 rfl) ?_
    refine og_getR (t := 0) OX12 X hq hH 30 (by decide) rfl kF_X12_48 (dk DX12_rankOf_1 53 rfl) ?_
    refine lv_bipush (v := 64) X.x X.b (dk DX12_rankOf_1 54 rfl) (by decide) ?_
    refine lv_iload_n X.x X.b (dk DX12_rankOf_1 55 rfl) rfl (lv_at hl 2 rfl) ?_
    refine lv_imul X.x X.b (dk DX12_rankOf_1 56 rfl) ?_
    refine lv_iload X.x X.b (dk DX12_rankOf_1 57 rfl) (lv_at hl 6 rfl) ?_
    refine lv_iadd X.x X.b (dk DX12_rankOf_1 58 rfl) ?_
    obtain ⟨c49, hF⟩ := gd hF
    refine og_iald X hq hH 30 (by decide) rfl (inb_in c49) (dk DX12_rankOf_1 59 rfl) ?_
    refine og_iast X hq hH 30 (by decide) rfl (inb_in c45) (dk DX12_rankOf_2 0 rfl) (fun H locs hH => ?_)
    obtain ⟨t50, e51⟩ : ∃ y, y = oA s0 30 (upd (s0.2.2.1 30) (((64 : Int32) * b4) + b6 : Int32).toNatClampNeg (s0.2.2.1 30 (((64 : Int32) * b2) + b6 : Int32).toNatClampNeg)) := ⟨_, rfl⟩
    rw [← e51] at hH
    replace hF := bnd_e hF e51
    refine lv_aload_n X.x X.b (dk DX12_rankOf_2 1 rfl) rfl (lv_at hl 0 rfl) ?_
    refine og_getR (t := 0) OX12 X hq hH 30 (by decide) rfl kF_X12_48 (dk DX12_rankOf_2 2 rfl) ?_
    refine lv_bipush (v := 64) X.x X.b (dk DX12_rankOf_2 3 rfl) (by decide) ?_
    refine lv_iload_n X.x X.b (dk DX12_rankOf_2 4 rfl) rfl (lv_at hl 2 rfl) ?_
    refine lv_imul X.x X.b (dk DX12_rankOf_2 5 rfl) ?_
    refine lv_iload X.x X.b (dk DX12_rankOf_2 6 rfl) (lv_at hl 6 rfl) ?_
    refine lv_iadd X.x X.b (dk DX12_rankOf_2 7 rfl) ?_
    refine lv_iload X.x X.b (dk DX12_rankOf_2 8 rfl) (lv_at hl 7 rfl) ?_
    refine og_iast X hq hH 30 (by decide) rfl (inb_in c49) (dk DX12_rankOf_2 9 rfl) (fun H locs hH => ?_)
    obtain ⟨t52, e53⟩ : ∃ y, y = oA t50 30 (upd (t50.2.2.1 30) (((64 : Int32) * b2) + b6 : Int32).toNatClampNeg v47) := ⟨_, rfl⟩
    rw [← e53] at hH
    replace hF := bnd_e hF e53
    obtain ⟨v54, e55⟩ : ∃ y : Int32, y = b6 + 1 := ⟨_, rfl⟩
    replace hF := bnd_e hF e55
    refine lv_iinc (v := v54) (lv' := [(6, .int v54), (0, .ref (q 53)), (1, .int b1), (2, .int b2), (3, .int b3), (4, .int b4), (5, .int b5), (7, .int v47)]) X.x X.b (dk DX12_rankOf_2 10 rfl) hl (k := 6) rfl (by rw [e55]; rfl) (by decide) rfl (fun ls hl => ?_)
    replace hl : lv_has ls 9 [(0, .ref (q 53)), (1, .int b1), (2, .int b2), (3, .int b3), (4, .int b4), (5, .int b5), (6, .int v54)] := lv_sub hl [1, 2, 3, 4, 5, 6, 0] rfl
    refine lv_goto (tgt := 159) X.x X.b (dk DX12_rankOf_2 11 rfl) (by decide) ?_
    exact (lp_l hF hx) _ _ _ hH (lv_sub hl [0, 1, 2, 3, 4, 5, 6] rfl) K0
set_option maxHeartbeats 4000000 in
set_option maxRecDepth 100000 in
theorem w_X12_rankOf_266 {p : Program} {l : Launch} {e : Env} {s : State} {m : MethodId} {args : Array Value} {below : List Frame} {meth : Method} {c : Code} {Q : State → Prop} {G : mG} {h : mM} {q : Nat → Nat} (hq : oinj LX12 q) (X : mX G p m c cX12_rankOf 9 s args RX12) (b1 : Int32) (b2 : Int32) (b3 : Int32) (b6 : Int32) (b7 : Int32) : ∀ (z : OS × Int32) (r : OS), lpv (f_X12_rankOf_266 b1 b2 b3 b6 b7) z = some r → ∀ (H : Heap) (locs : List Loc) (ls : Array Slot), mH G (oset LX12 G q z.1 h) s.heap H locs → lv_has ls 9 [(0, .ref (q 53)), (1, .int b1), (2, .int b2), (3, .int b3), (6, .int b6), (7, .int b7), (8, .int z.2)] → (∀ (H : Heap) (locs : List Loc) (ls : Array Slot), mH G (oset LX12 G q r h) s.heap H locs → lv_has ls 9 [(0, .ref (q 53)), (1, .int b1), (2, .int b2), (3, .int b3), (6, .int b6)] → W p l e rm_X12_rankOf s m args below meth c H locs 0 0 Q (F0 m 325 ls [])) → W p l e rm_X12_rankOf s m args below meth c H locs 0 0 Q (F0 m 266 ls []) := by
  refine lpv_rec ?_
  intro z r x hF hx H locs ls hH hl K0
  obtain ⟨s0, b8⟩ := z
  dsimp only [f_X12_rankOf_266] at hF
  try dsimp only at hH hl
  refine lv_iload X.x X.b (dk DX12_rankOf_2 33 rfl) (lv_at hl 6 rfl) ?_
  refine lv_aload_n X.x X.b (dk DX12_rankOf_2 34 rfl) rfl (lv_at hl 0 rfl) ?_
  refine og_getI OX12 X hq hH 0 (by decide) rfl kF_X12_248 (dk DX12_rankOf_2 35 rfl) ?_
  refine lv_icmp_ge (tgt := 325) X.x X.b (dk DX12_rankOf_2 36 rfl) (by decide) (fun c65 => ?_) (fun c65 => ?_)
  · replace hF := if_t hF c65
    have hr9 := lp_r hF hx
    subst hr9
    exact K0 _ _ _ hH (lv_sub hl [0, 1, 2, 3, 4] rfl)
  · replace hF := if_f hF c65
    refine lv_aload_n X.x X.b (dk DX12_rankOf_2 37 rfl) rfl (lv_at hl 0 rfl) ?_
    refine og_getR (t := 0) OX12 X hq hH 30 (by decide) rfl kF_X12_48 (dk DX12_rankOf_2 38 rfl) ?_
    refine lv_bipush (v := 64) X.x X.b (dk DX12_rankOf_2 39 rfl) (by decide) ?_
    refine lv_iload X.x X.b (dk DX12_rankOf_2 40 rfl) (lv_at hl 4 rfl) ?_
    refine lv_imul X.x X.b (dk DX12_rankOf_2 41 rfl) ?_
    refine lv_iload X.x X.b (dk DX12_rankOf_2 42 rfl) (lv_at hl 6 rfl) ?_
    refine lv_iadd X.x X.b (dk DX12_rankOf_2 43 rfl) ?_
    refine lv_aload_n X.x X.b (dk DX12_rankOf_2 44 rfl) rfl (lv_at hl 0 rfl) ?_
    refine og_getR (t := 0) OX12 X hq hH 30 (by decide) rfl kF_X12_48 (dk DX12_rankOf_2 45 rfl) ?_
    refine lv_bipush (v := 64) X.x X.b (dk DX12_rankOf_2 46 rfl) (by decide) ?_
    refine lv_iload X.x X.b (dk DX12_rankOf_2 47 rfl) (lv_at hl 4 rfl) ?_
    refine lv_imul X.x X.b (dk DX12_rankOf_2 48 rfl) ?_
    refine lv_iload X.x X.b (dk DX12_rankOf_2 49 rfl) (lv_at hl 6 rfl) ?_
    refine lv_iadd X.x X.b (dk DX12_rankOf_2 50 rfl) ?_
    obtain ⟨c66, hF⟩ := gd hF
    refine og_iald X hq hH 30 (by decide) rfl (inb_in c66) (dk DX12_rankOf_2 51 rfl) ?_
    refine lv_iload X.x X.b (dk DX12_rankOf_2 52 rfl) (lv_at hl 5 rfl) ?_
    refine lv_aload_n X.x X.b (dk DX12_rankOf_2 53 rfl) rfl (lv_at hl 0 rfl) ?_
    refine og_getR (t := 0) OX12 X hq hH 30 (by decide) rfl kF_X12_48 (dk DX12_rankOf_2 54 rfl) ?_
    refine lv_bipush (v := 64) X.x X.b (dk DX12_rankOf_2 55 rfl) (by decide) ?_
    refine lv_iload_n X.x X.b (dk DX12_rankOf_2 56 rfl) rfl (lv_at hl 2 rfl) ?_
    refine lv_imul X.x X.b (dk DX12_rankOf_2 57 rfl) ?_
    refine lv_iload X.x X.b (dk DX12_rankOf_2 58 rfl) (lv_at hl 6 rfl) ?_
    refine lv_iadd X.x X.b (dk DX12_rankOf_2 59 rfl) ?_
    obtain ⟨c67, hF⟩ := gd hF
    refine og_iald X hq hH 30 (by decide) rfl (inb_in c67) (dk DX12_rankOf_3 0 rfl) ?_
    refine lv_imul X.x X.b (dk DX12_rankOf_3 1 rfl) ?_
    refine lv_iadd X.x X.b (dk DX12_rankOf_3 2 rfl) ?_
    refine lv_iload_n X.x X.b (dk DX12_rankOf_3 3 rfl) rfl (lv_at hl 1 rfl) ?_
    obtain ⟨c68, hF⟩ := gn hF
    refine lv_irem X.x X.b (dk DX12_rankOf_3 4 rfl) c68 ?_
    refine og_iast X hq hH 30 (by decide) rfl (inb_in c66) (dk DX12_rankOf_3 5 rfl) (fun H locs hH => ?_)
    obtain ⟨t69, e70⟩ : ∃ y, y = oA s0 30 (upd (s0.2.2.1 30) (((64 : Int32) * b6) + b8 : Int32).toNatClampNeg (((s0.2.2.1 30 (((64 : Int32) * b6) + b8 : Int32).toNatClampNeg) + (b7 * (s0.2.2.1 30 (((64 : Int32) * b2) + b8 : Int32).toNatClampNeg))) - ((s0.2.2.1 30 (((64 : Int32) * b6) + b8 : Int32).toNatClampNeg) + (b7 * (s0.2.2.1 30 (((64 : Int32) * b2) + b8 : Int32).toNatClampNeg))) / b1 * b1)) := ⟨_, rfl⟩
    rw [← e70] at hH
    replace hF := bnd_e hF e70
    obtain ⟨v71, e72⟩ : ∃ y : Int32, y = b8 + 1 := ⟨_, rfl⟩
    replace hF := bnd_e hF e72
    refine lv_iinc (v := v71) (lv' := [(8, .int v71), (0, .ref (q 53)), (1, .int b1), (2, .int b2), (3, .int b3), (6, .int b6), (7, .int b7)]) X.x X.b (dk DX12_rankOf_3 6 rfl) hl (k := 6) rfl (by rw [e72]; rfl) (by decide) rfl (fun ls hl => ?_)
    replace hl : lv_has ls 9 [(0, .ref (q 53)), (1, .int b1), (2, .int b2), (3, .int b3), (6, .int b6), (7, .int b7), (8, .int v71)] := lv_sub hl [1, 2, 3, 4, 5, 6, 0] rfl
    refine lv_goto (tgt := 266) X.x X.b (dk DX12_rankOf_3 7 rfl) (by decide) ?_
    exact (lp_l hF hx) _ _ _ hH (lv_sub hl [0, 1, 2, 3, 4, 5, 6] rfl) K0
set_option maxHeartbeats 4000000 in
set_option maxRecDepth 100000 in
theorem w_X12_rankOf_238 {p : Program} {l : Launch} {e : Env} {s : State} {m : MethodId} {args : Array Value} {below : List Frame} {meth : Method} {c : Code} {Q : State → Prop} {G : mG} {h : mM} {q : Nat → Nat} (hq : oinj LX12 q) (X : mX G p m c cX12_rankOf 9 s args RX12) (b1 : Int32) (b2 : Int32) (b3 : Int32) : ∀ (z : OS × Int32) (r : OS), lpv (f_X12_rankOf_238 b1 b2 b3) z = some r → ∀ (H : Heap) (locs : List Loc) (ls : Array Slot), mH G (oset LX12 G q z.1 h) s.heap H locs → lv_has ls 9 [(0, .ref (q 53)), (1, .int b1), (2, .int b2), (3, .int b3), (6, .int z.2)] → (∀ (H : Heap) (locs : List Loc) (ls : Array Slot), mH G (oset LX12 G q r h) s.heap H locs → lv_has ls 9 [(0, .ref (q 53)), (1, .int b1), (2, .int b2), (3, .int b3)] → W p l e rm_X12_rankOf s m args below meth c H locs 0 0 Q (F0 m 331 ls [])) → W p l e rm_X12_rankOf s m args below meth c H locs 0 0 Q (F0 m 238 ls []) := by
  refine lpv_rec ?_
  intro z r x hF hx H locs ls hH hl K0
  obtain ⟨s0, b6⟩ := z
  dsimp only [f_X12_rankOf_238] at hF
  try dsimp only at hH hl
  refine lv_iload X.x X.b (dk DX12_rankOf_2 16 rfl) (lv_at hl 4 rfl) ?_
  refine lv_aload_n X.x X.b (dk DX12_rankOf_2 17 rfl) rfl (lv_at hl 0 rfl) ?_
  refine og_getI OX12 X hq hH 1 (by decide) rfl kF_X12_250 (dk DX12_rankOf_2 18 rfl) ?_
  refine lv_icmp_ge (tgt := 331) X.x X.b (dk DX12_rankOf_2 19 rfl) (by decide) (fun c61 => ?_) (fun c61 => ?_)
  · replace hF := if_t hF c61
    have hr9 := lp_r hF hx
    subst hr9
    exact K0 _ _ _ hH (lv_sub hl [0, 1, 2, 3] rfl)
  · replace hF := if_f hF c61
    refine lv_iload_n X.x X.b (dk DX12_rankOf_2 20 rfl) rfl (lv_at hl 1 rfl) ?_
    refine lv_aload_n X.x X.b (dk DX12_rankOf_2 21 rfl) rfl (lv_at hl 0 rfl) ?_
    refine og_getR (t := 0) OX12 X hq hH 30 (by decide) rfl kF_X12_48 (dk DX12_rankOf_2 22 rfl) ?_
    refine lv_bipush (v := 64) X.x X.b (dk DX12_rankOf_2 23 rfl) (by decide) ?_
    refine lv_iload X.x X.b (dk DX12_rankOf_2 24 rfl) (lv_at hl 4 rfl) ?_
    refine lv_imul X.x X.b (dk DX12_rankOf_2 25 rfl) ?_
    refine lv_iload_n X.x X.b (dk DX12_rankOf_2 26 rfl) rfl (lv_at hl 3 rfl) ?_
    refine lv_iadd X.x X.b (dk DX12_rankOf_2 27 rfl) ?_
    obtain ⟨c62, hF⟩ := gd hF
    refine og_iald X hq hH 30 (by decide) rfl (inb_in c62) (dk DX12_rankOf_2 28 rfl) ?_
    refine lv_isub X.x X.b (dk DX12_rankOf_2 29 rfl) ?_
    refine lv_topi (fun v63 e64 => ?_)
    replace hF := bnd_e hF e64
    refine lv_istore (lv' := [(7, .int v63), (0, .ref (q 53)), (1, .int b1), (2, .int b2), (3, .int b3), (6, .int b6)]) X.x X.b (dk DX12_rankOf_2 30 rfl) hl (by decide) rfl (fun ls hl => ?_)
    replace hl : lv_has ls 9 [(0, .ref (q 53)), (1, .int b1), (2, .int b2), (3, .int b3), (6, .int b6), (7, .int v63)] := lv_sub hl [1, 2, 3, 4, 5, 0] rfl
    refine lv_iconst (v := 0) X.x X.b (dk DX12_rankOf_2 31 rfl) (by decide) ?_
    refine lv_istore (lv' := [(8, .int 0), (0, .ref (q 53)), (1, .int b1), (2, .int b2), (3, .int b3), (6, .int b6), (7, .int v63)]) X.x X.b (dk DX12_rankOf_2 32 rfl) hl (by decide) rfl (fun ls hl => ?_)
    replace hl : lv_has ls 9 [(0, .ref (q 53)), (1, .int b1), (2, .int b2), (3, .int b3), (6, .int b6), (7, .int v63), (8, .int 0)] := lv_sub hl [1, 2, 3, 4, 5, 6, 0] rfl
    obtain ⟨x73, e74, hF⟩ := bd hF
    replace hl : lv_has ls 9 [(0, .ref (q 53)), (1, .int b1), (2, .int b2), (3, .int b3), (6, .int b6), (7, .int v63), (8, .int 0)] := lv_sub hl [0, 1, 2, 3, 4, 5, 6] rfl
    refine w_X12_rankOf_266 hq X b1 b2 b3 b6 v63 _ _ e74 _ _ _ hH hl (fun H locs ls hH hl => ?_)
    obtain ⟨v76, e77⟩ : ∃ y : Int32, y = b6 + 1 := ⟨_, rfl⟩
    replace hF := bnd_e hF e77
    refine lv_iinc (v := v76) (lv' := [(6, .int v76), (0, .ref (q 53)), (1, .int b1), (2, .int b2), (3, .int b3)]) X.x X.b (dk DX12_rankOf_3 8 rfl) hl (k := 4) rfl (by rw [e77]; rfl) (by decide) rfl (fun ls hl => ?_)
    replace hl : lv_has ls 9 [(0, .ref (q 53)), (1, .int b1), (2, .int b2), (3, .int b3), (6, .int v76)] := lv_sub hl [1, 2, 3, 4, 0] rfl
    refine lv_goto (tgt := 238) X.x X.b (dk DX12_rankOf_3 9 rfl) (by decide) ?_
    exact (lp_l hF hx) _ _ _ hH (lv_sub hl [0, 1, 2, 3, 4] rfl) K0
set_option maxHeartbeats 4000000 in
set_option maxRecDepth 100000 in
theorem w_X12_rankOf_65 {p : Program} {l : Launch} {e : Env} {s : State} {m : MethodId} {args : Array Value} {below : List Frame} {meth : Method} {c : Code} {Q : State → Prop} {G : mG} {h : mM} {q : Nat → Nat} (hq : oinj LX12 q) (X : mX G p m c cX12_rankOf 9 s args RX12) (b1 : Int32) : ∀ (z : OS × Int32 × Int32) (r : OS × Int32), lpv (f_X12_rankOf_65 b1) z = some r → ∀ (H : Heap) (locs : List Loc) (ls : Array Slot), mH G (oset LX12 G q z.1 h) s.heap H locs → lv_has ls 9 [(0, .ref (q 53)), (1, .int b1), (2, .int z.2.1), (3, .int z.2.2)] → (∀ (H : Heap) (locs : List Loc) (ls : Array Slot), mH G (oset LX12 G q r.1 h) s.heap H locs → lv_has ls 9 [(2, .int r.2)] → W p l e rm_X12_rankOf s m args below meth c H locs 0 0 Q (F0 m 340 ls [])) → W p l e rm_X12_rankOf s m args below meth c H locs 0 0 Q (F0 m 65 ls []) := by
  refine lpv_rec ?_
  intro z r x hF hx H locs ls hH hl K0
  obtain ⟨s0, b2, b3⟩ := z
  dsimp only [f_X12_rankOf_65] at hF
  try dsimp only at hH hl
  refine lv_iload_n X.x X.b (dk DX12_rankOf_0 38 rfl) rfl (lv_at hl 3 rfl) ?_
  refine lv_aload_n X.x X.b (dk DX12_rankOf_0 39 rfl) rfl (lv_at hl 0 rfl) ?_
  refine og_getI OX12 X hq hH 0 (by decide) rfl kF_X12_248 (dk DX12_rankOf_0 40 rfl) ?_
  refine lv_icmp_ge (tgt := 340) X.x X.b (dk DX12_rankOf_0 41 rfl) (by decide) (fun c25 => ?_) (fun c25 => ?_)
  · replace hF := if_t hF c25
    have hr9 := lp_r hF hx
    subst hr9
    exact K0 _ _ _ hH (lv_sub hl [2] rfl)
  · replace hF := if_f hF c25
    refine lv_iload_n X.x X.b (dk DX12_rankOf_0 42 rfl) rfl (lv_at hl 2 rfl) ?_
    refine lv_aload_n X.x X.b (dk DX12_rankOf_0 43 rfl) rfl (lv_at hl 0 rfl) ?_
    refine og_getI OX12 X hq hH 1 (by decide) rfl kF_X12_250 (dk DX12_rankOf_0 44 rfl) ?_
    refine lv_icmp_ge (tgt := 340) X.x X.b (dk DX12_rankOf_0 45 rfl) (by decide) (fun c26 => ?_) (fun c26 => ?_)
    · replace hF := if_t hF c26
      have hr9 := lp_r hF hx
      subst hr9
      exact K0 _ _ _ hH (lv_sub hl [2] rfl)
    · replace hF := if_f hF c26
      refine lv_iload_n X.x X.b (dk DX12_rankOf_0 46 rfl) rfl (lv_at hl 2 rfl) ?_
      refine lv_istore (lv' := [(4, .int b2), (0, .ref (q 53)), (1, .int b1), (2, .int b2), (3, .int b3)]) X.x X.b (dk DX12_rankOf_0 47 rfl) hl (by decide) rfl (fun ls hl => ?_)
      replace hl : lv_has ls 9 [(0, .ref (q 53)), (1, .int b1), (2, .int b2), (3, .int b3), (4, .int b2)] := lv_sub hl [1, 2, 3, 4, 0] rfl
      obtain ⟨x32, e33, hF⟩ := bd hF
      replace hl : lv_has ls 9 [(0, .ref (q 53)), (1, .int b1), (2, .int b2), (3, .int b3), (4, .int b2)] := lv_sub hl [0, 1, 2, 3, 4] rfl
      refine w_X12_rankOf_84 hq X s0 b1 b2 b3 _ _ e33 _ _ _ hH hl (fun H locs ls hH hl => ?_)
      refine lv_iload X.x X.b (dk DX12_rankOf_1 3 rfl) (lv_at hl 4 rfl) ?_
      refine lv_aload_n X.x X.b (dk DX12_rankOf_1 4 rfl) rfl (lv_at hl 0 rfl) ?_
      refine og_getI OX12 X hq hH 1 (by decide) rfl kF_X12_250 (dk DX12_rankOf_1 5 rfl) ?_
      refine lv_icmp_ne (tgt := 126) X.x X.b (dk DX12_rankOf_1 6 rfl) (by decide) (fun c35 => ?_) (fun c35 => ?_)
      · replace hF := if_f hF c35
        refine lv_iconst (v := 1) X.x X.b (dk DX12_rankOf_1 8 rfl) (by decide) ?_
        refine lv_istore (lv' := [(5, .int 1), (0, .ref (q 53)), (1, .int b1), (2, .int b2), (3, .int b3), (4, .int x32)]) X.x X.b (dk DX12_rankOf_1 9 rfl) hl (by decide) rfl (fun ls hl => ?_)
        replace hl : lv_has ls 9 [(0, .ref (q 53)), (1, .int b1), (2, .int b2), (3, .int b3), (4, .int x32), (5, .int 1)] := lv_sub hl [1, 2, 3, 4, 5, 0] rfl
        obtain ⟨x41, e42, hF⟩ := bd hF
        replace hl : lv_has ls 9 [(0, .ref (q 53)), (1, .int b1), (2, .int b2), (3, .int b3), (4, .int x32), (5, .int 1)] := lv_sub hl [0, 1, 2, 3, 4, 5] rfl
        refine w_X12_rankOf_129 hq X s0 b1 b2 b3 x32 _ _ e42 _ _ _ hH hl (fun H locs ls hH hl => ?_)
        refine lv_iconst (v := 0) X.x X.b (dk DX12_rankOf_1 26 rfl) (by decide) ?_
        refine lv_istore (lv' := [(6, .int 0), (0, .ref (q 53)), (1, .int b1), (2, .int b2), (3, .int b3), (4, .int x32), (5, .int x41)]) X.x X.b (dk DX12_rankOf_1 27 rfl) hl (by decide) rfl (fun ls hl => ?_)
        replace hl : lv_has ls 9 [(0, .ref (q 53)), (1, .int b1), (2, .int b2), (3, .int b3), (4, .int x32), (5, .int x41), (6, .int 0)] := lv_sub hl [1, 2, 3, 4, 5, 6, 0] rfl
        obtain ⟨x56, e57, hF⟩ := bd hF
        replace hl : lv_has ls 9 [(0, .ref (q 53)), (1, .int b1), (2, .int b2), (3, .int b3), (4, .int x32), (5, .int x41), (6, .int 0)] := lv_sub hl [0, 1, 2, 3, 4, 5, 6] rfl
        refine w_X12_rankOf_159 hq X b1 b2 b3 x32 x41 _ _ e57 _ _ _ hH hl (fun H locs ls hH hl => ?_)
        refine lv_iload_n X.x X.b (dk DX12_rankOf_2 12 rfl) rfl (lv_at hl 2 rfl) ?_
        refine lv_iconst (v := 1) X.x X.b (dk DX12_rankOf_2 13 rfl) (by decide) ?_
        refine lv_iadd X.x X.b (dk DX12_rankOf_2 14 rfl) ?_
        refine lv_topi (fun v59 e60 => ?_)
        replace hF := bnd_e hF e60
        refine lv_istore (lv' := [(6, .int v59), (0, .ref (q 53)), (1, .int b1), (2, .int b2), (3, .int b3)]) X.x X.b (dk DX12_rankOf_2 15 rfl) hl (by decide) rfl (fun ls hl => ?_)
        replace hl : lv_has ls 9 [(0, .ref (q 53)), (1, .int b1), (2, .int b2), (3, .int b3), (6, .int v59)] := lv_sub hl [1, 2, 3, 4, 0] rfl
        obtain ⟨x78, e79, hF⟩ := bd hF
        replace hl : lv_has ls 9 [(0, .ref (q 53)), (1, .int b1), (2, .int b2), (3, .int b3), (6, .int v59)] := lv_sub hl [0, 1, 2, 3, 4] rfl
        refine w_X12_rankOf_238 hq X b1 b2 b3 _ _ e79 _ _ _ hH hl (fun H locs ls hH hl => ?_)
        obtain ⟨v81, e82⟩ : ∃ y : Int32, y = b2 + 1 := ⟨_, rfl⟩
        replace hF := bnd_e hF e82
        refine lv_iinc (v := v81) (lv' := [(2, .int v81), (0, .ref (q 53)), (1, .int b1), (3, .int b3)]) X.x X.b (dk DX12_rankOf_3 10 rfl) hl (k := 2) rfl (by rw [e82]; rfl) (by decide) rfl (fun ls hl => ?_)
        replace hl : lv_has ls 9 [(0, .ref (q 53)), (1, .int b1), (2, .int v81), (3, .int b3)] := lv_sub hl [1, 2, 0, 3] rfl
        obtain ⟨v83, e84⟩ : ∃ y : Int32, y = b3 + 1 := ⟨_, rfl⟩
        replace hF := bnd_e hF e84
        refine lv_iinc (v := v83) (lv' := [(3, .int v83), (0, .ref (q 53)), (1, .int b1), (2, .int v81)]) X.x X.b (dk DX12_rankOf_3 11 rfl) hl (k := 3) rfl (by rw [e84]; rfl) (by decide) rfl (fun ls hl => ?_)
        replace hl : lv_has ls 9 [(0, .ref (q 53)), (1, .int b1), (2, .int v81), (3, .int v83)] := lv_sub hl [1, 2, 3, 0] rfl
        refine lv_goto (tgt := 65) X.x X.b (dk DX12_rankOf_3 12 rfl) (by decide) ?_
        exact (lp_l hF hx) _ _ _ hH (lv_sub hl [0, 1, 2, 3] rfl) K0
      · replace hF := if_t hF c35
        refine lv_goto (tgt := 334) X.x X.b (dk DX12_rankOf_1 7 rfl) (by decide) ?_
        obtain ⟨v85, e86⟩ : ∃ y : Int32, y = b3 + 1 := ⟨_, rfl⟩
        replace hF := bnd_e hF e86
        refine lv_iinc (v := v85) (lv' := [(3, .int v85), (0, .ref (q 53)), (1, .int b1), (2, .int b2), (4, .int x32)]) X.x X.b (dk DX12_rankOf_3 11 rfl) hl (k := 3) rfl (by rw [e86]; rfl) (by decide) rfl (fun ls hl => ?_)
        replace hl : lv_has ls 9 [(0, .ref (q 53)), (1, .int b1), (2, .int b2), (3, .int v85)] := lv_sub hl [1, 2, 3, 0] rfl
        refine lv_goto (tgt := 65) X.x X.b (dk DX12_rankOf_3 12 rfl) (by decide) ?_
        exact (lp_l hF hx) _ _ _ hH (lv_sub hl [0, 1, 2, 3] rfl) K0
set_option maxHeartbeats 4000000 in
set_option maxRecDepth 100000 in
theorem c_X12_rankOf {l : Launch} {G : mG} {h : mM} {q : Nat → Nat} (hq : oinj LX12 q) {st : OS} {a0 : Int32} {x : Int32 × OS} (hF : f_X12_rankOf st a0 = some x) : cQ l G yX12_rankOf cX12_rankOf 9 (some FieldType.int) rm_X12_rankOf [.ref (q 53), .int a0] (oset LX12 G q st h) (mQi G (fun r h1 => r = x.1 ∧ h1 = oset LX12 G q x.2 h)) := by
  refine mp_of (by decide +kernel) (Nat.le_of_ble_eq_true rfl) ?_
  intro p e s m below meth c X hr hlk hH hname ls hl
  dsimp only [f_X12_rankOf] at hF
  replace hl : lv_has ls 9 [(0, .ref (q 53)), (1, .int a0)] := hl
  refine lv_iconst (v := 0) X.x X.b (dk DX12_rankOf_0 0 rfl) (by decide) ?_
  refine lv_istore_n (lv' := [(2, .int 0), (0, .ref (q 53)), (1, .int a0)]) X.x X.b (dk DX12_rankOf_0 1 rfl) rfl hl (by decide) rfl (fun ls hl => ?_)
  replace hl : lv_has ls 9 [(0, .ref (q 53)), (1, .int a0), (2, .int 0)] := lv_sub hl [1, 2, 0] rfl
  obtain ⟨x22, e23, hF⟩ := bd hF
  replace hl : lv_has ls 9 [(0, .ref (q 53)), (1, .int a0), (2, .int 0)] := lv_sub hl [0, 1, 2] rfl
  refine w_X12_rankOf_2 hq X a0 _ _ e23 _ _ _ hH hl (fun H locs ls hH hl => ?_)
  refine lv_iconst (v := 0) X.x X.b (dk DX12_rankOf_0 34 rfl) (by decide) ?_
  refine lv_istore_n (lv' := [(2, .int 0), (0, .ref (q 53)), (1, .int a0)]) X.x X.b (dk DX12_rankOf_0 35 rfl) rfl hl (by decide) rfl (fun ls hl => ?_)
  replace hl : lv_has ls 9 [(0, .ref (q 53)), (1, .int a0), (2, .int 0)] := lv_sub hl [1, 2, 0] rfl
  refine lv_iconst (v := 0) X.x X.b (dk DX12_rankOf_0 36 rfl) (by decide) ?_
  refine lv_istore_n (lv' := [(3, .int 0), (0, .ref (q 53)), (1, .int a0), (2, .int 0)]) X.x X.b (dk DX12_rankOf_0 37 rfl) rfl hl (by decide) rfl (fun ls hl => ?_)
  replace hl : lv_has ls 9 [(0, .ref (q 53)), (1, .int a0), (2, .int 0), (3, .int 0)] := lv_sub hl [1, 2, 3, 0] rfl
  obtain ⟨x87, e88, hF⟩ := bd hF
  replace hl : lv_has ls 9 [(0, .ref (q 53)), (1, .int a0), (2, .int 0), (3, .int 0)] := lv_sub hl [0, 1, 2, 3] rfl
  obtain ⟨t89, v90⟩ := x87
  try dsimp only at hF
  refine w_X12_rankOf_65 hq X a0 _ _ e88 _ _ _ hH hl (fun H locs ls hH hl => ?_)
  try dsimp only at hH hl
  refine lv_iload_n X.x X.b (dk DX12_rankOf_3 13 rfl) rfl (lv_at hl 0 rfl) ?_
  cases sm hF
  exact mr_iret X hr hlk hH ⟨rfl, rfl⟩ (dk DX12_rankOf_3 14 rfl)
-- X12_rank
abbrev rm_X12_rank : Room := { frames := 2, cells := 0, slots := 0, locals := 50 }
theorem hd_X12_rank : mHd yX12_rank 1 := ⟨by decide +kernel, by decide +kernel, by decide +kernel⟩
theorem DX12_rank_0 : ∀ t ∈ ([(0, .aload_n 0, 1), (1, .iload_n 1, 1), (2, .iconst 2, 1), (3, .if_icmp .eq 19, 3), (6, .iload_n 1, 1), (7, .iconst 3, 1), (8, .if_icmp .eq 14, 3), (11, .iload_n 1, 1), (12, .iconst 5, 1), (13, .if_icmp .eq 9, 3), (16, .iload_n 1, 1), (17, .bipush 7, 2), (19, .if_icmp .ne 7, 3), (22, .iconst 0, 1), (23, .goto 4, 3), (26, .iconst 1, 1), (27, .putfield 106, 3), (30, .aload_n 0, 1), (31, .getfield 106, 3), (34, .ifCond .le 7, 3), (37, .iconst 0, 1), (38, .goto 8, 3), (41, .aload_n 0, 1), (42, .iload_n 1, 1), (43, .invokevirtual 359, 3), (46, .ireturn, 1)] : List (Nat × Instr × Nat)), decode cX12_rank t.1 = .ok (t.2.1, t.2.2) := by decide +kernel
noncomputable def f_X12_rank (st : OS) (a0 : Int32) : Option (Int32 × OS) := (if a0 = 2 then bnd (oI st 2 0) (fun t2 => (if (t2.1 2) ≤ 0 then (f_X12_rankOf t2 a0).bind (fun x5 => match x5 with | (v8, t7) => some ((v8, t7))) else some ((0, t2)))) else (if a0 = 3 then bnd (oI st 2 0) (fun t10 => (if (t10.1 2) ≤ 0 then (f_X12_rankOf t10 a0).bind (fun x13 => match x13 with | (v16, t15) => some ((v16, t15))) else some ((0, t10)))) else (if a0 = 5 then bnd (oI st 2 0) (fun t18 => (if (t18.1 2) ≤ 0 then (f_X12_rankOf t18 a0).bind (fun x21 => match x21 with | (v24, t23) => some ((v24, t23))) else some ((0, t18)))) else (if a0 = 7 then bnd (oI st 2 0) (fun t33 => (if (t33.1 2) ≤ 0 then (f_X12_rankOf t33 a0).bind (fun x36 => match x36 with | (v39, t38) => some ((v39, t38))) else some ((0, t33)))) else bnd (oI st 2 1) (fun t26 => (if (t26.1 2) ≤ 0 then (f_X12_rankOf t26 a0).bind (fun x29 => match x29 with | (v32, t31) => some ((v32, t31))) else some ((0, t26))))))))
set_option maxHeartbeats 4000000 in
set_option maxRecDepth 100000 in
theorem c_X12_rank {l : Launch} {G : mG} {h : mM} {q : Nat → Nat} (hq : oinj LX12 q) {st : OS} {a0 : Int32} {x : Int32 × OS} (hF : f_X12_rank st a0 = some x) : cQ l G yX12_rank cX12_rank 2 (some FieldType.int) rm_X12_rank [.ref (q 53), .int a0] (oset LX12 G q st h) (mQi G (fun r h1 => r = x.1 ∧ h1 = oset LX12 G q x.2 h)) := by
  refine mp_of (by decide +kernel) (Nat.le_of_ble_eq_true rfl) ?_
  intro p e s m below meth c X hr hlk hH hname ls hl
  dsimp only [f_X12_rank] at hF
  replace hl : lv_has ls 2 [(0, .ref (q 53)), (1, .int a0)] := hl
  refine lv_aload_n X.x X.b (dk DX12_rank_0 0 rfl) rfl (lv_at hl 0 rfl) ?_
  refine lv_iload_n X.x X.b (dk DX12_rank_0 1 rfl) rfl (lv_at hl 1 rfl) ?_
  refine lv_iconst (v := 2) X.x X.b (dk DX12_rank_0 2 rfl) (by decide) ?_
  refine lv_icmp_eq (tgt := 22) X.x X.b (dk DX12_rank_0 3 rfl) (by decide) (fun c1 => ?_) (fun c1 => ?_)
  · replace hF := if_t hF c1
    refine lv_iconst (v := 0) X.x X.b (dk DX12_rank_0 13 rfl) (by decide) ?_
    refine lv_goto (tgt := 27) X.x X.b (dk DX12_rank_0 14 rfl) (by decide) ?_
    refine og_putI OX12 X hq hH 2 (by decide) rfl kF_X12_106 rfl rfl rfl (dk DX12_rank_0 16 rfl) (fun H locs hH => ?_)
    obtain ⟨t2, e3⟩ : ∃ y, y = oI st 2 0 := ⟨_, rfl⟩
    rw [← e3] at hH
    replace hF := bnd_e hF e3
    refine lv_aload_n X.x X.b (dk DX12_rank_0 17 rfl) rfl (lv_at hl 0 rfl) ?_
    refine og_getI OX12 X hq hH 2 (by decide) rfl kF_X12_106 (dk DX12_rank_0 18 rfl) ?_
    refine lv_if_le (tgt := 41) X.x X.b (dk DX12_rank_0 19 rfl) (by decide) (fun c4 => ?_) (fun c4 => ?_)
    · replace hF := if_t hF c4
      refine lv_aload_n X.x X.b (dk DX12_rank_0 22 rfl) rfl (lv_at hl 0 rfl) ?_
      refine lv_iload_n X.x X.b (dk DX12_rank_0 23 rfl) rfl (lv_at hl 1 rfl) ?_
      obtain ⟨x5, e6, hF⟩ := bd hF
      refine mr_ci0 hH ⟨rfl, rfl⟩ (mr_runV (As := [.int a0]) (rest := []) X hH (c_X12_rankOf hq e6) ((oset_at hq (Nat.le_refl _) ohas_N).trans (congrArg some ocell_N)) OX12.1 kM_X12_359 kI_X12_rankOf kS_X12_rankOf kN_X12 kC_X12_rankOf hd_X12_rankOf ⟨Nat.le_of_ble_eq_true rfl, Nat.le_of_ble_eq_true rfl⟩ rfl hl.1 (Nat.le_of_ble_eq_true rfl) (dk DX12_rank_0 24 rfl) ⟨Nat.zero_le _, Nat.zero_le _⟩) (fun r h1 H locs hp hH => ?_)
      obtain ⟨hr1, hr2⟩ := hp; rw [hr1]; rw [hr2] at hH; clear hr1 hr2
      obtain ⟨v8, t7⟩ := x5
      try dsimp only at hF hH ⊢
      cases sm hF
      exact mr_iret X hr hlk hH ⟨rfl, rfl⟩ (dk DX12_rank_0 25 rfl)
    · replace hF := if_f hF c4
      refine lv_iconst (v := 0) X.x X.b (dk DX12_rank_0 20 rfl) (by decide) ?_
      refine lv_goto (tgt := 46) X.x X.b (dk DX12_rank_0 21 rfl) (by decide) ?_
      cases sm hF
      exact mr_iret X hr hlk hH ⟨rfl, rfl⟩ (dk DX12_rank_0 25 rfl)
  · replace hF := if_f hF c1
    refine lv_iload_n X.x X.b (dk DX12_rank_0 4 rfl) rfl (lv_at hl 1 rfl) ?_
    refine lv_iconst (v := 3) X.x X.b (dk DX12_rank_0 5 rfl) (by decide) ?_
    refine lv_icmp_eq (tgt := 22) X.x X.b (dk DX12_rank_0 6 rfl) (by decide) (fun c9 => ?_) (fun c9 => ?_)
    · replace hF := if_t hF c9
      refine lv_iconst (v := 0) X.x X.b (dk DX12_rank_0 13 rfl) (by decide) ?_
      refine lv_goto (tgt := 27) X.x X.b (dk DX12_rank_0 14 rfl) (by decide) ?_
      refine og_putI OX12 X hq hH 2 (by decide) rfl kF_X12_106 rfl rfl rfl (dk DX12_rank_0 16 rfl) (fun H locs hH => ?_)
      obtain ⟨t10, e11⟩ : ∃ y, y = oI st 2 0 := ⟨_, rfl⟩
      rw [← e11] at hH
      replace hF := bnd_e hF e11
      refine lv_aload_n X.x X.b (dk DX12_rank_0 17 rfl) rfl (lv_at hl 0 rfl) ?_
      refine og_getI OX12 X hq hH 2 (by decide) rfl kF_X12_106 (dk DX12_rank_0 18 rfl) ?_
      refine lv_if_le (tgt := 41) X.x X.b (dk DX12_rank_0 19 rfl) (by decide) (fun c12 => ?_) (fun c12 => ?_)
      · replace hF := if_t hF c12
        refine lv_aload_n X.x X.b (dk DX12_rank_0 22 rfl) rfl (lv_at hl 0 rfl) ?_
        refine lv_iload_n X.x X.b (dk DX12_rank_0 23 rfl) rfl (lv_at hl 1 rfl) ?_
        obtain ⟨x13, e14, hF⟩ := bd hF
        refine mr_ci0 hH ⟨rfl, rfl⟩ (mr_runV (As := [.int a0]) (rest := []) X hH (c_X12_rankOf hq e14) ((oset_at hq (Nat.le_refl _) ohas_N).trans (congrArg some ocell_N)) OX12.1 kM_X12_359 kI_X12_rankOf kS_X12_rankOf kN_X12 kC_X12_rankOf hd_X12_rankOf ⟨Nat.le_of_ble_eq_true rfl, Nat.le_of_ble_eq_true rfl⟩ rfl hl.1 (Nat.le_of_ble_eq_true rfl) (dk DX12_rank_0 24 rfl) ⟨Nat.zero_le _, Nat.zero_le _⟩) (fun r h1 H locs hp hH => ?_)
        obtain ⟨hr1, hr2⟩ := hp; rw [hr1]; rw [hr2] at hH; clear hr1 hr2
        obtain ⟨v16, t15⟩ := x13
        try dsimp only at hF hH ⊢
        cases sm hF
        exact mr_iret X hr hlk hH ⟨rfl, rfl⟩ (dk DX12_rank_0 25 rfl)
      · replace hF := if_f hF c12
        refine lv_iconst (v := 0) X.x X.b (dk DX12_rank_0 20 rfl) (by decide) ?_
        refine lv_goto (tgt := 46) X.x X.b (dk DX12_rank_0 21 rfl) (by decide) ?_
        cases sm hF
        exact mr_iret X hr hlk hH ⟨rfl, rfl⟩ (dk DX12_rank_0 25 rfl)
    · replace hF := if_f hF c9
      refine lv_iload_n X.x X.b (dk DX12_rank_0 7 rfl) rfl (lv_at hl 1 rfl) ?_
      refine lv_iconst (v := 5) X.x X.b (dk DX12_rank_0 8 rfl) (by decide) ?_
      refine lv_icmp_eq (tgt := 22) X.x X.b (dk DX12_rank_0 9 rfl) (by decide) (fun c17 => ?_) (fun c17 => ?_)
      · replace hF := if_t hF c17
        refine lv_iconst (v := 0) X.x X.b (dk DX12_rank_0 13 rfl) (by decide) ?_
        refine lv_goto (tgt := 27) X.x X.b (dk DX12_rank_0 14 rfl) (by decide) ?_
        refine og_putI OX12 X hq hH 2 (by decide) rfl kF_X12_106 rfl rfl rfl (dk DX12_rank_0 16 rfl) (fun H locs hH => ?_)
        obtain ⟨t18, e19⟩ : ∃ y, y = oI st 2 0 := ⟨_, rfl⟩
        rw [← e19] at hH
        replace hF := bnd_e hF e19
        refine lv_aload_n X.x X.b (dk DX12_rank_0 17 rfl) rfl (lv_at hl 0 rfl) ?_
        refine og_getI OX12 X hq hH 2 (by decide) rfl kF_X12_106 (dk DX12_rank_0 18 rfl) ?_
        refine lv_if_le (tgt := 41) X.x X.b (dk DX12_rank_0 19 rfl) (by decide) (fun c20 => ?_) (fun c20 => ?_)
        · replace hF := if_t hF c20
          refine lv_aload_n X.x X.b (dk DX12_rank_0 22 rfl) rfl (lv_at hl 0 rfl) ?_
          refine lv_iload_n X.x X.b (dk DX12_rank_0 23 rfl) rfl (lv_at hl 1 rfl) ?_
          obtain ⟨x21, e22, hF⟩ := bd hF
          refine mr_ci0 hH ⟨rfl, rfl⟩ (mr_runV (As := [.int a0]) (rest := []) X hH (c_X12_rankOf hq e22) ((oset_at hq (Nat.le_refl _) ohas_N).trans (congrArg some ocell_N)) OX12.1 kM_X12_359 kI_X12_rankOf kS_X12_rankOf kN_X12 kC_X12_rankOf hd_X12_rankOf ⟨Nat.le_of_ble_eq_true rfl, Nat.le_of_ble_eq_true rfl⟩ rfl hl.1 (Nat.le_of_ble_eq_true rfl) (dk DX12_rank_0 24 rfl) ⟨Nat.zero_le _, Nat.zero_le _⟩) (fun r h1 H locs hp hH => ?_)
          obtain ⟨hr1, hr2⟩ := hp; rw [hr1]; rw [hr2] at hH; clear hr1 hr2
          obtain ⟨v24, t23⟩ := x21
          try dsimp only at hF hH ⊢
          cases sm hF
          exact mr_iret X hr hlk hH ⟨rfl, rfl⟩ (dk DX12_rank_0 25 rfl)
        · replace hF := if_f hF c20
          refine lv_iconst (v := 0) X.x X.b (dk DX12_rank_0 20 rfl) (by decide) ?_
          refine lv_goto (tgt := 46) X.x X.b (dk DX12_rank_0 21 rfl) (by decide) ?_
          cases sm hF
          exact mr_iret X hr hlk hH ⟨rfl, rfl⟩ (dk DX12_rank_0 25 rfl)
      · replace hF := if_f hF c17
        refine lv_iload_n X.x X.b (dk DX12_rank_0 10 rfl) rfl (lv_at hl 1 rfl) ?_
        refine lv_bipush (v := 7) X.x X.b (dk DX12_rank_0 11 rfl) (by decide) ?_
        refine lv_icmp_ne (tgt := 26) X.x X.b (dk DX12_rank_0 12 rfl) (by decide) (fun c25 => ?_) (fun c25 => ?_)
        · replace hF := if_f hF c25
          refine lv_iconst (v := 1) X.x X.b (dk DX12_rank_0 15 rfl) (by decide) ?_
          refine og_putI OX12 X hq hH 2 (by decide) rfl kF_X12_106 rfl rfl rfl (dk DX12_rank_0 16 rfl) (fun H locs hH => ?_)
          obtain ⟨t26, e27⟩ : ∃ y, y = oI st 2 1 := ⟨_, rfl⟩
          rw [← e27] at hH
          replace hF := bnd_e hF e27
          refine lv_aload_n X.x X.b (dk DX12_rank_0 17 rfl) rfl (lv_at hl 0 rfl) ?_
          refine og_getI OX12 X hq hH 2 (by decide) rfl kF_X12_106 (dk DX12_rank_0 18 rfl) ?_
          refine lv_if_le (tgt := 41) X.x X.b (dk DX12_rank_0 19 rfl) (by decide) (fun c28 => ?_) (fun c28 => ?_)
          · replace hF := if_t hF c28
            refine lv_aload_n X.x X.b (dk DX12_rank_0 22 rfl) rfl (lv_at hl 0 rfl) ?_
            refine lv_iload_n X.x X.b (dk DX12_rank_0 23 rfl) rfl (lv_at hl 1 rfl) ?_
            obtain ⟨x29, e30, hF⟩ := bd hF
            refine mr_ci0 hH ⟨rfl, rfl⟩ (mr_runV (As := [.int a0]) (rest := []) X hH (c_X12_rankOf hq e30) ((oset_at hq (Nat.le_refl _) ohas_N).trans (congrArg some ocell_N)) OX12.1 kM_X12_359 kI_X12_rankOf kS_X12_rankOf kN_X12 kC_X12_rankOf hd_X12_rankOf ⟨Nat.le_of_ble_eq_true rfl, Nat.le_of_ble_eq_true rfl⟩ rfl hl.1 (Nat.le_of_ble_eq_true rfl) (dk DX12_rank_0 24 rfl) ⟨Nat.zero_le _, Nat.zero_le _⟩) (fun r h1 H locs hp hH => ?_)
            obtain ⟨hr1, hr2⟩ := hp; rw [hr1]; rw [hr2] at hH; clear hr1 hr2
            obtain ⟨v32, t31⟩ := x29
            try dsimp only at hF hH ⊢
            cases sm hF
            exact mr_iret X hr hlk hH ⟨rfl, rfl⟩ (dk DX12_rank_0 25 rfl)
          · replace hF := if_f hF c28
            refine lv_iconst (v := 0) X.x X.b (dk DX12_rank_0 20 rfl) (by decide) ?_
            refine lv_goto (tgt := 46) X.x X.b (dk DX12_rank_0 21 rfl) (by decide) ?_
            cases sm hF
            exact mr_iret X hr hlk hH ⟨rfl, rfl⟩ (dk DX12_rank_0 25 rfl)
        · replace hF := if_t hF c25
          refine lv_iconst (v := 0) X.x X.b (dk DX12_rank_0 13 rfl) (by decide) ?_
          refine lv_goto (tgt := 27) X.x X.b (dk DX12_rank_0 14 rfl) (by decide) ?_
          refine og_putI OX12 X hq hH 2 (by decide) rfl kF_X12_106 rfl rfl rfl (dk DX12_rank_0 16 rfl) (fun H locs hH => ?_)
          obtain ⟨t33, e34⟩ : ∃ y, y = oI st 2 0 := ⟨_, rfl⟩
          rw [← e34] at hH
          replace hF := bnd_e hF e34
          refine lv_aload_n X.x X.b (dk DX12_rank_0 17 rfl) rfl (lv_at hl 0 rfl) ?_
          refine og_getI OX12 X hq hH 2 (by decide) rfl kF_X12_106 (dk DX12_rank_0 18 rfl) ?_
          refine lv_if_le (tgt := 41) X.x X.b (dk DX12_rank_0 19 rfl) (by decide) (fun c35 => ?_) (fun c35 => ?_)
          · replace hF := if_t hF c35
            refine lv_aload_n X.x X.b (dk DX12_rank_0 22 rfl) rfl (lv_at hl 0 rfl) ?_
            refine lv_iload_n X.x X.b (dk DX12_rank_0 23 rfl) rfl (lv_at hl 1 rfl) ?_
            obtain ⟨x36, e37, hF⟩ := bd hF
            refine mr_ci0 hH ⟨rfl, rfl⟩ (mr_runV (As := [.int a0]) (rest := []) X hH (c_X12_rankOf hq e37) ((oset_at hq (Nat.le_refl _) ohas_N).trans (congrArg some ocell_N)) OX12.1 kM_X12_359 kI_X12_rankOf kS_X12_rankOf kN_X12 kC_X12_rankOf hd_X12_rankOf ⟨Nat.le_of_ble_eq_true rfl, Nat.le_of_ble_eq_true rfl⟩ rfl hl.1 (Nat.le_of_ble_eq_true rfl) (dk DX12_rank_0 24 rfl) ⟨Nat.zero_le _, Nat.zero_le _⟩) (fun r h1 H locs hp hH => ?_)
            obtain ⟨hr1, hr2⟩ := hp; rw [hr1]; rw [hr2] at hH; clear hr1 hr2
            obtain ⟨v39, t38⟩ := x36
            try dsimp only at hF hH ⊢
            cases sm hF
            exact mr_iret X hr hlk hH ⟨rfl, rfl⟩ (dk DX12_rank_0 25 rfl)
          · replace hF := if_f hF c35
            refine lv_iconst (v := 0) X.x X.b (dk DX12_rank_0 20 rfl) (by decide) ?_
            refine lv_goto (tgt := 46) X.x X.b (dk DX12_rank_0 21 rfl) (by decide) ?_
            cases sm hF
            exact mr_iret X hr hlk hH ⟨rfl, rfl⟩ (dk DX12_rank_0 25 rfl)
