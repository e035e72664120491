-- X12_walks
abbrev rm_X12_walks : Room := { frames := 2, cells := 0, slots := 0, locals := 44 }
theorem hd_X12_walks : mHd yX12_walks 1 := ⟨by decide +kernel, by decide +kernel, by decide +kernel⟩
theorem DX12_walks_0 : ∀ t ∈ ([(0, .aload_n 0, 1), (1, .iload_n 1, 1), (2, .i2l, 1), (3, .lconst 0, 1), (4, .ldc2_w 346, 3), (7, .invokestatic 171, 3), (10, .ifCond .eq 7, 3), (13, .iconst 0, 1), (14, .goto 4, 3), (17, .iconst 1, 1), (18, .putfield 106, 3), (21, .aload_n 0, 1), (22, .getfield 106, 3), (25, .ifCond .le 5, 3), (28, .iconst 0, 1), (29, .ireturn, 1), (30, .aload_n 0, 1), (31, .invokevirtual 272, 3), (34, .lconst 0, 1), (35, .lstore_n 2, 1), (36, .iconst 0, 1), (37, .istore 4, 2), (39, .iload 4, 2), (41, .aload_n 0, 1), (42, .getfield 248, 3), (45, .if_icmp .ge 187, 3), (48, .iconst 0, 1), (49, .istore 5, 2), (51, .iload 5, 2), (53, .aload_n 0, 1), (54, .getfield 248, 3), (57, .if_icmp .ge 28, 3), (60, .aload_n 0, 1), (61, .getfield 33, 3), (64, .iload 5, 2), (66, .iload 5, 2), (68, .iload 4, 2), (70, .if_icmp .ne 7, 3), (73, .lconst 1, 1), (74, .goto 4, 3), (77, .lconst 0, 1), (78, .lastore, 1), (79, .iinc 5 1, 3), (82, .goto (-31), 3), (85, .iconst 0, 1), (86, .istore 5, 2), (88, .iload 5, 2), (90, .iload_n 1, 1), (91, .if_icmp .ge 125, 3), (94, .iconst 0, 1), (95, .istore 6, 2), (97, .iload 6, 2), (99, .aload_n 0, 1), (100, .getfield 248, 3), (103, .if_icmp .ge 71, 3), (106, .aload_n 0, 1), (107, .getfield 36, 3), (110, .iload 6, 2), (112, .lconst 0, 1), (113, .lastore, 1)] : List (Nat × Instr × Nat)), decode cX12_walks t.1 = .ok (t.2.1, t.2.2) := by decide +kernel
theorem DX12_walks_1 : ∀ t ∈ ([(114, .iconst 0, 1), (115, .istore 7, 2), (117, .iload 7, 2), (119, .aload_n 0, 1), (120, .getfield 248, 3), (123, .if_icmp .ge 45, 3), (126, .aload_n 0, 1), (127, .getfield 36, 3), (130, .iload 6, 2), (132, .dup2, 1), (133, .laload, 1), (134, .aload_n 0, 1), (135, .getfield 30, 3), (138, .iload 6, 2), (140, .laload, 1), (141, .iload 7, 2), (143, .invokestatic 232, 3), (146, .ifCond .eq 13, 3), (149, .aload_n 0, 1), (150, .getfield 33, 3), (153, .iload 7, 2), (155, .laload, 1), (156, .goto 4, 3), (159, .lconst 0, 1), (160, .ladd, 1), (161, .lastore, 1), (162, .iinc 7 1, 3), (165, .goto (-48), 3), (168, .iinc 6 1, 3), (171, .goto (-74), 3), (174, .iconst 0, 1), (175, .istore 6, 2), (177, .iload 6, 2), (179, .aload_n 0, 1), (180, .getfield 248, 3), (183, .if_icmp .ge 27, 3), (186, .aload_n 0, 1), (187, .getfield 33, 3), (190, .iload 6, 2), (192, .aload_n 0, 1), (193, .getfield 36, 3), (196, .iload 6, 2), (198, .laload, 1), (199, .ldc2_w 348, 3), (202, .lrem, 1), (203, .lastore, 1), (204, .iinc 6 1, 3), (207, .goto (-30), 3), (210, .iinc 5 1, 3), (213, .goto (-125), 3), (216, .lload_n 2, 1), (217, .aload_n 0, 1), (218, .getfield 33, 3), (221, .iload 4, 2), (223, .laload, 1), (224, .ladd, 1), (225, .lstore_n 2, 1), (226, .iinc 4 1, 3), (229, .goto (-190), 3), (232, .lload_n 2, 1)] : List (Nat × Instr × Nat)), decode cX12_walks t.1 = .ok (t.2.1, t.2.2) := by decide +kernel
theorem DX12_walks_2 : ∀ t ∈ ([(233, .ldc2_w 348, 3), (236, .lrem, 1), (237, .l2i, 1), (238, .ireturn, 1)] : List (Nat × Instr × Nat)), decode cX12_walks t.1 = .ok (t.2.1, t.2.2) := by decide +kernel
noncomputable def f_X12_walks_51 (b1 : Int32) (b2 : Int64) (b4 : Int32) : (OS × Int32) → Option ((OS × Int32) ⊕ (OS)) := fun z => match z with | (s_t, b5) => (if (s_t.1 0) ≤ b5 then some (.inr s_t) else (if b5 = b4 then if inb b5 64 = true then bnd (oB s_t 25 (vp_updL (s_t.2.2.2 25) (b5 : Int32).toNatClampNeg 1)) (fun t20 => bnd (b5 + 1 : Int32) (fun v22 => some (.inl ((t20, v22))))) else none else if inb b5 64 = true then bnd (oB s_t 25 (vp_updL (s_t.2.2.2 25) (b5 : Int32).toNatClampNeg 0)) (fun t15 => bnd (b5 + 1 : Int32) (fun v17 => some (.inl ((t15, v17))))) else none))
noncomputable def f_X12_walks_117 (b1 : Int32) (b2 : Int64) (b4 : Int32) (b5 : Int32) (b6 : Int32) : (OS × Int32) → Option ((OS × Int32) ⊕ (OS)) := fun z => match z with | (s_t, b7) => (if (s_t.1 0) ≤ b7 then some (.inr s_t) else if inb b6 64 = true then (f_X12_has (s_t.2.2.2 20 (b6 : Int32).toNatClampNeg) b7).bind (fun x34 => (if x34 = 0 then bnd (oB s_t 26 (vp_updL (s_t.2.2.2 26) (b6 : Int32).toNatClampNeg ((s_t.2.2.2 26 (b6 : Int32).toNatClampNeg) + 0))) (fun t38 => bnd (b7 + 1 : Int32) (fun v40 => some (.inl ((t38, v40))))) else if inb b7 64 = true then bnd (oB s_t 26 (vp_updL (s_t.2.2.2 26) (b6 : Int32).toNatClampNeg ((s_t.2.2.2 26 (b6 : Int32).toNatClampNeg) + (s_t.2.2.2 25 (b7 : Int32).toNatClampNeg)))) (fun t43 => bnd (b7 + 1 : Int32) (fun v45 => some (.inl ((t43, v45))))) else none)) else none)
noncomputable def f_X12_walks_97 (b1 : Int32) (b2 : Int64) (b4 : Int32) (b5 : Int32) : (OS × Int32) → Option ((OS × Int32) ⊕ (OS)) := fun z => match z with | (s_t, b6) => (if (s_t.1 0) ≤ b6 then some (.inr s_t) else if inb b6 64 = true then bnd (oB s_t 26 (vp_updL (s_t.2.2.2 26) (b6 : Int32).toNatClampNeg 0)) (fun t30 => (lpv (f_X12_walks_117 b1 b2 b4 b5 b6) ((t30, 0))).bind (fun x47 => bnd (b6 + 1 : Int32) (fun v50 => some (.inl ((x47, v50)))))) else none)
noncomputable def f_X12_walks_177 (b1 : Int32) (b2 : Int64) (b4 : Int32) (b5 : Int32) : (OS × Int32) → Option ((OS × Int32) ⊕ (OS)) := fun z => match z with | (s_t, b6) => (if (s_t.1 0) ≤ b6 then some (.inr s_t) else if inb b6 64 = true then bnd (oB s_t 25 (vp_updL (s_t.2.2.2 25) (b6 : Int32).toNatClampNeg ((s_t.2.2.2 26 (b6 : Int32).toNatClampNeg) - (s_t.2.2.2 26 (b6 : Int32).toNatClampNeg) / 1000000007 * 1000000007))) (fun t57 => bnd (b6 + 1 : Int32) (fun v59 => some (.inl ((t57, v59))))) else none)
noncomputable def f_X12_walks_88 (b1 : Int32) (b2 : Int64) (b4 : Int32) : (OS × Int32) → Option ((OS × Int32) ⊕ (OS)) := fun z => match z with | (s_t, b5) => (if b1 ≤ b5 then some (.inr s_t) else (lpv (f_X12_walks_97 b1 b2 b4 b5) ((s_t, 0))).bind (fun x52 => (lpv (f_X12_walks_177 b1 b2 b4 b5) ((x52, 0))).bind (fun x61 => bnd (b5 + 1 : Int32) (fun v64 => some (.inl ((x61, v64)))))))
noncomputable def f_X12_walks_39 (b1 : Int32) : (OS × Int64 × Int32) → Option ((OS × Int64 × Int32) ⊕ (OS × Int64)) := fun z => match z with | (s_t, b2, b4) => (if (s_t.1 0) ≤ b4 then some (.inr ((s_t, b2))) else (lpv (f_X12_walks_51 b1 b2 b4) ((s_t, 0))).bind (fun x24 => (lpv (f_X12_walks_88 b1 b2 b4) ((x24, 0))).bind (fun x66 => if inb b4 64 = true then bnd (b2 + (x66.2.2.2 25 (b4 : Int32).toNatClampNeg) : Int64) (fun v70 => bnd (b4 + 1 : Int32) (fun v72 => some (.inl ((x66, v70, v72))))) else none)))
noncomputable def f_X12_walks (st : OS) (a0 : Int32) : Option (Int32 × OS) := (f_X12_within ((a0 : Int32).toInt64) 0 8).bind (fun x1 => (if x1 = 0 then bnd (oI st 2 1) (fun t5 => (if (t5.1 2) ≤ 0 then (f_X12_layNears t5).bind (fun x8 => (lpv (f_X12_walks_39 a0) ((x8, 0, 0))).bind (fun x74 => match x74 with | (t76, v77) => some (((v77 - v77 / 1000000007 * 1000000007 : Int64).toInt32, t76)))) else some ((0, t5)))) else bnd (oI st 2 0) (fun t78 => (if (t78.1 2) ≤ 0 then (f_X12_layNears t78).bind (fun x81 => (lpv (f_X12_walks_39 a0) ((x81, 0, 0))).bind (fun x84 => match x84 with | (t86, v87) => some (((v87 - v87 / 1000000007 * 1000000007 : Int64).toInt32, t86)))) else some ((0, t78))))))
set_option maxHeartbeats 4000000 in
set_option maxRecDepth 100000 in
theorem w_X12_walks_51 {p : Program} {l : Launch} {e : Env} {s : State} {m : MethodId} {args : Array Value} {below : List Frame} {meth : Method} {c : Code} {Q : State → Prop} {G : mG} {h : mM} {q : Nat → Nat} (hq : oinj LX12 q) (X : mX G p m c cX12_walks 8 s args RX12) (b1 : Int32) (b2 : Int64) (b4 : Int32) : ∀ (z : OS × Int32) (r : OS), lpv (f_X12_walks_51 b1 b2 b4) z = some r → ∀ (H : Heap) (locs : List Loc) (ls : Array Slot), mH G (oset LX12 G q z.1 h) s.heap H locs → lv_has ls 8 [(0, .ref (q 53)), (1, .int b1), (2, .long b2), (4, .int b4), (5, .int z.2)] → (∀ (H : Heap) (locs : List Loc) (ls : Array Slot), mH G (oset LX12 G q r h) s.heap H locs → lv_has ls 8 [(0, .ref (q 53)), (1, .int b1), (2, .long b2), (4, .int b4)] → W p l e rm_X12_walks s m args below meth c H locs 0 0 Q (F0 m 85 ls [])) → W p l e rm_X12_walks s m args below meth c H locs 0 0 Q (F0 m 51 ls []) := by
  refine lpv_rec ?_
  intro z r x hF hx H locs ls hH hl K0
  obtain ⟨s_t, b5⟩ := z
  dsimp only [f_X12_walks_51] at hF
  try dsimp only at hH hl
  refine lv_iload X.x X.b (dk DX12_walks_0 28 rfl) (lv_at hl 4 rfl) ?_
  refine lv_aload_n X.x X.b (dk DX12_walks_0 29 rfl) rfl (lv_at hl 0 rfl) ?_
  refine og_getI OX12 X hq hH 0 (by decide) rfl kF_X12_248 (dk DX12_walks_0 30 rfl) ?_
  refine lv_icmp_ge (tgt := 85) X.x X.b (dk DX12_walks_0 31 rfl) (by decide) (fun c12 => ?_) (fun c12 => ?_)
  · replace hF := if_t hF c12
    have hr9 := lp_r hF hx
    subst hr9
    exact K0 _ _ _ hH (lv_sub hl [0, 1, 2, 3] rfl)
  · replace hF := if_f hF c12
    refine lv_aload_n X.x X.b (dk DX12_walks_0 32 rfl) rfl (lv_at hl 0 rfl) ?_
    refine og_getR (t := 1) OX12 X hq hH 25 (by decide) rfl kF_X12_33 (dk DX12_walks_0 33 rfl) ?_
    refine lv_iload X.x X.b (dk DX12_walks_0 34 rfl) (lv_at hl 4 rfl) ?_
    refine lv_iload X.x X.b (dk DX12_walks_0 35 rfl) (lv_at hl 4 rfl) ?_
    refine lv_iload X.x X.b (dk DX12_walks_0 36 rfl) (lv_at hl 3 rfl) ?_
    refine lv_icmp_ne (tgt := 77) X.x X.b (dk DX12_walks_0 37 rfl) (by decide) (fun c13 => ?_) (fun c13 => ?_)
    · replace hF := if_f hF c13
      refine lv_lconst (v := 0) X.x X.b (dk DX12_walks_0 40 rfl) (by decide) ?_
      obtain ⟨c14, hF⟩ := gd hF
      refine og_last X hq hH 25 (by decide) rfl (inb_in c14) (dk DX12_walks_0 41 rfl) (fun H locs hH => ?_)
      obtain ⟨t15, e16⟩ : ∃ y, y = oB s_t 25 (vp_updL (s_t.2.2.2 25) (b5 : Int32).toNatClampNeg 0) := ⟨_, rfl⟩
      rw [← e16] at hH
      replace hF := bnd_e hF e16
      obtain ⟨v17, e18⟩ : ∃ y : Int32, y = b5 + 1 := ⟨_, rfl⟩
      replace hF := bnd_e hF e18
      refine lv_iinc (v := v17) (lv' := [(5, .int v17), (0, .ref (q 53)), (1, .int b1), (2, .long b2), (4, .int b4)]) X.x X.b (dk DX12_walks_0 42 rfl) hl (k := 4) rfl (by rw [e18]; rfl) (by decide) rfl (fun ls hl => ?_)
      replace hl : lv_has ls 8 [(0, .ref (q 53)), (1, .int b1), (2, .long b2), (4, .int b4), (5, .int v17)] := lv_sub hl [1, 2, 3, 4, 0] rfl
      refine lv_goto (tgt := 51) X.x X.b (dk DX12_walks_0 43 rfl) (by decide) ?_
      exact (lp_l hF hx) _ _ _ hH (lv_sub hl [0, 1, 2, 3, 4] rfl) K0
    · replace hF := if_t hF c13
      refine lv_lconst (v := 1) X.x X.b (dk DX12_walks_0 38 rfl) (by decide) ?_
      refine lv_goto (tgt := 78) X.x X.b (dk DX12_walks_0 39 rfl) (by decide) ?_
      obtain ⟨c19, hF⟩ := gd hF
      refine og_last X hq hH 25 (by decide) rfl (inb_in c19) (dk DX12_walks_0 41 rfl) (fun H locs hH => ?_)
      obtain ⟨t20, e21⟩ : ∃ y, y = oB s_t 25 (vp_updL (s_t.2.2.2 25) (b5 : Int32).toNatClampNeg 1) := ⟨_, rfl⟩
      rw [← e21] at hH
      replace hF := bnd_e hF e21
      obtain ⟨v22, e23⟩ : ∃ y : Int32, y = b5 + 1 := ⟨_, rfl⟩
      replace hF := bnd_e hF e23
      refine lv_iinc (v := v22) (lv' := [(5, .int v22), (0, .ref (q 53)), (1, .int b1), (2, .long b2), (4, .int b4)]) X.x X.b (dk DX12_walks_0 42 rfl) hl (k := 4) rfl (by rw [e23]; rfl) (by decide) rfl (fun ls hl => ?_)
      replace hl : lv_has ls 8 [(0, .ref (q 53)), (1, .int b1), (2, .long b2), (4, .int b4), (5, .int v22)] := lv_sub hl [1, 2, 3, 4, 0] rfl
      refine lv_goto (tgt := 51) X.x X.b (dk DX12_walks_0 43 rfl) (by decide) ?_
      exact (lp_l hF hx) _ _ _ hH (lv_sub hl [0, 1, 2, 3, 4] rfl) K0
set_option maxHeartbeats 4000000 in
set_option maxRecDepth 100000 in
theorem w_X12_walks_117 {p : Program} {l : Launch} {e : Env} {s : State} {m : MethodId} {args : Array Value} {below : List Frame} {meth : Method} {c : Code} {Q : State → Prop} {G : mG} {h : mM} {q : Nat → Nat} (hq : oinj LX12 q) (X : mX G p m c cX12_walks 8 s args RX12) (b1 : Int32) (b2 : Int64) (b4 : Int32) (b5 : Int32) (b6 : Int32) : ∀ (z : OS × Int32) (r : OS), lpv (f_X12_walks_117 b1 b2 b4 b5 b6) z = some r → ∀ (H : Heap) (locs : List Loc) (ls : Array Slot), mH G (oset LX12 G q z.1 h) s.heap H locs → lv_has ls 8 [(0, .ref (q 53)), (1, .int b1), (2, .long b2), (4, .int b4), (5, .int b5), (6, .int b6), (7, .int z.2)] → (∀ (H : Heap) (locs : List Loc) (ls : Array Slot), mH G (oset LX12 G q r h) s.heap H locs → lv_has ls 8 [(0, .ref (q 53)), (1, .int b1), (2, .long b2), (4, .int b4), (5, .int b5), (6, .int b6)] → W p l e rm_X12_walks s m args below meth c H locs 0 0 Q (F0 m 168 ls [])) → W p l e rm_X12_walks s m args below meth c H locs 0 0 Q (F0 m 117 ls []) := by
  refine lpv_rec ?_
  intro z r x hF hx H locs ls hH hl K0
  obtain ⟨s_t, b7⟩ := z
  dsimp only [f_X12_walks_117] at hF
  try dsimp only at hH hl
  refine lv_iload X.x X.b (dk DX12_walks_1 2 rfl) (lv_at hl 6 rfl) ?_
  refine lv_aload_n X.x X.b (dk DX12_walks_1 3 rfl) rfl (lv_at hl 0 rfl) ?_
  refine og_getI OX12 X hq hH 0 (by decide) rfl kF_X12_248 (dk DX12_walks_1 4 rfl) ?_
  refine lv_icmp_ge (tgt := 168) X.x X.b (dk DX12_walks_1 5 rfl) (by decide) (fun c32 => ?_) (fun c32 => ?_)
  · replace hF := if_t hF c32
    have hr9 := lp_r hF hx
    subst hr9
    exact K0 _ _ _ hH (lv_sub hl [0, 1, 2, 3, 4, 5] rfl)
  · replace hF := if_f hF c32
    refine lv_aload_n X.x X.b (dk DX12_walks_1 6 rfl) rfl (lv_at hl 0 rfl) ?_
    refine og_getR (t := 1) OX12 X hq hH 26 (by decide) rfl kF_X12_36 (dk DX12_walks_1 7 rfl) ?_
    refine lv_iload X.x X.b (dk DX12_walks_1 8 rfl) (lv_at hl 5 rfl) ?_
    refine lv_dup2_11 X.x X.b (dk DX12_walks_1 9 rfl) rfl rfl ?_
    obtain ⟨c33, hF⟩ := gd hF
    refine og_lald X hq hH 26 (by decide) rfl (inb_in c33) (dk DX12_walks_1 10 rfl) ?_
    refine lv_aload_n X.x X.b (dk DX12_walks_1 11 rfl) rfl (lv_at hl 0 rfl) ?_
    refine og_getR (t := 1) OX12 X hq hH 20 (by decide) rfl kF_X12_30 (dk DX12_walks_1 12 rfl) ?_
    refine lv_iload X.x X.b (dk DX12_walks_1 13 rfl) (lv_at hl 5 rfl) ?_
    refine og_lald X hq hH 20 (by decide) rfl (inb_in c33) (dk DX12_walks_1 14 rfl) ?_
    refine lv_iload X.x X.b (dk DX12_walks_1 15 rfl) (lv_at hl 6 rfl) ?_
    obtain ⟨x34, e35, hF⟩ := bd hF
    refine mr_ci0 hH ⟨rfl, rfl⟩ (mr_runS (As := [.long (s_t.2.2.2 20 (b6 : Int32).toNatClampNeg), .int b7]) (rest := [.long (s_t.2.2.2 26 (b6 : Int32).toNatClampNeg), .int b6, .ref (q 26)]) X hH (c_X12_has e35) kM_X12_232 kT_X12_has kN_X12 kC_X12_has hd_X12_has ⟨Nat.le_of_ble_eq_true rfl, Nat.le_of_ble_eq_true rfl⟩ rfl hl.1 (Nat.le_of_ble_eq_true rfl) (dk DX12_walks_1 16 rfl) ⟨Nat.zero_le _, Nat.zero_le _⟩) (fun r h1 H locs hp hH => ?_)
    obtain ⟨hr1, hr2⟩ := hp; rw [hr1]; rw [hr2] at hH; clear hr1 hr2
    refine lv_if_eq (tgt := 159) X.x X.b (dk DX12_walks_1 17 rfl) (by decide) (fun c37 => ?_) (fun c37 => ?_)
    · replace hF := if_t hF c37
      refine lv_lconst (v := 0) X.x X.b (dk DX12_walks_1 23 rfl) (by decide) ?_
      refine lv_ladd X.x X.b (dk DX12_walks_1 24 rfl) ?_
      refine og_last X hq hH 26 (by decide) rfl (inb_in c33) (dk DX12_walks_1 25 rfl) (fun H locs hH => ?_)
      obtain ⟨t38, e39⟩ : ∃ y, y = oB s_t 26 (vp_updL (s_t.2.2.2 26) (b6 : Int32).toNatClampNeg ((s_t.2.2.2 26 (b6 : Int32).toNatClampNeg) + 0)) := ⟨_, rfl⟩
      rw [← e39] at hH
      replace hF := bnd_e hF e39
      obtain ⟨v40, e41⟩ : ∃ y : Int32, y = b7 + 1 := ⟨_, rfl⟩
      replace hF := bnd_e hF e41
      refine lv_iinc (v := v40) (lv' := [(7, .int v40), (0, .ref (q 53)), (1, .int b1), (2, .long b2), (4, .int b4), (5, .int b5), (6, .int b6)]) X.x X.b (dk DX12_walks_1 26 rfl) hl (k := 6) rfl (by rw [e41]; rfl) (by decide) rfl (fun ls hl => ?_)
      replace hl : lv_has ls 8 [(0, .ref (q 53)), (1, .int b1), (2, .long b2), (4, .int b4), (5, .int b5), (6, .int b6), (7, .int v40)] := lv_sub hl [1, 2, 3, 4, 5, 6, 0] rfl
      refine lv_goto (tgt := 117) X.x X.b (dk DX12_walks_1 27 rfl) (by decide) ?_
      exact (lp_l hF hx) _ _ _ hH (lv_sub hl [0, 1, 2, 3, 4, 5, 6] rfl) K0
    · replace hF := if_f hF c37
      refine lv_aload_n X.x X.b (dk DX12_walks_1 18 rfl) rfl (lv_at hl 0 rfl) ?_
      refine og_getR (t := 1) OX12 X hq hH 25 (by decide) rfl kF_X12_33 (dk DX12_walks_1 19 rfl) ?_
      refine lv_iload X.x X.b (dk DX12_walks_1 20 rfl) (lv_at hl 6 rfl) ?_
      obtain ⟨c42, hF⟩ := gd hF
      refine og_lald X hq hH 25 (by decide) rfl (inb_in c42) (dk DX12_walks_1 21 rfl) ?_
      refine lv_goto (tgt := 160) X.x X.b (dk DX12_walks_1 22 rfl) (by decide) ?_
      refine lv_ladd X.x X.b (dk DX12_walks_1 24 rfl) ?_
      refine og_last X hq hH 26 (by decide) rfl (inb_in c33) (dk DX12_walks_1 25 rfl) (fun H locs hH => ?_)
      obtain ⟨t43, e44⟩ : ∃ y, y = oB s_t 26 (vp_updL (s_t.2.2.2 26) (b6 : Int32).toNatClampNeg ((s_t.2.2.2 26 (b6 : Int32).toNatClampNeg) + (s_t.2.2.2 25 (b7 : Int32).toNatClampNeg))) := ⟨_, rfl⟩
      rw [← e44] at hH
      replace hF := bnd_e hF e44
      obtain ⟨v45, e46⟩ : ∃ y : Int32, y = b7 + 1 := ⟨_, rfl⟩
      replace hF := bnd_e hF e46
      refine lv_iinc (v := v45) (lv' := [(7, .int v45), (0, .ref (q 53)), (1, .int b1), (2, .long b2), (4, .int b4), (5, .int b5), (6, .int b6)]) X.x X.b (dk DX12_walks_1 26 rfl) hl (k := 6) rfl (by rw [e46]; rfl) (by decide) rfl (fun ls hl => ?_)
      replace hl : lv_has ls 8 [(0, .ref (q 53)), (1, .int b1), (2, .long b2), (4, .int b4), (5, .int b5), (6, .int b6), (7, .int v45)] := lv_sub hl [1, 2, 3, 4, 5, 6, 0] rfl
      refine lv_goto (tgt := 117) X.x X.b (dk DX12_walks_1 27 rfl) (by decide) ?_
      exact (lp_l hF hx) _ _ _ hH (lv_sub hl [0, 1, 2, 3, 4, 5, 6] rfl) K0
set_option maxHeartbeats 4000000 in
set_option maxRecDepth 100000 in
theorem w_X12_walks_97 {p : Program} {l : Launch} {e : Env} {s : State} {m : MethodId} {args : Array Value} {below : List Frame} {meth : Method} {c : Code} {Q : State → Prop} {G : mG} {h : mM} {q : Nat → Nat} (hq : oinj LX12 q) (X : mX G p m c cX12_walks 8 s args RX12) (b1 : Int32) (b2 : Int64) (b4 : Int32) (b5 : Int32) : ∀ (z : OS × Int32) (r : OS), lpv (f_X12_walks_97 b1 b2 b4 b5) z = some r → ∀ (H : Heap) (locs : List Loc) (ls : Array Slot), mH G (oset LX12 G q z.1 h) s.heap H locs → lv_has ls 8 [(0, .ref (q 53)), (1, .int b1), (2, .long b2), (4, .int b4), (5, .int b5), (6, .int z.2)] → (∀ (H : Heap) (locs : List Loc) (ls : Array Slot), mH G (oset LX12 G q r h) s.heap H locs → lv_has ls 8 [(0, .ref (q 53)), (1, .int b1), (2, .long b2), (4, .int b4), (5, .int b5)] → W p l e rm_X12_walks s m args below meth c H locs 0 0 Q (F0 m 174 ls [])) → W p l e rm_X12_walks s m args below meth c H locs 0 0 Q (F0 m 97 ls []) := by
  refine lpv_rec ?_
  intro z r x hF hx H locs ls hH hl K0
  obtain ⟨s_t, b6⟩ := z
  dsimp only [f_X12_walks_97] at hF
  try dsimp only at hH hl
  refine lv_iload X.x X.b (dk DX12_walks_0 51 rfl) (lv_at hl 5 rfl) ?_
  refine lv_aload_n X.x X.b (dk DX12_walks_0 52 rfl) rfl (lv_at hl 0 rfl) ?_
  refine og_getI OX12 X hq hH 0 (by decide) rfl kF_X12_248 (dk DX12_walks_0 53 rfl) ?_
  refine lv_icmp_ge (tgt := 174) X.x X.b (dk DX12_walks_0 54 rfl) (by decide) (fun c28 => ?_) (fun c28 => ?_)
  · replace hF := if_t hF c28
    have hr9 := lp_r hF hx
    subst hr9
    exact K0 _ _ _ hH (lv_sub hl [0, 1, 2, 3, 4] rfl)
  · replace hF := if_f hF c28
    refine lv_aload_n X.x X.b (dk DX12_walks_0 55 rfl) rfl (lv_at hl 0 rfl) ?_
    refine og_getR (t := 1) OX12 X hq hH 26 (by decide) rfl kF_X12_36 (dk DX12_walks_0 56 rfl) ?_
    refine lv_iload X.x X.b (dk DX12_walks_0 57 rfl) (lv_at hl 5 rfl) ?_
    refine lv_lconst (v := 0) X.x X.b (dk DX12_walks_0 58 rfl) (by decide) ?_
    obtain ⟨c29, hF⟩ := gd hF
    refine og_last X hq hH 26 (by decide) rfl (inb_in c29) (dk DX12_walks_0 59 rfl) (fun H locs hH => ?_)
    obtain ⟨t30, e31⟩ : ∃ y, y = oB s_t 26 (vp_updL (s_t.2.2.2 26) (b6 : Int32).toNatClampNeg 0) := ⟨_, rfl⟩
    rw [← e31] at hH
    replace hF := bnd_e hF e31
    refine lv_iconst (v := 0) X.x X.b (dk DX12_walks_1 0 rfl) (by decide) ?_
    refine lv_istore (lv' := [(7, .int 0), (0, .ref (q 53)), (1, .int b1), (2, .long b2), (4, .int b4), (5, .int b5), (6, .int b6)]) X.x X.b (dk DX12_walks_1 1 rfl) hl (by decide) rfl (fun ls hl => ?_)
    replace hl : lv_has ls 8 [(0, .ref (q 53)), (1, .int b1), (2, .long b2), (4, .int b4), (5, .int b5), (6, .int b6), (7, .int 0)] := lv_sub hl [1, 2, 3, 4, 5, 6, 0] rfl
    obtain ⟨x47, e48, hF⟩ := bd hF
    replace hl : lv_has ls 8 [(0, .ref (q 53)), (1, .int b1), (2, .long b2), (4, .int b4), (5, .int b5), (6, .int b6), (7, .int 0)] := lv_sub hl [0, 1, 2, 3, 4, 5, 6] rfl
    refine w_X12_walks_117 hq X b1 b2 b4 b5 b6 _ _ e48 _ _ _ hH hl (fun H locs ls hH hl => ?_)
    obtain ⟨v50, e51⟩ : ∃ y : Int32, y = b6 + 1 := ⟨_, rfl⟩
    replace hF := bnd_e hF e51
    refine lv_iinc (v := v50) (lv' := [(6, .int v50), (0, .ref (q 53)), (1, .int b1), (2, .long b2), (4, .int b4), (5, .int b5)]) X.x X.b (dk DX12_walks_1 28 rfl) hl (k := 5) rfl (by rw [e51]; rfl) (by decide) rfl (fun ls hl => ?_)
    replace hl : lv_has ls 8 [(0, .ref (q 53)), (1, .int b1), (2, .long b2), (4, .int b4), (5, .int b5), (6, .int v50)] := lv_sub hl [1, 2, 3, 4, 5, 0] rfl
    refine lv_goto (tgt := 97) X.x X.b (dk DX12_walks_1 29 rfl) (by decide) ?_
    exact (lp_l hF hx) _ _ _ hH (lv_sub hl [0, 1, 2, 3, 4, 5] rfl) K0
set_option maxHeartbeats 4000000 in
set_option maxRecDepth 100000 in
theorem w_X12_walks_177 {p : Program} {l : Launch} {e : Env} {s : State} {m : MethodId} {args : Array Value} {below : List Frame} {meth : Method} {c : Code} {Q : State → Prop} {G : mG} {h : mM} {q : Nat → Nat} (hq : oinj LX12 q) (X : mX G p m c cX12_walks 8 s args RX12) (b1 : Int32) (b2 : Int64) (b4 : Int32) (b5 : Int32) : ∀ (z : OS × Int32) (r : OS), lpv (f_X12_walks_177 b1 b2 b4 b5) z = some r → ∀ (H : Heap) (locs : List Loc) (ls : Array Slot), mH G (oset LX12 G q z.1 h) s.heap H locs → lv_has ls 8 [(0, .ref (q 53)), (1, .int b1), (2, .long b2), (4, .int b4), (5, .int b5), (6, .int z.2)] → (∀ (H : Heap) (locs : List Loc) (ls : Array Slot), mH G (oset LX12 G q r h) s.heap H locs → lv_has ls 8 [(0, .ref (q 53)), (1, .int b1), (2, .long b2), (4, .int b4), (5, .int b5)] → W p l e rm_X12_walks s m args below meth c H locs 0 0 Q (F0 m 210 ls [])) → W p l e rm_X12_walks s m args below meth c H locs 0 0 Q (F0 m 177 ls []) := by
  refine lpv_rec ?_
  intro z r x hF hx H locs ls hH hl K0
  obtain ⟨s_t, b6⟩ := z
  dsimp only [f_X12_walks_177] at hF
  try dsimp only at hH hl
  refine lv_iload X.x X.b (dk DX12_walks_1 32 rfl) (lv_at hl 5 rfl) ?_
  refine lv_aload_n X.x X.b (dk DX12_walks_1 33 rfl) rfl (lv_at hl 0 rfl) ?_
  refine og_getI OX12 X hq hH 0 (by decide) rfl kF_X12_248 (dk DX12_walks_1 34 rfl) ?_
  refine lv_icmp_ge (tgt := 210) X.x X.b (dk DX12_walks_1 35 rfl) (by decide) (fun c55 => ?_) (fun c55 => ?_)
  · replace hF := if_t hF c55
    have hr9 := lp_r hF hx
    subst hr9
    exact K0 _ _ _ hH (lv_sub hl [0, 1, 2, 3, 4] rfl)
  · replace hF := if_f hF c55
    refine lv_aload_n X.x X.b (dk DX12_walks_1 36 rfl) rfl (lv_at hl 0 rfl) ?_
    refine og_getR (t := 1) OX12 X hq hH 25 (by decide) rfl kF_X12_33 (dk DX12_walks_1 37 rfl) ?_
    refine lv_iload X.x X.b (dk DX12_walks_1 38 rfl) (lv_at hl 5 rfl) ?_
    refine lv_aload_n X.x X.b (dk DX12_walks_1 39 rfl) rfl (lv_at hl 0 rfl) ?_
    refine og_getR (t := 1) OX12 X hq hH 26 (by decide) rfl kF_X12_36 (dk DX12_walks_1 40 rfl) ?_
    refine lv_iload X.x X.b (dk DX12_walks_1 41 rfl) (lv_at hl 5 rfl) ?_
    obtain ⟨c56, hF⟩ := gd hF
    refine og_lald X hq hH 26 (by decide) rfl (inb_in c56) (dk DX12_walks_1 42 rfl) ?_
    refine lv_ldc2 (v := 1000000007) X.x X.b X.ow (X.ts _ kK_X12_348) (dk DX12_walks_1 43 rfl) ?_
    refine lv_lrem X.x X.b (dk DX12_walks_1 44 rfl) (by decide) ?_
    refine og_last X hq hH 25 (by decide) rfl (inb_in c56) (dk DX12_walks_1 45 rfl) (fun H locs hH => ?_)
    obtain ⟨t57, e58⟩ : ∃ y, y = oB s_t 25 (vp_updL (s_t.2.2.2 25) (b6 : Int32).toNatClampNeg ((s_t.2.2.2 26 (b6 : Int32).toNatClampNeg) - (s_t.2.2.2 26 (b6 : Int32).toNatClampNeg) / 1000000007 * 1000000007)) := ⟨_, rfl⟩
    rw [← e58] at hH
    replace hF := bnd_e hF e58
    obtain ⟨v59, e60⟩ : ∃ y : Int32, y = b6 + 1 := ⟨_, rfl⟩
    replace hF := bnd_e hF e60
    refine lv_iinc (v := v59) (lv' := [(6, .int v59), (0, .ref (q 53)), (1, .int b1), (2, .long b2), (4, .int b4), (5, .int b5)]) X.x X.b (dk DX12_walks_1 46 rfl) hl (k := 5) rfl (by rw [e60]; rfl) (by decide) rfl (fun ls hl => ?_)
    replace hl : lv_has ls 8 [(0, .ref (q 53)), (1, .int b1), (2, .long b2), (4, .int b4), (5, .int b5), (6, .int v59)] := lv_sub hl [1, 2, 3, 4, 5, 0] rfl
    refine lv_goto (tgt := 177) X.x X.b (dk DX12_walks_1 47 rfl) (by decide) ?_
    exact (lp_l hF hx) _ _ _ hH (lv_sub hl [0, 1, 2, 3, 4, 5] rfl) K0
set_option maxHeartbeats 4000000 in
set_option maxRecDepth 100000 in
theorem w_X12_walks_88 {p : Program} {l : Launch} {e : Env} {s : State} {m : MethodId} {args : Array Value} {below : List Frame} {meth : Method} {c : Code} {Q : State → Prop} {G : mG} {h : mM} {q : Nat → Nat} (hq : oinj LX12 q) (X : mX G p m c cX12_walks 8 s args RX12) (b1 : Int32) (b2 : Int64) (b4 : Int32) : ∀ (z : OS × Int32) (r : OS), lpv (f_X12_walks_88 b1 b2 b4) z = some r → ∀ (H : Heap) (locs : List Loc) (ls : Array Slot), mH G (oset LX12 G q z.1 h) s.heap H locs → lv_has ls 8 [(0, .ref (q 53)), (1, .int b1), (2, .long b2), (4, .int b4), (5, .int z.2)] → (∀ (H : Heap) (locs : List Loc) (ls : Array Slot), mH G (oset LX12 G q r h) s.heap H locs → lv_has ls 8 [(0, .ref (q 53)), (1, .int b1), (2, .long b2), (4, .int b4)] → W p l e rm_X12_walks s m args below meth c H locs 0 0 Q (F0 m 216 ls [])) → W p l e rm_X12_walks s m args below meth c H locs 0 0 Q (F0 m 88 ls []) := by
  refine lpv_rec ?_
  intro z r x hF hx H locs ls hH hl K0
  obtain ⟨s_t, b5⟩ := z
  dsimp only [f_X12_walks_88] at hF
  try dsimp only at hH hl
  refine lv_iload X.x X.b (dk DX12_walks_0 46 rfl) (lv_at hl 4 rfl) ?_
  refine lv_iload_n X.x X.b (dk DX12_walks_0 47 rfl) rfl (lv_at hl 1 rfl) ?_
  refine lv_icmp_ge (tgt := 216) X.x X.b (dk DX12_walks_0 48 rfl) (by decide) (fun c27 => ?_) (fun c27 => ?_)
  · replace hF := if_t hF c27
    have hr9 := lp_r hF hx
    subst hr9
    exact K0 _ _ _ hH (lv_sub hl [0, 1, 2, 3] rfl)
  · replace hF := if_f hF c27
    refine lv_iconst (v := 0) X.x X.b (dk DX12_walks_0 49 rfl) (by decide) ?_
    refine lv_istore (lv' := [(6, .int 0), (0, .ref (q 53)), (1, .int b1), (2, .long b2), (4, .int b4), (5, .int b5)]) X.x X.b (dk DX12_walks_0 50 rfl) hl (by decide) rfl (fun ls hl => ?_)
    replace hl : lv_has ls 8 [(0, .ref (q 53)), (1, .int b1), (2, .long b2), (4, .int b4), (5, .int b5), (6, .int 0)] := lv_sub hl [1, 2, 3, 4, 5, 0] rfl
    obtain ⟨x52, e53, hF⟩ := bd hF
    replace hl : lv_has ls 8 [(0, .ref (q 53)), (1, .int b1), (2, .long b2), (4, .int b4), (5, .int b5), (6, .int 0)] := lv_sub hl [0, 1, 2, 3, 4, 5] rfl
    refine w_X12_walks_97 hq X b1 b2 b4 b5 _ _ e53 _ _ _ hH hl (fun H locs ls hH hl => ?_)
    refine lv_iconst (v := 0) X.x X.b (dk DX12_walks_1 30 rfl) (by decide) ?_
    refine lv_istore (lv' := [(6, .int 0), (0, .ref (q 53)), (1, .int b1), (2, .long b2), (4, .int b4), (5, .int b5)]) X.x X.b (dk DX12_walks_1 31 rfl) hl (by decide) rfl (fun ls hl => ?_)
    replace hl : lv_has ls 8 [(0, .ref (q 53)), (1, .int b1), (2, .long b2), (4, .int b4), (5, .int b5), (6, .int 0)] := lv_sub hl [1, 2, 3, 4, 5, 0] rfl
    obtain ⟨x61, e62, hF⟩ := bd hF
    replace hl : lv_has ls 8 [(0, .ref (q 53)), (1, .int b1), (2, .long b2), (4, .int b4), (5, .int b5), (6, .int 0)] := lv_sub hl [0, 1, 2, 3, 4, 5] rfl
    refine w_X12_walks_177 hq X b1 b2 b4 b5 _ _ e62 _ _ _ hH hl (fun H locs ls hH hl => ?_)
    obtain ⟨v64, e65⟩ : ∃ y : Int32, y = b5 + 1 := ⟨_, rfl⟩
    replace hF := bnd_e hF e65
    refine lv_iinc (v := v64) (lv' := [(5, .int v64), (0, .ref (q 53)), (1, .int b1), (2, .long b2), (4, .int b4)]) X.x X.b (dk DX12_walks_1 48 rfl) hl (k := 4) rfl (by rw [e65]; rfl) (by decide) rfl (fun ls hl => ?_)
    replace hl : lv_has ls 8 [(0, .ref (q 53)), (1, .int b1), (2, .long b2), (4, .int b4), (5, .int v64)] := lv_sub hl [1, 2, 3, 4, 0] rfl
    refine lv_goto (tgt := 88) X.x X.b (dk DX12_walks_1 49 rfl) (by decide) ?_
    exact (lp_l hF hx) _ _ _ hH (lv_sub hl [0, 1, 2, 3, 4] rfl) K0
set_option maxHeartbeats 4000000 in
set_option maxRecDepth 100000 in
theorem w_X12_walks_39 {p : Program} {l : Launch} {e : Env} {s : State} {m : MethodId} {args : Array Value} {below : List Frame} {meth : Method} {c : Code} {Q : State → Prop} {G : mG} {h : mM} {q : Nat → Nat} (hq : oinj LX12 q) (X : mX G p m c cX12_walks 8 s args RX12) (b1 : Int32) : ∀ (z : OS × Int64 × Int32) (r : OS × Int64), lpv (f_X12_walks_39 b1) z = some r → ∀ (H : Heap) (locs : List Loc) (ls : Array Slot), mH G (oset LX12 G q z.1 h) s.heap H locs → lv_has ls 8 [(0, .ref (q 53)), (1, .int b1), (2, .long z.2.1), (4, .int z.2.2)] → (∀ (H : Heap) (locs : List Loc) (ls : Array Slot), mH G (oset LX12 G q r.1 h) s.heap H locs → lv_has ls 8 [(2, .long r.2)] → W p l e rm_X12_walks s m args below meth c H locs 0 0 Q (F0 m 232 ls [])) → W p l e rm_X12_walks s m args below meth c H locs 0 0 Q (F0 m 39 ls []) := by
  refine lpv_rec ?_
  intro z r x hF hx H locs ls hH hl K0
  obtain ⟨s_t, b2, b4⟩ := z
  dsimp only [f_X12_walks_39] at hF
  try dsimp only at hH hl
  refine lv_iload X.x X.b (dk DX12_walks_0 22 rfl) (lv_at hl 3 rfl) ?_
  refine lv_aload_n X.x X.b (dk DX12_walks_0 23 rfl) rfl (lv_at hl 0 rfl) ?_
  refine og_getI OX12 X hq hH 0 (by decide) rfl kF_X12_248 (dk DX12_walks_0 24 rfl) ?_
  refine lv_icmp_ge (tgt := 232) X.x X.b (dk DX12_walks_0 25 rfl) (by decide) (fun c11 => ?_) (fun c11 => ?_)
  · replace hF := if_t hF c11
    have hr9 := lp_r hF hx
    subst hr9
    exact K0 _ _ _ hH (lv_sub hl [2] rfl)
  · replace hF := if_f hF c11
    refine lv_iconst (v := 0) X.x X.b (dk DX12_walks_0 26 rfl) (by decide) ?_
    refine lv_istore (lv' := [(5, .int 0), (0, .ref (q 53)), (1, .int b1), (2, .long b2), (4, .int b4)]) X.x X.b (dk DX12_walks_0 27 rfl) hl (by decide) rfl (fun ls hl => ?_)
    replace hl : lv_has ls 8 [(0, .ref (q 53)), (1, .int b1), (2, .long b2), (4, .int b4), (5, .int 0)] := lv_sub hl [1, 2, 3, 4, 0] rfl
    obtain ⟨x24, e25, hF⟩ := bd hF
    replace hl : lv_has ls 8 [(0, .ref (q 53)), (1, .int b1), (2, .long b2), (4, .int b4), (5, .int 0)] := lv_sub hl [0, 1, 2, 3, 4] rfl
    refine w_X12_walks_51 hq X b1 b2 b4 _ _ e25 _ _ _ hH hl (fun H locs ls hH hl => ?_)
    refine lv_iconst (v := 0) X.x X.b (dk DX12_walks_0 44 rfl) (by decide) ?_
    refine lv_istore (lv' := [(5, .int 0), (0, .ref (q 53)), (1, .int b1), (2, .long b2), (4, .int b4)]) X.x X.b (dk DX12_walks_0 45 rfl) hl (by decide) rfl (fun ls hl => ?_)
    replace hl : lv_has ls 8 [(0, .ref (q 53)), (1, .int b1), (2, .long b2), (4, .int b4), (5, .int 0)] := lv_sub hl [1, 2, 3, 4, 0] rfl
    obtain ⟨x66, e67, hF⟩ := bd hF
    replace hl : lv_has ls 8 [(0, .ref (q 53)), (1, .int b1), (2, .long b2), (4, .int b4), (5, .int 0)] := lv_sub hl [0, 1, 2, 3, 4] rfl
    refine w_X12_walks_88 hq X b1 b2 b4 _ _ e67 _ _ _ hH hl (fun H locs ls hH hl => ?_)
    refine lv_lload_n X.x X.b (dk DX12_walks_1 50 rfl) rfl (lv_at hl 2 rfl) ?_
    refine lv_aload_n X.x X.b (dk DX12_walks_1 51 rfl) rfl (lv_at hl 0 rfl) ?_
    refine og_getR (t := 1) OX12 X hq hH 25 (by decide) rfl kF_X12_33 (dk DX12_walks_1 52 rfl) ?_
    refine lv_iload X.x X.b (dk DX12_walks_1 53 rfl) (lv_at hl 3 rfl) ?_
    obtain ⟨c69, hF⟩ := gd hF
    refine og_lald X hq hH 25 (by decide) rfl (inb_in c69) (dk DX12_walks_1 54 rfl) ?_
    refine lv_ladd X.x X.b (dk DX12_walks_1 55 rfl) ?_
    refine lv_topl (fun v70 e71 => ?_)
    replace hF := bnd_e hF e71
    refine lv_lstore_n (lv' := [(2, .long v70), (0, .ref (q 53)), (1, .int b1), (4, .int b4)]) X.x X.b (dk DX12_walks_1 56 rfl) rfl hl (by decide) rfl (fun ls hl => ?_)
    replace hl : lv_has ls 8 [(0, .ref (q 53)), (1, .int b1), (2, .long v70), (4, .int b4)] := lv_sub hl [1, 2, 0, 3] rfl
    obtain ⟨v72, e73⟩ : ∃ y : Int32, y = b4 + 1 := ⟨_, rfl⟩
    replace hF := bnd_e hF e73
    refine lv_iinc (v := v72) (lv' := [(4, .int v72), (0, .ref (q 53)), (1, .int b1), (2, .long v70)]) X.x X.b (dk DX12_walks_1 57 rfl) hl (k := 3) rfl (by rw [e73]; rfl) (by decide) rfl (fun ls hl => ?_)
    replace hl : lv_has ls 8 [(0, .ref (q 53)), (1, .int b1), (2, .long v70), (4, .int v72)] := lv_sub hl [1, 2, 3, 0] rfl
    refine lv_goto (tgt := 39) X.x X.b (dk DX12_walks_1 58 rfl) (by decide) ?_
    exact (lp_l hF hx) _ _ _ hH (lv_sub hl [0, 1, 2, 3] rfl) K0
set_option maxHeartbeats 4000000 in
set_option maxRecDepth 100000 in
theorem c_X12_walks {l : Launch} {G : mG} {h : mM} {q : Nat → Nat} (hq : oinj LX12 q) {st : OS} {a0 : Int32} {x : Int32 × OS} (hF : f_X12_walks st a0 = some x) : cQ l G yX12_walks cX12_walks 8 (some FieldType.int) rm_X12_walks [.ref (q 53), .int a0] (oset LX12 G q st h) (mQi G (fun r h1 => r = x.1 ∧ h1 = oset LX12 G q x.2 h)) := by
  refine mp_of (by decide +kernel) (Nat.le_of_ble_eq_true rfl) ?_
  intro p e s m below meth c X hr hlk hH hname ls hl
  dsimp only [f_X12_walks] at hF
  replace hl : lv_has ls 8 [(0, .ref (q 53)), (1, .int a0)] := hl
  refine lv_aload_n X.x X.b (dk DX12_walks_0 0 rfl) rfl (lv_at hl 0 rfl) ?_
  refine lv_iload_n X.x X.b (dk DX12_walks_0 1 rfl) rfl (lv_at hl 1 rfl) ?_
  refine lv_i2l X.x X.b (dk DX12_walks_0 2 rfl) rfl ?_
  refine lv_lconst (v := 0) X.x X.b (dk DX12_walks_0 3 rfl) (by decide) ?_
  refine lv_ldc2 (v := 8) X.x X.b X.ow (X.ts _ kK_X12_346) (dk DX12_walks_0 4 rfl) ?_
  obtain ⟨x1, e2, hF⟩ := bd hF
  refine mr_ci0 hH ⟨rfl, rfl⟩ (mr_runS (As := [.long ((a0 : Int32).toInt64), .long 0, .long 8]) (rest := [.ref (q 53)]) X hH (c_X12_within e2) kM_X12_171 kT_X12_within kN_X12 kC_X12_within hd_X12_within ⟨Nat.le_of_ble_eq_true rfl, Nat.le_of_ble_eq_true rfl⟩ rfl hl.1 (Nat.le_of_ble_eq_true rfl) (dk DX12_walks_0 5 rfl) ⟨Nat.zero_le _, Nat.zero_le _⟩) (fun r h1 H locs hp hH => ?_)
  obtain ⟨hr1, hr2⟩ := hp; rw [hr1]; rw [hr2] at hH; clear hr1 hr2
  refine lv_if_eq (tgt := 17) X.x X.b (dk DX12_walks_0 6 rfl) (by decide) (fun c4 => ?_) (fun c4 => ?_)
  · replace hF := if_t hF c4
    refine lv_iconst (v := 1) X.x X.b (dk DX12_walks_0 9 rfl) (by decide) ?_
    refine og_putI OX12 X hq hH 2 (by decide) rfl kF_X12_106 rfl rfl rfl (dk DX12_walks_0 10 rfl) (fun H locs hH => ?_)
    obtain ⟨t5, e6⟩ : ∃ y, y = oI st 2 1 := ⟨_, rfl⟩
    rw [← e6] at hH
    replace hF := bnd_e hF e6
    refine lv_aload_n X.x X.b (dk DX12_walks_0 11 rfl) rfl (lv_at hl 0 rfl) ?_
    refine og_getI OX12 X hq hH 2 (by decide) rfl kF_X12_106 (dk DX12_walks_0 12 rfl) ?_
    refine lv_if_le (tgt := 30) X.x X.b (dk DX12_walks_0 13 rfl) (by decide) (fun c7 => ?_) (fun c7 => ?_)
    · replace hF := if_t hF c7
      refine lv_aload_n X.x X.b (dk DX12_walks_0 16 rfl) rfl (lv_at hl 0 rfl) ?_
      obtain ⟨x8, e9, hF⟩ := bd hF
      refine mr_cv0 hH ⟨rfl, rfl⟩ (mr_runV (As := []) (rest := []) X hH (c_X12_layNears hq e9) ((oset_at hq (Nat.le_refl _) ohas_N).trans (congrArg some ocell_N)) OX12.1 kM_X12_272 kI_X12_layNears kS_X12_layNears kN_X12 kC_X12_layNears hd_X12_layNears ⟨Nat.le_of_ble_eq_true rfl, Nat.le_of_ble_eq_true rfl⟩ rfl hl.1 (Nat.le_of_ble_eq_true rfl) (dk DX12_walks_0 17 rfl) ⟨Nat.zero_le _, Nat.zero_le _⟩) (fun h1 H locs hp hH => ?_)
      rw [hp] at hH; clear hp
      refine lv_lconst (v := 0) X.x X.b (dk DX12_walks_0 18 rfl) (by decide) ?_
      refine lv_lstore_n (lv' := [(2, .long 0), (0, .ref (q 53)), (1, .int a0)]) X.x X.b (dk DX12_walks_0 19 rfl) rfl hl (by decide) rfl (fun ls hl => ?_)
      replace hl : lv_has ls 8 [(0, .ref (q 53)), (1, .int a0), (2, .long 0)] := lv_sub hl [1, 2, 0] rfl
      refine lv_iconst (v := 0) X.x X.b (dk DX12_walks_0 20 rfl) (by decide) ?_
      refine lv_istore (lv' := [(4, .int 0), (0, .ref (q 53)), (1, .int a0), (2, .long 0)]) X.x X.b (dk DX12_walks_0 21 rfl) hl (by decide) rfl (fun ls hl => ?_)
      replace hl : lv_has ls 8 [(0, .ref (q 53)), (1, .int a0), (2, .long 0), (4, .int 0)] := lv_sub hl [1, 2, 3, 0] rfl
      obtain ⟨x74, e75, hF⟩ := bd hF
      replace hl : lv_has ls 8 [(0, .ref (q 53)), (1, .int a0), (2, .long 0), (4, .int 0)] := lv_sub hl [0, 1, 2, 3] rfl
      obtain ⟨t76, v77⟩ := x74
      try dsimp only at hF
      refine w_X12_walks_39 hq X a0 _ _ e75 _ _ _ hH hl (fun H locs ls hH hl => ?_)
      try dsimp only at hH hl
      refine lv_lload_n X.x X.b (dk DX12_walks_1 59 rfl) rfl (lv_at hl 0 rfl) ?_
      refine lv_ldc2 (v := 1000000007) X.x X.b X.ow (X.ts _ kK_X12_348) (dk DX12_walks_2 0 rfl) ?_
      refine lv_lrem X.x X.b (dk DX12_walks_2 1 rfl) (by decide) ?_
      refine lv_l2i X.x X.b (dk DX12_walks_2 2 rfl) rfl ?_
      cases sm hF
      exact mr_iret X hr hlk hH ⟨rfl, rfl⟩ (dk DX12_walks_2 3 rfl)
    · replace hF := if_f hF c7
      refine lv_iconst (v := 0) X.x X.b (dk DX12_walks_0 14 rfl) (by decide) ?_
      cases sm hF
      exact mr_iret X hr hlk hH ⟨rfl, rfl⟩ (dk DX12_walks_0 15 rfl)
  · replace hF := if_f hF c4
    refine lv_iconst (v := 0) X.x X.b (dk DX12_walks_0 7 rfl) (by decide) ?_
    refine lv_goto (tgt := 18) X.x X.b (dk DX12_walks_0 8 rfl) (by decide) ?_
    refine og_putI OX12 X hq hH 2 (by decide) rfl kF_X12_106 rfl rfl rfl (dk DX12_walks_0 10 rfl) (fun H locs hH => ?_)
    obtain ⟨t78, e79⟩ : ∃ y, y = oI st 2 0 := ⟨_, rfl⟩
    rw [← e79] at hH
    replace hF := bnd_e hF e79
    refine lv_aload_n X.x X.b (dk DX12_walks_0 11 rfl) rfl (lv_at hl 0 rfl) ?_
    refine og_getI OX12 X hq hH 2 (by decide) rfl kF_X12_106 (dk DX12_walks_0 12 rfl) ?_
    refine lv_if_le (tgt := 30) X.x X.b (dk DX12_walks_0 13 rfl) (by decide) (fun c80 => ?_) (fun c80 => ?_)
    · replace hF := if_t hF c80
      refine lv_aload_n X.x X.b (dk DX12_walks_0 16 rfl) rfl (lv_at hl 0 rfl) ?_
      obtain ⟨x81, e82, hF⟩ := bd hF
      refine mr_cv0 hH ⟨rfl, rfl⟩ (mr_runV (As := []) (rest := []) X hH (c_X12_layNears hq e82) ((oset_at hq (Nat.le_refl _) ohas_N).trans (congrArg some ocell_N)) OX12.1 kM_X12_272 kI_X12_layNears kS_X12_layNears kN_X12 kC_X12_layNears hd_X12_layNears ⟨Nat.le_of_ble_eq_true rfl, Nat.le_of_ble_eq_true rfl⟩ rfl hl.1 (Nat.le_of_ble_eq_true rfl) (dk DX12_walks_0 17 rfl) ⟨Nat.zero_le _, Nat.zero_le _⟩) (fun h1 H locs hp hH => ?_)
      rw [hp] at hH; clear hp
      refine lv_lconst (v := 0) X.x X.b (dk DX12_walks_0 18 rfl) (by decide) ?_
      refine lv_lstore_n (lv' := [(2, .long 0), (0, .ref (q 53)), (1, .int a0)]) X.x X.b (dk DX12_walks_0 19 rfl) rfl hl (by decide) rfl (fun ls hl => ?_)
      replace hl : lv_has ls 8 [(0, .ref (q 53)), (1, .int a0), (2, .long 0)] := lv_sub hl [1, 2, 0] rfl
      refine lv_iconst (v := 0) X.x X.b (dk DX12_walks_0 20 rfl) (by decide) ?_
      refine lv_istore (lv' := [(4, .int 0), (0, .ref (q 53)), (1, .int a0), (2, .long 0)]) X.x X.b (dk DX12_walks_0 21 rfl) hl (by decide) rfl (fun ls hl => ?_)
      replace hl : lv_has ls 8 [(0, .ref (q 53)), (1, .int a0), (2, .long 0), (4, .int 0)] := lv_sub hl [1, 2, 3, 0] rfl
      obtain ⟨x84, e85, hF⟩ := bd hF
      replace hl : lv_has ls 8 [(0, .ref (q 53)), (1, .int a0), (2, .long 0), (4, .int 0)] := lv_sub hl [0, 1, 2, 3] rfl
      obtain ⟨t86, v87⟩ := x84
      try dsimp only at hF
      refine w_X12_walks_39 hq X a0 _ _ e85 _ _ _ hH hl (fun H locs ls hH hl => ?_)
      try dsimp only at hH hl
      refine lv_lload_n X.x X.b (dk DX12_walks_1 59 rfl) rfl (lv_at hl 0 rfl) ?_
      refine lv_ldc2 (v := 1000000007) X.x X.b X.ow (X.ts _ kK_X12_348) (dk DX12_walks_2 0 rfl) ?_
      refine lv_lrem X.x X.b (dk DX12_walks_2 1 rfl) (by decide) ?_
      refine lv_l2i X.x X.b (dk DX12_walks_2 2 rfl) rfl ?_
      cases sm hF
      exact mr_iret X hr hlk hH ⟨rfl, rfl⟩ (dk DX12_walks_2 3 rfl)
    · replace hF := if_f hF c80
      refine lv_iconst (v := 0) X.x X.b (dk DX12_walks_0 14 rfl) (by decide) ?_
      cases sm hF
      exact mr_iret X hr hlk hH ⟨rfl, rfl⟩ (dk DX12_walks_0 15 rfl)
-- X12_isOn
abbrev rm_X12_isOn : Room := { frames := 1, cells := 0, slots := 0, locals := 22 }
theorem hd_X12_isOn : mHd yX12_isOn 2 := ⟨by decide +kernel, by decide +kernel, by decide +kernel⟩
theorem DX12_isOn_0 : ∀ t ∈ ([(0, .iload_n 1, 1), (1, .aload_n 0, 1), (2, .getfield 248, 3), (5, .if_icmp .ge 37, 3), (8, .iload_n 2, 1), (9, .aload_n 0, 1), (10, .getfield 248, 3), (13, .if_icmp .lt 25, 3), (16, .aload_n 0, 1), (17, .getfield 7, 3), (20, .iload_n 2, 1), (21, .aload_n 0, 1), (22, .getfield 248, 3), (25, .isub, 1), (26, .laload, 1), (27, .iload_n 1, 1), (28, .invokestatic 232, 3), (31, .ifCond .eq 7, 3), (34, .iconst 1, 1), (35, .goto 38, 3), (38, .iconst 0, 1), (39, .goto 34, 3), (42, .iload_n 2, 1), (43, .aload_n 0, 1), (44, .getfield 248, 3), (47, .if_icmp .ge 25, 3), (50, .aload_n 0, 1), (51, .getfield 7, 3), (54, .iload_n 1, 1), (55, .aload_n 0, 1), (56, .getfield 248, 3), (59, .isub, 1), (60, .laload, 1), (61, .iload_n 2, 1), (62, .invokestatic 232, 3), (65, .ifCond .eq 7, 3), (68, .iconst 1, 1), (69, .goto 4, 3), (72, .iconst 0, 1), (73, .ireturn, 1)] : List (Nat × Instr × Nat)), decode cX12_isOn t.1 = .ok (t.2.1, t.2.2) := by decide +kernel
noncomputable def f_X12_isOn (st : OS) (a0 : Int32) (a1 : Int32) : Option (Int32) := (if (st.1 0) ≤ a0 then (if (st.1 0) ≤ a1 then some 0 else if inb (a0 - (st.1 0)) 64 = true then (f_X12_has (st.2.2.2 3 (a0 - (st.1 0) : Int32).toNatClampNeg) a1).bind (fun x4 => (if x4 = 0 then some 0 else some 1)) else none) else (if a1 < (st.1 0) then some 0 else if inb (a1 - (st.1 0)) 64 = true then (f_X12_has (st.2.2.2 3 (a1 - (st.1 0) : Int32).toNatClampNeg) a0).bind (fun x10 => (if x10 = 0 then some 0 else some 1)) else none))
set_option maxHeartbeats 4000000 in
set_option maxRecDepth 100000 in
theorem c_X12_isOn {l : Launch} {G : mG} {h : mM} {q : Nat → Nat} (hq : oinj LX12 q) {st : OS} {a0 : Int32} {a1 : Int32} {x : Int32} (hF : f_X12_isOn st a0 a1 = some x) : cQ l G yX12_isOn cX12_isOn 3 (some FieldType.boolean) rm_X12_isOn [.ref (q 53), .int a0, .int a1] (oset LX12 G q st h) (mQi G (fun r h1 => r = x ∧ h1 = oset LX12 G q st h)) := by
  refine mp_of (by decide +kernel) (Nat.le_of_ble_eq_true rfl) ?_
  intro p e s m below meth c X hr hlk hH hname ls hl
  dsimp only [f_X12_isOn] at hF
  replace hl : lv_has ls 3 [(0, .ref (q 53)), (1, .int a0), (2, .int a1)] := hl
  refine lv_iload_n X.x X.b (dk DX12_isOn_0 0 rfl) rfl (lv_at hl 1 rfl) ?_
  refine lv_aload_n X.x X.b (dk DX12_isOn_0 1 rfl) rfl (lv_at hl 0 rfl) ?_
  refine og_getI OX12 X hq hH 0 (by decide) rfl kF_X12_248 (dk DX12_isOn_0 2 rfl) ?_
  refine lv_icmp_ge (tgt := 42) X.x X.b (dk DX12_isOn_0 3 rfl) (by decide) (fun c1 => ?_) (fun c1 => ?_)
  · replace hF := if_t hF c1
    refine lv_iload_n X.x X.b (dk DX12_isOn_0 22 rfl) rfl (lv_at hl 2 rfl) ?_
    refine lv_aload_n X.x X.b (dk DX12_isOn_0 23 rfl) rfl (lv_at hl 0 rfl) ?_
    refine og_getI OX12 X hq hH 0 (by decide) rfl kF_X12_248 (dk DX12_isOn_0 24 rfl) ?_
    refine lv_icmp_ge (tgt := 72) X.x X.b (dk DX12_isOn_0 25 rfl) (by decide) (fun c2 => ?_) (fun c2 => ?_)
    · replace hF := if_t hF c2
      refine lv_iconst (v := 0) X.x X.b (dk DX12_isOn_0 38 rfl) (by decide) ?_
      cases sm hF
      exact mr_zret X hr hlk hH rfl ⟨rfl, rfl⟩ (dk DX12_isOn_0 39 rfl)
    · replace hF := if_f hF c2
      refine lv_aload_n X.x X.b (dk DX12_isOn_0 26 rfl) rfl (lv_at hl 0 rfl) ?_
      refine og_getR (t := 1) OX12 X hq hH 3 (by decide) rfl kF_X12_7 (dk DX12_isOn_0 27 rfl) ?_
      refine lv_iload_n X.x X.b (dk DX12_isOn_0 28 rfl) rfl (lv_at hl 1 rfl) ?_
      refine lv_aload_n X.x X.b (dk DX12_isOn_0 29 rfl) rfl (lv_at hl 0 rfl) ?_
      refine og_getI OX12 X hq hH 0 (by decide) rfl kF_X12_248 (dk DX12_isOn_0 30 rfl) ?_
      refine lv_isub X.x X.b (dk DX12_isOn_0 31 rfl) ?_
      obtain ⟨c3, hF⟩ := gd hF
      refine og_lald X hq hH 3 (by decide) rfl (inb_in c3) (dk DX12_isOn_0 32 rfl) ?_
      refine lv_iload_n X.x X.b (dk DX12_isOn_0 33 rfl) rfl (lv_at hl 2 rfl) ?_
      obtain ⟨x4, e5, hF⟩ := bd hF
      refine mr_ci0 hH ⟨rfl, rfl⟩ (mr_runS (As := [.long (st.2.2.2 3 (a0 - (st.1 0) : Int32).toNatClampNeg), .int a1]) (rest := []) X hH (c_X12_has e5) kM_X12_232 kT_X12_has kN_X12 kC_X12_has hd_X12_has ⟨Nat.le_of_ble_eq_true rfl, Nat.le_of_ble_eq_true rfl⟩ rfl hl.1 (Nat.le_of_ble_eq_true rfl) (dk DX12_isOn_0 34 rfl) ⟨Nat.zero_le _, Nat.zero_le _⟩) (fun r h1 H locs hp hH => ?_)
      obtain ⟨hr1, hr2⟩ := hp; rw [hr1]; rw [hr2] at hH; clear hr1 hr2
      refine lv_if_eq (tgt := 72) X.x X.b (dk DX12_isOn_0 35 rfl) (by decide) (fun c7 => ?_) (fun c7 => ?_)
      · replace hF := if_t hF c7
        refine lv_iconst (v := 0) X.x X.b (dk DX12_isOn_0 38 rfl) (by decide) ?_
        cases sm hF
        exact mr_zret X hr hlk hH rfl ⟨rfl, rfl⟩ (dk DX12_isOn_0 39 rfl)
      · replace hF := if_f hF c7
        refine lv_iconst (v := 1) X.x X.b (dk DX12_isOn_0 36 rfl) (by decide) ?_
        refine lv_goto (tgt := 73) X.x X.b (dk DX12_isOn_0 37 rfl) (by decide) ?_
        cases sm hF
        exact mr_zret X hr hlk hH rfl ⟨rfl, rfl⟩ (dk DX12_isOn_0 39 rfl)
  · replace hF := if_f hF c1
    refine lv_iload_n X.x X.b (dk DX12_isOn_0 4 rfl) rfl (lv_at hl 2 rfl) ?_
    refine lv_aload_n X.x X.b (dk DX12_isOn_0 5 rfl) rfl (lv_at hl 0 rfl) ?_
    refine og_getI OX12 X hq hH 0 (by decide) rfl kF_X12_248 (dk DX12_isOn_0 6 rfl) ?_
    refine lv_icmp_lt (tgt := 38) X.x X.b (dk DX12_isOn_0 7 rfl) (by decide) (fun c8 => ?_) (fun c8 => ?_)
    · replace hF := if_t hF c8
      refine lv_iconst (v := 0) X.x X.b (dk DX12_isOn_0 20 rfl) (by decide) ?_
      refine lv_goto (tgt := 73) X.x X.b (dk DX12_isOn_0 21 rfl) (by decide) ?_
      cases sm hF
      exact mr_zret X hr hlk hH rfl ⟨rfl, rfl⟩ (dk DX12_isOn_0 39 rfl)
    · replace hF := if_f hF c8
      refine lv_aload_n X.x X.b (dk DX12_isOn_0 8 rfl) rfl (lv_at hl 0 rfl) ?_
      refine og_getR (t := 1) OX12 X hq hH 3 (by decide) rfl kF_X12_7 (dk DX12_isOn_0 9 rfl) ?_
      refine lv_iload_n X.x X.b (dk DX12_isOn_0 10 rfl) rfl (lv_at hl 2 rfl) ?_
      refine lv_aload_n X.x X.b (dk DX12_isOn_0 11 rfl) rfl (lv_at hl 0 rfl) ?_
      refine og_getI OX12 X hq hH 0 (by decide) rfl kF_X12_248 (dk DX12_isOn_0 12 rfl) ?_
      refine lv_isub X.x X.b (dk DX12_isOn_0 13 rfl) ?_
      obtain ⟨c9, hF⟩ := gd hF
      refine og_lald X hq hH 3 (by decide) rfl (inb_in c9) (dk DX12_isOn_0 14 rfl) ?_
      refine lv_iload_n X.x X.b (dk DX12_isOn_0 15 rfl) rfl (lv_at hl 1 rfl) ?_
      obtain ⟨x10, e11, hF⟩ := bd hF
      refine mr_ci0 hH ⟨rfl, rfl⟩ (mr_runS (As := [.long (st.2.2.2 3 (a1 - (st.1 0) : Int32).toNatClampNeg), .int a0]) (rest := []) X hH (c_X12_has e11) kM_X12_232 kT_X12_has kN_X12 kC_X12_has hd_X12_has ⟨Nat.le_of_ble_eq_true rfl, Nat.le_of_ble_eq_true rfl⟩ rfl hl.1 (Nat.le_of_ble_eq_true rfl) (dk DX12_isOn_0 16 rfl) ⟨Nat.zero_le _, Nat.zero_le _⟩) (fun r h1 H locs hp hH => ?_)
      obtain ⟨hr1, hr2⟩ := hp; rw [hr1]; rw [hr2] at hH; clear hr1 hr2
      refine lv_if_eq (tgt := 38) X.x X.b (dk DX12_isOn_0 17 rfl) (by decide) (fun c13 => ?_) (fun c13 => ?_)
      · replace hF := if_t hF c13
        refine lv_iconst (v := 0) X.x X.b (dk DX12_isOn_0 20 rfl) (by decide) ?_
        refine lv_goto (tgt := 73) X.x X.b (dk DX12_isOn_0 21 rfl) (by decide) ?_
        cases sm hF
        exact mr_zret X hr hlk hH rfl ⟨rfl, rfl⟩ (dk DX12_isOn_0 39 rfl)
      · replace hF := if_f hF c13
        refine lv_iconst (v := 1) X.x X.b (dk DX12_isOn_0 18 rfl) (by decide) ?_
        refine lv_goto (tgt := 73) X.x X.b (dk DX12_isOn_0 19 rfl) (by decide) ?_
        cases sm hF
        exact mr_zret X hr hlk hH rfl ⟨rfl, rfl⟩ (dk DX12_isOn_0 39 rfl)
-- X12_lays
abbrev rm_X12_lays : Room := { frames := 2, cells := 0, slots := 0, locals := 44 }
theorem hd_X12_lays : mHd yX12_lays 1 := ⟨by decide +kernel, by decide +kernel, by decide +kernel⟩
theorem DX12_lays_0 : ∀ t ∈ ([(0, .aload_n 0, 1), (1, .getfield 248, 3), (4, .aload_n 0, 1), (5, .getfield 250, 3), (8, .iadd, 1), (9, .istore_n 2, 1), (10, .iconst 0, 1), (11, .istore_n 3, 1), (12, .iload_n 3, 1), (13, .iload_n 2, 1), (14, .if_icmp .ge 16, 3), (17, .aload_n 0, 1), (18, .getfield 39, 3), (21, .iload_n 3, 1), (22, .iconst (-1), 1), (23, .iastore, 1), (24, .iinc 3 1, 3), (27, .goto (-15), 3), (30, .iconst (-1), 1), (31, .istore_n 3, 1), (32, .iconst 1, 1), (33, .istore 4, 2), (35, .aload_n 0, 1), (36, .getfield 39, 3), (39, .iload_n 1, 1), (40, .iconst 0, 1), (41, .iastore, 1), (42, .aload_n 0, 1), (43, .getfield 42, 3), (46, .iload_n 1, 1), (47, .iconst (-1), 1), (48, .iastore, 1), (49, .aload_n 0, 1), (50, .getfield 45, 3), (53, .iconst 0, 1), (54, .iload_n 1, 1), (55, .iastore, 1), (56, .iconst 0, 1), (57, .istore 5, 2), (59, .iload 5, 2), (61, .iload 4, 2), (63, .if_icmp .ge 154, 3), (66, .aload_n 0, 1), (67, .getfield 45, 3), (70, .iload 5, 2), (72, .iaload, 1), (73, .istore 6, 2), (75, .iconst 0, 1), (76, .istore 7, 2), (78, .iload 7, 2), (80, .iload_n 2, 1), (81, .if_icmp .ge 130, 3), (84, .aload_n 0, 1), (85, .iload 6, 2), (87, .iload 7, 2), (89, .invokevirtual 350, 3), (92, .ifCond .eq 113, 3), (95, .iload 7, 2), (97, .aload_n 0, 1), (98, .getfield 42, 3)] : List (Nat × Instr × Nat)), decode cX12_lays t.1 = .ok (t.2.1, t.2.2) := by decide +kernel
theorem DX12_lays_1 : ∀ t ∈ ([(101, .iload 6, 2), (103, .iaload, 1), (104, .if_icmp .ne 6, 3), (107, .goto 98, 3), (110, .aload_n 0, 1), (111, .getfield 39, 3), (114, .iload 7, 2), (116, .iaload, 1), (117, .iconst (-1), 1), (118, .if_icmp .ne 43, 3), (121, .aload_n 0, 1), (122, .getfield 39, 3), (125, .iload 7, 2), (127, .aload_n 0, 1), (128, .getfield 39, 3), (131, .iload 6, 2), (133, .iaload, 1), (134, .iconst 1, 1), (135, .iadd, 1), (136, .iastore, 1), (137, .aload_n 0, 1), (138, .getfield 42, 3), (141, .iload 7, 2), (143, .iload 6, 2), (145, .iastore, 1), (146, .aload_n 0, 1), (147, .getfield 45, 3), (150, .iload 4, 2), (152, .iload 7, 2), (154, .iastore, 1), (155, .iinc 4 1, 3), (158, .goto 47, 3), (161, .iload_n 3, 1), (162, .iconst (-1), 1), (163, .if_icmp .eq 24, 3), (166, .aload_n 0, 1), (167, .getfield 39, 3), (170, .iload 6, 2), (172, .iaload, 1), (173, .aload_n 0, 1), (174, .getfield 39, 3), (177, .iload 7, 2), (179, .iaload, 1), (180, .iadd, 1), (181, .iconst 1, 1), (182, .iadd, 1), (183, .iload_n 3, 1), (184, .if_icmp .ge 21, 3), (187, .aload_n 0, 1), (188, .getfield 39, 3), (191, .iload 6, 2), (193, .iaload, 1), (194, .aload_n 0, 1), (195, .getfield 39, 3), (198, .iload 7, 2), (200, .iaload, 1), (201, .iadd, 1), (202, .iconst 1, 1), (203, .iadd, 1), (204, .istore_n 3, 1)] : List (Nat × Instr × Nat)), decode cX12_lays t.1 = .ok (t.2.1, t.2.2) := by decide +kernel
theorem DX12_lays_2 : ∀ t ∈ ([(205, .iinc 7 1, 3), (208, .goto (-130), 3), (211, .iinc 5 1, 3), (214, .goto (-155), 3), (217, .iload_n 3, 1), (218, .ireturn, 1)] : List (Nat × Instr × Nat)), decode cX12_lays t.1 = .ok (t.2.1, t.2.2) := by decide +kernel
noncomputable def f_X12_lays_12 (b1 : Int32) (b2 : Int32) : (OS × Int32) → Option ((OS × Int32) ⊕ (OS)) := fun z => match z with | (s_t, b3) => (if b2 ≤ b3 then some (.inr s_t) else if inb b3 128 = true then bnd (oA s_t 27 (upd (s_t.2.2.1 27) (b3 : Int32).toNatClampNeg ((-1)))) (fun t5 => bnd (b3 + 1 : Int32) (fun v7 => some (.inl ((t5, v7))))) else none)
noncomputable def f_X12_lays_78 (b2 : Int32) (b5 : Int32) (b6 : Int32) : (OS × Int32 × Int32 × Int32) → Option ((OS × Int32 × Int32 × Int32) ⊕ (OS × Int32 × Int32)) := fun z => match z with | (s_t, b3, b4, b7) => (if b2 ≤ b7 then some (.inr ((s_t, b3, b4))) else (f_X12_isOn s_t b6 b7).bind (fun x25 => (if x25 = 0 then bnd (b7 + 1 : Int32) (fun v29 => some (.inl ((s_t, b3, b4, v29)))) else if inb b6 128 = true then (if b7 = (s_t.2.2.1 28 (b6 : Int32).toNatClampNeg) then bnd (b7 + 1 : Int32) (fun v58 => some (.inl ((s_t, b3, b4, v58)))) else if inb b7 128 = true then (if (s_t.2.2.1 27 (b7 : Int32).toNatClampNeg) = ((-1)) then bnd (oA s_t 27 (upd (s_t.2.2.1 27) (b7 : Int32).toNatClampNeg ((s_t.2.2.1 27 (b6 : Int32).toNatClampNeg) + 1))) (fun t47 => bnd (oA t47 28 (upd (t47.2.2.1 28) (b7 : Int32).toNatClampNeg b6)) (fun t49 => if inb b4 128 = true then bnd (oA t49 29 (upd (t49.2.2.1 29) (b4 : Int32).toNatClampNeg b7)) (fun t52 => bnd (b4 + 1 : Int32) (fun v54 => bnd (b7 + 1 : Int32) (fun v56 => some (.inl ((t52, b3, v54, v56)))))) else none)) else (if b3 = ((-1)) then bnd (((s_t.2.2.1 27 (b6 : Int32).toNatClampNeg) + (s_t.2.2.1 27 (b7 : Int32).toNatClampNeg)) + 1 : Int32) (fun v36 => bnd (b7 + 1 : Int32) (fun v38 => some (.inl ((s_t, v36, b4, v38))))) else (if b3 ≤ ((s_t.2.2.1 27 (b6 : Int32).toNatClampNeg) + (s_t.2.2.1 27 (b7 : Int32).toNatClampNeg)) + 1 then bnd (b7 + 1 : Int32) (fun v41 => some (.inl ((s_t, b3, b4, v41)))) else bnd (((s_t.2.2.1 27 (b6 : Int32).toNatClampNeg) + (s_t.2.2.1 27 (b7 : Int32).toNatClampNeg)) + 1 : Int32) (fun v43 => bnd (b7 + 1 : Int32) (fun v45 => some (.inl ((s_t, v43, b4, v45)))))))) else none) else none)))
noncomputable def f_X12_lays_59 (b2 : Int32) : (OS × Int32 × Int32 × Int32) → Option ((OS × Int32 × Int32 × Int32) ⊕ (OS × Int32)) := fun z => match z with | (s_t, b3, b4, b5) => (if b4 ≤ b5 then some (.inr ((s_t, b3))) else if inb b5 128 = true then bnd (s_t.2.2.1 29 (b5 : Int32).toNatClampNeg : Int32) (fun v22 => (lpv (f_X12_lays_78 b2 b5 v22) ((s_t, b3, b4, 0))).bind (fun x60 => match x60 with | (t62, v63, v64) => bnd (b5 + 1 : Int32) (fun v65 => some (.inl ((t62, v63, v64, v65)))))) else none)
noncomputable def f_X12_lays (st : OS) (a0 : Int32) : Option (Int32 × OS) := bnd ((st.1 0) + (st.1 1) : Int32) (fun v1 => (lpv (f_X12_lays_12 a0 v1) ((st, 0))).bind (fun x9 => if inb a0 128 = true then bnd (oA x9 27 (upd (x9.2.2.1 27) (a0 : Int32).toNatClampNeg 0)) (fun t13 => bnd (oA t13 28 (upd (t13.2.2.1 28) (a0 : Int32).toNatClampNeg ((-1)))) (fun t15 => if inb 0 128 = true then bnd (oA t15 29 (upd (t15.2.2.1 29) (0 : Int32).toNatClampNeg a0)) (fun t18 => (lpv (f_X12_lays_59 v1) ((t18, (-1), 1, 0))).bind (fun x67 => match x67 with | (t69, v70) => some ((v70, t69)))) else none)) else none))
set_option maxHeartbeats 4000000 in
set_option maxRecDepth 100000 in
theorem w_X12_lays_12 {p : Program} {l : Launch} {e : Env} {s : State} {m : MethodId} {args : Array Value} {below : List Frame} {meth : Method} {c : Code} {Q : State → Prop} {G : mG} {h : mM} {q : Nat → Nat} (hq : oinj LX12 q) (X : mX G p m c cX12_lays 8 s args RX12) (b1 : Int32) (b2 : Int32) : ∀ (z : OS × Int32) (r : OS), lpv (f_X12_lays_12 b1 b2) z = some r → ∀ (H : Heap) (locs : List Loc) (ls : Array Slot), mH G (oset LX12 G q z.1 h) s.heap H locs → lv_has ls 8 [(0, .ref (q 53)), (1, .int b1), (2, .int b2), (3, .int z.2)] → (∀ (H : Heap) (locs : List Loc) (ls : Array Slot), mH G (oset LX12 G q r h) s.heap H locs → lv_has ls 8 [(0, .ref (q 53)), (1, .int b1), (2, .int b2)] → W p l e rm_X12_lays s m args below meth c H locs 0 0 Q (F0 m 30 ls [])) → W p l e rm_X12_lays s m args below meth c H locs 0 0 Q (F0 m 12 ls []) := by
  refine lpv_rec ?_
  intro z r x hF hx H locs ls hH hl K0
  obtain ⟨s_t, b3⟩ := z
  dsimp only [f_X12_lays_12] at hF
  try dsimp only at hH hl
  refine lv_iload_n X.x X.b (dk DX12_lays_0 8 rfl) rfl (lv_at hl 3 rfl) ?_
  refine lv_iload_n X.x X.b (dk DX12_lays_0 9 rfl) rfl (lv_at hl 2 rfl) ?_
  refine lv_icmp_ge (tgt := 30) X.x X.b (dk DX12_lays_0 10 rfl) (by decide) (fun c3 => ?_) (fun c3 => ?_)
  · replace hF := if_t hF c3
    have hr9 := lp_r hF hx
    subst hr9
    exact K0 _ _ _ hH (lv_sub hl [0, 1, 2] rfl)
  · replace hF := if_f hF c3
    refine lv_aload_n X.x X.b (dk DX12_lays_0 11 rfl) rfl (lv_at hl 0 rfl) ?_
    refine og_getR (t := 0) OX12 X hq hH 27 (by decide) rfl kF_X12_39 (dk DX12_lays_0 12 rfl) ?_
    refine lv_iload_n X.x X.b (dk DX12_lays_0 13 rfl) rfl (lv_at hl 3 rfl) ?_
    refine lv_iconst (v := (-1)) X.x X.b (dk DX12_lays_0 14 rfl) (by decide) ?_
    obtain ⟨c4, hF⟩ := gd hF
    refine og_iast X hq hH 27 (by decide) rfl (inb_in c4) (dk DX12_lays_0 15 rfl) (fun H locs hH => ?_)
    obtain ⟨t5, e6⟩ : ∃ y, y = oA s_t 27 (upd (s_t.2.2.1 27) (b3 : Int32).toNatClampNeg ((-1))) := ⟨_, rfl⟩
    rw [← e6] at hH
    replace hF := bnd_e hF e6
    obtain ⟨v7, e8⟩ : ∃ y : Int32, y = b3 + 1 := ⟨_, rfl⟩
    replace hF := bnd_e hF e8
    refine lv_iinc (v := v7) (lv' := [(3, .int v7), (0, .ref (q 53)), (1, .int b1), (2, .int b2)]) X.x X.b (dk DX12_lays_0 16 rfl) hl (k := 3) rfl (by rw [e8]; rfl) (by decide) rfl (fun ls hl => ?_)
    replace hl : lv_has ls 8 [(0, .ref (q 53)), (1, .int b1), (2, .int b2), (3, .int v7)] := lv_sub hl [1, 2, 3, 0] rfl
    refine lv_goto (tgt := 12) X.x X.b (dk DX12_lays_0 17 rfl) (by decide) ?_
    exact (lp_l hF hx) _ _ _ hH (lv_sub hl [0, 1, 2, 3] rfl) K0
set_option maxHeartbeats 4000000 in
set_option maxRecDepth 100000 in
theorem w_X12_lays_78 {p : Program} {l : Launch} {e : Env} {s : State} {m : MethodId} {args : Array Value} {below : List Frame} {meth : Method} {c : Code} {Q : State → Prop} {G : mG} {h : mM} {q : Nat → Nat} (hq : oinj LX12 q) (X : mX G p m c cX12_lays 8 s args RX12) (b2 : Int32) (b5 : Int32) (b6 : Int32) : ∀ (z : OS × Int32 × Int32 × Int32) (r : OS × Int32 × Int32), lpv (f_X12_lays_78 b2 b5 b6) z = some r → ∀ (H : Heap) (locs : List Loc) (ls : Array Slot), mH G (oset LX12 G q z.1 h) s.heap H locs → lv_has ls 8 [(0, .ref (q 53)), (2, .int b2), (3, .int z.2.1), (4, .int z.2.2.1), (5, .int b5), (6, .int b6), (7, .int z.2.2.2)] → (∀ (H : Heap) (locs : List Loc) (ls : Array Slot), mH G (oset LX12 G q r.1 h) s.heap H locs → lv_has ls 8 [(0, .ref (q 53)), (2, .int b2), (3, .int r.2.1), (4, .int r.2.2), (5, .int b5)] → W p l e rm_X12_lays s m args below meth c H locs 0 0 Q (F0 m 211 ls [])) → W p l e rm_X12_lays s m args below meth c H locs 0 0 Q (F0 m 78 ls []) := by
  refine lpv_rec ?_
  intro z r x hF hx H locs ls hH hl K0
  obtain ⟨s_t, b3, b4, b7⟩ := z
  dsimp only [f_X12_lays_78] at hF
  try dsimp only at hH hl
  refine lv_iload X.x X.b (dk DX12_lays_0 49 rfl) (lv_at hl 6 rfl) ?_
  refine lv_iload_n X.x X.b (dk DX12_lays_0 50 rfl) rfl (lv_at hl 1 rfl) ?_
  refine lv_icmp_ge (tgt := 211) X.x X.b (dk DX12_lays_0 51 rfl) (by decide) (fun c24 => ?_) (fun c24 => ?_)
  · replace hF := if_t hF c24
    have hr9 := lp_r hF hx
    subst hr9
    exact K0 _ _ _ hH (lv_sub hl [0, 1, 2, 3, 4] rfl)
  · replace hF := if_f hF c24
    refine lv_aload_n X.x X.b (dk DX12_lays_0 52 rfl) rfl (lv_at hl 0 rfl) ?_
    refine lv_iload X.x X.b (dk DX12_lays_0 53 rfl) (lv_at hl 5 rfl) ?_
    refine lv_iload X.x X.b (dk DX12_lays_0 54 rfl) (lv_at hl 6 rfl) ?_
    obtain ⟨x25, e26, hF⟩ := bd hF
    refine mr_ci0 hH ⟨rfl, rfl⟩ (mr_runV (As := [.int b6, .int b7]) (rest := []) X hH (c_X12_isOn hq e26) ((oset_at hq (Nat.le_refl _) ohas_N).trans (congrArg some ocell_N)) OX12.1 kM_X12_350 kI_X12_isOn kS_X12_isOn kN_X12 kC_X12_isOn hd_X12_isOn ⟨Nat.le_of_ble_eq_true rfl, Nat.le_of_ble_eq_true rfl⟩ rfl hl.1 (Nat.le_of_ble_eq_true rfl) (dk DX12_lays_0 55 rfl) ⟨Nat.zero_le _, Nat.zero_le _⟩) (fun r h1 H locs hp hH => ?_)
    obtain ⟨hr1, hr2⟩ := hp; rw [hr1]; rw [hr2] at hH; clear hr1 hr2
    refine lv_if_eq (tgt := 205) X.x X.b (dk DX12_lays_0 56 rfl) (by decide) (fun c28 => ?_) (fun c28 => ?_)
    · replace hF := if_t hF c28
      obtain ⟨v29, e30⟩ : ∃ y : Int32, y = b7 + 1 := ⟨_, rfl⟩
      replace hF := bnd_e hF e30
      refine lv_iinc (v := v29) (lv' := [(7, .int v29), (0, .ref (q 53)), (2, .int b2), (3, .int b3), (4, .int b4), (5, .int b5), (6, .int b6)]) X.x X.b (dk DX12_lays_2 0 rfl) hl (k := 6) rfl (by rw [e30]; rfl) (by decide) rfl (fun ls hl => ?_)
      replace hl : lv_has ls 8 [(0, .ref (q 53)), (2, .int b2), (3, .int b3), (4, .int b4), (5, .int b5), (6, .int b6), (7, .int v29)] := lv_sub hl [1, 2, 3, 4, 5, 6, 0] rfl
      refine lv_goto (tgt := 78) X.x X.b (dk DX12_lays_2 1 rfl) (by decide) ?_
      exact (lp_l hF hx) _ _ _ hH (lv_sub hl [0, 1, 2, 3, 4, 5, 6] rfl) K0
    · replace hF := if_f hF c28
      refine lv_iload X.x X.b (dk DX12_lays_0 57 rfl) (lv_at hl 6 rfl) ?_
      refine lv_aload_n X.x X.b (dk DX12_lays_0 58 rfl) rfl (lv_at hl 0 rfl) ?_
      refine og_getR (t := 0) OX12 X hq hH 28 (by decide) rfl kF_X12_42 (dk DX12_lays_0 59 rfl) ?_
      refine lv_iload X.x X.b (dk DX12_lays_1 0 rfl) (lv_at hl 5 rfl) ?_
      obtain ⟨c31, hF⟩ := gd hF
      refine og_iald X hq hH 28 (by decide) rfl (inb_in c31) (dk DX12_lays_1 1 rfl) ?_
      refine lv_icmp_ne (tgt := 110) X.x X.b (dk DX12_lays_1 2 rfl) (by decide) (fun c32 => ?_) (fun c32 => ?_)
      · replace hF := if_f hF c32
        refine lv_aload_n X.x X.b (dk DX12_lays_1 4 rfl) rfl (lv_at hl 0 rfl) ?_
        refine og_getR (t := 0) OX12 X hq hH 27 (by decide) rfl kF_X12_39 (dk DX12_lays_1 5 rfl) ?_
        refine lv_iload X.x X.b (dk DX12_lays_1 6 rfl) (lv_at hl 6 rfl) ?_
        obtain ⟨c33, hF⟩ := gd hF
        refine og_iald X hq hH 27 (by decide) rfl (inb_in c33) (dk DX12_lays_1 7 rfl) ?_
        refine lv_iconst (v := (-1)) X.x X.b (dk DX12_lays_1 8 rfl) (by decide) ?_
        refine lv_icmp_ne (tgt := 161) X.x X.b (dk DX12_lays_1 9 rfl) (by decide) (fun c34 => ?_) (fun c34 => ?_)
        · replace hF := if_f hF c34
          refine lv_iload_n X.x X.b (dk DX12_lays_1 32 rfl) rfl (lv_at hl 2 rfl) ?_
          refine lv_iconst (v := (-1)) X.x X.b (dk DX12_lays_1 33 rfl) (by decide) ?_
          refine lv_icmp_eq (tgt := 187) X.x X.b (dk DX12_lays_1 34 rfl) (by decide) (fun c35 => ?_) (fun c35 => ?_)
          · replace hF := if_t hF c35
            refine lv_aload_n X.x X.b (dk DX12_lays_1 48 rfl) rfl (lv_at hl 0 rfl) ?_
            refine og_getR (t := 0) OX12 X hq hH 27 (by decide) rfl kF_X12_39 (dk DX12_lays_1 49 rfl) ?_
            refine lv_iload X.x X.b (dk DX12_lays_1 50 rfl) (lv_at hl 5 rfl) ?_
            refine og_iald X hq hH 27 (by decide) rfl (inb_in c31) (dk DX12_lays_1 51 rfl) ?_
            refine lv_aload_n X.x X.b (dk DX12_lays_1 52 rfl) rfl (lv_at hl 0 rfl) ?_
            refine og_getR (t := 0) OX12 X hq hH 27 (by decide) rfl kF_X12_39 (dk DX12_lays_1 53 rfl) ?_
            refine lv_iload X.x X.b (dk DX12_lays_1 54 rfl) (lv_at hl 6 rfl) ?_
            refine og_iald X hq hH 27 (by decide) rfl (inb_in c33) (dk DX12_lays_1 55 rfl) ?_
            refine lv_iadd X.x X.b (dk DX12_lays_1 56 rfl) ?_
            refine lv_iconst (v := 1) X.x X.b (dk DX12_lays_1 57 rfl) (by decide) ?_
            refine lv_iadd X.x X.b (dk DX12_lays_1 58 rfl) ?_
            refine lv_topi (fun v36 e37 => ?_)
            replace hF := bnd_e hF e37
            refine lv_istore_n (lv' := [(3, .int v36), (0, .ref (q 53)), (2, .int b2), (4, .int b4), (5, .int b5), (6, .int b6), (7, .int b7)]) X.x X.b (dk DX12_lays_1 59 rfl) rfl hl (by decide) rfl (fun ls hl => ?_)
            replace hl : lv_has ls 8 [(0, .ref (q 53)), (2, .int b2), (3, .int v36), (4, .int b4), (5, .int b5), (6, .int b6), (7, .int b7)] := lv_sub hl [1, 2, 0, 3, 4, 5, 6] rfl
            obtain ⟨v38, e39⟩ : ∃ y : Int32, y = b7 + 1 := ⟨_, rfl⟩
            replace hF := bnd_e hF e39
            refine lv_iinc (v := v38) (lv' := [(7, .int v38), (0, .ref (q 53)), (2, .int b2), (3, .int v36), (4, .int b4), (5, .int b5), (6, .int b6)]) X.x X.b (dk DX12_lays_2 0 rfl) hl (k := 6) rfl (by rw [e39]; rfl) (by decide) rfl (fun ls hl => ?_)
            replace hl : lv_has ls 8 [(0, .ref (q 53)), (2, .int b2), (3, .int v36), (4, .int b4), (5, .int b5), (6, .int b6), (7, .int v38)] := lv_sub hl [1, 2, 3, 4, 5, 6, 0] rfl
            refine lv_goto (tgt := 78) X.x X.b (dk DX12_lays_2 1 rfl) (by decide) ?_
            exact (lp_l hF hx) _ _ _ hH (lv_sub hl [0, 1, 2, 3, 4, 5, 6] rfl) K0
          · replace hF := if_f hF c35
            refine lv_aload_n X.x X.b (dk DX12_lays_1 35 rfl) rfl (lv_at hl 0 rfl) ?_
            refine og_getR (t := 0) OX12 X hq hH 27 (by decide) rfl kF_X12_39 (dk DX12_lays_1 36 rfl) ?_
            refine lv_iload X.x X.b (dk DX12_lays_1 37 rfl) (lv_at hl 5 rfl) ?_
            refine og_iald X hq hH 27 (by decide) rfl (inb_in c31) (dk DX12_lays_1 38 rfl) ?_
            refine lv_aload_n X.x X.b (dk DX12_lays_1 39 rfl) rfl (lv_at hl 0 rfl) ?_
            refine og_getR (t := 0) OX12 X hq hH 27 (by decide) rfl kF_X12_39 (dk DX12_lays_1 40 rfl) ?_
            refine lv_iload X.x X.b (dk DX12_lays_1 41 rfl) (lv_at hl 6 rfl) ?_
            refine og_iald X hq hH 27 (by decide) rfl (inb_in c33) (dk DX12_lays_1 42 rfl) ?_
            refine lv_iadd X.x X.b (dk DX12_lays_1 43 rfl) ?_
            refine lv_iconst (v := 1) X.x X.b (dk DX12_lays_1 44 rfl) (by decide) ?_
            refine lv_iadd X.x X.b (dk DX12_lays_1 45 rfl) ?_
            refine lv_iload_n X.x X.b (dk DX12_lays_1 46 rfl) rfl (lv_at hl 2 rfl) ?_
            refine lv_icmp_ge (tgt := 205) X.x X.b (dk DX12_lays_1 47 rfl) (by decide) (fun c40 => ?_) (fun c40 => ?_)
            · replace hF := if_t hF c40
              obtain ⟨v41, e42⟩ : ∃ y : Int32, y = b7 + 1 := ⟨_, rfl⟩
              replace hF := bnd_e hF e42
              refine lv_iinc (v := v41) (lv' := [(7, .int v41), (0, .ref (q 53)), (2, .int b2), (3, .int b3), (4, .int b4), (5, .int b5), (6, .int b6)]) X.x X.b (dk DX12_lays_2 0 rfl) hl (k := 6) rfl (by rw [e42]; rfl) (by decide) rfl (fun ls hl => ?_)
              replace hl : lv_has ls 8 [(0, .ref (q 53)), (2, .int b2), (3, .int b3), (4, .int b4), (5, .int b5), (6, .int b6), (7, .int v41)] := lv_sub hl [1, 2, 3, 4, 5, 6, 0] rfl
              refine lv_goto (tgt := 78) X.x X.b (dk DX12_lays_2 1 rfl) (by decide) ?_
              exact (lp_l hF hx) _ _ _ hH (lv_sub hl [0, 1, 2, 3, 4, 5, 6] rfl) K0
            · replace hF := if_f hF c40
              refine lv_aload_n X.x X.b (dk DX12_lays_1 48 rfl) rfl (lv_at hl 0 rfl) ?_
              refine og_getR (t := 0) OX12 X hq hH 27 (by decide) rfl kF_X12_39 (dk DX12_lays_1 49 rfl) ?_
              refine lv_iload X.x X.b (dk DX12_lays_1 50 rfl) (lv_at hl 5 rfl) ?_
              refine og_iald X hq hH 27 (by decide) rfl (inb_in c31) (dk DX12_lays_1 51 rfl) ?_
              refine lv_aload_n X.x X.b (dk DX12_lays_1 52 rfl) rfl (lv_at hl 0 rfl) ?_
              refine og_getR (t := 0) OX12 X hq hH 27 (by decide) rfl kF_X12_39 (dk DX12_lays_1 53 rfl) ?_
              refine lv_iload X.x X.b (dk DX12_lays_1 54 rfl) (lv_at hl 6 rfl) ?_
              refine og_iald X hq hH 27 (by decide) rfl (inb_in c33) (dk DX12_lays_1 55 rfl) ?_
              refine lv_iadd X.x X.b (dk DX12_lays_1 56 rfl) ?_
              refine lv_iconst (v := 1) X.x X.b (dk DX12_lays_1 57 rfl) (by decide) ?_
              refine lv_iadd X.x X.b (dk DX12_lays_1 58 rfl) ?_
              refine lv_topi (fun v43 e44 => ?_)
              replace hF := bnd_e hF e44
              refine lv_istore_n (lv' := [(3, .int v43), (0, .ref (q 53)), (2, .int b2), (4, .int b4), (5, .int b5), (6, .int b6), (7, .int b7)]) X.x X.b (dk DX12_lays_1 59 rfl) rfl hl (by decide) rfl (fun ls hl => ?_)
              replace hl : lv_has ls 8 [(0, .ref (q 53)), (2, .int b2), (3, .int v43), (4, .int b4), (5, .int b5), (6, .int b6), (7, .int b7)] := lv_sub hl [1, 2, 0, 3, 4, 5, 6] rfl
              obtain ⟨v45, e46⟩ : ∃ y : Int32, y = b7 + 1 := ⟨_, rfl⟩
              replace hF := bnd_e hF e46
              refine lv_iinc (v := v45) (lv' := [(7, .int v45), (0, .ref (q 53)), (2, .int b2), (3, .int v43), (4, .int b4), (5, .int b5), (6, .int b6)]) X.x X.b (dk DX12_lays_2 0 rfl) hl (k := 6) rfl (by rw [e46]; rfl) (by decide) rfl (fun ls hl => ?_)
              replace hl : lv_has ls 8 [(0, .ref (q 53)), (2, .int b2), (3, .int v43), (4, .int b4), (5, .int b5), (6, .int b6), (7, .int v45)] := lv_sub hl [1, 2, 3, 4, 5, 6, 0] rfl
              refine lv_goto (tgt := 78) X.x X.b (dk DX12_lays_2 1 rfl) (by decide) ?_
              exact (lp_l hF hx) _ _ _ hH (lv_sub hl [0, 1, 2, 3, 4, 5, 6] rfl) K0
        · replace hF := if_t hF c34
          refine lv_aload_n X.x X.b (dk DX12_lays_1 10 rfl) rfl (lv_at hl 0 rfl) ?_
          refine og_getR (t := 0) OX12 X hq hH 27 (by decide) rfl kF_X12_39 (dk DX12_lays_1 11 rfl) ?_
          refine lv_iload X.x X.b (dk DX12_lays_1 12 rfl) (lv_at hl 6 rfl) ?_
          refine lv_aload_n X.x X.b (dk DX12_lays_1 13 rfl) rfl (lv_at hl 0 rfl) ?_
          refine og_getR (t := 0) OX12 X hq hH 27 (by decide) rfl kF_X12_39 (dk DX12_lays_1 14 rfl) ?_
          refine lv_iload X.x X.b (dk DX12_lays_1 15 rfl) (lv_at hl 5 rfl) ?_
          refine og_iald X hq hH 27 (by decide) rfl (inb_in c31) (dk DX12_lays_1 16 rfl) ?_
          refine lv_iconst (v := 1) X.x X.b (dk DX12_lays_1 17 rfl) (by decide) ?_
          refine lv_iadd X.x X.b (dk DX12_lays_1 18 rfl) ?_
          refine og_iast X hq hH 27 (by decide) rfl (inb_in c33) (dk DX12_lays_1 19 rfl) (fun H locs hH => ?_)
          obtain ⟨t47, e48⟩ : ∃ y, y = oA s_t 27 (upd (s_t.2.2.1 27) (b7 : Int32).toNatClampNeg ((s_t.2.2.1 27 (b6 : Int32).toNatClampNeg) + 1)) := ⟨_, rfl⟩
          rw [← e48] at hH
          replace hF := bnd_e hF e48
          refine lv_aload_n X.x X.b (dk DX12_lays_1 20 rfl) rfl (lv_at hl 0 rfl) ?_
          refine og_getR (t := 0) OX12 X hq hH 28 (by decide) rfl kF_X12_42 (dk DX12_lays_1 21 rfl) ?_
          refine lv_iload X.x X.b (dk DX12_lays_1 22 rfl) (lv_at hl 6 rfl) ?_
          refine lv_iload X.x X.b (dk DX12_lays_1 23 rfl) (lv_at hl 5 rfl) ?_
          refine og_iast X hq hH 28 (by decide) rfl (inb_in c33) (dk DX12_lays_1 24 rfl) (fun H locs hH => ?_)
          obtain ⟨t49, e50⟩ : ∃ y, y = oA t47 28 (upd (t47.2.2.1 28) (b7 : Int32).toNatClampNeg b6) := ⟨_, rfl⟩
          rw [← e50] at hH
          replace hF := bnd_e hF e50
          refine lv_aload_n X.x X.b (dk DX12_lays_1 25 rfl) rfl (lv_at hl 0 rfl) ?_
          refine og_getR (t := 0) OX12 X hq hH 29 (by decide) rfl kF_X12_45 (dk DX12_lays_1 26 rfl) ?_
          refine lv_iload X.x X.b (dk DX12_lays_1 27 rfl) (lv_at hl 3 rfl) ?_
          refine lv_iload X.x X.b (dk DX12_lays_1 28 rfl) (lv_at hl 6 rfl) ?_
          obtain ⟨c51, hF⟩ := gd hF
          refine og_iast X hq hH 29 (by decide) rfl (inb_in c51) (dk DX12_lays_1 29 rfl) (fun H locs hH => ?_)
          obtain ⟨t52, e53⟩ : ∃ y, y = oA t49 29 (upd (t49.2.2.1 29) (b4 : Int32).toNatClampNeg b7) := ⟨_, rfl⟩
          rw [← e53] at hH
          replace hF := bnd_e hF e53
          obtain ⟨v54, e55⟩ : ∃ y : Int32, y = b4 + 1 := ⟨_, rfl⟩
          replace hF := bnd_e hF e55
          refine lv_iinc (v := v54) (lv' := [(4, .int v54), (0, .ref (q 53)), (2, .int b2), (3, .int b3), (5, .int b5), (6, .int b6), (7, .int b7)]) X.x X.b (dk DX12_lays_1 30 rfl) hl (k := 3) rfl (by rw [e55]; rfl) (by decide) rfl (fun ls hl => ?_)
          replace hl : lv_has ls 8 [(0, .ref (q 53)), (2, .int b2), (3, .int b3), (4, .int v54), (5, .int b5), (6, .int b6), (7, .int b7)] := lv_sub hl [1, 2, 3, 0, 4, 5, 6] rfl
          refine lv_goto (tgt := 205) X.x X.b (dk DX12_lays_1 31 rfl) (by decide) ?_
          obtain ⟨v56, e57⟩ : ∃ y : Int32, y = b7 + 1 := ⟨_, rfl⟩
          replace hF := bnd_e hF e57
          refine lv_iinc (v := v56) (lv' := [(7, .int v56), (0, .ref (q 53)), (2, .int b2), (3, .int b3), (4, .int v54), (5, .int b5), (6, .int b6)]) X.x X.b (dk DX12_lays_2 0 rfl) hl (k := 6) rfl (by rw [e57]; rfl) (by decide) rfl (fun ls hl => ?_)
          replace hl : lv_has ls 8 [(0, .ref (q 53)), (2, .int b2), (3, .int b3), (4, .int v54), (5, .int b5), (6, .int b6), (7, .int v56)] := lv_sub hl [1, 2, 3, 4, 5, 6, 0] rfl
          refine lv_goto (tgt := 78) X.x X.b (dk DX12_lays_2 1 rfl) (by decide) ?_
          exact (lp_l hF hx) _ _ _ hH (lv_sub hl [0, 1, 2, 3, 4, 5, 6] rfl) K0
      · replace hF := if_t hF c32
        refine lv_goto (tgt := 205) X.x X.b (dk DX12_lays_1 3 rfl) (by decide) ?_
        obtain ⟨v58, e59⟩ : ∃ y : Int32, y = b7 + 1 := ⟨_, rfl⟩
        replace hF := bnd_e hF e59
        refine lv_iinc (v := v58) (lv' := [(7, .int v58), (0, .ref (q 53)), (2, .int b2), (3, .int b3), (4, .int b4), (5, .int b5), (6, .int b6)]) X.x X.b (dk DX12_lays_2 0 rfl) hl (k := 6) rfl (by rw [e59]; rfl) (by decide) rfl (fun ls hl => ?_)
        replace hl : lv_has ls 8 [(0, .ref (q 53)), (2, .int b2), (3, .int b3), (4, .int b4), (5, .int b5), (6, .int b6), (7, .int v58)] := lv_sub hl [1, 2, 3, 4, 5, 6, 0] rfl
        refine lv_goto (tgt := 78) X.x X.b (dk DX12_lays_2 1 rfl) (by decide) ?_
        exact (lp_l hF hx) _ _ _ hH (lv_sub hl [0, 1, 2, 3, 4, 5, 6] rfl) K0
set_option maxHeartbeats 4000000 in
set_option maxRecDepth 100000 in
theorem w_X12_lays_59 {p : Program} {l : Launch} {e : Env} {s : State} {m : MethodId} {args : Array Value} {below : List Frame} {meth : Method} {c : Code} {Q : State → Prop} {G : mG} {h : mM} {q : Nat → Nat} (hq : oinj LX12 q) (X : mX G p m c cX12_lays 8 s args RX12) (b2 : Int32) : ∀ (z : OS × Int32 × Int32 × Int32) (r : OS × Int32), lpv (f_X12_lays_59 b2) z = some r → ∀ (H : Heap) (locs : List Loc) (ls : Array Slot), mH G (oset LX12 G q z.1 h) s.heap H locs → lv_has ls 8 [(0, .ref (q 53)), (2, .int b2), (3, .int z.2.1), (4, .int z.2.2.1), (5, .int z.2.2.2)] → (∀ (H : Heap) (locs : List Loc) (ls : Array Slot), mH G (oset LX12 G q r.1 h) s.heap H locs → lv_has ls 8 [(3, .int r.2)] → W p l e rm_X12_lays s m args below meth c H locs 0 0 Q (F0 m 217 ls [])) → W p l e rm_X12_lays s m args below meth c H locs 0 0 Q (F0 m 59 ls []) := by
  refine lpv_rec ?_
  intro z r x hF hx H locs ls hH hl K0
  obtain ⟨s_t, b3, b4, b5⟩ := z
  dsimp only [f_X12_lays_59] at hF
  try dsimp only at hH hl
  refine lv_iload X.x X.b (dk DX12_lays_0 39 rfl) (lv_at hl 4 rfl) ?_
  refine lv_iload X.x X.b (dk DX12_lays_0 40 rfl) (lv_at hl 3 rfl) ?_
  refine lv_icmp_ge (tgt := 217) X.x X.b (dk DX12_lays_0 41 rfl) (by decide) (fun c20 => ?_) (fun c20 => ?_)
  · replace hF := if_t hF c20
    have hr9 := lp_r hF hx
    subst hr9
    exact K0 _ _ _ hH (lv_sub hl [2] rfl)
  · replace hF := if_f hF c20
    refine lv_aload_n X.x X.b (dk DX12_lays_0 42 rfl) rfl (lv_at hl 0 rfl) ?_
    refine og_getR (t := 0) OX12 X hq hH 29 (by decide) rfl kF_X12_45 (dk DX12_lays_0 43 rfl) ?_
    refine lv_iload X.x X.b (dk DX12_lays_0 44 rfl) (lv_at hl 4 rfl) ?_
    obtain ⟨c21, hF⟩ := gd hF
    refine og_iald X hq hH 29 (by decide) rfl (inb_in c21) (dk DX12_lays_0 45 rfl) ?_
    refine lv_topi (fun v22 e23 => ?_)
    replace hF := bnd_e hF e23
    refine lv_istore (lv' := [(6, .int v22), (0, .ref (q 53)), (2, .int b2), (3, .int b3), (4, .int b4), (5, .int b5)]) X.x X.b (dk DX12_lays_0 46 rfl) hl (by decide) rfl (fun ls hl => ?_)
    replace hl : lv_has ls 8 [(0, .ref (q 53)), (2, .int b2), (3, .int b3), (4, .int b4), (5, .int b5), (6, .int v22)] := lv_sub hl [1, 2, 3, 4, 5, 0] rfl
    refine lv_iconst (v := 0) X.x X.b (dk DX12_lays_0 47 rfl) (by decide) ?_
    refine lv_istore (lv' := [(7, .int 0), (0, .ref (q 53)), (2, .int b2), (3, .int b3), (4, .int b4), (5, .int b5), (6, .int v22)]) X.x X.b (dk DX12_lays_0 48 rfl) hl (by decide) rfl (fun ls hl => ?_)
    replace hl : lv_has ls 8 [(0, .ref (q 53)), (2, .int b2), (3, .int b3), (4, .int b4), (5, .int b5), (6, .int v22), (7, .int 0)] := lv_sub hl [1, 2, 3, 4, 5, 6, 0] rfl
    obtain ⟨x60, e61, hF⟩ := bd hF
    replace hl : lv_has ls 8 [(0, .ref (q 53)), (2, .int b2), (3, .int b3), (4, .int b4), (5, .int b5), (6, .int v22), (7, .int 0)] := lv_sub hl [0, 1, 2, 3, 4, 5, 6] rfl
    obtain ⟨t62, v63, v64⟩ := x60
    try dsimp only at hF
    refine w_X12_lays_78 hq X b2 b5 v22 _ _ e61 _ _ _ hH hl (fun H locs ls hH hl => ?_)
    try dsimp only at hH hl
    obtain ⟨v65, e66⟩ : ∃ y : Int32, y = b5 + 1 := ⟨_, rfl⟩
    replace hF := bnd_e hF e66
    refine lv_iinc (v := v65) (lv' := [(5, .int v65), (0, .ref (q 53)), (2, .int b2), (3, .int v63), (4, .int v64)]) X.x X.b (dk DX12_lays_2 2 rfl) hl (k := 4) rfl (by rw [e66]; rfl) (by decide) rfl (fun ls hl => ?_)
    replace hl : lv_has ls 8 [(0, .ref (q 53)), (2, .int b2), (3, .int v63), (4, .int v64), (5, .int v65)] := lv_sub hl [1, 2, 3, 4, 0] rfl
    refine lv_goto (tgt := 59) X.x X.b (dk DX12_lays_2 3 rfl) (by decide) ?_
    exact (lp_l hF hx) _ _ _ hH (lv_sub hl [0, 1, 2, 3, 4] rfl) K0
set_option maxHeartbeats 4000000 in
set_option maxRecDepth 100000 in
theorem c_X12_lays {l : Launch} {G : mG} {h : mM} {q : Nat → Nat} (hq : oinj LX12 q) {st : OS} {a0 : Int32} {x : Int32 × OS} (hF : f_X12_lays st a0 = some x) : cQ l G yX12_lays cX12_lays 8 (some FieldType.int) rm_X12_lays [.ref (q 53), .int a0] (oset LX12 G q st h) (mQi G (fun r h1 => r = x.1 ∧ h1 = oset LX12 G q x.2 h)) := by
  refine mp_of (by decide +kernel) (Nat.le_of_ble_eq_true rfl) ?_
  intro p e s m below meth c X hr hlk hH hname ls hl
  dsimp only [f_X12_lays] at hF
  replace hl : lv_has ls 8 [(0, .ref (q 53)), (1, .int a0)] := hl
  refine lv_aload_n X.x X.b (dk DX12_lays_0 0 rfl) rfl (lv_at hl 0 rfl) ?_
  refine og_getI OX12 X hq hH 0 (by decide) rfl kF_X12_248 (dk DX12_lays_0 1 rfl) ?_
  refine lv_aload_n X.x X.b (dk DX12_lays_0 2 rfl) rfl (lv_at hl 0 rfl) ?_
  refine og_getI OX12 X hq hH 1 (by decide) rfl kF_X12_250 (dk DX12_lays_0 3 rfl) ?_
  refine lv_iadd X.x X.b (dk DX12_lays_0 4 rfl) ?_
  refine lv_topi (fun v1 e2 => ?_)
  replace hF := bnd_e hF e2
  refine lv_istore_n (lv' := [(2, .int v1), (0, .ref (q 53)), (1, .int a0)]) X.x X.b (dk DX12_lays_0 5 rfl) rfl hl (by decide) rfl (fun ls hl => ?_)
  replace hl : lv_has ls 8 [(0, .ref (q 53)), (1, .int a0), (2, .int v1)] := lv_sub hl [1, 2, 0] rfl
  refine lv_iconst (v := 0) X.x X.b (dk DX12_lays_0 6 rfl) (by decide) ?_
  refine lv_istore_n (lv' := [(3, .int 0), (0, .ref (q 53)), (1, .int a0), (2, .int v1)]) X.x X.b (dk DX12_lays_0 7 rfl) rfl hl (by decide) rfl (fun ls hl => ?_)
  replace hl : lv_has ls 8 [(0, .ref (q 53)), (1, .int a0), (2, .int v1), (3, .int 0)] := lv_sub hl [1, 2, 3, 0] rfl
  obtain ⟨x9, e10, hF⟩ := bd hF
  replace hl : lv_has ls 8 [(0, .ref (q 53)), (1, .int a0), (2, .int v1), (3, .int 0)] := lv_sub hl [0, 1, 2, 3] rfl
  refine w_X12_lays_12 hq X a0 v1 _ _ e10 _ _ _ hH hl (fun H locs ls hH hl => ?_)
  refine lv_iconst (v := (-1)) X.x X.b (dk DX12_lays_0 18 rfl) (by decide) ?_
  refine lv_istore_n (lv' := [(3, .int ((-1))), (0, .ref (q 53)), (1, .int a0), (2, .int v1)]) X.x X.b (dk DX12_lays_0 19 rfl) rfl hl (by decide) rfl (fun ls hl => ?_)
  replace hl : lv_has ls 8 [(0, .ref (q 53)), (1, .int a0), (2, .int v1), (3, .int ((-1)))] := lv_sub hl [1, 2, 3, 0] rfl
  refine lv_iconst (v := 1) X.x X.b (dk DX12_lays_0 20 rfl) (by decide) ?_
  refine lv_istore (lv' := [(4, .int 1), (0, .ref (q 53)), (1, .int a0), (2, .int v1), (3, .int ((-1)))]) X.x X.b (dk DX12_lays_0 21 rfl) hl (by decide) rfl (fun ls hl => ?_)
  replace hl : lv_has ls 8 [(0, .ref (q 53)), (1, .int a0), (2, .int v1), (3, .int ((-1))), (4, .int 1)] := lv_sub hl [1, 2, 3, 4, 0] rfl
  refine lv_aload_n X.x X.b (dk DX12_lays_0 22 rfl) rfl (lv_at hl 0 rfl) ?_
  refine og_getR (t := 0) OX12 X hq hH 27 (by decide) rfl kF_X12_39 (dk DX12_lays_0 23 rfl) ?_
  refine lv_iload_n X.x X.b (dk DX12_lays_0 24 rfl) rfl (lv_at hl 1 rfl) ?_
  refine lv_iconst (v := 0) X.x X.b (dk DX12_lays_0 25 rfl) (by decide) ?_
  obtain ⟨c12, hF⟩ := gd hF
  refine og_iast X hq hH 27 (by decide) rfl (inb_in c12) (dk DX12_lays_0 26 rfl) (fun H locs hH => ?_)
  obtain ⟨t13, e14⟩ : ∃ y, y = oA x9 27 (upd (x9.2.2.1 27) (a0 : Int32).toNatClampNeg 0) := ⟨_, rfl⟩
  rw [← e14] at hH
  replace hF := bnd_e hF e14
  refine lv_aload_n X.x X.b (dk DX12_lays_0 27 rfl) rfl (lv_at hl 0 rfl) ?_
  refine og_getR (t := 0) OX12 X hq hH 28 (by decide) rfl kF_X12_42 (dk DX12_lays_0 28 rfl) ?_
  refine lv_iload_n X.x X.b (dk DX12_lays_0 29 rfl) rfl (lv_at hl 1 rfl) ?_
  refine lv_iconst (v := (-1)) X.x X.b (dk DX12_lays_0 30 rfl) (by decide) ?_
  refine og_iast X hq hH 28 (by decide) rfl (inb_in c12) (dk DX12_lays_0 31 rfl) (fun H locs hH => ?_)
  obtain ⟨t15, e16⟩ : ∃ y, y = oA t13 28 (upd (t13.2.2.1 28) (a0 : Int32).toNatClampNeg ((-1))) := ⟨_, rfl⟩
  rw [← e16] at hH
  replace hF := bnd_e hF e16
  refine lv_aload_n X.x X.b (dk DX12_lays_0 32 rfl) rfl (lv_at hl 0 rfl) ?_
  refine og_getR (t := 0) OX12 X hq hH 29 (by decide) rfl kF_X12_45 (dk DX12_lays_0 33 rfl) ?_
  refine lv_iconst (v := 0) X.x X.b (dk DX12_lays_0 34 rfl) (by decide) ?_
  refine lv_iload_n X.x X.b (dk DX12_lays_0 35 rfl) rfl (lv_at hl 1 rfl) ?_
  obtain ⟨c17, hF⟩ := gd hF
  refine og_iast X hq hH 29 (by decide) rfl (inb_in c17) (dk DX12_lays_0 36 rfl) (fun H locs hH => ?_)
  obtain ⟨t18, e19⟩ : ∃ y, y = oA t15 29 (upd (t15.2.2.1 29) (0 : Int32).toNatClampNeg a0) := ⟨_, rfl⟩
  rw [← e19] at hH
  replace hF := bnd_e hF e19
  refine lv_iconst (v := 0) X.x X.b (dk DX12_lays_0 37 rfl) (by decide) ?_
  refine lv_istore (lv' := [(5, .int 0), (0, .ref (q 53)), (1, .int a0), (2, .int v1), (3, .int ((-1))), (4, .int 1)]) X.x X.b (dk DX12_lays_0 38 rfl) hl (by decide) rfl (fun ls hl => ?_)
  replace hl : lv_has ls 8 [(0, .ref (q 53)), (2, .int v1), (3, .int ((-1))), (4, .int 1), (5, .int 0)] := lv_sub hl [1, 3, 4, 5, 0] rfl
  obtain ⟨x67, e68, hF⟩ := bd hF
  replace hl : lv_has ls 8 [(0, .ref (q 53)), (2, .int v1), (3, .int ((-1))), (4, .int 1), (5, .int 0)] := lv_sub hl [0, 1, 2, 3, 4] rfl
  obtain ⟨t69, v70⟩ := x67
  try dsimp only at hF
  refine w_X12_lays_59 hq X v1 _ _ e68 _ _ _ hH hl (fun H locs ls hH hl => ?_)
  try dsimp only at hH hl
  refine lv_iload_n X.x X.b (dk DX12_lays_2 4 rfl) rfl (lv_at hl 0 rfl) ?_
  cases sm hF
  exact mr_iret X hr hlk hH ⟨rfl, rfl⟩ (dk DX12_lays_2 5 rfl)
-- X12_far
abbrev rm_X12_far : Room := { frames := 3, cells := 0, slots := 0, locals := 71 }
theorem hd_X12_far : mHd yX12_far 2 := ⟨by decide +kernel, by decide +kernel, by decide +kernel⟩
theorem DX12_far_0 : ∀ t ∈ ([(0, .aload_n 0, 1), (1, .iconst 0, 1), (2, .putfield 106, 3), (5, .aload_n 0, 1), (6, .iload_n 1, 1), (7, .invokevirtual 266, 3), (10, .ifCond .eq 11, 3), (13, .aload_n 0, 1), (14, .iload_n 2, 1), (15, .invokevirtual 266, 3), (18, .ifCond .ne 9, 3), (21, .aload_n 0, 1), (22, .iconst 1, 1), (23, .invokevirtual 236, 3), (26, .ireturn, 1), (27, .aload_n 0, 1), (28, .iload_n 1, 1), (29, .invokevirtual 353, 3), (32, .pop, 1), (33, .aload_n 0, 1), (34, .getfield 39, 3), (37, .iload_n 2, 1), (38, .iaload, 1), (39, .ireturn, 1)] : List (Nat × Instr × Nat)), decode cX12_far t.1 = .ok (t.2.1, t.2.2) := by decide +kernel
noncomputable def f_X12_far (st : OS) (a0 : Int32) (a1 : Int32) : Option (Int32 × OS) := bnd (oI st 2 0) (fun t1 => (f_X12_isPoint t1 a0).bind (fun x3 => (if x3 = 0 then (f_X12_fails t1 1).bind (fun x7 => match x7 with | (v9, t10) => some ((v9, t10))) else (f_X12_isPoint t1 a1).bind (fun x11 => (if x11 = 0 then (f_X12_fails t1 1).bind (fun x20 => match x20 with | (v22, t23) => some ((v22, t23))) else (f_X12_lays t1 a0).bind (fun x15 => match x15 with | (v17, t18) => if inb a1 128 = true then some ((t18.2.2.1 27 (a1 : Int32).toNatClampNeg, t18)) else none))))))
set_option maxHeartbeats 4000000 in
set_option maxRecDepth 100000 in
theorem c_X12_far {l : Launch} {G : mG} {h : mM} {q : Nat → Nat} (hq : oinj LX12 q) {st : OS} {a0 : Int32} {a1 : Int32} {x : Int32 × OS} (hF : f_X12_far st a0 a1 = some x) : cQ l G yX12_far cX12_far 3 (some FieldType.int) rm_X12_far [.ref (q 53), .int a0, .int a1] (oset LX12 G q st h) (mQi G (fun r h1 => r = x.1 ∧ h1 = oset LX12 G q x.2 h)) := by
  refine mp_of (by decide +kernel) (Nat.le_of_ble_eq_true rfl) ?_
  intro p e s m below meth c X hr hlk hH hname ls hl
  dsimp only [f_X12_far] at hF
  replace hl : lv_has ls 3 [(0, .ref (q 53)), (1, .int a0), (2, .int a1)] := hl
  refine lv_aload_n X.x X.b (dk DX12_far_0 0 rfl) rfl (lv_at hl 0 rfl) ?_
  refine lv_iconst (v := 0) X.x X.b (dk DX12_far_0 1 rfl) (by decide) ?_
  refine og_putI OX12 X hq hH 2 (by decide) rfl kF_X12_106 rfl rfl rfl (dk DX12_far_0 2 rfl) (fun H locs hH => ?_)
  obtain ⟨t1, e2⟩ : ∃ y, y = oI st 2 0 := ⟨_, rfl⟩
  rw [← e2] at hH
  replace hF := bnd_e hF e2
  refine lv_aload_n X.x X.b (dk DX12_far_0 3 rfl) rfl (lv_at hl 0 rfl) ?_
  refine lv_iload_n X.x X.b (dk DX12_far_0 4 rfl) rfl (lv_at hl 1 rfl) ?_
  obtain ⟨x3, e4, hF⟩ := bd hF
  refine mr_ci0 hH ⟨rfl, rfl⟩ (mr_runV (As := [.int a0]) (rest := []) X hH (c_X12_isPoint hq e4) ((oset_at hq (Nat.le_refl _) ohas_N).trans (congrArg some ocell_N)) OX12.1 kM_X12_266 kI_X12_isPoint kS_X12_isPoint kN_X12 kC_X12_isPoint hd_X12_isPoint ⟨Nat.le_of_ble_eq_true rfl, Nat.le_of_ble_eq_true rfl⟩ rfl hl.1 (Nat.le_of_ble_eq_true rfl) (dk DX12_far_0 5 rfl) ⟨Nat.zero_le _, Nat.zero_le _⟩) (fun r h1 H locs hp hH => ?_)
  obtain ⟨hr1, hr2⟩ := hp; rw [hr1]; rw [hr2] at hH; clear hr1 hr2
  refine lv_if_eq (tgt := 21) X.x X.b (dk DX12_far_0 6 rfl) (by decide) (fun c6 => ?_) (fun c6 => ?_)
  · replace hF := if_t hF c6
    refine lv_aload_n X.x X.b (dk DX12_far_0 11 rfl) rfl (lv_at hl 0 rfl) ?_
    refine lv_iconst (v := 1) X.x X.b (dk DX12_far_0 12 rfl) (by decide) ?_
    obtain ⟨x7, e8, hF⟩ := bd hF
    refine mr_ci0 hH ⟨rfl, rfl⟩ (mr_runV (As := [.int 1]) (rest := []) X hH (c_X12_fails hq e8) ((oset_at hq (Nat.le_refl _) ohas_N).trans (congrArg some ocell_N)) OX12.1 kM_X12_236 kI_X12_fails kS_X12_fails kN_X12 kC_X12_fails hd_X12_fails ⟨Nat.le_of_ble_eq_true rfl, Nat.le_of_ble_eq_true rfl⟩ rfl hl.1 (Nat.le_of_ble_eq_true rfl) (dk DX12_far_0 13 rfl) ⟨Nat.zero_le _, Nat.zero_le _⟩) (fun r h1 H locs hp hH => ?_)
    obtain ⟨hr1, hr2⟩ := hp; rw [hr1]; rw [hr2] at hH; clear hr1 hr2
    obtain ⟨v9, t10⟩ := x7
    try dsimp only at hF hH ⊢
    cases sm hF
    exact mr_iret X hr hlk hH ⟨rfl, rfl⟩ (dk DX12_far_0 14 rfl)
  · replace hF := if_f hF c6
    refine lv_aload_n X.x X.b (dk DX12_far_0 7 rfl) rfl (lv_at hl 0 rfl) ?_
    refine lv_iload_n X.x X.b (dk DX12_far_0 8 rfl) rfl (lv_at hl 2 rfl) ?_
    obtain ⟨x11, e12, hF⟩ := bd hF
    refine mr_ci0 hH ⟨rfl, rfl⟩ (mr_runV (As := [.int a1]) (rest := []) X hH (c_X12_isPoint hq e12) ((oset_at hq (Nat.le_refl _) ohas_N).trans (congrArg some ocell_N)) OX12.1 kM_X12_266 kI_X12_isPoint kS_X12_isPoint kN_X12 kC_X12_isPoint hd_X12_isPoint ⟨Nat.le_of_ble_eq_true rfl, Nat.le_of_ble_eq_true rfl⟩ rfl hl.1 (Nat.le_of_ble_eq_true rfl) (dk DX12_far_0 9 rfl) ⟨Nat.zero_le _, Nat.zero_le _⟩) (fun r h1 H locs hp hH => ?_)
    obtain ⟨hr1, hr2⟩ := hp; rw [hr1]; rw [hr2] at hH; clear hr1 hr2
    refine lv_if_ne (tgt := 27) X.x X.b (dk DX12_far_0 10 rfl) (by decide) (fun c14 => ?_) (fun c14 => ?_)
    · replace hF := if_f hF c14
      refine lv_aload_n X.x X.b (dk DX12_far_0 15 rfl) rfl (lv_at hl 0 rfl) ?_
      refine lv_iload_n X.x X.b (dk DX12_far_0 16 rfl) rfl (lv_at hl 1 rfl) ?_
      obtain ⟨x15, e16, hF⟩ := bd hF
      refine mr_ci0 hH ⟨rfl, rfl⟩ (mr_runV (As := [.int a0]) (rest := []) X hH (c_X12_lays hq e16) ((oset_at hq (Nat.le_refl _) ohas_N).trans (congrArg some ocell_N)) OX12.1 kM_X12_353 kI_X12_lays kS_X12_lays kN_X12 kC_X12_lays hd_X12_lays ⟨Nat.le_of_ble_eq_true rfl, Nat.le_of_ble_eq_true rfl⟩ rfl hl.1 (Nat.le_of_ble_eq_true rfl) (dk DX12_far_0 17 rfl) ⟨Nat.zero_le _, Nat.zero_le _⟩) (fun r h1 H locs hp hH => ?_)
      obtain ⟨hr1, hr2⟩ := hp; rw [hr1]; rw [hr2] at hH; clear hr1 hr2
      obtain ⟨v17, t18⟩ := x15
      try dsimp only at hF hH ⊢
      refine lv_pop X.x X.b (dk DX12_far_0 18 rfl) rfl ?_
      refine lv_aload_n X.x X.b (dk DX12_far_0 19 rfl) rfl (lv_at hl 0 rfl) ?_
      refine og_getR (t := 0) OX12 X hq hH 27 (by decide) rfl kF_X12_39 (dk DX12_far_0 20 rfl) ?_
      refine lv_iload_n X.x X.b (dk DX12_far_0 21 rfl) rfl (lv_at hl 2 rfl) ?_
      obtain ⟨c19, hF⟩ := gd hF
      refine og_iald X hq hH 27 (by decide) rfl (inb_in c19) (dk DX12_far_0 22 rfl) ?_
      cases sm hF
      exact mr_iret X hr hlk hH ⟨rfl, rfl⟩ (dk DX12_far_0 23 rfl)
    · replace hF := if_t hF c14
      refine lv_aload_n X.x X.b (dk DX12_far_0 11 rfl) rfl (lv_at hl 0 rfl) ?_
      refine lv_iconst (v := 1) X.x X.b (dk DX12_far_0 12 rfl) (by decide) ?_
      obtain ⟨x20, e21, hF⟩ := bd hF
      refine mr_ci0 hH ⟨rfl, rfl⟩ (mr_runV (As := [.int 1]) (rest := []) X hH (c_X12_fails hq e21) ((oset_at hq (Nat.le_refl _) ohas_N).trans (congrArg some ocell_N)) OX12.1 kM_X12_236 kI_X12_fails kS_X12_fails kN_X12 kC_X12_fails hd_X12_fails ⟨Nat.le_of_ble_eq_true rfl, Nat.le_of_ble_eq_true rfl⟩ rfl hl.1 (Nat.le_of_ble_eq_true rfl) (dk DX12_far_0 13 rfl) ⟨Nat.zero_le _, Nat.zero_le _⟩) (fun r h1 H locs hp hH => ?_)
      obtain ⟨hr1, hr2⟩ := hp; rw [hr1]; rw [hr2] at hH; clear hr1 hr2
      obtain ⟨v22, t23⟩ := x20
      try dsimp only at hF hH ⊢
      cases sm hF
      exact mr_iret X hr hlk hH ⟨rfl, rfl⟩ (dk DX12_far_0 14 rfl)
-- X12_widest
abbrev rm_X12_widest : Room := { frames := 3, cells := 0, slots := 0, locals := 71 }
theorem hd_X12_widest : mHd yX12_widest 0 := ⟨by decide +kernel, by decide +kernel, by decide +kernel⟩
theorem DX12_widest_0 : ∀ t ∈ ([(0, .aload_n 0, 1), (1, .iconst 0, 1), (2, .putfield 106, 3), (5, .iconst (-1), 1), (6, .istore_n 1, 1), (7, .iconst 0, 1), (8, .istore_n 2, 1), (9, .iload_n 2, 1), (10, .aload_n 0, 1), (11, .getfield 248, 3), (14, .if_icmp .ge 42, 3), (17, .aload_n 0, 1), (18, .iload_n 2, 1), (19, .invokevirtual 353, 3), (22, .pop, 1), (23, .iconst 0, 1), (24, .istore_n 3, 1), (25, .iload_n 3, 1), (26, .aload_n 0, 1), (27, .getfield 248, 3), (30, .if_icmp .ge 20, 3), (33, .iload_n 1, 1), (34, .aload_n 0, 1), (35, .getfield 39, 3), (38, .iload_n 3, 1), (39, .iaload, 1), (40, .invokestatic 341, 3), (43, .istore_n 1, 1), (44, .iinc 3 1, 3), (47, .goto (-22), 3), (50, .iinc 2 1, 3), (53, .goto (-44), 3), (56, .iload_n 1, 1), (57, .ireturn, 1)] : List (Nat × Instr × Nat)), decode cX12_widest t.1 = .ok (t.2.1, t.2.2) := by decide +kernel
noncomputable def f_X12_widest_25 (s_t : OS) (b2 : Int32) : (Int32 × Int32) → Option ((Int32 × Int32) ⊕ (Int32)) := fun z => match z with | (b1, b3) => (if (s_t.1 0) ≤ b3 then some (.inr b1) else if inb b3 128 = true then (f_J9_max_7cf53 b1 (s_t.2.2.1 27 (b3 : Int32).toNatClampNeg)).bind (fun x10 => bnd (b3 + 1 : Int32) (fun v13 => some (.inl ((x10, v13))))) else none)
noncomputable def f_X12_widest_9 : (OS × Int32 × Int32) → Option ((OS × Int32 × Int32) ⊕ (OS × Int32)) := fun z => match z with | (s_t, b1, b2) => (if (s_t.1 0) ≤ b2 then some (.inr ((s_t, b1))) else (f_X12_lays s_t b2).bind (fun x4 => match x4 with | (v6, t7) => (lpv (f_X12_widest_25 t7 b2) ((b1, 0))).bind (fun x15 => bnd (b2 + 1 : Int32) (fun v18 => some (.inl ((t7, x15, v18)))))))
noncomputable def f_X12_widest (st : OS) : Option (Int32 × OS) := bnd (oI st 2 0) (fun t1 => (lpv (f_X12_widest_9) ((t1, (-1), 0))).bind (fun x20 => match x20 with | (t22, v23) => some ((v23, t22))))
set_option maxHeartbeats 4000000 in
set_option maxRecDepth 100000 in
theorem w_X12_widest_25 {p : Program} {l : Launch} {e : Env} {s : State} {m : MethodId} {args : Array Value} {below : List Frame} {meth : Method} {c : Code} {Q : State → Prop} {G : mG} {h : mM} {q : Nat → Nat} (hq : oinj LX12 q) (X : mX G p m c cX12_widest 4 s args RX12) (s_t : OS) (b2 : Int32) : ∀ (z : Int32 × Int32) (r : Int32), lpv (f_X12_widest_25 s_t b2) z = some r → ∀ (H : Heap) (locs : List Loc) (ls : Array Slot), mH G (oset LX12 G q s_t h) s.heap H locs → lv_has ls 4 [(0, .ref (q 53)), (1, .int z.1), (2, .int b2), (3, .int z.2)] → (∀ (H : Heap) (locs : List Loc) (ls : Array Slot), mH G (oset LX12 G q s_t h) s.heap H locs → lv_has ls 4 [(0, .ref (q 53)), (1, .int r), (2, .int b2)] → W p l e rm_X12_widest s m args below meth c H locs 0 0 Q (F0 m 50 ls [])) → W p l e rm_X12_widest s m args below meth c H locs 0 0 Q (F0 m 25 ls []) := by
  refine lpv_rec ?_
  intro z r x hF hx H locs ls hH hl K0
  obtain ⟨b1, b3⟩ := z
  dsimp only [f_X12_widest_25] at hF
  try dsimp only at hH hl
  refine lv_iload_n X.x X.b (dk DX12_widest_0 17 rfl) rfl (lv_at hl 3 rfl) ?_
  refine lv_aload_n X.x X.b (dk DX12_widest_0 18 rfl) rfl (lv_at hl 0 rfl) ?_
  refine og_getI OX12 X hq hH 0 (by decide) rfl kF_X12_248 (dk DX12_widest_0 19 rfl) ?_
  refine lv_icmp_ge (tgt := 50) X.x X.b (dk DX12_widest_0 20 rfl) (by decide) (fun c8 => ?_) (fun c8 => ?_)
  · replace hF := if_t hF c8
    have hr9 := lp_r hF hx
    subst hr9
    exact K0 _ _ _ hH (lv_sub hl [0, 1, 2] rfl)
  · replace hF := if_f hF c8
    refine lv_iload_n X.x X.b (dk DX12_widest_0 21 rfl) rfl (lv_at hl 1 rfl) ?_
    refine lv_aload_n X.x X.b (dk DX12_widest_0 22 rfl) rfl (lv_at hl 0 rfl) ?_
    refine og_getR (t := 0) OX12 X hq hH 27 (by decide) rfl kF_X12_39 (dk DX12_widest_0 23 rfl) ?_
    refine lv_iload_n X.x X.b (dk DX12_widest_0 24 rfl) rfl (lv_at hl 3 rfl) ?_
    obtain ⟨c9, hF⟩ := gd hF
    refine og_iald X hq hH 27 (by decide) rfl (inb_in c9) (dk DX12_widest_0 25 rfl) ?_
    obtain ⟨x10, e11, hF⟩ := bd hF
    refine mr_ci0 hH ⟨rfl, rfl⟩ (mr_runS (As := [.int b1, .int (s_t.2.2.1 27 (b3 : Int32).toNatClampNeg)]) (rest := []) X hH (c_J9_max_7cf53 e11) kM_X12_341 kT_J9_max_7cf53 kN_J9 kC_J9_max_7cf53 hd_J9_max_7cf53 ⟨Nat.le_of_ble_eq_true rfl, Nat.le_of_ble_eq_true rfl⟩ rfl hl.1 (Nat.le_of_ble_eq_true rfl) (dk DX12_widest_0 26 rfl) ⟨Nat.zero_le _, Nat.zero_le _⟩) (fun r h1 H locs hp hH => ?_)
    obtain ⟨hr1, hr2⟩ := hp; rw [hr1]; rw [hr2] at hH; clear hr1 hr2
    refine lv_istore_n (lv' := [(1, .int x10), (0, .ref (q 53)), (2, .int b2), (3, .int b3)]) X.x X.b (dk DX12_widest_0 27 rfl) rfl hl (by decide) rfl (fun ls hl => ?_)
    replace hl : lv_has ls 4 [(0, .ref (q 53)), (1, .int x10), (2, .int b2), (3, .int b3)] := lv_sub hl [1, 0, 2, 3] rfl
    obtain ⟨v13, e14⟩ : ∃ y : Int32, y = b3 + 1 := ⟨_, rfl⟩
    replace hF := bnd_e hF e14
    refine lv_iinc (v := v13) (lv' := [(3, .int v13), (0, .ref (q 53)), (1, .int x10), (2, .int b2)]) X.x X.b (dk DX12_widest_0 28 rfl) hl (k := 3) rfl (by rw [e14]; rfl) (by decide) rfl (fun ls hl => ?_)
    replace hl : lv_has ls 4 [(0, .ref (q 53)), (1, .int x10), (2, .int b2), (3, .int v13)] := lv_sub hl [1, 2, 3, 0] rfl
    refine lv_goto (tgt := 25) X.x X.b (dk DX12_widest_0 29 rfl) (by decide) ?_
    exact (lp_l hF hx) _ _ _ hH (lv_sub hl [0, 1, 2, 3] rfl) K0
set_option maxHeartbeats 4000000 in
set_option maxRecDepth 100000 in
theorem w_X12_widest_9 {p : Program} {l : Launch} {e : Env} {s : State} {m : MethodId} {args : Array Value} {below : List Frame} {meth : Method} {c : Code} {Q : State → Prop} {G : mG} {h : mM} {q : Nat → Nat} (hq : oinj LX12 q) (X : mX G p m c cX12_widest 4 s args RX12) : ∀ (z : OS × Int32 × Int32) (r : OS × Int32), lpv (f_X12_widest_9) z = some r → ∀ (H : Heap) (locs : List Loc) (ls : Array Slot), mH G (oset LX12 G q z.1 h) s.heap H locs → lv_has ls 4 [(0, .ref (q 53)), (1, .int z.2.1), (2, .int z.2.2)] → (∀ (H : Heap) (locs : List Loc) (ls : Array Slot), mH G (oset LX12 G q r.1 h) s.heap H locs → lv_has ls 4 [(1, .int r.2)] → W p l e rm_X12_widest s m args below meth c H locs 0 0 Q (F0 m 56 ls [])) → W p l e rm_X12_widest s m args below meth c H locs 0 0 Q (F0 m 9 ls []) := by
  refine lpv_rec ?_
  intro z r x hF hx H locs ls hH hl K0
  obtain ⟨s_t, b1, b2⟩ := z
  dsimp only [f_X12_widest_9] at hF
  try dsimp only at hH hl
  refine lv_iload_n X.x X.b (dk DX12_widest_0 7 rfl) rfl (lv_at hl 2 rfl) ?_
  refine lv_aload_n X.x X.b (dk DX12_widest_0 8 rfl) rfl (lv_at hl 0 rfl) ?_
  refine og_getI OX12 X hq hH 0 (by decide) rfl kF_X12_248 (dk DX12_widest_0 9 rfl) ?_
  refine lv_icmp_ge (tgt := 56) X.x X.b (dk DX12_widest_0 10 rfl) (by decide) (fun c3 => ?_) (fun c3 => ?_)
  · replace hF := if_t hF c3
    have hr9 := lp_r hF hx
    subst hr9
    exact K0 _ _ _ hH (lv_sub hl [1] rfl)
  · replace hF := if_f hF c3
    refine lv_aload_n X.x X.b (dk DX12_widest_0 11 rfl) rfl (lv_at hl 0 rfl) ?_
    refine lv_iload_n X.x X.b (dk DX12_widest_0 12 rfl) rfl (lv_at hl 2 rfl) ?_
    obtain ⟨x4, e5, hF⟩ := bd hF
    refine mr_ci0 hH ⟨rfl, rfl⟩ (mr_runV (As := [.int b2]) (rest := []) X hH (c_X12_lays hq e5) ((oset_at hq (Nat.le_refl _) ohas_N).trans (congrArg some ocell_N)) OX12.1 kM_X12_353 kI_X12_lays kS_X12_lays kN_X12 kC_X12_lays hd_X12_lays ⟨Nat.le_of_ble_eq_true rfl, Nat.le_of_ble_eq_true rfl⟩ rfl hl.1 (Nat.le_of_ble_eq_true rfl) (dk DX12_widest_0 13 rfl) ⟨Nat.zero_le _, Nat.zero_le _⟩) (fun r h1 H locs hp hH => ?_)
    obtain ⟨hr1, hr2⟩ := hp; rw [hr1]; rw [hr2] at hH; clear hr1 hr2
    obtain ⟨v6, t7⟩ := x4
    try dsimp only at hF hH ⊢
    refine lv_pop X.x X.b (dk DX12_widest_0 14 rfl) rfl ?_
    refine lv_iconst (v := 0) X.x X.b (dk DX12_widest_0 15 rfl) (by decide) ?_
    refine lv_istore_n (lv' := [(3, .int 0), (0, .ref (q 53)), (1, .int b1), (2, .int b2)]) X.x X.b (dk DX12_widest_0 16 rfl) rfl hl (by decide) rfl (fun ls hl => ?_)
    replace hl : lv_has ls 4 [(0, .ref (q 53)), (1, .int b1), (2, .int b2), (3, .int 0)] := lv_sub hl [1, 2, 3, 0] rfl
    obtain ⟨x15, e16, hF⟩ := bd hF
    replace hl : lv_has ls 4 [(0, .ref (q 53)), (1, .int b1), (2, .int b2), (3, .int 0)] := lv_sub hl [0, 1, 2, 3] rfl
    refine w_X12_widest_25 hq X t7 b2 _ _ e16 _ _ _ hH hl (fun H locs ls hH hl => ?_)
    obtain ⟨v18, e19⟩ : ∃ y : Int32, y = b2 + 1 := ⟨_, rfl⟩
    replace hF := bnd_e hF e19
    refine lv_iinc (v := v18) (lv' := [(2, .int v18), (0, .ref (q 53)), (1, .int x15)]) X.x X.b (dk DX12_widest_0 30 rfl) hl (k := 2) rfl (by rw [e19]; rfl) (by decide) rfl (fun ls hl => ?_)
    replace hl : lv_has ls 4 [(0, .ref (q 53)), (1, .int x15), (2, .int v18)] := lv_sub hl [1, 2, 0] rfl
    refine lv_goto (tgt := 9) X.x X.b (dk DX12_widest_0 31 rfl) (by decide) ?_
    exact (lp_l hF hx) _ _ _ hH (lv_sub hl [0, 1, 2] rfl) K0
set_option maxHeartbeats 4000000 in
set_option maxRecDepth 100000 in
theorem c_X12_widest {l : Launch} {G : mG} {h : mM} {q : Nat → Nat} (hq : oinj LX12 q) {st : OS} {x : Int32 × OS} (hF : f_X12_widest st = some x) : cQ l G yX12_widest cX12_widest 4 (some FieldType.int) rm_X12_widest [.ref (q 53)] (oset LX12 G q st h) (mQi G (fun r h1 => r = x.1 ∧ h1 = oset LX12 G q x.2 h)) := by
  refine mp_of (by decide +kernel) (Nat.le_of_ble_eq_true rfl) ?_
  intro p e s m below meth c X hr hlk hH hname ls hl
  dsimp only [f_X12_widest] at hF
  replace hl : lv_has ls 4 [(0, .ref (q 53))] := hl
  refine lv_aload_n X.x X.b (dk DX12_widest_0 0 rfl) rfl (lv_at hl 0 rfl) ?_
  refine lv_iconst (v := 0) X.x X.b (dk DX12_widest_0 1 rfl) (by decide) ?_
  refine og_putI OX12 X hq hH 2 (by decide) rfl kF_X12_106 rfl rfl rfl (dk DX12_widest_0 2 rfl) (fun H locs hH => ?_)
  obtain ⟨t1, e2⟩ : ∃ y, y = oI st 2 0 := ⟨_, rfl⟩
  rw [← e2] at hH
  replace hF := bnd_e hF e2
  refine lv_iconst (v := (-1)) X.x X.b (dk DX12_widest_0 3 rfl) (by decide) ?_
  refine lv_istore_n (lv' := [(1, .int ((-1))), (0, .ref (q 53))]) X.x X.b (dk DX12_widest_0 4 rfl) rfl hl (by decide) rfl (fun ls hl => ?_)
  replace hl : lv_has ls 4 [(0, .ref (q 53)), (1, .int ((-1)))] := lv_sub hl [1, 0] rfl
  refine lv_iconst (v := 0) X.x X.b (dk DX12_widest_0 5 rfl) (by decide) ?_
  refine lv_istore_n (lv' := [(2, .int 0), (0, .ref (q 53)), (1, .int ((-1)))]) X.x X.b (dk DX12_widest_0 6 rfl) rfl hl (by decide) rfl (fun ls hl => ?_)
  replace hl : lv_has ls 4 [(0, .ref (q 53)), (1, .int ((-1))), (2, .int 0)] := lv_sub hl [1, 2, 0] rfl
  obtain ⟨x20, e21, hF⟩ := bd hF
  replace hl : lv_has ls 4 [(0, .ref (q 53)), (1, .int ((-1))), (2, .int 0)] := lv_sub hl [0, 1, 2] rfl
  obtain ⟨t22, v23⟩ := x20
  try dsimp only at hF
  refine w_X12_widest_9 hq X _ _ e21 _ _ _ hH hl (fun H locs ls hH hl => ?_)
  try dsimp only at hH hl
  refine lv_iload_n X.x X.b (dk DX12_widest_0 32 rfl) rfl (lv_at hl 0 rfl) ?_
  cases sm hF
  exact mr_iret X hr hlk hH ⟨rfl, rfl⟩ (dk DX12_widest_0 33 rfl)
-- J9_min_7cf53
abbrev rm_J9_min_7cf53 : Room := { frames := 0, cells := 0, slots := 0, locals := 0 }
theorem hd_J9_min_7cf53 : mHd yJ9_min_7cf53 2 := ⟨by decide +kernel, by decide +kernel, by decide +kernel⟩
theorem DJ9_min_7cf53_0 : ∀ t ∈ ([(0, .iload_n 0, 1), (1, .iload_n 1, 1), (2, .if_icmp .gt 7, 3), (5, .iload_n 0, 1), (6, .goto 4, 3), (9, .iload_n 1, 1), (10, .ireturn, 1)] : List (Nat × Instr × Nat)), decode cJ9_min_7cf53 t.1 = .ok (t.2.1, t.2.2) := by decide +kernel
noncomputable def f_J9_min_7cf53 (a0 : Int32) (a1 : Int32) : Option (Int32) := (if a1 < a0 then some a1 else some a0)
set_option maxHeartbeats 4000000 in
set_option maxRecDepth 100000 in
theorem c_J9_min_7cf53 {l : Launch} {G : mG} {h : mM}  {a0 : Int32} {a1 : Int32} {x : Int32} (hF : f_J9_min_7cf53 a0 a1 = some x) : cQ l G yJ9_min_7cf53 cJ9_min_7cf53 2 (some FieldType.int) rm_J9_min_7cf53 [.int a0, .int a1] (h) (mQi G (fun r h1 => r = x ∧ h1 = h)) := by
  refine mp_of (by decide +kernel) (Nat.le_of_ble_eq_true rfl) ?_
  intro p e s m below meth c X hr hlk hH hname ls hl
  dsimp only [f_J9_min_7cf53] at hF
  replace hl : lv_has ls 2 [(0, .int a0), (1, .int a1)] := hl
  refine lv_iload_n X.x X.b (dk DJ9_min_7cf53_0 0 rfl) rfl (lv_at hl 0 rfl) ?_
  refine lv_iload_n X.x X.b (dk DJ9_min_7cf53_0 1 rfl) rfl (lv_at hl 1 rfl) ?_
  refine lv_icmp_gt (tgt := 9) X.x X.b (dk DJ9_min_7cf53_0 2 rfl) (by decide) (fun c1 => ?_) (fun c1 => ?_)
  · replace hF := if_t hF c1
    refine lv_iload_n X.x X.b (dk DJ9_min_7cf53_0 5 rfl) rfl (lv_at hl 1 rfl) ?_
    cases sm hF
    exact mr_iret X hr hlk hH ⟨rfl, rfl⟩ (dk DJ9_min_7cf53_0 6 rfl)
  · replace hF := if_f hF c1
    refine lv_iload_n X.x X.b (dk DJ9_min_7cf53_0 3 rfl) rfl (lv_at hl 0 rfl) ?_
    refine lv_goto (tgt := 10) X.x X.b (dk DJ9_min_7cf53_0 4 rfl) (by decide) ?_
    cases sm hF
    exact mr_iret X hr hlk hH ⟨rfl, rfl⟩ (dk DJ9_min_7cf53_0 6 rfl)
-- X12_ring
abbrev rm_X12_ring : Room := { frames := 3, cells := 0, slots := 0, locals := 71 }
theorem hd_X12_ring : mHd yX12_ring 0 := ⟨by decide +kernel, by decide +kernel, by decide +kernel⟩
theorem DX12_ring_0 : ∀ t ∈ ([(0, .aload_n 0, 1), (1, .iconst 0, 1), (2, .putfield 106, 3), (5, .iconst (-1), 1), (6, .istore_n 1, 1), (7, .iconst 0, 1), (8, .istore_n 2, 1), (9, .iload_n 2, 1), (10, .aload_n 0, 1), (11, .getfield 248, 3), (14, .aload_n 0, 1), (15, .getfield 250, 3), (18, .iadd, 1), (19, .if_icmp .ge 39, 3), (22, .aload_n 0, 1), (23, .iload_n 2, 1), (24, .invokevirtual 353, 3), (27, .istore_n 3, 1), (28, .iload_n 3, 1), (29, .iconst (-1), 1), (30, .if_icmp .ne 7, 3), (33, .iload_n 1, 1), (34, .goto 17, 3), (37, .iload_n 1, 1), (38, .iconst (-1), 1), (39, .if_icmp .ne 7, 3), (42, .iload_n 3, 1), (43, .goto 8, 3), (46, .iload_n 1, 1), (47, .iload_n 3, 1), (48, .invokestatic 356, 3), (51, .istore_n 1, 1), (52, .iinc 2 1, 3), (55, .goto (-46), 3), (58, .iload_n 1, 1), (59, .ireturn, 1)] : List (Nat × Instr × Nat)), decode cX12_ring t.1 = .ok (t.2.1, t.2.2) := by decide +kernel
noncomputable def f_X12_ring_9 : (OS × Int32 × Int32) → Option ((OS × Int32 × Int32) ⊕ (OS × Int32)) := fun z => match z with | (s_t, b1, b2) => (if ((s_t.1 0) + (s_t.1 1)) ≤ b2 then some (.inr ((s_t, b1))) else (f_X12_lays s_t b2).bind (fun x4 => match x4 with | (v6, t7) => (if v6 = ((-1)) then bnd (b2 + 1 : Int32) (fun v17 => some (.inl ((t7, b1, v17)))) else (if b1 = ((-1)) then bnd (b2 + 1 : Int32) (fun v15 => some (.inl ((t7, v6, v15)))) else (f_J9_min_7cf53 b1 v6).bind (fun x10 => bnd (b2 + 1 : Int32) (fun v13 => some (.inl ((t7, x10, v13)))))))))
noncomputable def f_X12_ring (st : OS) : Option (Int32 × OS) := bnd (oI st 2 0) (fun t1 => (lpv (f_X12_ring_9) ((t1, (-1), 0))).bind (fun x19 => match x19 with | (t21, v22) => some ((v22, t21))))
set_option maxHeartbeats 4000000 in
set_option maxRecDepth 100000 in
theorem w_X12_ring_9 {p : Program} {l : Launch} {e : Env} {s : State} {m : MethodId} {args : Array Value} {below : List Frame} {meth : Method} {c : Code} {Q : State → Prop} {G : mG} {h : mM} {q : Nat → Nat} (hq : oinj LX12 q) (X : mX G p m c cX12_ring 4 s args RX12) : ∀ (z : OS × Int32 × Int32) (r : OS × Int32), lpv (f_X12_ring_9) z = some r → ∀ (H : Heap) (locs : List Loc) (ls : Array Slot), mH G (oset LX12 G q z.1 h) s.heap H locs → lv_has ls 4 [(0, .ref (q 53)), (1, .int z.2.1), (2, .int z.2.2)] → (∀ (H : Heap) (locs : List Loc) (ls : Array Slot), mH G (oset LX12 G q r.1 h) s.heap H locs → lv_has ls 4 [(1, .int r.2)] → W p l e rm_X12_ring s m args below meth c H locs 0 0 Q (F0 m 58 ls [])) → W p l e rm_X12_ring s m args below meth c H locs 0 0 Q (F0 m 9 ls []) := by
  refine lpv_rec ?_
  intro z r x hF hx H locs ls hH hl K0
  obtain ⟨s_t, b1, b2⟩ := z
  dsimp only [f_X12_ring_9] at hF
  try dsimp only at hH hl
  refine lv_iload_n X.x X.b (dk DX12_ring_0 7 rfl) rfl (lv_at hl 2 rfl) ?_
  refine lv_aload_n X.x X.b (dk DX12_ring_0 8 rfl) rfl (lv_at hl 0 rfl) ?_
  refine og_getI OX12 X hq hH 0 (by decide) rfl kF_X12_248 (dk DX12_ring_0 9 rfl) ?_
  refine lv_aload_n X.x X.b (dk DX12_ring_0 10 rfl) rfl (lv_at hl 0 rfl) ?_
  refine og_getI OX12 X hq hH 1 (by decide) rfl kF_X12_250 (dk DX12_ring_0 11 rfl) ?_
  refine lv_iadd X.x X.b (dk DX12_ring_0 12 rfl) ?_
  refine lv_icmp_ge (tgt := 58) X.x X.b (dk DX12_ring_0 13 rfl) (by decide) (fun c3 => ?_) (fun c3 => ?_)
  · replace hF := if_t hF c3
    have hr9 := lp_r hF hx
    subst hr9
    exact K0 _ _ _ hH (lv_sub hl [1] rfl)
  · replace hF := if_f hF c3
    refine lv_aload_n X.x X.b (dk DX12_ring_0 14 rfl) rfl (lv_at hl 0 rfl) ?_
    refine lv_iload_n X.x X.b (dk DX12_ring_0 15 rfl) rfl (lv_at hl 2 rfl) ?_
    obtain ⟨x4, e5, hF⟩ := bd hF
    refine mr_ci0 hH ⟨rfl, rfl⟩ (mr_runV (As := [.int b2]) (rest := []) X hH (c_X12_lays hq e5) ((oset_at hq (Nat.le_refl _) ohas_N).trans (congrArg some ocell_N)) OX12.1 kM_X12_353 kI_X12_lays kS_X12_lays kN_X12 kC_X12_lays hd_X12_lays ⟨Nat.le_of_ble_eq_true rfl, Nat.le_of_ble_eq_true rfl⟩ rfl hl.1 (Nat.le_of_ble_eq_true rfl) (dk DX12_ring_0 16 rfl) ⟨Nat.zero_le _, Nat.zero_le _⟩) (fun r h1 H locs hp hH => ?_)
    obtain ⟨hr1, hr2⟩ := hp; rw [hr1]; rw [hr2] at hH; clear hr1 hr2
    obtain ⟨v6, t7⟩ := x4
    try dsimp only at hF hH ⊢
    refine lv_istore_n (lv' := [(3, .int v6), (0, .ref (q 53)), (1, .int b1), (2, .int b2)]) X.x X.b (dk DX12_ring_0 17 rfl) rfl hl (by decide) rfl (fun ls hl => ?_)
    replace hl : lv_has ls 4 [(0, .ref (q 53)), (1, .int b1), (2, .int b2), (3, .int v6)] := lv_sub hl [1, 2, 3, 0] rfl
    refine lv_iload_n X.x X.b (dk DX12_ring_0 18 rfl) rfl (lv_at hl 3 rfl) ?_
    refine lv_iconst (v := (-1)) X.x X.b (dk DX12_ring_0 19 rfl) (by decide) ?_
    refine lv_icmp_ne (tgt := 37) X.x X.b (dk DX12_ring_0 20 rfl) (by decide) (fun c8 => ?_) (fun c8 => ?_)
    · replace hF := if_f hF c8
      refine lv_iload_n X.x X.b (dk DX12_ring_0 23 rfl) rfl (lv_at hl 1 rfl) ?_
      refine lv_iconst (v := (-1)) X.x X.b (dk DX12_ring_0 24 rfl) (by decide) ?_
      refine lv_icmp_ne (tgt := 46) X.x X.b (dk DX12_ring_0 25 rfl) (by decide) (fun c9 => ?_) (fun c9 => ?_)
      · replace hF := if_f hF c9
        refine lv_iload_n X.x X.b (dk DX12_ring_0 28 rfl) rfl (lv_at hl 1 rfl) ?_
        refine lv_iload_n X.x X.b (dk DX12_ring_0 29 rfl) rfl (lv_at hl 3 rfl) ?_
        obtain ⟨x10, e11, hF⟩ := bd hF
        refine mr_ci0 hH ⟨rfl, rfl⟩ (mr_runS (As := [.int b1, .int v6]) (rest := []) X hH (c_J9_min_7cf53 e11) kM_X12_356 kT_J9_min_7cf53 kN_J9 kC_J9_min_7cf53 hd_J9_min_7cf53 ⟨Nat.le_of_ble_eq_true rfl, Nat.le_of_ble_eq_true rfl⟩ rfl hl.1 (Nat.le_of_ble_eq_true rfl) (dk DX12_ring_0 30 rfl) ⟨Nat.zero_le _, Nat.zero_le _⟩) (fun r h1 H locs hp hH => ?_)
        obtain ⟨hr1, hr2⟩ := hp; rw [hr1]; rw [hr2] at hH; clear hr1 hr2
        refine lv_istore_n (lv' := [(1, .int x10), (0, .ref (q 53)), (2, .int b2), (3, .int v6)]) X.x X.b (dk DX12_ring_0 31 rfl) rfl hl (by decide) rfl (fun ls hl => ?_)
        replace hl : lv_has ls 4 [(0, .ref (q 53)), (1, .int x10), (2, .int b2)] := lv_sub hl [1, 0, 2] rfl
        obtain ⟨v13, e14⟩ : ∃ y : Int32, y = b2 + 1 := ⟨_, rfl⟩
        replace hF := bnd_e hF e14
        refine lv_iinc (v := v13) (lv' := [(2, .int v13), (0, .ref (q 53)), (1, .int x10)]) X.x X.b (dk DX12_ring_0 32 rfl) hl (k := 2) rfl (by rw [e14]; rfl) (by decide) rfl (fun ls hl => ?_)
        replace hl : lv_has ls 4 [(0, .ref (q 53)), (1, .int x10), (2, .int v13)] := lv_sub hl [1, 2, 0] rfl
        refine lv_goto (tgt := 9) X.x X.b (dk DX12_ring_0 33 rfl) (by decide) ?_
        exact (lp_l hF hx) _ _ _ hH (lv_sub hl [0, 1, 2] rfl) K0
      · replace hF := if_t hF c9
        refine lv_iload_n X.x X.b (dk DX12_ring_0 26 rfl) rfl (lv_at hl 3 rfl) ?_
        refine lv_goto (tgt := 51) X.x X.b (dk DX12_ring_0 27 rfl) (by decide) ?_
        refine lv_istore_n (lv' := [(1, .int v6), (0, .ref (q 53)), (2, .int b2), (3, .int v6)]) X.x X.b (dk DX12_ring_0 31 rfl) rfl hl (by decide) rfl (fun ls hl => ?_)
        replace hl : lv_has ls 4 [(0, .ref (q 53)), (1, .int v6), (2, .int b2)] := lv_sub hl [1, 0, 2] rfl
        obtain ⟨v15, e16⟩ : ∃ y : Int32, y = b2 + 1 := ⟨_, rfl⟩
        replace hF := bnd_e hF e16
        refine lv_iinc (v := v15) (lv' := [(2, .int v15), (0, .ref (q 53)), (1, .int v6)]) X.x X.b (dk DX12_ring_0 32 rfl) hl (k := 2) rfl (by rw [e16]; rfl) (by decide) rfl (fun ls hl => ?_)
        replace hl : lv_has ls 4 [(0, .ref (q 53)), (1, .int v6), (2, .int v15)] := lv_sub hl [1, 2, 0] rfl
        refine lv_goto (tgt := 9) X.x X.b (dk DX12_ring_0 33 rfl) (by decide) ?_
        exact (lp_l hF hx) _ _ _ hH (lv_sub hl [0, 1, 2] rfl) K0
    · replace hF := if_t hF c8
      refine lv_iload_n X.x X.b (dk DX12_ring_0 21 rfl) rfl (lv_at hl 1 rfl) ?_
      refine lv_goto (tgt := 51) X.x X.b (dk DX12_ring_0 22 rfl) (by decide) ?_
      refine lv_istore_n (lv' := [(1, .int b1), (0, .ref (q 53)), (2, .int b2), (3, .int v6)]) X.x X.b (dk DX12_ring_0 31 rfl) rfl hl (by decide) rfl (fun ls hl => ?_)
      replace hl : lv_has ls 4 [(0, .ref (q 53)), (1, .int b1), (2, .int b2)] := lv_sub hl [1, 0, 2] rfl
      obtain ⟨v17, e18⟩ : ∃ y : Int32, y = b2 + 1 := ⟨_, rfl⟩
      replace hF := bnd_e hF e18
      refine lv_iinc (v := v17) (lv' := [(2, .int v17), (0, .ref (q 53)), (1, .int b1)]) X.x X.b (dk DX12_ring_0 32 rfl) hl (k := 2) rfl (by rw [e18]; rfl) (by decide) rfl (fun ls hl => ?_)
      replace hl : lv_has ls 4 [(0, .ref (q 53)), (1, .int b1), (2, .int v17)] := lv_sub hl [1, 2, 0] rfl
      refine lv_goto (tgt := 9) X.x X.b (dk DX12_ring_0 33 rfl) (by decide) ?_
      exact (lp_l hF hx) _ _ _ hH (lv_sub hl [0, 1, 2] rfl) K0
set_option maxHeartbeats 4000000 in
set_option maxRecDepth 100000 in
theorem c_X12_ring {l : Launch} {G : mG} {h : mM} {q : Nat → Nat} (hq : oinj LX12 q) {st : OS} {x : Int32 × OS} (hF : f_X12_ring st = some x) : cQ l G yX12_ring cX12_ring 4 (some FieldType.int) rm_X12_ring [.ref (q 53)] (oset LX12 G q st h) (mQi G (fun r h1 => r = x.1 ∧ h1 = oset LX12 G q x.2 h)) := by
  refine mp_of (by decide +kernel) (Nat.le_of_ble_eq_true rfl) ?_
  intro p e s m below meth c X hr hlk hH hname ls hl
  dsimp only [f_X12_ring] at hF
  replace hl : lv_has ls 4 [(0, .ref (q 53))] := hl
  refine lv_aload_n X.x X.b (dk DX12_ring_0 0 rfl) rfl (lv_at hl 0 rfl) ?_
  refine lv_iconst (v := 0) X.x X.b (dk DX12_ring_0 1 rfl) (by decide) ?_
  refine og_putI OX12 X hq hH 2 (by decide) rfl kF_X12_106 rfl rfl rfl (dk DX12_ring_0 2 rfl) (fun H locs hH => ?_)
  obtain ⟨t1, e2⟩ : ∃ y, y = oI st 2 0 := ⟨_, rfl⟩
  rw [← e2] at hH
  replace hF := bnd_e hF e2
  refine lv_iconst (v := (-1)) X.x X.b (dk DX12_ring_0 3 rfl) (by decide) ?_
  refine lv_istore_n (lv' := [(1, .int ((-1))), (0, .ref (q 53))]) X.x X.b (dk DX12_ring_0 4 rfl) rfl hl (by decide) rfl (fun ls hl => ?_)
  replace hl : lv_has ls 4 [(0, .ref (q 53)), (1, .int ((-1)))] := lv_sub hl [1, 0] rfl
  refine lv_iconst (v := 0) X.x X.b (dk DX12_ring_0 5 rfl) (by decide) ?_
  refine lv_istore_n (lv' := [(2, .int 0), (0, .ref (q 53)), (1, .int ((-1)))]) X.x X.b (dk DX12_ring_0 6 rfl) rfl hl (by decide) rfl (fun ls hl => ?_)
  replace hl : lv_has ls 4 [(0, .ref (q 53)), (1, .int ((-1))), (2, .int 0)] := lv_sub hl [1, 2, 0] rfl
  obtain ⟨x19, e20, hF⟩ := bd hF
  replace hl : lv_has ls 4 [(0, .ref (q 53)), (1, .int ((-1))), (2, .int 0)] := lv_sub hl [0, 1, 2] rfl
  obtain ⟨t21, v22⟩ := x19
  try dsimp only at hF
  refine w_X12_ring_9 hq X _ _ e20 _ _ _ hH hl (fun H locs ls hH hl => ?_)
  try dsimp only at hH hl
  refine lv_iload_n X.x X.b (dk DX12_ring_0 34 rfl) rfl (lv_at hl 0 rfl) ?_
  cases sm hF
  exact mr_iret X hr hlk hH ⟨rfl, rfl⟩ (dk DX12_ring_0 35 rfl)
-- X12_parts
abbrev rm_X12_parts : Room := { frames := 3, cells := 0, slots := 0, locals := 71 }
theorem hd_X12_parts : mHd yX12_parts 0 := ⟨by decide +kernel, by decide +kernel, by decide +kernel⟩
theorem DX12_parts_0 : ∀ t ∈ ([(0, .aload_n 0, 1), (1, .iconst 0, 1), (2, .putfield 106, 3), (5, .iconst 0, 1), (6, .istore_n 1, 1), (7, .iconst 0, 1), (8, .istore_n 2, 1), (9, .iload_n 2, 1), (10, .aload_n 0, 1), (11, .getfield 248, 3), (14, .if_icmp .ge 65, 3), (17, .aload_n 0, 1), (18, .iload_n 2, 1), (19, .invokevirtual 353, 3), (22, .pop, 1), (23, .iconst 1, 1), (24, .istore_n 3, 1), (25, .iconst 0, 1), (26, .istore 4, 2), (28, .iload 4, 2), (30, .iload_n 2, 1), (31, .if_icmp .ge 30, 3), (34, .iload_n 3, 1), (35, .ifCond .eq 18, 3), (38, .aload_n 0, 1), (39, .getfield 39, 3), (42, .iload 4, 2), (44, .iaload, 1), (45, .iconst (-1), 1), (46, .if_icmp .ne 7, 3), (49, .iconst 1, 1), (50, .goto 4, 3), (53, .iconst 0, 1), (54, .istore_n 3, 1), (55, .iinc 4 1, 3), (58, .goto (-30), 3), (61, .iload_n 1, 1), (62, .iload_n 3, 1), (63, .ifCond .eq 7, 3), (66, .iconst 1, 1), (67, .goto 4, 3), (70, .iconst 0, 1), (71, .iadd, 1), (72, .istore_n 1, 1), (73, .iinc 2 1, 3), (76, .goto (-67), 3), (79, .iload_n 1, 1), (80, .ireturn, 1)] : List (Nat × Instr × Nat)), decode cX12_parts t.1 = .ok (t.2.1, t.2.2) := by decide +kernel
noncomputable def f_X12_parts_28 (s_t : OS) (b1 : Int32) (b2 : Int32) : (Int32 × Int32) → Option ((Int32 × Int32) ⊕ (Int32)) := fun z => match z with | (b3, b4) => (if b2 ≤ b4 then some (.inr b3) else (if b3 = 0 then bnd (b4 + 1 : Int32) (fun v10 => some (.inl ((0, v10)))) else if inb b4 128 = true then (if (s_t.2.2.1 27 (b4 : Int32).toNatClampNeg) = ((-1)) then bnd (b4 + 1 : Int32) (fun v16 => some (.inl ((1, v16)))) else bnd (b4 + 1 : Int32) (fun v14 => some (.inl ((0, v14))))) else none))
noncomputable def f_X12_parts_9 : (OS × Int32 × Int32) → Option ((OS × Int32 × Int32) ⊕ (OS × Int32)) := fun z => match z with | (s_t, b1, b2) => (if (s_t.1 0) ≤ b2 then some (.inr ((s_t, b1))) else (f_X12_lays s_t b2).bind (fun x4 => match x4 with | (v6, t7) => (lpv (f_X12_parts_28 t7 b1 b2) ((1, 0))).bind (fun x18 => (if x18 = 0 then bnd (b1 + 0 : Int32) (fun v22 => bnd (b2 + 1 : Int32) (fun v24 => some (.inl ((t7, v22, v24))))) else bnd (b1 + 1 : Int32) (fun v26 => bnd (b2 + 1 : Int32) (fun v28 => some (.inl ((t7, v26, v28)))))))))
noncomputable def f_X12_parts (st : OS) : Option (Int32 × OS) := bnd (oI st 2 0) (fun t1 => (lpv (f_X12_parts_9) ((t1, 0, 0))).bind (fun x30 => match x30 with | (t32, v33) => some ((v33, t32))))
set_option maxHeartbeats 4000000 in
set_option maxRecDepth 100000 in
theorem w_X12_parts_28 {p : Program} {l : Launch} {e : Env} {s : State} {m : MethodId} {args : Array Value} {below : List Frame} {meth : Method} {c : Code} {Q : State → Prop} {G : mG} {h : mM} {q : Nat → Nat} (hq : oinj LX12 q) (X : mX G p m c cX12_parts 5 s args RX12) (s_t : OS) (b1 : Int32) (b2 : Int32) : ∀ (z : Int32 × Int32) (r : Int32), lpv (f_X12_parts_28 s_t b1 b2) z = some r → ∀ (H : Heap) (locs : List Loc) (ls : Array Slot), mH G (oset LX12 G q s_t h) s.heap H locs → lv_has ls 5 [(0, .ref (q 53)), (1, .int b1), (2, .int b2), (3, .int z.1), (4, .int z.2)] → (∀ (H : Heap) (locs : List Loc) (ls : Array Slot), mH G (oset LX12 G q s_t h) s.heap H locs → lv_has ls 5 [(0, .ref (q 53)), (1, .int b1), (2, .int b2), (3, .int r)] → W p l e rm_X12_parts s m args below meth c H locs 0 0 Q (F0 m 61 ls [])) → W p l e rm_X12_parts s m args below meth c H locs 0 0 Q (F0 m 28 ls []) := by
  refine lpv_rec ?_
  intro z r x hF hx H locs ls hH hl K0
  obtain ⟨b3, b4⟩ := z
  dsimp only [f_X12_parts_28] at hF
  try dsimp only at hH hl
  refine lv_iload X.x X.b (dk DX12_parts_0 19 rfl) (lv_at hl 4 rfl) ?_
  refine lv_iload_n X.x X.b (dk DX12_parts_0 20 rfl) rfl (lv_at hl 2 rfl) ?_
  refine lv_icmp_ge (tgt := 61) X.x X.b (dk DX12_parts_0 21 rfl) (by decide) (fun c8 => ?_) (fun c8 => ?_)
  · replace hF := if_t hF c8
    have hr9 := lp_r hF hx
    subst hr9
    exact K0 _ _ _ hH (lv_sub hl [0, 1, 2, 3] rfl)
  · replace hF := if_f hF c8
    refine lv_iload_n X.x X.b (dk DX12_parts_0 22 rfl) rfl (lv_at hl 3 rfl) ?_
    refine lv_if_eq (tgt := 53) X.x X.b (dk DX12_parts_0 23 rfl) (by decide) (fun c9 => ?_) (fun c9 => ?_)
    · replace hF := if_t hF c9
      refine lv_iconst (v := 0) X.x X.b (dk DX12_parts_0 32 rfl) (by decide) ?_
      refine lv_istore_n (lv' := [(3, .int 0), (0, .ref (q 53)), (1, .int b1), (2, .int b2), (4, .int b4)]) X.x X.b (dk DX12_parts_0 33 rfl) rfl hl (by decide) rfl (fun ls hl => ?_)
      replace hl : lv_has ls 5 [(0, .ref (q 53)), (1, .int b1), (2, .int b2), (3, .int 0), (4, .int b4)] := lv_sub hl [1, 2, 3, 0, 4] rfl
      obtain ⟨v10, e11⟩ : ∃ y : Int32, y = b4 + 1 := ⟨_, rfl⟩
      replace hF := bnd_e hF e11
      refine lv_iinc (v := v10) (lv' := [(4, .int v10), (0, .ref (q 53)), (1, .int b1), (2, .int b2), (3, .int 0)]) X.x X.b (dk DX12_parts_0 34 rfl) hl (k := 4) rfl (by rw [e11]; rfl) (by decide) rfl (fun ls hl => ?_)
      replace hl : lv_has ls 5 [(0, .ref (q 53)), (1, .int b1), (2, .int b2), (3, .int 0), (4, .int v10)] := lv_sub hl [1, 2, 3, 4, 0] rfl
      refine lv_goto (tgt := 28) X.x X.b (dk DX12_parts_0 35 rfl) (by decide) ?_
      exact (lp_l hF hx) _ _ _ hH (lv_sub hl [0, 1, 2, 3, 4] rfl) K0
    · replace hF := if_f hF c9
      refine lv_aload_n X.x X.b (dk DX12_parts_0 24 rfl) rfl (lv_at hl 0 rfl) ?_
      refine og_getR (t := 0) OX12 X hq hH 27 (by decide) rfl kF_X12_39 (dk DX12_parts_0 25 rfl) ?_
      refine lv_iload X.x X.b (dk DX12_parts_0 26 rfl) (lv_at hl 4 rfl) ?_
      obtain ⟨c12, hF⟩ := gd hF
      refine og_iald X hq hH 27 (by decide) rfl (inb_in c12) (dk DX12_parts_0 27 rfl) ?_
      refine lv_iconst (v := (-1)) X.x X.b (dk DX12_parts_0 28 rfl) (by decide) ?_
      refine lv_icmp_ne (tgt := 53) X.x X.b (dk DX12_parts_0 29 rfl) (by decide) (fun c13 => ?_) (fun c13 => ?_)
      · replace hF := if_f hF c13
        refine lv_iconst (v := 0) X.x X.b (dk DX12_parts_0 32 rfl) (by decide) ?_
        refine lv_istore_n (lv' := [(3, .int 0), (0, .ref (q 53)), (1, .int b1), (2, .int b2), (4, .int b4)]) X.x X.b (dk DX12_parts_0 33 rfl) rfl hl (by decide) rfl (fun ls hl => ?_)
        replace hl : lv_has ls 5 [(0, .ref (q 53)), (1, .int b1), (2, .int b2), (3, .int 0), (4, .int b4)] := lv_sub hl [1, 2, 3, 0, 4] rfl
        obtain ⟨v14, e15⟩ : ∃ y : Int32, y = b4 + 1 := ⟨_, rfl⟩
        replace hF := bnd_e hF e15
        refine lv_iinc (v := v14) (lv' := [(4, .int v14), (0, .ref (q 53)), (1, .int b1), (2, .int b2), (3, .int 0)]) X.x X.b (dk DX12_parts_0 34 rfl) hl (k := 4) rfl (by rw [e15]; rfl) (by decide) rfl (fun ls hl => ?_)
        replace hl : lv_has ls 5 [(0, .ref (q 53)), (1, .int b1), (2, .int b2), (3, .int 0), (4, .int v14)] := lv_sub hl [1, 2, 3, 4, 0] rfl
        refine lv_goto (tgt := 28) X.x X.b (dk DX12_parts_0 35 rfl) (by decide) ?_
        exact (lp_l hF hx) _ _ _ hH (lv_sub hl [0, 1, 2, 3, 4] rfl) K0
      · replace hF := if_t hF c13
        refine lv_iconst (v := 1) X.x X.b (dk DX12_parts_0 30 rfl) (by decide) ?_
        refine lv_goto (tgt := 54) X.x X.b (dk DX12_parts_0 31 rfl) (by decide) ?_
        refine lv_istore_n (lv' := [(3, .int 1), (0, .ref (q 53)), (1, .int b1), (2, .int b2), (4, .int b4)]) X.x X.b (dk DX12_parts_0 33 rfl) rfl hl (by decide) rfl (fun ls hl => ?_)
        replace hl : lv_has ls 5 [(0, .ref (q 53)), (1, .int b1), (2, .int b2), (3, .int 1), (4, .int b4)] := lv_sub hl [1, 2, 3, 0, 4] rfl
        obtain ⟨v16, e17⟩ : ∃ y : Int32, y = b4 + 1 := ⟨_, rfl⟩
        replace hF := bnd_e hF e17
        refine lv_iinc (v := v16) (lv' := [(4, .int v16), (0, .ref (q 53)), (1, .int b1), (2, .int b2), (3, .int 1)]) X.x X.b (dk DX12_parts_0 34 rfl) hl (k := 4) rfl (by rw [e17]; rfl) (by decide) rfl (fun ls hl => ?_)
        replace hl : lv_has ls 5 [(0, .ref (q 53)), (1, .int b1), (2, .int b2), (3, .int 1), (4, .int v16)] := lv_sub hl [1, 2, 3, 4, 0] rfl
        refine lv_goto (tgt := 28) X.x X.b (dk DX12_parts_0 35 rfl) (by decide) ?_
        exact (lp_l hF hx) _ _ _ hH (lv_sub hl [0, 1, 2, 3, 4] rfl) K0
set_option maxHeartbeats 4000000 in
set_option maxRecDepth 100000 in
theorem w_X12_parts_9 {p : Program} {l : Launch} {e : Env} {s : State} {m : MethodId} {args : Array Value} {below : List Frame} {meth : Method} {c : Code} {Q : State → Prop} {G : mG} {h : mM} {q : Nat → Nat} (hq : oinj LX12 q) (X : mX G p m c cX12_parts 5 s args RX12) : ∀ (z : OS × Int32 × Int32) (r : OS × Int32), lpv (f_X12_parts_9) z = some r → ∀ (H : Heap) (locs : List Loc) (ls : Array Slot), mH G (oset LX12 G q z.1 h) s.heap H locs → lv_has ls 5 [(0, .ref (q 53)), (1, .int z.2.1), (2, .int z.2.2)] → (∀ (H : Heap) (locs : List Loc) (ls : Array Slot), mH G (oset LX12 G q r.1 h) s.heap H locs → lv_has ls 5 [(1, .int r.2)] → W p l e rm_X12_parts s m args below meth c H locs 0 0 Q (F0 m 79 ls [])) → W p l e rm_X12_parts s m args below meth c H locs 0 0 Q (F0 m 9 ls []) := by
  refine lpv_rec ?_
  intro z r x hF hx H locs ls hH hl K0
  obtain ⟨s_t, b1, b2⟩ := z
  dsimp only [f_X12_parts_9] at hF
  try dsimp only at hH hl
  refine lv_iload_n X.x X.b (dk DX12_parts_0 7 rfl) rfl (lv_at hl 2 rfl) ?_
  refine lv_aload_n X.x X.b (dk DX12_parts_0 8 rfl) rfl (lv_at hl 0 rfl) ?_
  refine og_getI OX12 X hq hH 0 (by decide) rfl kF_X12_248 (dk DX12_parts_0 9 rfl) ?_
  refine lv_icmp_ge (tgt := 79) X.x X.b (dk DX12_parts_0 10 rfl) (by decide) (fun c3 => ?_) (fun c3 => ?_)
  · replace hF := if_t hF c3
    have hr9 := lp_r hF hx
    subst hr9
    exact K0 _ _ _ hH (lv_sub hl [1] rfl)
  · replace hF := if_f hF c3
    refine lv_aload_n X.x X.b (dk DX12_parts_0 11 rfl) rfl (lv_at hl 0 rfl) ?_
    refine lv_iload_n X.x X.b (dk DX12_parts_0 12 rfl) rfl (lv_at hl 2 rfl) ?_
    obtain ⟨x4, e5, hF⟩ := bd hF
    refine mr_ci0 hH ⟨rfl, rfl⟩ (mr_runV (As := [.int b2]) (rest := []) X hH (c_X12_lays hq e5) ((oset_at hq (Nat.le_refl _) ohas_N).trans (congrArg some ocell_N)) OX12.1 kM_X12_353 kI_X12_lays kS_X12_lays kN_X12 kC_X12_lays hd_X12_lays ⟨Nat.le_of_ble_eq_true rfl, Nat.le_of_ble_eq_true rfl⟩ rfl hl.1 (Nat.le_of_ble_eq_true rfl) (dk DX12_parts_0 13 rfl) ⟨Nat.zero_le _, Nat.zero_le _⟩) (fun r h1 H locs hp hH => ?_)
    obtain ⟨hr1, hr2⟩ := hp; rw [hr1]; rw [hr2] at hH; clear hr1 hr2
    obtain ⟨v6, t7⟩ := x4
    try dsimp only at hF hH ⊢
    refine lv_pop X.x X.b (dk DX12_parts_0 14 rfl) rfl ?_
    refine lv_iconst (v := 1) X.x X.b (dk DX12_parts_0 15 rfl) (by decide) ?_
    refine lv_istore_n (lv' := [(3, .int 1), (0, .ref (q 53)), (1, .int b1), (2, .int b2)]) X.x X.b (dk DX12_parts_0 16 rfl) rfl hl (by decide) rfl (fun ls hl => ?_)
    replace hl : lv_has ls 5 [(0, .ref (q 53)), (1, .int b1), (2, .int b2), (3, .int 1)] := lv_sub hl [1, 2, 3, 0] rfl
    refine lv_iconst (v := 0) X.x X.b (dk DX12_parts_0 17 rfl) (by decide) ?_
    refine lv_istore (lv' := [(4, .int 0), (0, .ref (q 53)), (1, .int b1), (2, .int b2), (3, .int 1)]) X.x X.b (dk DX12_parts_0 18 rfl) hl (by decide) rfl (fun ls hl => ?_)
    replace hl : lv_has ls 5 [(0, .ref (q 53)), (1, .int b1), (2, .int b2), (3, .int 1), (4, .int 0)] := lv_sub hl [1, 2, 3, 4, 0] rfl
    obtain ⟨x18, e19, hF⟩ := bd hF
    replace hl : lv_has ls 5 [(0, .ref (q 53)), (1, .int b1), (2, .int b2), (3, .int 1), (4, .int 0)] := lv_sub hl [0, 1, 2, 3, 4] rfl
    refine w_X12_parts_28 hq X t7 b1 b2 _ _ e19 _ _ _ hH hl (fun H locs ls hH hl => ?_)
    refine lv_iload_n X.x X.b (dk DX12_parts_0 36 rfl) rfl (lv_at hl 1 rfl) ?_
    refine lv_iload_n X.x X.b (dk DX12_parts_0 37 rfl) rfl (lv_at hl 3 rfl) ?_
    refine lv_if_eq (tgt := 70) X.x X.b (dk DX12_parts_0 38 rfl) (by decide) (fun c21 => ?_) (fun c21 => ?_)
    · replace hF := if_t hF c21
      refine lv_iconst (v := 0) X.x X.b (dk DX12_parts_0 41 rfl) (by decide) ?_
      refine lv_iadd X.x X.b (dk DX12_parts_0 42 rfl) ?_
      refine lv_topi (fun v22 e23 => ?_)
      replace hF := bnd_e hF e23
      refine lv_istore_n (lv' := [(1, .int v22), (0, .ref (q 53)), (2, .int b2), (3, .int x18)]) X.x X.b (dk DX12_parts_0 43 rfl) rfl hl (by decide) rfl (fun ls hl => ?_)
      replace hl : lv_has ls 5 [(0, .ref (q 53)), (1, .int v22), (2, .int b2)] := lv_sub hl [1, 0, 2] rfl
      obtain ⟨v24, e25⟩ : ∃ y : Int32, y = b2 + 1 := ⟨_, rfl⟩
      replace hF := bnd_e hF e25
      refine lv_iinc (v := v24) (lv' := [(2, .int v24), (0, .ref (q 53)), (1, .int v22)]) X.x X.b (dk DX12_parts_0 44 rfl) hl (k := 2) rfl (by rw [e25]; rfl) (by decide) rfl (fun ls hl => ?_)
      replace hl : lv_has ls 5 [(0, .ref (q 53)), (1, .int v22), (2, .int v24)] := lv_sub hl [1, 2, 0] rfl
      refine lv_goto (tgt := 9) X.x X.b (dk DX12_parts_0 45 rfl) (by decide) ?_
      exact (lp_l hF hx) _ _ _ hH (lv_sub hl [0, 1, 2] rfl) K0
    · replace hF := if_f hF c21
      refine lv_iconst (v := 1) X.x X.b (dk DX12_parts_0 39 rfl) (by decide) ?_
      refine lv_goto (tgt := 71) X.x X.b (dk DX12_parts_0 40 rfl) (by decide) ?_
      refine lv_iadd X.x X.b (dk DX12_parts_0 42 rfl) ?_
      refine lv_topi (fun v26 e27 => ?_)
      replace hF := bnd_e hF e27
      refine lv_istore_n (lv' := [(1, .int v26), (0, .ref (q 53)), (2, .int b2), (3, .int x18)]) X.x X.b (dk DX12_parts_0 43 rfl) rfl hl (by decide) rfl (fun ls hl => ?_)
      replace hl : lv_has ls 5 [(0, .ref (q 53)), (1, .int v26), (2, .int b2)] := lv_sub hl [1, 0, 2] rfl
      obtain ⟨v28, e29⟩ : ∃ y : Int32, y = b2 + 1 := ⟨_, rfl⟩
      replace hF := bnd_e hF e29
      refine lv_iinc (v := v28) (lv' := [(2, .int v28), (0, .ref (q 53)), (1, .int v26)]) X.x X.b (dk DX12_parts_0 44 rfl) hl (k := 2) rfl (by rw [e29]; rfl) (by decide) rfl (fun ls hl => ?_)
      replace hl : lv_has ls 5 [(0, .ref (q 53)), (1, .int v26), (2, .int v28)] := lv_sub hl [1, 2, 0] rfl
      refine lv_goto (tgt := 9) X.x X.b (dk DX12_parts_0 45 rfl) (by decide) ?_
      exact (lp_l hF hx) _ _ _ hH (lv_sub hl [0, 1, 2] rfl) K0
set_option maxHeartbeats 4000000 in
set_option maxRecDepth 100000 in
theorem c_X12_parts {l : Launch} {G : mG} {h : mM} {q : Nat → Nat} (hq : oinj LX12 q) {st : OS} {x : Int32 × OS} (hF : f_X12_parts st = some x) : cQ l G yX12_parts cX12_parts 5 (some FieldType.int) rm_X12_parts [.ref (q 53)] (oset LX12 G q st h) (mQi G (fun r h1 => r = x.1 ∧ h1 = oset LX12 G q x.2 h)) := by
  refine mp_of (by decide +kernel) (Nat.le_of_ble_eq_true rfl) ?_
  intro p e s m below meth c X hr hlk hH hname ls hl
  dsimp only [f_X12_parts] at hF
  replace hl : lv_has ls 5 [(0, .ref (q 53))] := hl
  refine lv_aload_n X.x X.b (dk DX12_parts_0 0 rfl) rfl (lv_at hl 0 rfl) ?_
  refine lv_iconst (v := 0) X.x X.b (dk DX12_parts_0 1 rfl) (by decide) ?_
  refine og_putI OX12 X hq hH 2 (by decide) rfl kF_X12_106 rfl rfl rfl (dk DX12_parts_0 2 rfl) (fun H locs hH => ?_)
  obtain ⟨t1, e2⟩ : ∃ y, y = oI st 2 0 := ⟨_, rfl⟩
  rw [← e2] at hH
  replace hF := bnd_e hF e2
  refine lv_iconst (v := 0) X.x X.b (dk DX12_parts_0 3 rfl) (by decide) ?_
  refine lv_istore_n (lv' := [(1, .int 0), (0, .ref (q 53))]) X.x X.b (dk DX12_parts_0 4 rfl) rfl hl (by decide) rfl (fun ls hl => ?_)
  replace hl : lv_has ls 5 [(0, .ref (q 53)), (1, .int 0)] := lv_sub hl [1, 0] rfl
  refine lv_iconst (v := 0) X.x X.b (dk DX12_parts_0 5 rfl) (by decide) ?_
  refine lv_istore_n (lv' := [(2, .int 0), (0, .ref (q 53)), (1, .int 0)]) X.x X.b (dk DX12_parts_0 6 rfl) rfl hl (by decide) rfl (fun ls hl => ?_)
  replace hl : lv_has ls 5 [(0, .ref (q 53)), (1, .int 0), (2, .int 0)] := lv_sub hl [1, 2, 0] rfl
  obtain ⟨x30, e31, hF⟩ := bd hF
  replace hl : lv_has ls 5 [(0, .ref (q 53)), (1, .int 0), (2, .int 0)] := lv_sub hl [0, 1, 2] rfl
  obtain ⟨t32, v33⟩ := x30
  try dsimp only at hF
  refine w_X12_parts_9 hq X _ _ e31 _ _ _ hH hl (fun H locs ls hH hl => ?_)
  try dsimp only at hH hl
  refine lv_iload_n X.x X.b (dk DX12_parts_0 46 rfl) rfl (lv_at hl 0 rfl) ?_
  cases sm hF
  exact mr_iret X hr hlk hH ⟨rfl, rfl⟩ (dk DX12_parts_0 47 rfl)
