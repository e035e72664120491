-- X12_rankOf
abbrev rm_X12_rankOf : Room := { frames := 1, cells := 0, slots := 0, locals := 22 }
theorem hd_X12_rankOf : mHd yX12_rankOf 1 := ⟨by decide +kernel, by decide +kernel, by decide +kernel⟩
theorem DX12_rankOf_0 : ∀ t ∈ ([(0, .iconst 0, 1), (1, .istore_n 2, 1), (2, .iload_n 2, 1), (3, .aload_n 0, 1), (4, .getfield 250, 3), (7, .if_icmp .ge 54, 3), (10, .iconst 0, 1), (11, .istore_n 3, 1), (12, .iload_n 3, 1), (13, .aload_n 0, 1), (14, .getfield 248, 3), (17, .if_icmp .ge 38, 3), (20, .aload_n 0, 1), (21, .getfield 48, 3), (24, .bipush 64, 2), (26, .iload_n 2, 1), (27, .imul, 1), (28, .iload_n 3, 1), (29, .iadd, 1), (30, .aload_n 0, 1), (31, .getfield 7, 3), (34, .iload_n 2, 1), (35, .laload, 1), (36, .iload_n 3, 1), (37, .invokestatic 232, 3), (40, .ifCond .eq 7, 3), (43, .iconst 1, 1), (44, .goto 4, 3), (47, .iconst 0, 1), (48, .iastore, 1), (49, .iinc 3 1, 3), (52, .goto (-40), 3), (55, .iinc 2 1, 3), (58, .goto (-56), 3), (61, .iconst 0, 1), (62, .istore_n 2, 1), (63, .iconst 0, 1), (64, .istore_n 3, 1), (65, .iload_n 3, 1), (66, .aload_n 0, 1), (67, .getfield 248, 3), (70, .if_icmp .ge 270, 3), (73, .iload_n 2, 1), (74, .aload_n 0, 1), (75, .getfield 250, 3), (78, .if_icmp .ge 262, 3), (81, .iload_n 2, 1), (82, .istore 4, 2), (84, .iload 4, 2), (86, .aload_n 0, 1), (87, .getfield 250, 3), (90, .if_icmp .ge 24, 3), (93, .aload_n 0, 1), (94, .getfield 48, 3), (97, .bipush 64, 2), (99, .iload 4, 2), (101, .imul, 1), (102, .iload_n 3, 1), (103, .iadd, 1), (104, .iaload, 1)] : List (Nat × Instr × Nat)), decode cX12_rankOf t.1 = .ok (t.2.1, t.2.2) := by decide +kernel
theorem DX12_rankOf_1 : ∀ t ∈ ([(105, .ifCond .ne 9, 3), (108, .iinc 4 1, 3), (111, .goto (-27), 3), (114, .iload 4, 2), (116, .aload_n 0, 1), (117, .getfield 250, 3), (120, .if_icmp .ne 6, 3), (123, .goto 211, 3), (126, .iconst 1, 1), (127, .istore 5, 2), (129, .iload 5, 2), (131, .aload_n 0, 1), (132, .getfield 48, 3), (135, .bipush 64, 2), (137, .iload 4, 2), (139, .imul, 1), (140, .iload_n 3, 1), (141, .iadd, 1), (142, .iaload, 1), (143, .imul, 1), (144, .iload_n 1, 1), (145, .irem, 1), (146, .iconst 1, 1), (147, .if_icmp .eq 9, 3), (150, .iinc 5 1, 3), (153, .goto (-24), 3), (156, .iconst 0, 1), (157, .istore 6, 2), (159, .iload 6, 2), (161, .aload_n 0, 1), (162, .getfield 248, 3), (165, .if_icmp .ge 68, 3), (168, .aload_n 0, 1), (169, .getfield 48, 3), (172, .bipush 64, 2), (174, .iload 4, 2), (176, .imul, 1), (177, .iload 6, 2), (179, .iadd, 1), (180, .iaload, 1), (181, .iload 5, 2), (183, .imul, 1), (184, .iload_n 1, 1), (185, .irem, 1), (186, .istore 7, 2), (188, .aload_n 0, 1), (189, .getfield 48, 3), (192, .bipush 64, 2), (194, .iload 4, 2), (196, .imul, 1), (197, .iload 6, 2), (199, .iadd, 1), (200, .aload_n 0, 1), (201, .getfield 48, 3), (204, .bipush 64, 2), (206, .iload_n 2, 1), (207, .imul, 1), (208, .iload 6, 2), (210, .iadd, 1), (211, .iaload, 1)] : List (Nat × Instr × Nat)), decode cX12_rankOf t.1 = .ok (t.2.1, t.2.2) := by decide +kernel
theorem DX12_rankOf_2 : ∀ t ∈ ([(212, .iastore, 1), (213, .aload_n 0, 1), (214, .getfield 48, 3), (217, .bipush 64, 2), (219, .iload_n 2, 1), (220, .imul, 1), (221, .iload 6, 2), (223, .iadd, 1), (224, .iload 7, 2), (226, .iastore, 1), (227, .iinc 6 1, 3), (230, .goto (-71), 3), (233, .iload_n 2, 1), (234, .iconst 1, 1), (235, .iadd, 1), (236, .istore 6, 2), (238, .iload 6, 2), (240, .aload_n 0, 1), (241, .getfield 250, 3), (244, .if_icmp .ge 87, 3), (247, .iload_n 1, 1), (248, .aload_n 0, 1), (249, .getfield 48, 3), (252, .bipush 64, 2), (254, .iload 6, 2), (256, .imul, 1), (257, .iload_n 3, 1), (258, .iadd, 1), (259, .iaload, 1), (260, .isub, 1), (261, .istore 7, 2), (263, .iconst 0, 1), (264, .istore 8, 2), (266, .iload 8, 2), (268, .aload_n 0, 1), (269, .getfield 248, 3), (272, .if_icmp .ge 53, 3), (275, .aload_n 0, 1), (276, .getfield 48, 3), (279, .bipush 64, 2), (281, .iload 6, 2), (283, .imul, 1), (284, .iload 8, 2), (286, .iadd, 1), (287, .aload_n 0, 1), (288, .getfield 48, 3), (291, .bipush 64, 2), (293, .iload 6, 2), (295, .imul, 1), (296, .iload 8, 2), (298, .iadd, 1), (299, .iaload, 1), (300, .iload 7, 2), (302, .aload_n 0, 1), (303, .getfield 48, 3), (306, .bipush 64, 2), (308, .iload_n 2, 1), (309, .imul, 1), (310, .iload 8, 2), (312, .iadd, 1)] : List (Nat × Instr × Nat)), decode cX12_rankOf t.1 = .ok (t.2.1, t.2.2) := by decide +kernel
theorem DX12_rankOf_3 : ∀ t ∈ ([(313, .iaload, 1), (314, .imul, 1), (315, .iadd, 1), (316, .iload_n 1, 1), (317, .irem, 1), (318, .iastore, 1), (319, .iinc 8 1, 3), (322, .goto (-56), 3), (325, .iinc 6 1, 3), (328, .goto (-90), 3), (331, .iinc 2 1, 3), (334, .iinc 3 1, 3), (337, .goto (-272), 3), (340, .iload_n 2, 1), (341, .ireturn, 1)] : List (Nat × Instr × Nat)), decode cX12_rankOf t.1 = .ok (t.2.1, t.2.2) := by decide +kernel
noncomputable def f_X12_rankOf_12 (b1 : Int32) (b2 : Int32) : (OS × Int32) → Option ((OS × Int32) ⊕ (OS)) := fun z => match z with | (s_t, b3) => (if (s_t.1 0) ≤ b3 then some (.inr s_t) else if inb b2 64 = true then (f_X12_has (s_t.2.2.2 3 (b2 : Int32).toNatClampNeg) b3).bind (fun x4 => (if x4 = 0 then if inb (((64 : Int32) * b2) + b3) 4096 = true then bnd (oA s_t 30 (upd (s_t.2.2.1 30) (((64 : Int32) * b2) + b3 : Int32).toNatClampNeg 0)) (fun t9 => bnd (b3 + 1 : Int32) (fun v11 => some (.inl ((t9, v11))))) else none else if inb (((64 : Int32) * b2) + b3) 4096 = true then bnd (oA s_t 30 (upd (s_t.2.2.1 30) (((64 : Int32) * b2) + b3 : Int32).toNatClampNeg 1)) (fun t14 => bnd (b3 + 1 : Int32) (fun v16 => some (.inl ((t14, v16))))) else none)) else none)
noncomputable def f_X12_rankOf_2 (b1 : Int32) : (OS × Int32) → Option ((OS × Int32) ⊕ (OS)) := fun z => match z with | (s_t, b2) => (if (s_t.1 1) ≤ b2 then some (.inr s_t) else (lpv (f_X12_rankOf_12 b1 b2) ((s_t, 0))).bind (fun x18 => bnd (b2 + 1 : Int32) (fun v21 => some (.inl ((x18, v21))))))
noncomputable def f_X12_rankOf_84 (s_t : OS) (b1 : Int32) (b2 : Int32) (b3 : Int32) : Int32 → Option ((Int32) ⊕ (Int32)) := fun b4 => (if (s_t.1 1) ≤ b4 then some (.inr b4) else if inb (((64 : Int32) * b4) + b3) 4096 = true then (if (s_t.2.2.1 30 (((64 : Int32) * b4) + b3 : Int32).toNatClampNeg) = 0 then bnd (b4 + 1 : Int32) (fun v31 => some (.inl v31)) else some (.inr b4)) else none)
noncomputable def f_X12_rankOf_129 (s_t : OS) (b1 : Int32) (b2 : Int32) (b3 : Int32) (b4 : Int32) : Int32 → Option ((Int32) ⊕ (Int32)) := fun b5 => if inb (((64 : Int32) * b4) + b3) 4096 = true then if b1 = 0 then none else (if (b5 * (s_t.2.2.1 30 (((64 : Int32) * b4) + b3 : Int32).toNatClampNeg)) - (b5 * (s_t.2.2.1 30 (((64 : Int32) * b4) + b3 : Int32).toNatClampNeg)) / b1 * b1 = 1 then some (.inr b5) else bnd (b5 + 1 : Int32) (fun v40 => some (.inl v40))) else none
noncomputable def f_X12_rankOf_159 (b1 : Int32) (b2 : Int32) (b3 : Int32) (b4 : Int32) (b5 : Int32) : (OS × Int32) → Option ((OS × Int32) ⊕ (OS)) := fun z => match z with | (s_t, b6) => (if (s_t.1 0) ≤ b6 then some (.inr s_t) else if inb (((64 : Int32) * b4) + b6) 4096 = true then if b1 = 0 then none else bnd (((s_t.2.2.1 30 (((64 : Int32) * b4) + b6 : Int32).toNatClampNeg) * b5) - ((s_t.2.2.1 30 (((64 : Int32) * b4) + b6 : Int32).toNatClampNeg) * b5) / b1 * b1 : Int32) (fun v48 => if inb (((64 : Int32) * b2) + b6) 4096 = true then bnd (oA s_t 30 (upd (s_t.2.2.1 30) (((64 : Int32) * b4) + b6 : Int32).toNatClampNeg (s_t.2.2.1 30 (((64 : Int32) * b2) + b6 : Int32).toNatClampNeg))) (fun t51 => bnd (oA t51 30 (upd (t51.2.2.1 30) (((64 : Int32) * b2) + b6 : Int32).toNatClampNeg v48)) (fun t53 => bnd (b6 + 1 : Int32) (fun v55 => some (.inl ((t53, v55)))))) else none) else none)
noncomputable def f_X12_rankOf_266 (b1 : Int32) (b2 : Int32) (b3 : Int32) (b6 : Int32) (b7 : Int32) : (OS × Int32) → Option ((OS × Int32) ⊕ (OS)) := fun z => match z with | (s_t, b8) => (if (s_t.1 0) ≤ b8 then some (.inr s_t) else if inb (((64 : Int32) * b6) + b8) 4096 = true then if inb (((64 : Int32) * b2) + b8) 4096 = true then if b1 = 0 then none else bnd (oA s_t 30 (upd (s_t.2.2.1 30) (((64 : Int32) * b6) + b8 : Int32).toNatClampNeg (((s_t.2.2.1 30 (((64 : Int32) * b6) + b8 : Int32).toNatClampNeg) + (b7 * (s_t.2.2.1 30 (((64 : Int32) * b2) + b8 : Int32).toNatClampNeg))) - ((s_t.2.2.1 30 (((64 : Int32) * b6) + b8 : Int32).toNatClampNeg) + (b7 * (s_t.2.2.1 30 (((64 : Int32) * b2) + b8 : Int32).toNatClampNeg))) / b1 * b1))) (fun t70 => bnd (b8 + 1 : Int32) (fun v72 => some (.inl ((t70, v72))))) else none else none)
noncomputable def f_X12_rankOf_238 (b1 : Int32) (b2 : Int32) (b3 : Int32) : (OS × Int32) → Option ((OS × Int32) ⊕ (OS)) := fun z => match z with | (s_t, b6) => (if (s_t.1 1) ≤ b6 then some (.inr s_t) else if inb (((64 : Int32) * b6) + b3) 4096 = true then bnd (b1 - (s_t.2.2.1 30 (((64 : Int32) * b6) + b3 : Int32).toNatClampNeg) : Int32) (fun v64 => (lpv (f_X12_rankOf_266 b1 b2 b3 b6 v64) ((s_t, 0))).bind (fun x74 => bnd (b6 + 1 : Int32) (fun v77 => some (.inl ((x74, v77)))))) else none)
noncomputable def f_X12_rankOf_65 (b1 : Int32) : (OS × Int32 × Int32) → Option ((OS × Int32 × Int32) ⊕ (OS × Int32)) := fun z => match z with | (s_t, b2, b3) => (if (s_t.1 0) ≤ b3 then some (.inr ((s_t, b2))) else (if (s_t.1 1) ≤ b2 then some (.inr ((s_t, b2))) else (lpv (f_X12_rankOf_84 s_t b1 b2 b3) b2).bind (fun x33 => (if x33 = (s_t.1 1) then bnd (b3 + 1 : Int32) (fun v86 => some (.inl ((s_t, b2, v86)))) else (lpv (f_X12_rankOf_129 s_t b1 b2 b3 x33) 1).bind (fun x42 => (lpv (f_X12_rankOf_159 b1 b2 b3 x33 x42) ((s_t, 0))).bind (fun x57 => bnd (b2 + 1 : Int32) (fun v60 => (lpv (f_X12_rankOf_238 b1 b2 b3) ((x57, v60))).bind (fun x79 => bnd (b2 + 1 : Int32) (fun v82 => bnd (b3 + 1 : Int32) (fun v84 => some (.inl ((x79, v82, v84)))))))))))))
noncomputable def f_X12_rankOf (st : OS) (a0 : Int32) : Option (Int32 × OS) := (lpv (f_X12_rankOf_2 a0) ((st, 0))).bind (fun x23 => (lpv (f_X12_rankOf_65 a0) ((x23, 0, 0))).bind (fun x88 => match x88 with | (t90, v91) => some ((v91, t90))))
set_option maxHeartbeats 4000000 in
set_option maxRecDepth 100000 in
theorem w_X12_rankOf_12 {p : Program} {l : Launch} {e : Env} {s : State} {m : MethodId} {args : Array Value} {below : List Frame} {meth : Method} {c : Code} {Q : State → Prop} {G : mG} {h : mM} {q : Nat → Nat} (hq : oinj LX12 q) (X : mX G p m c cX12_rankOf 9 s args RX12) (b1 : Int32) (b2 : Int32) : ∀ (z : OS × Int32) (r : OS), lpv (f_X12_rankOf_12 b1 b2) z = some r → ∀ (H : Heap) (locs : List Loc) (ls : Array Slot), mH G (oset LX12 G q z.1 h) s.heap H locs → lv_has ls 9 [(0, .ref (q 53)), (1, .int b1), (2, .int b2), (3, .int z.2)] → (∀ (H : Heap) (locs : List Loc) (ls : Array Slot), mH G (oset LX12 G q r h) s.heap H locs → lv_has ls 9 [(0, .ref (q 53)), (1, .int b1), (2, .int b2)] → W p l e rm_X12_rankOf s m args below meth c H locs 0 0 Q (F0 m 55 ls [])) → W p l e rm_X12_rankOf s m args below meth c H locs 0 0 Q (F0 m 12 ls []) := by
  refine lpv_rec ?_
  intro z r x hF hx H locs ls hH hl K0
  obtain ⟨s_t, b3⟩ := z
  dsimp only [f_X12_rankOf_12] at hF
  try dsimp only at hH hl
  refine lv_iload_n X.x X.b (dk DX12_rankOf_0 8 rfl) rfl (lv_at hl 3 rfl) ?_
  refine lv_aload_n X.x X.b (dk DX12_rankOf_0 9 rfl) rfl (lv_at hl 0 rfl) ?_
  refine og_getI OX12 X hq hH 0 (by decide) rfl kF_X12_248 (dk DX12_rankOf_0 10 rfl) ?_
  refine lv_icmp_ge (tgt := 55) X.x X.b (dk DX12_rankOf_0 11 rfl) (by decide) (fun c2 => ?_) (fun c2 => ?_)
  · replace hF := if_t hF c2
    have hr9 := lp_r hF hx
    subst hr9
    exact K0 _ _ _ hH (lv_sub hl [0, 1, 2] rfl)
  · replace hF := if_f hF c2
    refine lv_aload_n X.x X.b (dk DX12_rankOf_0 12 rfl) rfl (lv_at hl 0 rfl) ?_
    refine og_getR (t := 0) OX12 X hq hH 30 (by decide) rfl kF_X12_48 (dk DX12_rankOf_0 13 rfl) ?_
    refine lv_bipush (v := 64) X.x X.b (dk DX12_rankOf_0 14 rfl) (by decide) ?_
    refine lv_iload_n X.x X.b (dk DX12_rankOf_0 15 rfl) rfl (lv_at hl 2 rfl) ?_
    refine lv_imul X.x X.b (dk DX12_rankOf_0 16 rfl) ?_
    refine lv_iload_n X.x X.b (dk DX12_rankOf_0 17 rfl) rfl (lv_at hl 3 rfl) ?_
    refine lv_iadd X.x X.b (dk DX12_rankOf_0 18 rfl) ?_
    refine lv_aload_n X.x X.b (dk DX12_rankOf_0 19 rfl) rfl (lv_at hl 0 rfl) ?_
    refine og_getR (t := 1) OX12 X hq hH 3 (by decide) rfl kF_X12_7 (dk DX12_rankOf_0 20 rfl) ?_
    refine lv_iload_n X.x X.b (dk DX12_rankOf_0 21 rfl) rfl (lv_at hl 2 rfl) ?_
    obtain ⟨c3, hF⟩ := gd hF
    refine og_lald X hq hH 3 (by decide) rfl (inb_in c3) (dk DX12_rankOf_0 22 rfl) ?_
    refine lv_iload_n X.x X.b (dk DX12_rankOf_0 23 rfl) rfl (lv_at hl 3 rfl) ?_
    obtain ⟨x4, e5, hF⟩ := bd hF
    refine mr_ci0 hH ⟨rfl, rfl⟩ (mr_runS (As := [.long (s_t.2.2.2 3 (b2 : Int32).toNatClampNeg), .int b3]) (rest := [.int (((64 : Int32) * b2) + b3), .ref (q 30)]) X hH (c_X12_has e5) kM_X12_232 kT_X12_has kN_X12 kC_X12_has hd_X12_has ⟨Nat.le_of_ble_eq_true rfl, Nat.le_of_ble_eq_true rfl⟩ rfl hl.1 (Nat.le_of_ble_eq_true rfl) (dk DX12_rankOf_0 24 rfl) ⟨Nat.zero_le _, Nat.zero_le _⟩) (fun r h1 H locs hp hH => ?_)
    obtain ⟨hr1, hr2⟩ := hp; rw [hr1]; rw [hr2] at hH; clear hr1 hr2
    refine lv_if_eq (tgt := 47) X.x X.b (dk DX12_rankOf_0 25 rfl) (by decide) (fun c7 => ?_) (fun c7 => ?_)
    · replace hF := if_t hF c7
      refine lv_iconst (v := 0) X.x X.b (dk DX12_rankOf_0 28 rfl) (by decide) ?_
      obtain ⟨c8, hF⟩ := gd hF
      refine og_iast X hq hH 30 (by decide) rfl (inb_in c8) (dk DX12_rankOf_0 29 rfl) (fun H locs hH => ?_)
      obtain ⟨t9, e10⟩ : ∃ y, y = oA s_t 30 (upd (s_t.2.2.1 30) (((64 : Int32) * b2) + b3 : Int32).toNatClampNeg 0) := ⟨_, rfl⟩
      rw [← e10] at hH
      replace hF := bnd_e hF e10
      obtain ⟨v11, e12⟩ : ∃ y : Int32, y = b3 + 1 := ⟨_, rfl⟩
      replace hF := bnd_e hF e12
      refine lv_iinc (v := v11) (lv' := [(3, .int v11), (0, .ref (q 53)), (1, .int b1), (2, .int b2)]) X.x X.b (dk DX12_rankOf_0 30 rfl) hl (k := 3) rfl (by rw [e12]; rfl) (by decide) rfl (fun ls hl => ?_)
      replace hl : lv_has ls 9 [(0, .ref (q 53)), (1, .int b1), (2, .int b2), (3, .int v11)] := lv_sub hl [1, 2, 3, 0] rfl
      refine lv_goto (tgt := 12) X.x X.b (dk DX12_rankOf_0 31 rfl) (by decide) ?_
      exact (lp_l hF hx) _ _ _ hH (lv_sub hl [0, 1, 2, 3] rfl) K0
    · replace hF := if_f hF c7
      refine lv_iconst (v := 1) X.x X.b (dk DX12_rankOf_0 26 rfl) (by decide) ?_
      refine lv_goto (tgt := 48) X.x X.b (dk DX12_rankOf_0 27 rfl) (by decide) ?_
      obtain ⟨c13, hF⟩ := gd hF
      refine og_iast X hq hH 30 (by decide) rfl (inb_in c13) (dk DX12_rankOf_0 29 rfl) (fun H locs hH => ?_)
      obtain ⟨t14, e15⟩ : ∃ y, y = oA s_t 30 (upd (s_t.2.2.1 30) (((64 : Int32) * b2) + b3 : Int32).toNatClampNeg 1) := ⟨_, rfl⟩
      rw [← e15] at hH
      replace hF := bnd_e hF e15
      obtain ⟨v16, e17⟩ : ∃ y : Int32, y = b3 + 1 := ⟨_, rfl⟩
      replace hF := bnd_e hF e17
      refine lv_iinc (v := v16) (lv' := [(3, .int v16), (0, .ref (q 53)), (1, .int b1), (2, .int b2)]) X.x X.b (dk DX12_rankOf_0 30 rfl) hl (k := 3) rfl (by rw [e17]; rfl) (by decide) rfl (fun ls hl => ?_)
      replace hl : lv_has ls 9 [(0, .ref (q 53)), (1, .int b1), (2, .int b2), (3, .int v16)] := lv_sub hl [1, 2, 3, 0] rfl
      refine lv_goto (tgt := 12) X.x X.b (dk DX12_rankOf_0 31 rfl) (by decide) ?_
      exact (lp_l hF hx) _ _ _ hH (lv_sub hl [0, 1, 2, 3] rfl) K0
set_option maxHeartbeats 4000000 in
set_option maxRecDepth 100000 in
theorem w_X12_rankOf_2 {p : Program} {l : Launch} {e : Env} {s : State} {m : MethodId} {args : Array Value} {below : List Frame} {meth : Method} {c : Code} {Q : State → Prop} {G : mG} {h : mM} {q : Nat → Nat} (hq : oinj LX12 q) (X : mX G p m c cX12_rankOf 9 s args RX12) (b1 : Int32) : ∀ (z : OS × Int32) (r : OS), lpv (f_X12_rankOf_2 b1) z = some r → ∀ (H : Heap) (locs : List Loc) (ls : Array Slot), mH G (oset LX12 G q z.1 h) s.heap H locs → lv_has ls 9 [(0, .ref (q 53)), (1, .int b1), (2, .int z.2)] → (∀ (H : Heap) (locs : List Loc) (ls : Array Slot), mH G (oset LX12 G q r h) s.heap H locs → lv_has ls 9 [(0, .ref (q 53)), (1, .int b1)] → W p l e rm_X12_rankOf s m args below meth c H locs 0 0 Q (F0 m 61 ls [])) → W p l e rm_X12_rankOf s m args below meth c H locs 0 0 Q (F0 m 2 ls []) := by
  refine lpv_rec ?_
  intro z r x hF hx H locs ls hH hl K0
  obtain ⟨s_t, b2⟩ := z
  dsimp only [f_X12_rankOf_2] at hF
  try dsimp only at hH hl
  refine lv_iload_n X.x X.b (dk DX12_rankOf_0 2 rfl) rfl (lv_at hl 2 rfl) ?_
  refine lv_aload_n X.x X.b (dk DX12_rankOf_0 3 rfl) rfl (lv_at hl 0 rfl) ?_
  refine og_getI OX12 X hq hH 1 (by decide) rfl kF_X12_250 (dk DX12_rankOf_0 4 rfl) ?_
  refine lv_icmp_ge (tgt := 61) X.x X.b (dk DX12_rankOf_0 5 rfl) (by decide) (fun c1 => ?_) (fun c1 => ?_)
  · replace hF := if_t hF c1
    have hr9 := lp_r hF hx
    subst hr9
    exact K0 _ _ _ hH (lv_sub hl [0, 1] rfl)
  · replace hF := if_f hF c1
    refine lv_iconst (v := 0) X.x X.b (dk DX12_rankOf_0 6 rfl) (by decide) ?_
    refine lv_istore_n (lv' := [(3, .int 0), (0, .ref (q 53)), (1, .int b1), (2, .int b2)]) X.x X.b (dk DX12_rankOf_0 7 rfl) rfl hl (by decide) rfl (fun ls hl => ?_)
    replace hl : lv_has ls 9 [(0, .ref (q 53)), (1, .int b1), (2, .int b2), (3, .int 0)] := lv_sub hl [1, 2, 3, 0] rfl
    obtain ⟨x18, e19, hF⟩ := bd hF
    replace hl : lv_has ls 9 [(0, .ref (q 53)), (1, .int b1), (2, .int b2), (3, .int 0)] := lv_sub hl [0, 1, 2, 3] rfl
    refine w_X12_rankOf_12 hq X b1 b2 _ _ e19 _ _ _ hH hl (fun H locs ls hH hl => ?_)
    obtain ⟨v21, e22⟩ : ∃ y : Int32, y = b2 + 1 := ⟨_, rfl⟩
    replace hF := bnd_e hF e22
    refine lv_iinc (v := v21) (lv' := [(2, .int v21), (0, .ref (q 53)), (1, .int b1)]) X.x X.b (dk DX12_rankOf_0 32 rfl) hl (k := 2) rfl (by rw [e22]; rfl) (by decide) rfl (fun ls hl => ?_)
    replace hl : lv_has ls 9 [(0, .ref (q 53)), (1, .int b1), (2, .int v21)] := lv_sub hl [1, 2, 0] rfl
    refine lv_goto (tgt := 2) X.x X.b (dk DX12_rankOf_0 33 rfl) (by decide) ?_
    exact (lp_l hF hx) _ _ _ hH (lv_sub hl [0, 1, 2] rfl) K0
set_option maxHeartbeats 4000000 in
set_option maxRecDepth 100000 in
theorem w_X12_rankOf_84 {p : Program} {l : Launch} {e : Env} {s : State} {m : MethodId} {args : Array Value} {below : List Frame} {meth : Method} {c : Code} {Q : State → Prop} {G : mG} {h : mM} {q : Nat → Nat} (hq : oinj LX12 q) (X : mX G p m c cX12_rankOf 9 s args RX12) (s_t : OS) (b1 : Int32) (b2 : Int32) (b3 : Int32) : ∀ (z : Int32) (r : Int32), lpv (f_X12_rankOf_84 s_t b1 b2 b3) z = some r → ∀ (H : Heap) (locs : List Loc) (ls : Array Slot), mH G (oset LX12 G q s_t h) s.heap H locs → lv_has ls 9 [(0, .ref (q 53)), (1, .int b1), (2, .int b2), (3, .int b3), (4, .int z)] → (∀ (H : Heap) (locs : List Loc) (ls : Array Slot), mH G (oset LX12 G q s_t h) s.heap H locs → lv_has ls 9 [(0, .ref (q 53)), (1, .int b1), (2, .int b2), (3, .int b3), (4, .int r)] → W p l e rm_X12_rankOf s m args below meth c H locs 0 0 Q (F0 m 114 ls [])) → W p l e rm_X12_rankOf s m args below meth c H locs 0 0 Q (F0 m 84 ls []) := by
  refine lpv_rec ?_
  intro z r x hF hx H locs ls hH hl K0
  obtain ⟨b4, hz⟩ : ∃ y, y = z := ⟨_, rfl⟩
  subst hz
  dsimp only [f_X12_rankOf_84] at hF
  refine lv_iload X.x X.b (dk DX12_rankOf_0 48 rfl) (lv_at hl 4 rfl) ?_
  refine lv_aload_n X.x X.b (dk DX12_rankOf_0 49 rfl) rfl (lv_at hl 0 rfl) ?_
  refine og_getI OX12 X hq hH 1 (by decide) rfl kF_X12_250 (dk DX12_rankOf_0 50 rfl) ?_
  refine lv_icmp_ge (tgt := 114) X.x X.b (dk DX12_rankOf_0 51 rfl) (by decide) (fun c28 => ?_) (fun c28 => ?_)
  · replace hF := if_t hF c28
    have hr9 := lp_r hF hx
    subst hr9
    exact K0 _ _ _ hH (lv_sub hl [0, 1, 2, 3, 4] rfl)
  · replace hF := if_f hF c28
    refine lv_aload_n X.x X.b (dk DX12_rankOf_0 52 rfl) rfl (lv_at hl 0 rfl) ?_
    refine og_getR (t := 0) OX12 X hq hH 30 (by decide) rfl kF_X12_48 (dk DX12_rankOf_0 53 rfl) ?_
    refine lv_bipush (v := 64) X.x X.b (dk DX12_rankOf_0 54 rfl) (by decide) ?_
    refine lv_iload X.x X.b (dk DX12_rankOf_0 55 rfl) (lv_at hl 4 rfl) ?_
    refine lv_imul X.x X.b (dk DX12_rankOf_0 56 rfl) ?_
    refine lv_iload_n X.x X.b (dk DX12_rankOf_0 57 rfl) rfl (lv_at hl 3 rfl) ?_
    refine lv_iadd X.x X.b (dk DX12_rankOf_0 58 rfl) ?_
    obtain ⟨c29, hF⟩ := gd hF
    refine og_iald X hq hH 30 (by decide) rfl (inb_in c29) (dk DX12_rankOf_0 59 rfl) ?_
    refine lv_if_ne (tgt := 114) X.x X.b (dk DX12_rankOf_1 0 rfl) (by decide) (fun c30 => ?_) (fun c30 => ?_)
    · replace hF := if_f hF c30
      have hr9 := lp_r hF hx
      subst hr9
      exact K0 _ _ _ hH (lv_sub hl [0, 1, 2, 3, 4] rfl)
    · replace hF := if_t hF c30
      obtain ⟨v31, e32⟩ : ∃ y : Int32, y = b4 + 1 := ⟨_, rfl⟩
      replace hF := bnd_e hF e32
      refine lv_iinc (v := v31) (lv' := [(4, .int v31), (0, .ref (q 53)), (1, .int b1), (2, .int b2), (3, .int b3)]) X.x X.b (dk DX12_rankOf_1 1 rfl) hl (k := 4) rfl (by rw [e32]; rfl) (by decide) rfl (fun ls hl => ?_)
      replace hl : lv_has ls 9 [(0, .ref (q 53)), (1, .int b1), (2, .int b2), (3, .int b3), (4, .int v31)] := lv_sub hl [1, 2, 3, 4, 0] rfl
      refine lv_goto (tgt := 84) X.x X.b (dk DX12_rankOf_1 2 rfl) (by decide) ?_
      exact (lp_l hF hx) _ _ _ hH (lv_sub hl [0, 1, 2, 3, 4] rfl) K0
set_option maxHeartbeats 4000000 in
set_option maxRecDepth 100000 in
theorem w_X12_rankOf_129 {p : Program} {l : Launch} {e : Env} {s : State} {m : MethodId} {args : Array Value} {below : List Frame} {meth : Method} {c : Code} {Q : State → Prop} {G : mG} {h : mM} {q : Nat → Nat} (hq : oinj LX12 q) (X : mX G p m c cX12_rankOf 9 s args RX12) (s_t : OS) (b1 : Int32) (b2 : Int32) (b3 : Int32) (b4 : Int32) : ∀ (z : Int32) (r : Int32), lpv (f_X12_rankOf_129 s_t b1 b2 b3 b4) z = some r → ∀ (H : Heap) (locs : List Loc) (ls : Array Slot), mH G (oset LX12 G q s_t h) s.heap H locs → lv_has ls 9 [(0, .ref (q 53)), (1, .int b1), (2, .int b2), (3, .int b3), (4, .int b4), (5, .int z)] → (∀ (H : Heap) (locs : List Loc) (ls : Array Slot), mH G (oset LX12 G q s_t h) s.heap H locs → lv_has ls 9 [(0, .ref (q 53)), (1, .int b1), (2, .int b2), (3, .int b3), (4, .int b4), (5, .int r)] → W p l e rm_X12_rankOf s m args below meth c H locs 0 0 Q (F0 m 156 ls [])) → W p l e rm_X12_rankOf s m args below meth c H locs 0 0 Q (F0 m 129 ls []) := by
  refine lpv_rec ?_
  intro z r x hF hx H locs ls hH hl K0
  obtain ⟨b5, hz⟩ : ∃ y, y = z := ⟨_, rfl⟩
  subst hz
  dsimp only [f_X12_rankOf_129] at hF
  refine lv_iload X.x X.b (dk DX12_rankOf_1 10 rfl) (lv_at hl 5 rfl) ?_
  refine lv_aload_n X.x X.b (dk DX12_rankOf_1 11 rfl) rfl (lv_at hl 0 rfl) ?_
  refine og_getR (t := 0) OX12 X hq hH 30 (by decide) rfl kF_X12_48 (dk DX12_rankOf_1 12 rfl) ?_
  refine lv_bipush (v := 64) X.x X.b (dk DX12_rankOf_1 13 rfl) (by decide) ?_
  refine lv_iload X.x X.b (dk DX12_rankOf_1 14 rfl) (lv_at hl 4 rfl) ?_
  refine lv_imul X.x X.b (dk DX12_rankOf_1 15 rfl) ?_
  refine lv_iload_n X.x X.b (dk DX12_rankOf_1 16 rfl) rfl (lv_at hl 3 rfl) ?_
  refine lv_iadd X.x X.b (dk DX12_rankOf_1 17 rfl) ?_
  obtain ⟨c37, hF⟩ := gd hF
  refine og_iald X hq hH 30 (by decide) rfl (inb_in c37) (dk DX12_rankOf_1 18 rfl) ?_
  refine lv_imul X.x X.b (dk DX12_rankOf_1 19 rfl) ?_
  refine lv_iload_n X.x X.b (dk DX12_rankOf_1 20 rfl) rfl (lv_at hl 1 rfl) ?_
  obtain ⟨c38, hF⟩ := gn hF
  refine lv_irem X.x X.b (dk DX12_rankOf_1 21 rfl) c38 ?_
  refine lv_iconst (v := 1) X.x X.b (dk DX12_rankOf_1 22 rfl) (by decide) ?_
  refine lv_icmp_eq (tgt := 156) X.x X.b (dk DX12_rankOf_1 23 rfl) (by decide) (fun c39 => ?_) (fun c39 => ?_)
  · replace hF := if_t hF c39
    have hr9 := lp_r hF hx
    subst hr9
    exact K0 _ _ _ hH (lv_sub hl [0, 1, 2, 3, 4, 5] rfl)
  · replace hF := if_f hF c39
    obtain ⟨v40, e41⟩ : ∃ y : Int32, y = b5 + 1 := ⟨_, rfl⟩
    replace hF := bnd_e hF e41
    refine lv_iinc (v := v40) (lv' := [(5, .int v40), (0, .ref (q 53)), (1, .int b1), (2, .int b2), (3, .int b3), (4, .int b4)]) X.x X.b (dk DX12_rankOf_1 24 rfl) hl (k := 5) rfl (by rw [e41]; rfl) (by decide) rfl (fun ls hl => ?_)
    replace hl : lv_has ls 9 [(0, .ref (q 53)), (1, .int b1), (2, .int b2), (3, .int b3), (4, .int b4), (5, .int v40)] := lv_sub hl [1, 2, 3, 4, 5, 0] rfl
    refine lv_goto (tgt := 129) X.x X.b (dk DX12_rankOf_1 25 rfl) (by decide) ?_
    exact (lp_l hF hx) _ _ _ hH (lv_sub hl [0, 1, 2, 3, 4, 5] rfl) K0
set_option maxHeartbeats 4000000 in
set_option maxRecDepth 100000 in
theorem w_X12_rankOf_159 {p : Program} {l : Launch} {e : Env} {s : State} {m : MethodId} {args : Array Value} {below : List Frame} {meth : Method} {c : Code} {Q : State → Prop} {G : mG} {h : mM} {q : Nat → Nat} (hq : oinj LX12 q) (X : mX G p m c cX12_rankOf 9 s args RX12) (b1 : Int32) (b2 : Int32) (b3 : Int32) (b4 : Int32) (b5 : Int32) : ∀ (z : OS × Int32) (r : OS), lpv (f_X12_rankOf_159 b1 b2 b3 b4 b5) z = some r → ∀ (H : Heap) (locs : List Loc) (ls : Array Slot), mH G (oset LX12 G q z.1 h) s.heap H locs → lv_has ls 9 [(0, .ref (q 53)), (1, .int b1), (2, .int b2), (3, .int b3), (4, .int b4), (5, .int b5), (6, .int z.2)] → (∀ (H : Heap) (locs : List Loc) (ls : Array Slot), mH G (oset LX12 G q r h) s.heap H locs → lv_has ls 9 [(0, .ref (q 53)), (1, .int b1), (2, .int b2), (3, .int b3)] → W p l e rm_X12_rankOf s m args below meth c H locs 0 0 Q (F0 m 233 ls [])) → W p l e rm_X12_rankOf s m args below meth c H locs 0 0 Q (F0 m 159 ls []) := by
  refine lpv_rec ?_
  intro z r x hF hx H locs ls hH hl K0
  obtain ⟨s_t, b6⟩ := z
  dsimp only [f_X12_rankOf_159] at hF
  try dsimp only at hH hl
  refine lv_iload X.x X.b (dk DX12_rankOf_1 28 rfl) (lv_at hl 6 rfl) ?_
  refine lv_aload_n X.x X.b (dk DX12_rankOf_1 29 rfl) rfl (lv_at hl 0 rfl) ?_
  refine og_getI OX12 X hq hH 0 (by decide) rfl kF_X12_248 (dk DX12_rankOf_1 30 rfl) ?_
  refine lv_icmp_ge (tgt := 233) X.x X.b (dk DX12_rankOf_1 31 rfl) (by decide) (fun c45 => ?_) (fun c45 => ?_)
  · replace hF := if_t hF c45
    have hr9 := lp_r hF hx
    subst hr9
    exact K0 _ _ _ hH (lv_sub hl [0, 1, 2, 3] rfl)
  · replace hF := if_f hF c45
    refine lv_aload_n X.x X.b (dk DX12_rankOf_1 32 rfl) rfl (lv_at hl 0 rfl) ?_
    refine og_getR (t := 0) OX12 X hq hH 30 (by decide) rfl kF_X12_48 (dk DX12_rankOf_1 33 rfl) ?_
    refine lv_bipush (v := 64) X.x X.b (dk DX12_rankOf_1 34 rfl) (by decide) ?_
    refine lv_iload X.x X.b (dk DX12_rankOf_1 35 rfl) (lv_at hl 4 rfl) ?_
    refine lv_imul X.x X.b (dk DX12_rankOf_1 36 rfl) ?_
    refine lv_iload X.x X.b (dk DX12_rankOf_1 37 rfl) (lv_at hl 6 rfl) ?_
    refine lv_iadd X.x X.b (dk DX12_rankOf_1 38 rfl) ?_
    obtain ⟨c46, hF⟩ := gd hF
    refine og_iald X hq hH 30 (by decide) rfl (inb_in c46) (dk DX12_rankOf_1 39 rfl) ?_
    refine lv_iload X.x X.b (dk DX12_rankOf_1 40 rfl) (lv_at hl 5 rfl) ?_
    refine lv_imul X.x X.b (dk DX12_rankOf_1 41 rfl) ?_
    refine lv_iload_n X.x X.b (dk DX12_rankOf_1 42 rfl) rfl (lv_at hl 1 rfl) ?_
    obtain ⟨c47, hF⟩ := gn hF
    refine lv_irem X.x X.b (dk DX12_rankOf_1 43 rfl) c47 ?_
    refine lv_topi (fun v48 e49 => ?_)
    replace hF := bnd_e hF e49
    refine lv_istore (lv' := [(7, .int v48), (0, .ref (q 53)), (1, .int b1), (2, .int b2), (3, .int b3), (4, .int b4), (5, .int b5), (6, .int b6)]) X.x X.b (dk DX12_rankOf_1 44 rfl) hl (by decide) rfl (fun ls hl => ?_)
    replace hl : lv_has ls 9 [(0, .ref (q 53)), (1, .int b1), (2, .int b2), (3, .int b3), (4, .int b4), (5, .int b5), (6, .int b6), (7, .int v48)] := lv_sub hl [1, 2, 3, 4, 5, 6, 7, 0] rfl
    refine lv_aload_n X.x X.b (dk DX12_rankOf_1 45 rfl) rfl (lv_at hl 0 rfl) ?_
    refine og_getR (t := 0) OX12 X hq hH 30 (by decide) rfl kF_X12_48 (dk DX12_rankOf_1 46 rfl) ?_
    refine lv_bipush (v := 64) X.x X.b (dk DX12_rankOf_1 47 rfl) (by decide) ?_
    refine lv_iload X.x X.b (dk DX12_rankOf_1 48 rfl) (lv_at hl 4 rfl) ?_
    refine lv_imul X.x X.b (dk DX12_rankOf_1 49 rfl) ?_
    refine lv_iload X.x X.b (dk DX12_rankOf_1 50 rfl) (lv_at hl 6 rfl) ?_
    refine lv_iadd X.x X.b (dk DX12_rankOf_1 51 rfl) ?_
    refine lv_aload_n X.x X.b (dk DX12_rankOf_1 52 rfl) rfl (lv_at hl 0 rfl) ?_
    refine og_getR (t := 0) OX12 X hq hH 30 (by decide) rfl kF_X12_48 (dk DX12_rankOf_1 53 rfl) ?_
    refine lv_bipush (v := 64) X.x X.b (dk DX12_rankOf_1 54 rfl) (by decide) ?_
    refine lv_iload_n X.x X.b (dk DX12_rankOf_1 55 rfl) rfl (lv_at hl 2 rfl) ?_
    refine lv_imul X.x X.b (dk DX12_rankOf_1 56 rfl) ?_
    refine lv_iload X.x X.b (dk DX12_rankOf_1 57 rfl) (lv_at hl 6 rfl) ?_
    refine lv_iadd X.x X.b (dk DX12_rankOf_1 58 rfl) ?_
    obtain ⟨c50, hF⟩ := gd hF
    refine og_iald X hq hH 30 (by decide) rfl (inb_in c50) (dk DX12_rankOf_1 59 rfl) ?_
    refine og_iast X hq hH 30 (by decide) rfl (inb_in c46) (dk DX12_rankOf_2 0 rfl) (fun H locs hH => ?_)
    obtain ⟨t51, e52⟩ : ∃ y, y = oA s_t 30 (upd (s_t.2.2.1 30) (((64 : Int32) * b4) + b6 : Int32).toNatClampNeg (s_t.2.2.1 30 (((64 : Int32) * b2) + b6 : Int32).toNatClampNeg)) := ⟨_, rfl⟩
    rw [← e52] at hH
    replace hF := bnd_e hF e52
    refine lv_aload_n X.x X.b (dk DX12_rankOf_2 1 rfl) rfl (lv_at hl 0 rfl) ?_
    refine og_getR (t := 0) OX12 X hq hH 30 (by decide) rfl kF_X12_48 (dk DX12_rankOf_2 2 rfl) ?_
    refine lv_bipush (v := 64) X.x X.b (dk DX12_rankOf_2 3 rfl) (by decide) ?_
    refine lv_iload_n X.x X.b (dk DX12_rankOf_2 4 rfl) rfl (lv_at hl 2 rfl) ?_
    refine lv_imul X.x X.b (dk DX12_rankOf_2 5 rfl) ?_
    refine lv_iload X.x X.b (dk DX12_rankOf_2 6 rfl) (lv_at hl 6 rfl) ?_
    refine lv_iadd X.x X.b (dk DX12_rankOf_2 7 rfl) ?_
    refine lv_iload X.x X.b (dk DX12_rankOf_2 8 rfl) (lv_at hl 7 rfl) ?_
    refine og_iast X hq hH 30 (by decide) rfl (inb_in c50) (dk DX12_rankOf_2 9 rfl) (fun H locs hH => ?_)
    obtain ⟨t53, e54⟩ : ∃ y, y = oA t51 30 (upd (t51.2.2.1 30) (((64 : Int32) * b2) + b6 : Int32).toNatClampNeg v48) := ⟨_, rfl⟩
    rw [← e54] at hH
    replace hF := bnd_e hF e54
    obtain ⟨v55, e56⟩ : ∃ y : Int32, y = b6 + 1 := ⟨_, rfl⟩
    replace hF := bnd_e hF e56
    refine lv_iinc (v := v55) (lv' := [(6, .int v55), (0, .ref (q 53)), (1, .int b1), (2, .int b2), (3, .int b3), (4, .int b4), (5, .int b5), (7, .int v48)]) X.x X.b (dk DX12_rankOf_2 10 rfl) hl (k := 6) rfl (by rw [e56]; rfl) (by decide) rfl (fun ls hl => ?_)
    replace hl : lv_has ls 9 [(0, .ref (q 53)), (1, .int b1), (2, .int b2), (3, .int b3), (4, .int b4), (5, .int b5), (6, .int v55)] := lv_sub hl [1, 2, 3, 4, 5, 6, 0] rfl
    refine lv_goto (tgt := 159) X.x X.b (dk DX12_rankOf_2 11 rfl) (by decide) ?_
    exact (lp_l hF hx) _ _ _ hH (lv_sub hl [0, 1, 2, 3, 4, 5, 6] rfl) K0
set_option maxHeartbeats 4000000 in
set_option maxRecDepth 100000 in
theorem w_X12_rankOf_266 {p : Program} {l : Launch} {e : Env} {s : State} {m : MethodId} {args : Array Value} {below : List Frame} {meth : Method} {c : Code} {Q : State → Prop} {G : mG} {h : mM} {q : Nat → Nat} (hq : oinj LX12 q) (X : mX G p m c cX12_rankOf 9 s args RX12) (b1 : Int32) (b2 : Int32) (b3 : Int32) (b6 : Int32) (b7 : Int32) : ∀ (z : OS × Int32) (r : OS), lpv (f_X12_rankOf_266 b1 b2 b3 b6 b7) z = some r → ∀ (H : Heap) (locs : List Loc) (ls : Array Slot), mH G (oset LX12 G q z.1 h) s.heap H locs → lv_has ls 9 [(0, .ref (q 53)), (1, .int b1), (2, .int b2), (3, .int b3), (6, .int b6), (7, .int b7), (8, .int z.2)] → (∀ (H : Heap) (locs : List Loc) (ls : Array Slot), mH G (oset LX12 G q r h) s.heap H locs → lv_has ls 9 [(0, .ref (q 53)), (1, .int b1), (2, .int b2), (3, .int b3), (6, .int b6)] → W p l e rm_X12_rankOf s m args below meth c H locs 0 0 Q (F0 m 325 ls [])) → W p l e rm_X12_rankOf s m args below meth c H locs 0 0 Q (F0 m 266 ls []) := by
  refine lpv_rec ?_
  intro z r x hF hx H locs ls hH hl K0
  obtain ⟨s_t, b8⟩ := z
  dsimp only [f_X12_rankOf_266] at hF
  try dsimp only at hH hl
  refine lv_iload X.x X.b (dk DX12_rankOf_2 33 rfl) (lv_at hl 6 rfl) ?_
  refine lv_aload_n X.x X.b (dk DX12_rankOf_2 34 rfl) rfl (lv_at hl 0 rfl) ?_
  refine og_getI OX12 X hq hH 0 (by decide) rfl kF_X12_248 (dk DX12_rankOf_2 35 rfl) ?_
  refine lv_icmp_ge (tgt := 325) X.x X.b (dk DX12_rankOf_2 36 rfl) (by decide) (fun c66 => ?_) (fun c66 => ?_)
  · replace hF := if_t hF c66
    have hr9 := lp_r hF hx
    subst hr9
    exact K0 _ _ _ hH (lv_sub hl [0, 1, 2, 3, 4] rfl)
  · replace hF := if_f hF c66
    refine lv_aload_n X.x X.b (dk DX12_rankOf_2 37 rfl) rfl (lv_at hl 0 rfl) ?_
    refine og_getR (t := 0) OX12 X hq hH 30 (by decide) rfl kF_X12_48 (dk DX12_rankOf_2 38 rfl) ?_
    refine lv_bipush (v := 64) X.x X.b (dk DX12_rankOf_2 39 rfl) (by decide) ?_
    refine lv_iload X.x X.b (dk DX12_rankOf_2 40 rfl) (lv_at hl 4 rfl) ?_
    refine lv_imul X.x X.b (dk DX12_rankOf_2 41 rfl) ?_
    refine lv_iload X.x X.b (dk DX12_rankOf_2 42 rfl) (lv_at hl 6 rfl) ?_
    refine lv_iadd X.x X.b (dk DX12_rankOf_2 43 rfl) ?_
    refine lv_aload_n X.x X.b (dk DX12_rankOf_2 44 rfl) rfl (lv_at hl 0 rfl) ?_
    refine og_getR (t := 0) OX12 X hq hH 30 (by decide) rfl kF_X12_48 (dk DX12_rankOf_2 45 rfl) ?_
    refine lv_bipush (v := 64) X.x X.b (dk DX12_rankOf_2 46 rfl) (by decide) ?_
    refine lv_iload X.x X.b (dk DX12_rankOf_2 47 rfl) (lv_at hl 4 rfl) ?_
    refine lv_imul X.x X.b (dk DX12_rankOf_2 48 rfl) ?_
    refine lv_iload X.x X.b (dk DX12_rankOf_2 49 rfl) (lv_at hl 6 rfl) ?_
    refine lv_iadd X.x X.b (dk DX12_rankOf_2 50 rfl) ?_
    obtain ⟨c67, hF⟩ := gd hF
    refine og_iald X hq hH 30 (by decide) rfl (inb_in c67) (dk DX12_rankOf_2 51 rfl) ?_
    refine lv_iload X.x X.b (dk DX12_rankOf_2 52 rfl) (lv_at hl 5 rfl) ?_
    refine lv_aload_n X.x X.b (dk DX12_rankOf_2 53 rfl) rfl (lv_at hl 0 rfl) ?_
    refine og_getR (t := 0) OX12 X hq hH 30 (by decide) rfl kF_X12_48 (dk DX12_rankOf_2 54 rfl) ?_
    refine lv_bipush (v := 64) X.x X.b (dk DX12_rankOf_2 55 rfl) (by decide) ?_
    refine lv_iload_n X.x X.b (dk DX12_rankOf_2 56 rfl) rfl (lv_at hl 2 rfl) ?_
    refine lv_imul X.x X.b (dk DX12_rankOf_2 57 rfl) ?_
    refine lv_iload X.x X.b (dk DX12_rankOf_2 58 rfl) (lv_at hl 6 rfl) ?_
    refine lv_iadd X.x X.b (dk DX12_rankOf_2 59 rfl) ?_
    obtain ⟨c68, hF⟩ := gd hF
    refine og_iald X hq hH 30 (by decide) rfl (inb_in c68) (dk DX12_rankOf_3 0 rfl) ?_
    refine lv_imul X.x X.b (dk DX12_rankOf_3 1 rfl) ?_
    refine lv_iadd X.x X.b (dk DX12_rankOf_3 2 rfl) ?_
    refine lv_iload_n X.x X.b (dk DX12_rankOf_3 3 rfl) rfl (lv_at hl 1 rfl) ?_
    obtain ⟨c69, hF⟩ := gn hF
    refine lv_irem X.x X.b (dk DX12_rankOf_3 4 rfl) c69 ?_
    refine og_iast X hq hH 30 (by decide) rfl (inb_in c67) (dk DX12_rankOf_3 5 rfl) (fun H locs hH => ?_)
    obtain ⟨t70, e71⟩ : ∃ y, y = oA s_t 30 (upd (s_t.2.2.1 30) (((64 : Int32) * b6) + b8 : Int32).toNatClampNeg (((s_t.2.2.1 30 (((64 : Int32) * b6) + b8 : Int32).toNatClampNeg) + (b7 * (s_t.2.2.1 30 (((64 : Int32) * b2) + b8 : Int32).toNatClampNeg))) - ((s_t.2.2.1 30 (((64 : Int32) * b6) + b8 : Int32).toNatClampNeg) + (b7 * (s_t.2.2.1 30 (((64 : Int32) * b2) + b8 : Int32).toNatClampNeg))) / b1 * b1)) := ⟨_, rfl⟩
    rw [← e71] at hH
    replace hF := bnd_e hF e71
    obtain ⟨v72, e73⟩ : ∃ y : Int32, y = b8 + 1 := ⟨_, rfl⟩
    replace hF := bnd_e hF e73
    refine lv_iinc (v := v72) (lv' := [(8, .int v72), (0, .ref (q 53)), (1, .int b1), (2, .int b2), (3, .int b3), (6, .int b6), (7, .int b7)]) X.x X.b (dk DX12_rankOf_3 6 rfl) hl (k := 6) rfl (by rw [e73]; rfl) (by decide) rfl (fun ls hl => ?_)
    replace hl : lv_has ls 9 [(0, .ref (q 53)), (1, .int b1), (2, .int b2), (3, .int b3), (6, .int b6), (7, .int b7), (8, .int v72)] := lv_sub hl [1, 2, 3, 4, 5, 6, 0] rfl
    refine lv_goto (tgt := 266) X.x X.b (dk DX12_rankOf_3 7 rfl) (by decide) ?_
    exact (lp_l hF hx) _ _ _ hH (lv_sub hl [0, 1, 2, 3, 4, 5, 6] rfl) K0
set_option maxHeartbeats 4000000 in
set_option maxRecDepth 100000 in
theorem w_X12_rankOf_238 {p : Program} {l : Launch} {e : Env} {s : State} {m : MethodId} {args : Array Value} {below : List Frame} {meth : Method} {c : Code} {Q : State → Prop} {G : mG} {h : mM} {q : Nat → Nat} (hq : oinj LX12 q) (X : mX G p m c cX12_rankOf 9 s args RX12) (b1 : Int32) (b2 : Int32) (b3 : Int32) : ∀ (z : OS × Int32) (r : OS), lpv (f_X12_rankOf_238 b1 b2 b3) z = some r → ∀ (H : Heap) (locs : List Loc) (ls : Array Slot), mH G (oset LX12 G q z.1 h) s.heap H locs → lv_has ls 9 [(0, .ref (q 53)), (1, .int b1), (2, .int b2), (3, .int b3), (6, .int z.2)] → (∀ (H : Heap) (locs : List Loc) (ls : Array Slot), mH G (oset LX12 G q r h) s.heap H locs → lv_has ls 9 [(0, .ref (q 53)), (1, .int b1), (2, .int b2), (3, .int b3)] → W p l e rm_X12_rankOf s m args below meth c H locs 0 0 Q (F0 m 331 ls [])) → W p l e rm_X12_rankOf s m args below meth c H locs 0 0 Q (F0 m 238 ls []) := by
  refine lpv_rec ?_
  intro z r x hF hx H locs ls hH hl K0
  obtain ⟨s_t, b6⟩ := z
  dsimp only [f_X12_rankOf_238] at hF
  try dsimp only at hH hl
  refine lv_iload X.x X.b (dk DX12_rankOf_2 16 rfl) (lv_at hl 4 rfl) ?_
  refine lv_aload_n X.x X.b (dk DX12_rankOf_2 17 rfl) rfl (lv_at hl 0 rfl) ?_
  refine og_getI OX12 X hq hH 1 (by decide) rfl kF_X12_250 (dk DX12_rankOf_2 18 rfl) ?_
  refine lv_icmp_ge (tgt := 331) X.x X.b (dk DX12_rankOf_2 19 rfl) (by decide) (fun c62 => ?_) (fun c62 => ?_)
  · replace hF := if_t hF c62
    have hr9 := lp_r hF hx
    subst hr9
    exact K0 _ _ _ hH (lv_sub hl [0, 1, 2, 3] rfl)
  · replace hF := if_f hF c62
    refine lv_iload_n X.x X.b (dk DX12_rankOf_2 20 rfl) rfl (lv_at hl 1 rfl) ?_
    refine lv_aload_n X.x X.b (dk DX12_rankOf_2 21 rfl) rfl (lv_at hl 0 rfl) ?_
    refine og_getR (t := 0) OX12 X hq hH 30 (by decide) rfl kF_X12_48 (dk DX12_rankOf_2 22 rfl) ?_
    refine lv_bipush (v := 64) X.x X.b (dk DX12_rankOf_2 23 rfl) (by decide) ?_
    refine lv_iload X.x X.b (dk DX12_rankOf_2 24 rfl) (lv_at hl 4 rfl) ?_
    refine lv_imul X.x X.b (dk DX12_rankOf_2 25 rfl) ?_
    refine lv_iload_n X.x X.b (dk DX12_rankOf_2 26 rfl) rfl (lv_at hl 3 rfl) ?_
    refine lv_iadd X.x X.b (dk DX12_rankOf_2 27 rfl) ?_
    obtain ⟨c63, hF⟩ := gd hF
    refine og_iald X hq hH 30 (by decide) rfl (inb_in c63) (dk DX12_rankOf_2 28 rfl) ?_
    refine lv_isub X.x X.b (dk DX12_rankOf_2 29 rfl) ?_
    refine lv_topi (fun v64 e65 => ?_)
    replace hF := bnd_e hF e65
    refine lv_istore (lv' := [(7, .int v64), (0, .ref (q 53)), (1, .int b1), (2, .int b2), (3, .int b3), (6, .int b6)]) X.x X.b (dk DX12_rankOf_2 30 rfl) hl (by decide) rfl (fun ls hl => ?_)
    replace hl : lv_has ls 9 [(0, .ref (q 53)), (1, .int b1), (2, .int b2), (3, .int b3), (6, .int b6), (7, .int v64)] := lv_sub hl [1, 2, 3, 4, 5, 0] rfl
    refine lv_iconst (v := 0) X.x X.b (dk DX12_rankOf_2 31 rfl) (by decide) ?_
    refine lv_istore (lv' := [(8, .int 0), (0, .ref (q 53)), (1, .int b1), (2, .int b2), (3, .int b3), (6, .int b6), (7, .int v64)]) X.x X.b (dk DX12_rankOf_2 32 rfl) hl (by decide) rfl (fun ls hl => ?_)
    replace hl : lv_has ls 9 [(0, .ref (q 53)), (1, .int b1), (2, .int b2), (3, .int b3), (6, .int b6), (7, .int v64), (8, .int 0)] := lv_sub hl [1, 2, 3, 4, 5, 6, 0] rfl
    obtain ⟨x74, e75, hF⟩ := bd hF
    replace hl : lv_has ls 9 [(0, .ref (q 53)), (1, .int b1), (2, .int b2), (3, .int b3), (6, .int b6), (7, .int v64), (8, .int 0)] := lv_sub hl [0, 1, 2, 3, 4, 5, 6] rfl
    refine w_X12_rankOf_266 hq X b1 b2 b3 b6 v64 _ _ e75 _ _ _ hH hl (fun H locs ls hH hl => ?_)
    obtain ⟨v77, e78⟩ : ∃ y : Int32, y = b6 + 1 := ⟨_, rfl⟩
    replace hF := bnd_e hF e78
    refine lv_iinc (v := v77) (lv' := [(6, .int v77), (0, .ref (q 53)), (1, .int b1), (2, .int b2), (3, .int b3)]) X.x X.b (dk DX12_rankOf_3 8 rfl) hl (k := 4) rfl (by rw [e78]; rfl) (by decide) rfl (fun ls hl => ?_)
    replace hl : lv_has ls 9 [(0, .ref (q 53)), (1, .int b1), (2, .int b2), (3, .int b3), (6, .int v77)] := lv_sub hl [1, 2, 3, 4, 0] rfl
    refine lv_goto (tgt := 238) X.x X.b (dk DX12_rankOf_3 9 rfl) (by decide) ?_
    exact (lp_l hF hx) _ _ _ hH (lv_sub hl [0, 1, 2, 3, 4] rfl) K0
set_option maxHeartbeats 4000000 in
set_option maxRecDepth 100000 in
theorem w_X12_rankOf_65 {p : Program} {l : Launch} {e : Env} {s : State} {m : MethodId} {args : Array Value} {below : List Frame} {meth : Method} {c : Code} {Q : State → Prop} {G : mG} {h : mM} {q : Nat → Nat} (hq : oinj LX12 q) (X : mX G p m c cX12_rankOf 9 s args RX12) (b1 : Int32) : ∀ (z : OS × Int32 × Int32) (r : OS × Int32), lpv (f_X12_rankOf_65 b1) z = some r → ∀ (H : Heap) (locs : List Loc) (ls : Array Slot), mH G (oset LX12 G q z.1 h) s.heap H locs → lv_has ls 9 [(0, .ref (q 53)), (1, .int b1), (2, .int z.2.1), (3, .int z.2.2)] → (∀ (H : Heap) (locs : List Loc) (ls : Array Slot), mH G (oset LX12 G q r.1 h) s.heap H locs → lv_has ls 9 [(2, .int r.2)] → W p l e rm_X12_rankOf s m args below meth c H locs 0 0 Q (F0 m 340 ls [])) → W p l e rm_X12_rankOf s m args below meth c H locs 0 0 Q (F0 m 65 ls []) := by
  refine lpv_rec ?_
  intro z r x hF hx H locs ls hH hl K0
  obtain ⟨s_t, b2, b3⟩ := z
  dsimp only [f_X12_rankOf_65] at hF
  try dsimp only at hH hl
  refine lv_iload_n X.x X.b (dk DX12_rankOf_0 38 rfl) rfl (lv_at hl 3 rfl) ?_
  refine lv_aload_n X.x X.b (dk DX12_rankOf_0 39 rfl) rfl (lv_at hl 0 rfl) ?_
  refine og_getI OX12 X hq hH 0 (by decide) rfl kF_X12_248 (dk DX12_rankOf_0 40 rfl) ?_
  refine lv_icmp_ge (tgt := 340) X.x X.b (dk DX12_rankOf_0 41 rfl) (by decide) (fun c26 => ?_) (fun c26 => ?_)
  · replace hF := if_t hF c26
    have hr9 := lp_r hF hx
    subst hr9
    exact K0 _ _ _ hH (lv_sub hl [2] rfl)
  · replace hF := if_f hF c26
    refine lv_iload_n X.x X.b (dk DX12_rankOf_0 42 rfl) rfl (lv_at hl 2 rfl) ?_
    refine lv_aload_n X.x X.b (dk DX12_rankOf_0 43 rfl) rfl (lv_at hl 0 rfl) ?_
    refine og_getI OX12 X hq hH 1 (by decide) rfl kF_X12_250 (dk DX12_rankOf_0 44 rfl) ?_
    refine lv_icmp_ge (tgt := 340) X.x X.b (dk DX12_rankOf_0 45 rfl) (by decide) (fun c27 => ?_) (fun c27 => ?_)
    · replace hF := if_t hF c27
      have hr9 := lp_r hF hx
      subst hr9
      exact K0 _ _ _ hH (lv_sub hl [2] rfl)
    · replace hF := if_f hF c27
      refine lv_iload_n X.x X.b (dk DX12_rankOf_0 46 rfl) rfl (lv_at hl 2 rfl) ?_
      refine lv_istore (lv' := [(4, .int b2), (0, .ref (q 53)), (1, .int b1), (2, .int b2), (3, .int b3)]) X.x X.b (dk DX12_rankOf_0 47 rfl) hl (by decide) rfl (fun ls hl => ?_)
      replace hl : lv_has ls 9 [(0, .ref (q 53)), (1, .int b1), (2, .int b2), (3, .int b3), (4, .int b2)] := lv_sub hl [1, 2, 3, 4, 0] rfl
      obtain ⟨x33, e34, hF⟩ := bd hF
      replace hl : lv_has ls 9 [(0, .ref (q 53)), (1, .int b1), (2, .int b2), (3, .int b3), (4, .int b2)] := lv_sub hl [0, 1, 2, 3, 4] rfl
      refine w_X12_rankOf_84 hq X s_t b1 b2 b3 _ _ e34 _ _ _ hH hl (fun H locs ls hH hl => ?_)
      refine lv_iload X.x X.b (dk DX12_rankOf_1 3 rfl) (lv_at hl 4 rfl) ?_
      refine lv_aload_n X.x X.b (dk DX12_rankOf_1 4 rfl) rfl (lv_at hl 0 rfl) ?_
      refine og_getI OX12 X hq hH 1 (by decide) rfl kF_X12_250 (dk DX12_rankOf_1 5 rfl) ?_
      refine lv_icmp_ne (tgt := 126) X.x X.b (dk DX12_rankOf_1 6 rfl) (by decide) (fun c36 => ?_) (fun c36 => ?_)
      · replace hF := if_f hF c36
        refine lv_iconst (v := 1) X.x X.b (dk DX12_rankOf_1 8 rfl) (by decide) ?_
        refine lv_istore (lv' := [(5, .int 1), (0, .ref (q 53)), (1, .int b1), (2, .int b2), (3, .int b3), (4, .int x33)]) X.x X.b (dk DX12_rankOf_1 9 rfl) hl (by decide) rfl (fun ls hl => ?_)
        replace hl : lv_has ls 9 [(0, .ref (q 53)), (1, .int b1), (2, .int b2), (3, .int b3), (4, .int x33), (5, .int 1)] := lv_sub hl [1, 2, 3, 4, 5, 0] rfl
        obtain ⟨x42, e43, hF⟩ := bd hF
        replace hl : lv_has ls 9 [(0, .ref (q 53)), (1, .int b1), (2, .int b2), (3, .int b3), (4, .int x33), (5, .int 1)] := lv_sub hl [0, 1, 2, 3, 4, 5] rfl
        refine w_X12_rankOf_129 hq X s_t b1 b2 b3 x33 _ _ e43 _ _ _ hH hl (fun H locs ls hH hl => ?_)
        refine lv_iconst (v := 0) X.x X.b (dk DX12_rankOf_1 26 rfl) (by decide) ?_
        refine lv_istore (lv' := [(6, .int 0), (0, .ref (q 53)), (1, .int b1), (2, .int b2), (3, .int b3), (4, .int x33), (5, .int x42)]) X.x X.b (dk DX12_rankOf_1 27 rfl) hl (by decide) rfl (fun ls hl => ?_)
        replace hl : lv_has ls 9 [(0, .ref (q 53)), (1, .int b1), (2, .int b2), (3, .int b3), (4, .int x33), (5, .int x42), (6, .int 0)] := lv_sub hl [1, 2, 3, 4, 5, 6, 0] rfl
        obtain ⟨x57, e58, hF⟩ := bd hF
        replace hl : lv_has ls 9 [(0, .ref (q 53)), (1, .int b1), (2, .int b2), (3, .int b3), (4, .int x33), (5, .int x42), (6, .int 0)] := lv_sub hl [0, 1, 2, 3, 4, 5, 6] rfl
        refine w_X12_rankOf_159 hq X b1 b2 b3 x33 x42 _ _ e58 _ _ _ hH hl (fun H locs ls hH hl => ?_)
        refine lv_iload_n X.x X.b (dk DX12_rankOf_2 12 rfl) rfl (lv_at hl 2 rfl) ?_
        refine lv_iconst (v := 1) X.x X.b (dk DX12_rankOf_2 13 rfl) (by decide) ?_
        refine lv_iadd X.x X.b (dk DX12_rankOf_2 14 rfl) ?_
        refine lv_topi (fun v60 e61 => ?_)
        replace hF := bnd_e hF e61
        refine lv_istore (lv' := [(6, .int v60), (0, .ref (q 53)), (1, .int b1), (2, .int b2), (3, .int b3)]) X.x X.b (dk DX12_rankOf_2 15 rfl) hl (by decide) rfl (fun ls hl => ?_)
        replace hl : lv_has ls 9 [(0, .ref (q 53)), (1, .int b1), (2, .int b2), (3, .int b3), (6, .int v60)] := lv_sub hl [1, 2, 3, 4, 0] rfl
        obtain ⟨x79, e80, hF⟩ := bd hF
        replace hl : lv_has ls 9 [(0, .ref (q 53)), (1, .int b1), (2, .int b2), (3, .int b3), (6, .int v60)] := lv_sub hl [0, 1, 2, 3, 4] rfl
        refine w_X12_rankOf_238 hq X b1 b2 b3 _ _ e80 _ _ _ hH hl (fun H locs ls hH hl => ?_)
        obtain ⟨v82, e83⟩ : ∃ y : Int32, y = b2 + 1 := ⟨_, rfl⟩
        replace hF := bnd_e hF e83
        refine lv_iinc (v := v82) (lv' := [(2, .int v82), (0, .ref (q 53)), (1, .int b1), (3, .int b3)]) X.x X.b (dk DX12_rankOf_3 10 rfl) hl (k := 2) rfl (by rw [e83]; rfl) (by decide) rfl (fun ls hl => ?_)
        replace hl : lv_has ls 9 [(0, .ref (q 53)), (1, .int b1), (2, .int v82), (3, .int b3)] := lv_sub hl [1, 2, 0, 3] rfl
        obtain ⟨v84, e85⟩ : ∃ y : Int32, y = b3 + 1 := ⟨_, rfl⟩
        replace hF := bnd_e hF e85
        refine lv_iinc (v := v84) (lv' := [(3, .int v84), (0, .ref (q 53)), (1, .int b1), (2, .int v82)]) X.x X.b (dk DX12_rankOf_3 11 rfl) hl (k := 3) rfl (by rw [e85]; rfl) (by decide) rfl (fun ls hl => ?_)
        replace hl : lv_has ls 9 [(0, .ref (q 53)), (1, .int b1), (2, .int v82), (3, .int v84)] := lv_sub hl [1, 2, 3, 0] rfl
        refine lv_goto (tgt := 65) X.x X.b (dk DX12_rankOf_3 12 rfl) (by decide) ?_
        exact (lp_l hF hx) _ _ _ hH (lv_sub hl [0, 1, 2, 3] rfl) K0
      · replace hF := if_t hF c36
        refine lv_goto (tgt := 334) X.x X.b (dk DX12_rankOf_1 7 rfl) (by decide) ?_
        obtain ⟨v86, e87⟩ : ∃ y : Int32, y = b3 + 1 := ⟨_, rfl⟩
        replace hF := bnd_e hF e87
        refine lv_iinc (v := v86) (lv' := [(3, .int v86), (0, .ref (q 53)), (1, .int b1), (2, .int b2), (4, .int x33)]) X.x X.b (dk DX12_rankOf_3 11 rfl) hl (k := 3) rfl (by rw [e87]; rfl) (by decide) rfl (fun ls hl => ?_)
        replace hl : lv_has ls 9 [(0, .ref (q 53)), (1, .int b1), (2, .int b2), (3, .int v86)] := lv_sub hl [1, 2, 3, 0] rfl
        refine lv_goto (tgt := 65) X.x X.b (dk DX12_rankOf_3 12 rfl) (by decide) ?_
        exact (lp_l hF hx) _ _ _ hH (lv_sub hl [0, 1, 2, 3] rfl) K0
set_option maxHeartbeats 4000000 in
set_option maxRecDepth 100000 in
theorem c_X12_rankOf {l : Launch} {G : mG} {h : mM} {q : Nat → Nat} (hq : oinj LX12 q) {st : OS} {a0 : Int32} {x : Int32 × OS} (hF : f_X12_rankOf st a0 = some x) : cQ l G yX12_rankOf cX12_rankOf 9 (some FieldType.int) rm_X12_rankOf [.ref (q 53), .int a0] (oset LX12 G q st h) (mQi G (fun r h1 => r = x.1 ∧ h1 = oset LX12 G q x.2 h)) := by
  refine mp_of (by decide +kernel) (Nat.le_of_ble_eq_true rfl) ?_
  intro p e s m below meth c X hr hlk hH hname ls hl
  dsimp only [f_X12_rankOf] at hF
  replace hl : lv_has ls 9 [(0, .ref (q 53)), (1, .int a0)] := hl
  refine lv_iconst (v := 0) X.x X.b (dk DX12_rankOf_0 0 rfl) (by decide) ?_
  refine lv_istore_n (lv' := [(2, .int 0), (0, .ref (q 53)), (1, .int a0)]) X.x X.b (dk DX12_rankOf_0 1 rfl) rfl hl (by decide) rfl (fun ls hl => ?_)
  replace hl : lv_has ls 9 [(0, .ref (q 53)), (1, .int a0), (2, .int 0)] := lv_sub hl [1, 2, 0] rfl
  obtain ⟨x23, e24, hF⟩ := bd hF
  replace hl : lv_has ls 9 [(0, .ref (q 53)), (1, .int a0), (2, .int 0)] := lv_sub hl [0, 1, 2] rfl
  refine w_X12_rankOf_2 hq X a0 _ _ e24 _ _ _ hH hl (fun H locs ls hH hl => ?_)
  refine lv_iconst (v := 0) X.x X.b (dk DX12_rankOf_0 34 rfl) (by decide) ?_
  refine lv_istore_n (lv' := [(2, .int 0), (0, .ref (q 53)), (1, .int a0)]) X.x X.b (dk DX12_rankOf_0 35 rfl) rfl hl (by decide) rfl (fun ls hl => ?_)
  replace hl : lv_has ls 9 [(0, .ref (q 53)), (1, .int a0), (2, .int 0)] := lv_sub hl [1, 2, 0] rfl
  refine lv_iconst (v := 0) X.x X.b (dk DX12_rankOf_0 36 rfl) (by decide) ?_
  refine lv_istore_n (lv' := [(3, .int 0), (0, .ref (q 53)), (1, .int a0), (2, .int 0)]) X.x X.b (dk DX12_rankOf_0 37 rfl) rfl hl (by decide) rfl (fun ls hl => ?_)
  replace hl : lv_has ls 9 [(0, .ref (q 53)), (1, .int a0), (2, .int 0), (3, .int 0)] := lv_sub hl [1, 2, 3, 0] rfl
  obtain ⟨x88, e89, hF⟩ := bd hF
  replace hl : lv_has ls 9 [(0, .ref (q 53)), (1, .int a0), (2, .int 0), (3, .int 0)] := lv_sub hl [0, 1, 2, 3] rfl
  obtain ⟨t90, v91⟩ := x88
  try dsimp only at hF
  refine w_X12_rankOf_65 hq X a0 _ _ e89 _ _ _ hH hl (fun H locs ls hH hl => ?_)
  try dsimp only at hH hl
  refine lv_iload_n X.x X.b (dk DX12_rankOf_3 13 rfl) rfl (lv_at hl 0 rfl) ?_
  cases sm hF
  exact mr_iret X hr hlk hH ⟨rfl, rfl⟩ (dk DX12_rankOf_3 14 rfl)
-- X12_rank
abbrev rm_X12_rank : Room := { frames := 2, cells := 0, slots := 0, locals := 50 }
theorem hd_X12_rank : mHd yX12_rank 1 := ⟨by decide +kernel, by decide +kernel, by decide +kernel⟩
theorem DX12_rank_0 : ∀ t ∈ ([(0, .aload_n 0, 1), (1, .iload_n 1, 1), (2, .iconst 2, 1), (3, .if_icmp .eq 19, 3), (6, .iload_n 1, 1), (7, .iconst 3, 1), (8, .if_icmp .eq 14, 3), (11, .iload_n 1, 1), (12, .iconst 5, 1), (13, .if_icmp .eq 9, 3), (16, .iload_n 1, 1), (17, .bipush 7, 2), (19, .if_icmp .ne 7, 3), (22, .iconst 0, 1), (23, .goto 4, 3), (26, .iconst 1, 1), (27, .putfield 106, 3), (30, .aload_n 0, 1), (31, .getfield 106, 3), (34, .ifCond .le 7, 3), (37, .iconst 0, 1), (38, .goto 8, 3), (41, .aload_n 0, 1), (42, .iload_n 1, 1), (43, .invokevirtual 359, 3), (46, .ireturn, 1)] : List (Nat × Instr × Nat)), decode cX12_rank t.1 = .ok (t.2.1, t.2.2) := by decide +kernel
noncomputable def f_X12_rank (st : OS) (a0 : Int32) : Option (Int32 × OS) := (if a0 = 2 then bnd (oI st 2 0) (fun t2 => (if (t2.1 2) ≤ 0 then (f_X12_rankOf t2 a0).bind (fun x5 => match x5 with | (v7, t8) => some ((v7, t8))) else some ((0, t2)))) else (if a0 = 3 then bnd (oI st 2 0) (fun t10 => (if (t10.1 2) ≤ 0 then (f_X12_rankOf t10 a0).bind (fun x13 => match x13 with | (v15, t16) => some ((v15, t16))) else some ((0, t10)))) else (if a0 = 5 then bnd (oI st 2 0) (fun t18 => (if (t18.1 2) ≤ 0 then (f_X12_rankOf t18 a0).bind (fun x21 => match x21 with | (v23, t24) => some ((v23, t24))) else some ((0, t18)))) else (if a0 = 7 then bnd (oI st 2 0) (fun t33 => (if (t33.1 2) ≤ 0 then (f_X12_rankOf t33 a0).bind (fun x36 => match x36 with | (v38, t39) => some ((v38, t39))) else some ((0, t33)))) else bnd (oI st 2 1) (fun t26 => (if (t26.1 2) ≤ 0 then (f_X12_rankOf t26 a0).bind (fun x29 => match x29 with | (v31, t32) => some ((v31, t32))) else some ((0, t26))))))))
set_option maxHeartbeats 4000000 in
set_option maxRecDepth 100000 in
theorem c_X12_rank {l : Launch} {G : mG} {h : mM} {q : Nat → Nat} (hq : oinj LX12 q) {st : OS} {a0 : Int32} {x : Int32 × OS} (hF : f_X12_rank st a0 = some x) : cQ l G yX12_rank cX12_rank 2 (some FieldType.int) rm_X12_rank [.ref (q 53), .int a0] (oset LX12 G q st h) (mQi G (fun r h1 => r = x.1 ∧ h1 = oset LX12 G q x.2 h)) := by
  refine mp_of (by decide +kernel) (Nat.le_of_ble_eq_true rfl) ?_
  intro p e s m below meth c X hr hlk hH hname ls hl
  dsimp only [f_X12_rank] at hF
  replace hl : lv_has ls 2 [(0, .ref (q 53)), (1, .int a0)] := hl
  refine lv_aload_n X.x X.b (dk DX12_rank_0 0 rfl) rfl (lv_at hl 0 rfl) ?_
  refine lv_iload_n X.x X.b (dk DX12_rank_0 1 rfl) rfl (lv_at hl 1 rfl) ?_
  refine lv_iconst (v := 2) X.x X.b (dk DX12_rank_0 2 rfl) (by decide) ?_
  refine lv_icmp_eq (tgt := 22) X.x X.b (dk DX12_rank_0 3 rfl) (by decide) (fun c1 => ?_) (fun c1 => ?_)
  · replace hF := if_t hF c1
    refine lv_iconst (v := 0) X.x X.b (dk DX12_rank_0 13 rfl) (by decide) ?_
    refine lv_goto (tgt := 27) X.x X.b (dk DX12_rank_0 14 rfl) (by decide) ?_
    refine og_putI OX12 X hq hH 2 (by decide) rfl kF_X12_106 rfl rfl rfl (dk DX12_rank_0 16 rfl) (fun H locs hH => ?_)
    obtain ⟨t2, e3⟩ : ∃ y, y = oI st 2 0 := ⟨_, rfl⟩
    rw [← e3] at hH
    replace hF := bnd_e hF e3
    refine lv_aload_n X.x X.b (dk DX12_rank_0 17 rfl) rfl (lv_at hl 0 rfl) ?_
    refine og_getI OX12 X hq hH 2 (by decide) rfl kF_X12_106 (dk DX12_rank_0 18 rfl) ?_
    refine lv_if_le (tgt := 41) X.x X.b (dk DX12_rank_0 19 rfl) (by decide) (fun c4 => ?_) (fun c4 => ?_)
    · replace hF := if_t hF c4
      refine lv_aload_n X.x X.b (dk DX12_rank_0 22 rfl) rfl (lv_at hl 0 rfl) ?_
      refine lv_iload_n X.x X.b (dk DX12_rank_0 23 rfl) rfl (lv_at hl 1 rfl) ?_
      obtain ⟨x5, e6, hF⟩ := bd hF
      refine mr_ci0 hH ⟨rfl, rfl⟩ (mr_runV (As := [.int a0]) (rest := []) X hH (c_X12_rankOf hq e6) ((oset_at hq (Nat.le_refl _) ohas_N).trans (congrArg some ocell_N)) OX12.1 kM_X12_359 kI_X12_rankOf kS_X12_rankOf kN_X12 kC_X12_rankOf hd_X12_rankOf ⟨Nat.le_of_ble_eq_true rfl, Nat.le_of_ble_eq_true rfl⟩ rfl hl.1 (Nat.le_of_ble_eq_true rfl) (dk DX12_rank_0 24 rfl) ⟨Nat.zero_le _, Nat.zero_le _⟩) (fun r h1 H locs hp hH => ?_)
      obtain ⟨hr1, hr2⟩ := hp; rw [hr1]; rw [hr2] at hH; clear hr1 hr2
      obtain ⟨v7, t8⟩ := x5
      try dsimp only at hF hH ⊢
      cases sm hF
      exact mr_iret X hr hlk hH ⟨rfl, rfl⟩ (dk DX12_rank_0 25 rfl)
    · replace hF := if_f hF c4
      refine lv_iconst (v := 0) X.x X.b (dk DX12_rank_0 20 rfl) (by decide) ?_
      refine lv_goto (tgt := 46) X.x X.b (dk DX12_rank_0 21 rfl) (by decide) ?_
      cases sm hF
      exact mr_iret X hr hlk hH ⟨rfl, rfl⟩ (dk DX12_rank_0 25 rfl)
  · replace hF := if_f hF c1
    refine lv_iload_n X.x X.b (dk DX12_rank_0 4 rfl) rfl (lv_at hl 1 rfl) ?_
    refine lv_iconst (v := 3) X.x X.b (dk DX12_rank_0 5 rfl) (by decide) ?_
    refine lv_icmp_eq (tgt := 22) X.x X.b (dk DX12_rank_0 6 rfl) (by decide) (fun c9 => ?_) (fun c9 => ?_)
    · replace hF := if_t hF c9
      refine lv_iconst (v := 0) X.x X.b (dk DX12_rank_0 13 rfl) (by decide) ?_
      refine lv_goto (tgt := 27) X.x X.b (dk DX12_rank_0 14 rfl) (by decide) ?_
      refine og_putI OX12 X hq hH 2 (by decide) rfl kF_X12_106 rfl rfl rfl (dk DX12_rank_0 16 rfl) (fun H locs hH => ?_)
      obtain ⟨t10, e11⟩ : ∃ y, y = oI st 2 0 := ⟨_, rfl⟩
      rw [← e11] at hH
      replace hF := bnd_e hF e11
      refine lv_aload_n X.x X.b (dk DX12_rank_0 17 rfl) rfl (lv_at hl 0 rfl) ?_
      refine og_getI OX12 X hq hH 2 (by decide) rfl kF_X12_106 (dk DX12_rank_0 18 rfl) ?_
      refine lv_if_le (tgt := 41) X.x X.b (dk DX12_rank_0 19 rfl) (by decide) (fun c12 => ?_) (fun c12 => ?_)
      · replace hF := if_t hF c12
        refine lv_aload_n X.x X.b (dk DX12_rank_0 22 rfl) rfl (lv_at hl 0 rfl) ?_
        refine lv_iload_n X.x X.b (dk DX12_rank_0 23 rfl) rfl (lv_at hl 1 rfl) ?_
        obtain ⟨x13, e14, hF⟩ := bd hF
        refine mr_ci0 hH ⟨rfl, rfl⟩ (mr_runV (As := [.int a0]) (rest := []) X hH (c_X12_rankOf hq e14) ((oset_at hq (Nat.le_refl _) ohas_N).trans (congrArg some ocell_N)) OX12.1 kM_X12_359 kI_X12_rankOf kS_X12_rankOf kN_X12 kC_X12_rankOf hd_X12_rankOf ⟨Nat.le_of_ble_eq_true rfl, Nat.le_of_ble_eq_true rfl⟩ rfl hl.1 (Nat.le_of_ble_eq_true rfl) (dk DX12_rank_0 24 rfl) ⟨Nat.zero_le _, Nat.zero_le _⟩) (fun r h1 H locs hp hH => ?_)
        obtain ⟨hr1, hr2⟩ := hp; rw [hr1]; rw [hr2] at hH; clear hr1 hr2
        obtain ⟨v15, t16⟩ := x13
        try dsimp only at hF hH ⊢
        cases sm hF
        exact mr_iret X hr hlk hH ⟨rfl, rfl⟩ (dk DX12_rank_0 25 rfl)
      · replace hF := if_f hF c12
        refine lv_iconst (v := 0) X.x X.b (dk DX12_rank_0 20 rfl) (by decide) ?_
        refine lv_goto (tgt := 46) X.x X.b (dk DX12_rank_0 21 rfl) (by decide) ?_
        cases sm hF
        exact mr_iret X hr hlk hH ⟨rfl, rfl⟩ (dk DX12_rank_0 25 rfl)
    · replace hF := if_f hF c9
      refine lv_iload_n X.x X.b (dk DX12_rank_0 7 rfl) rfl (lv_at hl 1 rfl) ?_
      refine lv_iconst (v := 5) X.x X.b (dk DX12_rank_0 8 rfl) (by decide) ?_
      refine lv_icmp_eq (tgt := 22) X.x X.b (dk DX12_rank_0 9 rfl) (by decide) (fun c17 => ?_) (fun c17 => ?_)
      · replace hF := if_t hF c17
        refine lv_iconst (v := 0) X.x X.b (dk DX12_rank_0 13 rfl) (by decide) ?_
        refine lv_goto (tgt := 27) X.x X.b (dk DX12_rank_0 14 rfl) (by decide) ?_
        refine og_putI OX12 X hq hH 2 (by decide) rfl kF_X12_106 rfl rfl rfl (dk DX12_rank_0 16 rfl) (fun H locs hH => ?_)
        obtain ⟨t18, e19⟩ : ∃ y, y = oI st 2 0 := ⟨_, rfl⟩
        rw [← e19] at hH
        replace hF := bnd_e hF e19
        refine lv_aload_n X.x X.b (dk DX12_rank_0 17 rfl) rfl (lv_at hl 0 rfl) ?_
        refine og_getI OX12 X hq hH 2 (by decide) rfl kF_X12_106 (dk DX12_rank_0 18 rfl) ?_
        refine lv_if_le (tgt := 41) X.x X.b (dk DX12_rank_0 19 rfl) (by decide) (fun c20 => ?_) (fun c20 => ?_)
        · replace hF := if_t hF c20
          refine lv_aload_n X.x X.b (dk DX12_rank_0 22 rfl) rfl (lv_at hl 0 rfl) ?_
          refine lv_iload_n X.x X.b (dk DX12_rank_0 23 rfl) rfl (lv_at hl 1 rfl) ?_
          obtain ⟨x21, e22, hF⟩ := bd hF
          refine mr_ci0 hH ⟨rfl, rfl⟩ (mr_runV (As := [.int a0]) (rest := []) X hH (c_X12_rankOf hq e22) ((oset_at hq (Nat.le_refl _) ohas_N).trans (congrArg some ocell_N)) OX12.1 kM_X12_359 kI_X12_rankOf kS_X12_rankOf kN_X12 kC_X12_rankOf hd_X12_rankOf ⟨Nat.le_of_ble_eq_true rfl, Nat.le_of_ble_eq_true rfl⟩ rfl hl.1 (Nat.le_of_ble_eq_true rfl) (dk DX12_rank_0 24 rfl) ⟨Nat.zero_le _, Nat.zero_le _⟩) (fun r h1 H locs hp hH => ?_)
          obtain ⟨hr1, hr2⟩ := hp; rw [hr1]; rw [hr2] at hH; clear hr1 hr2
          obtain ⟨v23, t24⟩ := x21
          try dsimp only at hF hH ⊢
          cases sm hF
          exact mr_iret X hr hlk hH ⟨rfl, rfl⟩ (dk DX12_rank_0 25 rfl)
        · replace hF := if_f hF c20
          refine lv_iconst (v := 0) X.x X.b (dk DX12_rank_0 20 rfl) (by decide) ?_
          refine lv_goto (tgt := 46) X.x X.b (dk DX12_rank_0 21 rfl) (by decide) ?_
          cases sm hF
          exact mr_iret X hr hlk hH ⟨rfl, rfl⟩ (dk DX12_rank_0 25 rfl)
      · replace hF := if_f hF c17
        refine lv_iload_n X.x X.b (dk DX12_rank_0 10 rfl) rfl (lv_at hl 1 rfl) ?_
        refine lv_bipush (v := 7) X.x X.b (dk DX12_rank_0 11 rfl) (by decide) ?_
        refine lv_icmp_ne (tgt := 26) X.x X.b (dk DX12_rank_0 12 rfl) (by decide) (fun c25 => ?_) (fun c25 => ?_)
        · replace hF := if_f hF c25
          refine lv_iconst (v := 1) X.x X.b (dk DX12_rank_0 15 rfl) (by decide) ?_
          refine og_putI OX12 X hq hH 2 (by decide) rfl kF_X12_106 rfl rfl rfl (dk DX12_rank_0 16 rfl) (fun H locs hH => ?_)
          obtain ⟨t26, e27⟩ : ∃ y, y = oI st 2 1 := ⟨_, rfl⟩
          rw [← e27] at hH
          replace hF := bnd_e hF e27
          refine lv_aload_n X.x X.b (dk DX12_rank_0 17 rfl) rfl (lv_at hl 0 rfl) ?_
          refine og_getI OX12 X hq hH 2 (by decide) rfl kF_X12_106 (dk DX12_rank_0 18 rfl) ?_
          refine lv_if_le (tgt := 41) X.x X.b (dk DX12_rank_0 19 rfl) (by decide) (fun c28 => ?_) (fun c28 => ?_)
          · replace hF := if_t hF c28
            refine lv_aload_n X.x X.b (dk DX12_rank_0 22 rfl) rfl (lv_at hl 0 rfl) ?_
            refine lv_iload_n X.x X.b (dk DX12_rank_0 23 rfl) rfl (lv_at hl 1 rfl) ?_
            obtain ⟨x29, e30, hF⟩ := bd hF
            refine mr_ci0 hH ⟨rfl, rfl⟩ (mr_runV (As := [.int a0]) (rest := []) X hH (c_X12_rankOf hq e30) ((oset_at hq (Nat.le_refl _) ohas_N).trans (congrArg some ocell_N)) OX12.1 kM_X12_359 kI_X12_rankOf kS_X12_rankOf kN_X12 kC_X12_rankOf hd_X12_rankOf ⟨Nat.le_of_ble_eq_true rfl, Nat.le_of_ble_eq_true rfl⟩ rfl hl.1 (Nat.le_of_ble_eq_true rfl) (dk DX12_rank_0 24 rfl) ⟨Nat.zero_le _, Nat.zero_le _⟩) (fun r h1 H locs hp hH => ?_)
            obtain ⟨hr1, hr2⟩ := hp; rw [hr1]; rw [hr2] at hH; clear hr1 hr2
            obtain ⟨v31, t32⟩ := x29
            try dsimp only at hF hH ⊢
            cases sm hF
            exact mr_iret X hr hlk hH ⟨rfl, rfl⟩ (dk DX12_rank_0 25 rfl)
          · replace hF := if_f hF c28
            refine lv_iconst (v := 0) X.x X.b (dk DX12_rank_0 20 rfl) (by decide) ?_
            refine lv_goto (tgt := 46) X.x X.b (dk DX12_rank_0 21 rfl) (by decide) ?_
            cases sm hF
            exact mr_iret X hr hlk hH ⟨rfl, rfl⟩ (dk DX12_rank_0 25 rfl)
        · replace hF := if_t hF c25
          refine lv_iconst (v := 0) X.x X.b (dk DX12_rank_0 13 rfl) (by decide) ?_
          refine lv_goto (tgt := 27) X.x X.b (dk DX12_rank_0 14 rfl) (by decide) ?_
          refine og_putI OX12 X hq hH 2 (by decide) rfl kF_X12_106 rfl rfl rfl (dk DX12_rank_0 16 rfl) (fun H locs hH => ?_)
          obtain ⟨t33, e34⟩ : ∃ y, y = oI st 2 0 := ⟨_, rfl⟩
          rw [← e34] at hH
          replace hF := bnd_e hF e34
          refine lv_aload_n X.x X.b (dk DX12_rank_0 17 rfl) rfl (lv_at hl 0 rfl) ?_
          refine og_getI OX12 X hq hH 2 (by decide) rfl kF_X12_106 (dk DX12_rank_0 18 rfl) ?_
          refine lv_if_le (tgt := 41) X.x X.b (dk DX12_rank_0 19 rfl) (by decide) (fun c35 => ?_) (fun c35 => ?_)
          · replace hF := if_t hF c35
            refine lv_aload_n X.x X.b (dk DX12_rank_0 22 rfl) rfl (lv_at hl 0 rfl) ?_
            refine lv_iload_n X.x X.b (dk DX12_rank_0 23 rfl) rfl (lv_at hl 1 rfl) ?_
            obtain ⟨x36, e37, hF⟩ := bd hF
            refine mr_ci0 hH ⟨rfl, rfl⟩ (mr_runV (As := [.int a0]) (rest := []) X hH (c_X12_rankOf hq e37) ((oset_at hq (Nat.le_refl _) ohas_N).trans (congrArg some ocell_N)) OX12.1 kM_X12_359 kI_X12_rankOf kS_X12_rankOf kN_X12 kC_X12_rankOf hd_X12_rankOf ⟨Nat.le_of_ble_eq_true rfl, Nat.le_of_ble_eq_true rfl⟩ rfl hl.1 (Nat.le_of_ble_eq_true rfl) (dk DX12_rank_0 24 rfl) ⟨Nat.zero_le _, Nat.zero_le _⟩) (fun r h1 H locs hp hH => ?_)
            obtain ⟨hr1, hr2⟩ := hp; rw [hr1]; rw [hr2] at hH; clear hr1 hr2
            obtain ⟨v38, t39⟩ := x36
            try dsimp only at hF hH ⊢
            cases sm hF
            exact mr_iret X hr hlk hH ⟨rfl, rfl⟩ (dk DX12_rank_0 25 rfl)
          · replace hF := if_f hF c35
            refine lv_iconst (v := 0) X.x X.b (dk DX12_rank_0 20 rfl) (by decide) ?_
            refine lv_goto (tgt := 46) X.x X.b (dk DX12_rank_0 21 rfl) (by decide) ?_
            cases sm hF
            exact mr_iret X hr hlk hH ⟨rfl, rfl⟩ (dk DX12_rank_0 25 rfl)
-- X12_equate
abbrev rm_X12_equate : Room := { frames := 1, cells := 0, slots := 0, locals := 22 }
theorem hd_X12_equate : mHd yX12_equate 0 := ⟨by decide +kernel, by decide +kernel, by decide +kernel⟩
theorem DX12_equate_0 : ∀ t ∈ ([(0, .iconst 0, 1), (1, .istore_n 1, 1), (2, .iconst 0, 1), (3, .istore_n 2, 1), (4, .iload_n 2, 1), (5, .aload_n 0, 1), (6, .getfield 250, 3), (9, .if_icmp .ge 141, 3), (12, .aload_n 0, 1), (13, .getfield 7, 3), (16, .iload_n 2, 1), (17, .laload, 1), (18, .lstore_n 3, 1), (19, .iconst 0, 1), (20, .istore 5, 2), (22, .iload 5, 2), (24, .iload_n 1, 1), (25, .if_icmp .ge 33, 3), (28, .lload_n 3, 1), (29, .aload_n 0, 1), (30, .getfield 57, 3), (33, .iload 5, 2), (35, .iaload, 1), (36, .invokestatic 232, 3), (39, .ifCond .eq 13, 3), (42, .lload_n 3, 1), (43, .aload_n 0, 1), (44, .getfield 51, 3), (47, .iload 5, 2), (49, .laload, 1), (50, .lxor, 1), (51, .lstore_n 3, 1), (52, .iinc 5 1, 3), (55, .goto (-33), 3), (58, .lload_n 3, 1), (59, .lconst 0, 1), (60, .lcmp, 1), (61, .ifCond .ne 6, 3), (64, .goto 80, 3), (67, .iconst 0, 1), (68, .istore 5, 2), (70, .lload_n 3, 1), (71, .iload 5, 2), (73, .invokestatic 232, 3), (76, .ifCond .ne 9, 3), (79, .iinc 5 1, 3), (82, .goto (-12), 3), (85, .iconst 0, 1), (86, .istore 6, 2), (88, .iload 6, 2), (90, .iload_n 1, 1), (91, .if_icmp .ge 35, 3), (94, .aload_n 0, 1), (95, .getfield 51, 3), (98, .iload 6, 2), (100, .laload, 1), (101, .iload 5, 2), (103, .invokestatic 232, 3), (106, .ifCond .eq 14, 3), (109, .aload_n 0, 1)] : List (Nat × Instr × Nat)), decode cX12_equate t.1 = .ok (t.2.1, t.2.2) := by decide +kernel
theorem DX12_equate_1 : ∀ t ∈ ([(110, .getfield 51, 3), (113, .iload 6, 2), (115, .dup2, 1), (116, .laload, 1), (117, .lload_n 3, 1), (118, .lxor, 1), (119, .lastore, 1), (120, .iinc 6 1, 3), (123, .goto (-35), 3), (126, .aload_n 0, 1), (127, .getfield 51, 3), (130, .iload_n 1, 1), (131, .lload_n 3, 1), (132, .lastore, 1), (133, .aload_n 0, 1), (134, .getfield 57, 3), (137, .iload_n 1, 1), (138, .iload 5, 2), (140, .iastore, 1), (141, .iinc 1 1, 3), (144, .iinc 2 1, 3), (147, .goto (-143), 3), (150, .iload_n 1, 1), (151, .ireturn, 1)] : List (Nat × Instr × Nat)), decode cX12_equate t.1 = .ok (t.2.1, t.2.2) := by decide +kernel
noncomputable def f_X12_equate_22 (s_t : OS) (b1 : Int32) (b2 : Int32) : (Int64 × Int32) → Option ((Int64 × Int32) ⊕ (Int64)) := fun z => match z with | (b3, b5) => (if b1 ≤ b5 then some (.inr b3) else if inb b5 64 = true then (f_X12_has b3 (s_t.2.2.1 33 (b5 : Int32).toNatClampNeg)).bind (fun x7 => (if x7 = 0 then bnd (b5 + 1 : Int32) (fun v11 => some (.inl ((b3, v11)))) else bnd (b3 ^^^ (s_t.2.2.2 31 (b5 : Int32).toNatClampNeg) : Int64) (fun v13 => bnd (b5 + 1 : Int32) (fun v15 => some (.inl ((v13, v15))))))) else none)
noncomputable def f_X12_equate_70 (s_t : OS) (b1 : Int32) (b2 : Int32) (b3 : Int64) : Int32 → Option ((Int32) ⊕ (Int32)) := fun b5 => (f_X12_has b3 b5).bind (fun x21 => (if x21 = 0 then bnd (b5 + 1 : Int32) (fun v25 => some (.inl v25)) else some (.inr b5)))
noncomputable def f_X12_equate_88 (b1 : Int32) (b2 : Int32) (b3 : Int64) (b5 : Int32) : (OS × Int32) → Option ((OS × Int32) ⊕ (OS)) := fun z => match z with | (s_t, b6) => (if b1 ≤ b6 then some (.inr s_t) else if inb b6 64 = true then (f_X12_has (s_t.2.2.2 31 (b6 : Int32).toNatClampNeg) b5).bind (fun x32 => (if x32 = 0 then bnd (b6 + 1 : Int32) (fun v36 => some (.inl ((s_t, v36)))) else bnd (oB s_t 31 (vp_updL (s_t.2.2.2 31) (b6 : Int32).toNatClampNeg ((s_t.2.2.2 31 (b6 : Int32).toNatClampNeg) ^^^ b3))) (fun t38 => bnd (b6 + 1 : Int32) (fun v40 => some (.inl ((t38, v40))))))) else none)
noncomputable def f_X12_equate_4 : (OS × Int32 × Int32) → Option ((OS × Int32 × Int32) ⊕ (OS × Int32)) := fun z => match z with | (s_t, b1, b2) => (if (s_t.1 1) ≤ b2 then some (.inr ((s_t, b1))) else if inb b2 64 = true then bnd (s_t.2.2.2 3 (b2 : Int32).toNatClampNeg : Int64) (fun v3 => (lpv (f_X12_equate_22 s_t b1 b2) ((v3, 0))).bind (fun x17 => (if (lg_cmp x17 0) = 0 then bnd (b2 + 1 : Int32) (fun v54 => some (.inl ((s_t, b1, v54)))) else (lpv (f_X12_equate_70 s_t b1 b2 x17) 0).bind (fun x27 => (lpv (f_X12_equate_88 b1 b2 x17 x27) ((s_t, 0))).bind (fun x42 => if inb b1 64 = true then bnd (oB x42 31 (vp_updL (x42.2.2.2 31) (b1 : Int32).toNatClampNeg x17)) (fun t46 => bnd (oA t46 33 (upd (t46.2.2.1 33) (b1 : Int32).toNatClampNeg x27)) (fun t48 => bnd (b1 + 1 : Int32) (fun v50 => bnd (b2 + 1 : Int32) (fun v52 => some (.inl ((t48, v50, v52))))))) else none))))) else none)
noncomputable def f_X12_equate (st : OS) : Option (Int32 × OS) := (lpv (f_X12_equate_4) ((st, 0, 0))).bind (fun x56 => match x56 with | (t58, v59) => some ((v59, t58)))
set_option maxHeartbeats 4000000 in
set_option maxRecDepth 100000 in
theorem w_X12_equate_22 {p : Program} {l : Launch} {e : Env} {s : State} {m : MethodId} {args : Array Value} {below : List Frame} {meth : Method} {c : Code} {Q : State → Prop} {G : mG} {h : mM} {q : Nat → Nat} (hq : oinj LX12 q) (X : mX G p m c cX12_equate 7 s args RX12) (s_t : OS) (b1 : Int32) (b2 : Int32) : ∀ (z : Int64 × Int32) (r : Int64), lpv (f_X12_equate_22 s_t b1 b2) z = some r → ∀ (H : Heap) (locs : List Loc) (ls : Array Slot), mH G (oset LX12 G q s_t h) s.heap H locs → lv_has ls 7 [(0, .ref (q 53)), (1, .int b1), (2, .int b2), (3, .long z.1), (5, .int z.2)] → (∀ (H : Heap) (locs : List Loc) (ls : Array Slot), mH G (oset LX12 G q s_t h) s.heap H locs → lv_has ls 7 [(0, .ref (q 53)), (1, .int b1), (2, .int b2), (3, .long r)] → W p l e rm_X12_equate s m args below meth c H locs 0 0 Q (F0 m 58 ls [])) → W p l e rm_X12_equate s m args below meth c H locs 0 0 Q (F0 m 22 ls []) := by
  refine lpv_rec ?_
  intro z r x hF hx H locs ls hH hl K0
  obtain ⟨b3, b5⟩ := z
  dsimp only [f_X12_equate_22] at hF
  try dsimp only at hH hl
  refine lv_iload X.x X.b (dk DX12_equate_0 15 rfl) (lv_at hl 4 rfl) ?_
  refine lv_iload_n X.x X.b (dk DX12_equate_0 16 rfl) rfl (lv_at hl 1 rfl) ?_
  refine lv_icmp_ge (tgt := 58) X.x X.b (dk DX12_equate_0 17 rfl) (by decide) (fun c5 => ?_) (fun c5 => ?_)
  · replace hF := if_t hF c5
    have hr9 := lp_r hF hx
    subst hr9
    exact K0 _ _ _ hH (lv_sub hl [0, 1, 2, 3] rfl)
  · replace hF := if_f hF c5
    refine lv_lload_n X.x X.b (dk DX12_equate_0 18 rfl) rfl (lv_at hl 3 rfl) ?_
    refine lv_aload_n X.x X.b (dk DX12_equate_0 19 rfl) rfl (lv_at hl 0 rfl) ?_
    refine og_getR (t := 0) OX12 X hq hH 33 (by decide) rfl kF_X12_57 (dk DX12_equate_0 20 rfl) ?_
    refine lv_iload X.x X.b (dk DX12_equate_0 21 rfl) (lv_at hl 4 rfl) ?_
    obtain ⟨c6, hF⟩ := gd hF
    refine og_iald X hq hH 33 (by decide) rfl (inb_in c6) (dk DX12_equate_0 22 rfl) ?_
    obtain ⟨x7, e8, hF⟩ := bd hF
    refine mr_ci0 hH ⟨rfl, rfl⟩ (mr_runS (As := [.long b3, .int (s_t.2.2.1 33 (b5 : Int32).toNatClampNeg)]) (rest := []) X hH (c_X12_has e8) kM_X12_232 kT_X12_has kN_X12 kC_X12_has hd_X12_has ⟨Nat.le_of_ble_eq_true rfl, Nat.le_of_ble_eq_true rfl⟩ rfl hl.1 (Nat.le_of_ble_eq_true rfl) (dk DX12_equate_0 23 rfl) ⟨Nat.zero_le _, Nat.zero_le _⟩) (fun r h1 H locs hp hH => ?_)
    obtain ⟨hr1, hr2⟩ := hp; rw [hr1]; rw [hr2] at hH; clear hr1 hr2
    refine lv_if_eq (tgt := 52) X.x X.b (dk DX12_equate_0 24 rfl) (by decide) (fun c10 => ?_) (fun c10 => ?_)
    · replace hF := if_t hF c10
      obtain ⟨v11, e12⟩ : ∃ y : Int32, y = b5 + 1 := ⟨_, rfl⟩
      replace hF := bnd_e hF e12
      refine lv_iinc (v := v11) (lv' := [(5, .int v11), (0, .ref (q 53)), (1, .int b1), (2, .int b2), (3, .long b3)]) X.x X.b (dk DX12_equate_0 32 rfl) hl (k := 4) rfl (by rw [e12]; rfl) (by decide) rfl (fun ls hl => ?_)
      replace hl : lv_has ls 7 [(0, .ref (q 53)), (1, .int b1), (2, .int b2), (3, .long b3), (5, .int v11)] := lv_sub hl [1, 2, 3, 4, 0] rfl
      refine lv_goto (tgt := 22) X.x X.b (dk DX12_equate_0 33 rfl) (by decide) ?_
      exact (lp_l hF hx) _ _ _ hH (lv_sub hl [0, 1, 2, 3, 4] rfl) K0
    · replace hF := if_f hF c10
      refine lv_lload_n X.x X.b (dk DX12_equate_0 25 rfl) rfl (lv_at hl 3 rfl) ?_
      refine lv_aload_n X.x X.b (dk DX12_equate_0 26 rfl) rfl (lv_at hl 0 rfl) ?_
      refine og_getR (t := 1) OX12 X hq hH 31 (by decide) rfl kF_X12_51 (dk DX12_equate_0 27 rfl) ?_
      refine lv_iload X.x X.b (dk DX12_equate_0 28 rfl) (lv_at hl 4 rfl) ?_
      refine og_lald X hq hH 31 (by decide) rfl (inb_in c6) (dk DX12_equate_0 29 rfl) ?_
      refine lv_lxor X.x X.b (dk DX12_equate_0 30 rfl) ?_
      refine lv_topl (fun v13 e14 => ?_)
      replace hF := bnd_e hF e14
      refine lv_lstore_n (lv' := [(3, .long v13), (0, .ref (q 53)), (1, .int b1), (2, .int b2), (5, .int b5)]) X.x X.b (dk DX12_equate_0 31 rfl) rfl hl (by decide) rfl (fun ls hl => ?_)
      replace hl : lv_has ls 7 [(0, .ref (q 53)), (1, .int b1), (2, .int b2), (3, .long v13), (5, .int b5)] := lv_sub hl [1, 2, 3, 0, 4] rfl
      obtain ⟨v15, e16⟩ : ∃ y : Int32, y = b5 + 1 := ⟨_, rfl⟩
      replace hF := bnd_e hF e16
      refine lv_iinc (v := v15) (lv' := [(5, .int v15), (0, .ref (q 53)), (1, .int b1), (2, .int b2), (3, .long v13)]) X.x X.b (dk DX12_equate_0 32 rfl) hl (k := 4) rfl (by rw [e16]; rfl) (by decide) rfl (fun ls hl => ?_)
      replace hl : lv_has ls 7 [(0, .ref (q 53)), (1, .int b1), (2, .int b2), (3, .long v13), (5, .int v15)] := lv_sub hl [1, 2, 3, 4, 0] rfl
      refine lv_goto (tgt := 22) X.x X.b (dk DX12_equate_0 33 rfl) (by decide) ?_
      exact (lp_l hF hx) _ _ _ hH (lv_sub hl [0, 1, 2, 3, 4] rfl) K0
set_option maxHeartbeats 4000000 in
set_option maxRecDepth 100000 in
theorem w_X12_equate_70 {p : Program} {l : Launch} {e : Env} {s : State} {m : MethodId} {args : Array Value} {below : List Frame} {meth : Method} {c : Code} {Q : State → Prop} {G : mG} {h : mM} {q : Nat → Nat} (hq : oinj LX12 q) (X : mX G p m c cX12_equate 7 s args RX12) (s_t : OS) (b1 : Int32) (b2 : Int32) (b3 : Int64) : ∀ (z : Int32) (r : Int32), lpv (f_X12_equate_70 s_t b1 b2 b3) z = some r → ∀ (H : Heap) (locs : List Loc) (ls : Array Slot), mH G (oset LX12 G q s_t h) s.heap H locs → lv_has ls 7 [(0, .ref (q 53)), (1, .int b1), (2, .int b2), (3, .long b3), (5, .int z)] → (∀ (H : Heap) (locs : List Loc) (ls : Array Slot), mH G (oset LX12 G q s_t h) s.heap H locs → lv_has ls 7 [(0, .ref (q 53)), (1, .int b1), (2, .int b2), (3, .long b3), (5, .int r)] → W p l e rm_X12_equate s m args below meth c H locs 0 0 Q (F0 m 85 ls [])) → W p l e rm_X12_equate s m args below meth c H locs 0 0 Q (F0 m 70 ls []) := by
  refine lpv_rec ?_
  intro z r x hF hx H locs ls hH hl K0
  obtain ⟨b5, hz⟩ : ∃ y, y = z := ⟨_, rfl⟩
  subst hz
  dsimp only [f_X12_equate_70] at hF
  refine lv_lload_n X.x X.b (dk DX12_equate_0 41 rfl) rfl (lv_at hl 3 rfl) ?_
  refine lv_iload X.x X.b (dk DX12_equate_0 42 rfl) (lv_at hl 4 rfl) ?_
  obtain ⟨x21, e22, hF⟩ := bd hF
  refine mr_ci0 hH ⟨rfl, rfl⟩ (mr_runS (As := [.long b3, .int b5]) (rest := []) X hH (c_X12_has e22) kM_X12_232 kT_X12_has kN_X12 kC_X12_has hd_X12_has ⟨Nat.le_of_ble_eq_true rfl, Nat.le_of_ble_eq_true rfl⟩ rfl hl.1 (Nat.le_of_ble_eq_true rfl) (dk DX12_equate_0 43 rfl) ⟨Nat.zero_le _, Nat.zero_le _⟩) (fun r h1 H locs hp hH => ?_)
  obtain ⟨hr1, hr2⟩ := hp; rw [hr1]; rw [hr2] at hH; clear hr1 hr2
  refine lv_if_ne (tgt := 85) X.x X.b (dk DX12_equate_0 44 rfl) (by decide) (fun c24 => ?_) (fun c24 => ?_)
  · replace hF := if_f hF c24
    have hr9 := lp_r hF hx
    subst hr9
    exact K0 _ _ _ hH (lv_sub hl [0, 1, 2, 3, 4] rfl)
  · replace hF := if_t hF c24
    obtain ⟨v25, e26⟩ : ∃ y : Int32, y = b5 + 1 := ⟨_, rfl⟩
    replace hF := bnd_e hF e26
    refine lv_iinc (v := v25) (lv' := [(5, .int v25), (0, .ref (q 53)), (1, .int b1), (2, .int b2), (3, .long b3)]) X.x X.b (dk DX12_equate_0 45 rfl) hl (k := 4) rfl (by rw [e26]; rfl) (by decide) rfl (fun ls hl => ?_)
    replace hl : lv_has ls 7 [(0, .ref (q 53)), (1, .int b1), (2, .int b2), (3, .long b3), (5, .int v25)] := lv_sub hl [1, 2, 3, 4, 0] rfl
    refine lv_goto (tgt := 70) X.x X.b (dk DX12_equate_0 46 rfl) (by decide) ?_
    exact (lp_l hF hx) _ _ _ hH (lv_sub hl [0, 1, 2, 3, 4] rfl) K0
set_option maxHeartbeats 4000000 in
set_option maxRecDepth 100000 in
theorem w_X12_equate_88 {p : Program} {l : Launch} {e : Env} {s : State} {m : MethodId} {args : Array Value} {below : List Frame} {meth : Method} {c : Code} {Q : State → Prop} {G : mG} {h : mM} {q : Nat → Nat} (hq : oinj LX12 q) (X : mX G p m c cX12_equate 7 s args RX12) (b1 : Int32) (b2 : Int32) (b3 : Int64) (b5 : Int32) : ∀ (z : OS × Int32) (r : OS), lpv (f_X12_equate_88 b1 b2 b3 b5) z = some r → ∀ (H : Heap) (locs : List Loc) (ls : Array Slot), mH G (oset LX12 G q z.1 h) s.heap H locs → lv_has ls 7 [(0, .ref (q 53)), (1, .int b1), (2, .int b2), (3, .long b3), (5, .int b5), (6, .int z.2)] → (∀ (H : Heap) (locs : List Loc) (ls : Array Slot), mH G (oset LX12 G q r h) s.heap H locs → lv_has ls 7 [(0, .ref (q 53)), (1, .int b1), (2, .int b2), (3, .long b3), (5, .int b5)] → W p l e rm_X12_equate s m args below meth c H locs 0 0 Q (F0 m 126 ls [])) → W p l e rm_X12_equate s m args below meth c H locs 0 0 Q (F0 m 88 ls []) := by
  refine lpv_rec ?_
  intro z r x hF hx H locs ls hH hl K0
  obtain ⟨s_t, b6⟩ := z
  dsimp only [f_X12_equate_88] at hF
  try dsimp only at hH hl
  refine lv_iload X.x X.b (dk DX12_equate_0 49 rfl) (lv_at hl 5 rfl) ?_
  refine lv_iload_n X.x X.b (dk DX12_equate_0 50 rfl) rfl (lv_at hl 1 rfl) ?_
  refine lv_icmp_ge (tgt := 126) X.x X.b (dk DX12_equate_0 51 rfl) (by decide) (fun c30 => ?_) (fun c30 => ?_)
  · replace hF := if_t hF c30
    have hr9 := lp_r hF hx
    subst hr9
    exact K0 _ _ _ hH (lv_sub hl [0, 1, 2, 3, 4] rfl)
  · replace hF := if_f hF c30
    refine lv_aload_n X.x X.b (dk DX12_equate_0 52 rfl) rfl (lv_at hl 0 rfl) ?_
    refine og_getR (t := 1) OX12 X hq hH 31 (by decide) rfl kF_X12_51 (dk DX12_equate_0 53 rfl) ?_
    refine lv_iload X.x X.b (dk DX12_equate_0 54 rfl) (lv_at hl 5 rfl) ?_
    obtain ⟨c31, hF⟩ := gd hF
    refine og_lald X hq hH 31 (by decide) rfl (inb_in c31) (dk DX12_equate_0 55 rfl) ?_
    refine lv_iload X.x X.b (dk DX12_equate_0 56 rfl) (lv_at hl 4 rfl) ?_
    obtain ⟨x32, e33, hF⟩ := bd hF
    refine mr_ci0 hH ⟨rfl, rfl⟩ (mr_runS (As := [.long (s_t.2.2.2 31 (b6 : Int32).toNatClampNeg), .int b5]) (rest := []) X hH (c_X12_has e33) kM_X12_232 kT_X12_has kN_X12 kC_X12_has hd_X12_has ⟨Nat.le_of_ble_eq_true rfl, Nat.le_of_ble_eq_true rfl⟩ rfl hl.1 (Nat.le_of_ble_eq_true rfl) (dk DX12_equate_0 57 rfl) ⟨Nat.zero_le _, Nat.zero_le _⟩) (fun r h1 H locs hp hH => ?_)
    obtain ⟨hr1, hr2⟩ := hp; rw [hr1]; rw [hr2] at hH; clear hr1 hr2
    refine lv_if_eq (tgt := 120) X.x X.b (dk DX12_equate_0 58 rfl) (by decide) (fun c35 => ?_) (fun c35 => ?_)
    · replace hF := if_t hF c35
      obtain ⟨v36, e37⟩ : ∃ y : Int32, y = b6 + 1 := ⟨_, rfl⟩
      replace hF := bnd_e hF e37
      refine lv_iinc (v := v36) (lv' := [(6, .int v36), (0, .ref (q 53)), (1, .int b1), (2, .int b2), (3, .long b3), (5, .int b5)]) X.x X.b (dk DX12_equate_1 7 rfl) hl (k := 5) rfl (by rw [e37]; rfl) (by decide) rfl (fun ls hl => ?_)
      replace hl : lv_has ls 7 [(0, .ref (q 53)), (1, .int b1), (2, .int b2), (3, .long b3), (5, .int b5), (6, .int v36)] := lv_sub hl [1, 2, 3, 4, 5, 0] rfl
      refine lv_goto (tgt := 88) X.x X.b (dk DX12_equate_1 8 rfl) (by decide) ?_
      exact (lp_l hF hx) _ _ _ hH (lv_sub hl [0, 1, 2, 3, 4, 5] rfl) K0
    · replace hF := if_f hF c35
      refine lv_aload_n X.x X.b (dk DX12_equate_0 59 rfl) rfl (lv_at hl 0 rfl) ?_
      refine og_getR (t := 1) OX12 X hq hH 31 (by decide) rfl kF_X12_51 (dk DX12_equate_1 0 rfl) ?_
      refine lv_iload X.x X.b (dk DX12_equate_1 1 rfl) (lv_at hl 5 rfl) ?_
      refine lv_dup2_11 X.x X.b (dk DX12_equate_1 2 rfl) rfl rfl ?_
      refine og_lald X hq hH 31 (by decide) rfl (inb_in c31) (dk DX12_equate_1 3 rfl) ?_
      refine lv_lload_n X.x X.b (dk DX12_equate_1 4 rfl) rfl (lv_at hl 3 rfl) ?_
      refine lv_lxor X.x X.b (dk DX12_equate_1 5 rfl) ?_
      refine og_last X hq hH 31 (by decide) rfl (inb_in c31) (dk DX12_equate_1 6 rfl) (fun H locs hH => ?_)
      obtain ⟨t38, e39⟩ : ∃ y, y = oB s_t 31 (vp_updL (s_t.2.2.2 31) (b6 : Int32).toNatClampNeg ((s_t.2.2.2 31 (b6 : Int32).toNatClampNeg) ^^^ b3)) := ⟨_, rfl⟩
      rw [← e39] at hH
      replace hF := bnd_e hF e39
      obtain ⟨v40, e41⟩ : ∃ y : Int32, y = b6 + 1 := ⟨_, rfl⟩
      replace hF := bnd_e hF e41
      refine lv_iinc (v := v40) (lv' := [(6, .int v40), (0, .ref (q 53)), (1, .int b1), (2, .int b2), (3, .long b3), (5, .int b5)]) X.x X.b (dk DX12_equate_1 7 rfl) hl (k := 5) rfl (by rw [e41]; rfl) (by decide) rfl (fun ls hl => ?_)
      replace hl : lv_has ls 7 [(0, .ref (q 53)), (1, .int b1), (2, .int b2), (3, .long b3), (5, .int b5), (6, .int v40)] := lv_sub hl [1, 2, 3, 4, 5, 0] rfl
      refine lv_goto (tgt := 88) X.x X.b (dk DX12_equate_1 8 rfl) (by decide) ?_
      exact (lp_l hF hx) _ _ _ hH (lv_sub hl [0, 1, 2, 3, 4, 5] rfl) K0
set_option maxHeartbeats 4000000 in
set_option maxRecDepth 100000 in
theorem w_X12_equate_4 {p : Program} {l : Launch} {e : Env} {s : State} {m : MethodId} {args : Array Value} {below : List Frame} {meth : Method} {c : Code} {Q : State → Prop} {G : mG} {h : mM} {q : Nat → Nat} (hq : oinj LX12 q) (X : mX G p m c cX12_equate 7 s args RX12) : ∀ (z : OS × Int32 × Int32) (r : OS × Int32), lpv (f_X12_equate_4) z = some r → ∀ (H : Heap) (locs : List Loc) (ls : Array Slot), mH G (oset LX12 G q z.1 h) s.heap H locs → lv_has ls 7 [(0, .ref (q 53)), (1, .int z.2.1), (2, .int z.2.2)] → (∀ (H : Heap) (locs : List Loc) (ls : Array Slot), mH G (oset LX12 G q r.1 h) s.heap H locs → lv_has ls 7 [(1, .int r.2)] → W p l e rm_X12_equate s m args below meth c H locs 0 0 Q (F0 m 150 ls [])) → W p l e rm_X12_equate s m args below meth c H locs 0 0 Q (F0 m 4 ls []) := by
  refine lpv_rec ?_
  intro z r x hF hx H locs ls hH hl K0
  obtain ⟨s_t, b1, b2⟩ := z
  dsimp only [f_X12_equate_4] at hF
  try dsimp only at hH hl
  refine lv_iload_n X.x X.b (dk DX12_equate_0 4 rfl) rfl (lv_at hl 2 rfl) ?_
  refine lv_aload_n X.x X.b (dk DX12_equate_0 5 rfl) rfl (lv_at hl 0 rfl) ?_
  refine og_getI OX12 X hq hH 1 (by decide) rfl kF_X12_250 (dk DX12_equate_0 6 rfl) ?_
  refine lv_icmp_ge (tgt := 150) X.x X.b (dk DX12_equate_0 7 rfl) (by decide) (fun c1 => ?_) (fun c1 => ?_)
  · replace hF := if_t hF c1
    have hr9 := lp_r hF hx
    subst hr9
    exact K0 _ _ _ hH (lv_sub hl [1] rfl)
  · replace hF := if_f hF c1
    refine lv_aload_n X.x X.b (dk DX12_equate_0 8 rfl) rfl (lv_at hl 0 rfl) ?_
    refine og_getR (t := 1) OX12 X hq hH 3 (by decide) rfl kF_X12_7 (dk DX12_equate_0 9 rfl) ?_
    refine lv_iload_n X.x X.b (dk DX12_equate_0 10 rfl) rfl (lv_at hl 2 rfl) ?_
    obtain ⟨c2, hF⟩ := gd hF
    refine og_lald X hq hH 3 (by decide) rfl (inb_in c2) (dk DX12_equate_0 11 rfl) ?_
    refine lv_topl (fun v3 e4 => ?_)
    replace hF := bnd_e hF e4
    refine lv_lstore_n (lv' := [(3, .long v3), (0, .ref (q 53)), (1, .int b1), (2, .int b2)]) X.x X.b (dk DX12_equate_0 12 rfl) rfl hl (by decide) rfl (fun ls hl => ?_)
    replace hl : lv_has ls 7 [(0, .ref (q 53)), (1, .int b1), (2, .int b2), (3, .long v3)] := lv_sub hl [1, 2, 3, 0] rfl
    refine lv_iconst (v := 0) X.x X.b (dk DX12_equate_0 13 rfl) (by decide) ?_
    refine lv_istore (lv' := [(5, .int 0), (0, .ref (q 53)), (1, .int b1), (2, .int b2), (3, .long v3)]) X.x X.b (dk DX12_equate_0 14 rfl) hl (by decide) rfl (fun ls hl => ?_)
    replace hl : lv_has ls 7 [(0, .ref (q 53)), (1, .int b1), (2, .int b2), (3, .long v3), (5, .int 0)] := lv_sub hl [1, 2, 3, 4, 0] rfl
    obtain ⟨x17, e18, hF⟩ := bd hF
    replace hl : lv_has ls 7 [(0, .ref (q 53)), (1, .int b1), (2, .int b2), (3, .long v3), (5, .int 0)] := lv_sub hl [0, 1, 2, 3, 4] rfl
    refine w_X12_equate_22 hq X s_t b1 b2 _ _ e18 _ _ _ hH hl (fun H locs ls hH hl => ?_)
    refine lv_lload_n X.x X.b (dk DX12_equate_0 34 rfl) rfl (lv_at hl 3 rfl) ?_
    refine lv_lconst (v := 0) X.x X.b (dk DX12_equate_0 35 rfl) (by decide) ?_
    refine W.lcmp X.x X.b (dk DX12_equate_0 36 rfl) ?_
    refine lv_if_ne (tgt := 67) X.x X.b (dk DX12_equate_0 37 rfl) (by decide) (fun c20 => ?_) (fun c20 => ?_)
    · replace hF := if_f hF c20
      refine lv_iconst (v := 0) X.x X.b (dk DX12_equate_0 39 rfl) (by decide) ?_
      refine lv_istore (lv' := [(5, .int 0), (0, .ref (q 53)), (1, .int b1), (2, .int b2), (3, .long x17)]) X.x X.b (dk DX12_equate_0 40 rfl) hl (by decide) rfl (fun ls hl => ?_)
      replace hl : lv_has ls 7 [(0, .ref (q 53)), (1, .int b1), (2, .int b2), (3, .long x17), (5, .int 0)] := lv_sub hl [1, 2, 3, 4, 0] rfl
      obtain ⟨x27, e28, hF⟩ := bd hF
      replace hl : lv_has ls 7 [(0, .ref (q 53)), (1, .int b1), (2, .int b2), (3, .long x17), (5, .int 0)] := lv_sub hl [0, 1, 2, 3, 4] rfl
      refine w_X12_equate_70 hq X s_t b1 b2 x17 _ _ e28 _ _ _ hH hl (fun H locs ls hH hl => ?_)
      refine lv_iconst (v := 0) X.x X.b (dk DX12_equate_0 47 rfl) (by decide) ?_
      refine lv_istore (lv' := [(6, .int 0), (0, .ref (q 53)), (1, .int b1), (2, .int b2), (3, .long x17), (5, .int x27)]) X.x X.b (dk DX12_equate_0 48 rfl) hl (by decide) rfl (fun ls hl => ?_)
      replace hl : lv_has ls 7 [(0, .ref (q 53)), (1, .int b1), (2, .int b2), (3, .long x17), (5, .int x27), (6, .int 0)] := lv_sub hl [1, 2, 3, 4, 5, 0] rfl
      obtain ⟨x42, e43, hF⟩ := bd hF
      replace hl : lv_has ls 7 [(0, .ref (q 53)), (1, .int b1), (2, .int b2), (3, .long x17), (5, .int x27), (6, .int 0)] := lv_sub hl [0, 1, 2, 3, 4, 5] rfl
      refine w_X12_equate_88 hq X b1 b2 x17 x27 _ _ e43 _ _ _ hH hl (fun H locs ls hH hl => ?_)
      refine lv_aload_n X.x X.b (dk DX12_equate_1 9 rfl) rfl (lv_at hl 0 rfl) ?_
      refine og_getR (t := 1) OX12 X hq hH 31 (by decide) rfl kF_X12_51 (dk DX12_equate_1 10 rfl) ?_
      refine lv_iload_n X.x X.b (dk DX12_equate_1 11 rfl) rfl (lv_at hl 1 rfl) ?_
      refine lv_lload_n X.x X.b (dk DX12_equate_1 12 rfl) rfl (lv_at hl 3 rfl) ?_
      obtain ⟨c45, hF⟩ := gd hF
      refine og_last X hq hH 31 (by decide) rfl (inb_in c45) (dk DX12_equate_1 13 rfl) (fun H locs hH => ?_)
      obtain ⟨t46, e47⟩ : ∃ y, y = oB x42 31 (vp_updL (x42.2.2.2 31) (b1 : Int32).toNatClampNeg x17) := ⟨_, rfl⟩
      rw [← e47] at hH
      replace hF := bnd_e hF e47
      refine lv_aload_n X.x X.b (dk DX12_equate_1 14 rfl) rfl (lv_at hl 0 rfl) ?_
      refine og_getR (t := 0) OX12 X hq hH 33 (by decide) rfl kF_X12_57 (dk DX12_equate_1 15 rfl) ?_
      refine lv_iload_n X.x X.b (dk DX12_equate_1 16 rfl) rfl (lv_at hl 1 rfl) ?_
      refine lv_iload X.x X.b (dk DX12_equate_1 17 rfl) (lv_at hl 4 rfl) ?_
      refine og_iast X hq hH 33 (by decide) rfl (inb_in c45) (dk DX12_equate_1 18 rfl) (fun H locs hH => ?_)
      obtain ⟨t48, e49⟩ : ∃ y, y = oA t46 33 (upd (t46.2.2.1 33) (b1 : Int32).toNatClampNeg x27) := ⟨_, rfl⟩
      rw [← e49] at hH
      replace hF := bnd_e hF e49
      obtain ⟨v50, e51⟩ : ∃ y : Int32, y = b1 + 1 := ⟨_, rfl⟩
      replace hF := bnd_e hF e51
      refine lv_iinc (v := v50) (lv' := [(1, .int v50), (0, .ref (q 53)), (2, .int b2), (3, .long x17), (5, .int x27)]) X.x X.b (dk DX12_equate_1 19 rfl) hl (k := 1) rfl (by rw [e51]; rfl) (by decide) rfl (fun ls hl => ?_)
      replace hl : lv_has ls 7 [(0, .ref (q 53)), (1, .int v50), (2, .int b2)] := lv_sub hl [1, 0, 2] rfl
      obtain ⟨v52, e53⟩ : ∃ y : Int32, y = b2 + 1 := ⟨_, rfl⟩
      replace hF := bnd_e hF e53
      refine lv_iinc (v := v52) (lv' := [(2, .int v52), (0, .ref (q 53)), (1, .int v50)]) X.x X.b (dk DX12_equate_1 20 rfl) hl (k := 2) rfl (by rw [e53]; rfl) (by decide) rfl (fun ls hl => ?_)
      replace hl : lv_has ls 7 [(0, .ref (q 53)), (1, .int v50), (2, .int v52)] := lv_sub hl [1, 2, 0] rfl
      refine lv_goto (tgt := 4) X.x X.b (dk DX12_equate_1 21 rfl) (by decide) ?_
      exact (lp_l hF hx) _ _ _ hH (lv_sub hl [0, 1, 2] rfl) K0
    · replace hF := if_t hF c20
      refine lv_goto (tgt := 144) X.x X.b (dk DX12_equate_0 38 rfl) (by decide) ?_
      obtain ⟨v54, e55⟩ : ∃ y : Int32, y = b2 + 1 := ⟨_, rfl⟩
      replace hF := bnd_e hF e55
      refine lv_iinc (v := v54) (lv' := [(2, .int v54), (0, .ref (q 53)), (1, .int b1), (3, .long x17)]) X.x X.b (dk DX12_equate_1 20 rfl) hl (k := 2) rfl (by rw [e55]; rfl) (by decide) rfl (fun ls hl => ?_)
      replace hl : lv_has ls 7 [(0, .ref (q 53)), (1, .int b1), (2, .int v54)] := lv_sub hl [1, 2, 0] rfl
      refine lv_goto (tgt := 4) X.x X.b (dk DX12_equate_1 21 rfl) (by decide) ?_
      exact (lp_l hF hx) _ _ _ hH (lv_sub hl [0, 1, 2] rfl) K0
set_option maxHeartbeats 4000000 in
set_option maxRecDepth 100000 in
theorem c_X12_equate {l : Launch} {G : mG} {h : mM} {q : Nat → Nat} (hq : oinj LX12 q) {st : OS} {x : Int32 × OS} (hF : f_X12_equate st = some x) : cQ l G yX12_equate cX12_equate 7 (some FieldType.int) rm_X12_equate [.ref (q 53)] (oset LX12 G q st h) (mQi G (fun r h1 => r = x.1 ∧ h1 = oset LX12 G q x.2 h)) := by
  refine mp_of (by decide +kernel) (Nat.le_of_ble_eq_true rfl) ?_
  intro p e s m below meth c X hr hlk hH hname ls hl
  dsimp only [f_X12_equate] at hF
  replace hl : lv_has ls 7 [(0, .ref (q 53))] := hl
  refine lv_iconst (v := 0) X.x X.b (dk DX12_equate_0 0 rfl) (by decide) ?_
  refine lv_istore_n (lv' := [(1, .int 0), (0, .ref (q 53))]) X.x X.b (dk DX12_equate_0 1 rfl) rfl hl (by decide) rfl (fun ls hl => ?_)
  replace hl : lv_has ls 7 [(0, .ref (q 53)), (1, .int 0)] := lv_sub hl [1, 0] rfl
  refine lv_iconst (v := 0) X.x X.b (dk DX12_equate_0 2 rfl) (by decide) ?_
  refine lv_istore_n (lv' := [(2, .int 0), (0, .ref (q 53)), (1, .int 0)]) X.x X.b (dk DX12_equate_0 3 rfl) rfl hl (by decide) rfl (fun ls hl => ?_)
  replace hl : lv_has ls 7 [(0, .ref (q 53)), (1, .int 0), (2, .int 0)] := lv_sub hl [1, 2, 0] rfl
  obtain ⟨x56, e57, hF⟩ := bd hF
  replace hl : lv_has ls 7 [(0, .ref (q 53)), (1, .int 0), (2, .int 0)] := lv_sub hl [0, 1, 2] rfl
  obtain ⟨t58, v59⟩ := x56
  try dsimp only at hF
  refine w_X12_equate_4 hq X _ _ e57 _ _ _ hH hl (fun H locs ls hH hl => ?_)
  try dsimp only at hH hl
  refine lv_iload_n X.x X.b (dk DX12_equate_1 22 rfl) rfl (lv_at hl 0 rfl) ?_
  cases sm hF
  exact mr_iret X hr hlk hH ⟨rfl, rfl⟩ (dk DX12_equate_1 23 rfl)
-- X12_code
abbrev rm_X12_code : Room := { frames := 2, cells := 0, slots := 0, locals := 48 }
theorem hd_X12_code : mHd yX12_code 1 := ⟨by decide +kernel, by decide +kernel, by decide +kernel⟩
theorem DX12_code_0 : ∀ t ∈ ([(0, .aload_n 0, 1), (1, .iload_n 1, 1), (2, .i2l, 1), (3, .lconst 0, 1), (4, .lconst 1, 1), (5, .invokestatic 171, 3), (8, .ifCond .eq 7, 3), (11, .iconst 0, 1), (12, .goto 4, 3), (15, .iconst 1, 1), (16, .putfield 106, 3), (19, .aload_n 0, 1), (20, .getfield 106, 3), (23, .ifCond .le 5, 3), (26, .iconst 0, 1), (27, .ireturn, 1), (28, .aload_n 0, 1), (29, .invokevirtual 362, 3), (32, .istore_n 2, 1), (33, .aload_n 0, 1), (34, .getfield 248, 3), (37, .iload_n 2, 1), (38, .isub, 1), (39, .istore_n 3, 1), (40, .iload_n 1, 1), (41, .ifCond .ne 5, 3), (44, .iload_n 3, 1), (45, .ireturn, 1), (46, .iload_n 3, 1), (47, .bipush 16, 2), (49, .if_icmp .le 6, 3), (52, .bipush (-2), 2), (54, .ireturn, 1), (55, .lconst 0, 1), (56, .lstore 4, 2), (58, .iconst 0, 1), (59, .istore 6, 2), (61, .iload 6, 2), (63, .iload_n 2, 1), (64, .if_icmp .ge 24, 3), (67, .lload 4, 2), (69, .aload_n 0, 1), (70, .getfield 57, 3), (73, .iload 6, 2), (75, .iaload, 1), (76, .invokestatic 111, 3), (79, .lor, 1), (80, .lstore 4, 2), (82, .iinc 6 1, 3), (85, .goto (-24), 3), (88, .iconst 0, 1), (89, .istore 6, 2), (91, .iconst 0, 1), (92, .istore 7, 2), (94, .iload 7, 2), (96, .aload_n 0, 1), (97, .getfield 248, 3), (100, .if_icmp .ge 91, 3), (103, .lload 4, 2), (105, .iload 7, 2)] : List (Nat × Instr × Nat)), decode cX12_code t.1 = .ok (t.2.1, t.2.2) := by decide +kernel
theorem DX12_code_1 : ∀ t ∈ ([(107, .invokestatic 232, 3), (110, .ifCond .eq 6, 3), (113, .goto 72, 3), (116, .aload_n 0, 1), (117, .getfield 54, 3), (120, .iload 6, 2), (122, .iload 7, 2), (124, .invokestatic 111, 3), (127, .lastore, 1), (128, .iconst 0, 1), (129, .istore 8, 2), (131, .iload 8, 2), (133, .iload_n 2, 1), (134, .if_icmp .ge 48, 3), (137, .aload_n 0, 1), (138, .getfield 54, 3), (141, .iload 6, 2), (143, .dup2, 1), (144, .laload, 1), (145, .aload_n 0, 1), (146, .getfield 51, 3), (149, .iload 8, 2), (151, .laload, 1), (152, .iload 7, 2), (154, .invokestatic 232, 3), (157, .ifCond .eq 16, 3), (160, .aload_n 0, 1), (161, .getfield 57, 3), (164, .iload 8, 2), (166, .iaload, 1), (167, .invokestatic 111, 3), (170, .goto 4, 3), (173, .lconst 0, 1), (174, .lor, 1), (175, .lastore, 1), (176, .iinc 8 1, 3), (179, .goto (-48), 3), (182, .iinc 6 1, 3), (185, .iinc 7 1, 3), (188, .goto (-94), 3), (191, .iconst (-1), 1), (192, .istore 7, 2), (194, .iconst 1, 1), (195, .istore 8, 2), (197, .iload 8, 2), (199, .iconst 1, 1), (200, .iload 6, 2), (202, .ishl, 1), (203, .if_icmp .ge 81, 3), (206, .lconst 0, 1), (207, .lstore 9, 2), (209, .iconst 0, 1), (210, .istore 11, 2), (212, .iload 11, 2), (214, .iload 6, 2), (216, .if_icmp .ge 36, 3), (219, .lload 9, 2), (221, .iload 8, 2), (223, .iload 11, 2), (225, .ishr, 1)] : List (Nat × Instr × Nat)), decode cX12_code t.1 = .ok (t.2.1, t.2.2) := by decide +kernel
theorem DX12_code_2 : ∀ t ∈ ([(226, .iconst 1, 1), (227, .iand, 1), (228, .iconst 1, 1), (229, .if_icmp .ne 13, 3), (232, .aload_n 0, 1), (233, .getfield 54, 3), (236, .iload 11, 2), (238, .laload, 1), (239, .goto 4, 3), (242, .lconst 0, 1), (243, .lxor, 1), (244, .lstore 9, 2), (246, .iinc 11 1, 3), (249, .goto (-37), 3), (252, .iload 7, 2), (254, .iconst (-1), 1), (255, .if_icmp .ne 11, 3), (258, .lload 9, 2), (260, .invokestatic 283, 3), (263, .goto 13, 3), (266, .iload 7, 2), (268, .lload 9, 2), (270, .invokestatic 283, 3), (273, .invokestatic 356, 3), (276, .istore 7, 2), (278, .iinc 8 1, 3), (281, .goto (-84), 3), (284, .iload 7, 2), (286, .ireturn, 1)] : List (Nat × Instr × Nat)), decode cX12_code t.1 = .ok (t.2.1, t.2.2) := by decide +kernel
noncomputable def f_X12_code_61 (s_t : OS) (b2 : Int32) : (Int64 × Int32) → Option ((Int64 × Int32) ⊕ (Int64)) := fun z => match z with | (b4, b6) => (if b2 ≤ b6 then some (.inr b4) else if inb b6 64 = true then (f_X12_bit (s_t.2.2.1 33 (b6 : Int32).toNatClampNeg)).bind (fun x18 => bnd (b4 ||| x18 : Int64) (fun v21 => bnd (b6 + 1 : Int32) (fun v23 => some (.inl ((v21, v23)))))) else none)
noncomputable def f_X12_code_131 (b2 : Int32) (b4 : Int64) (b6 : Int32) (b7 : Int32) : (OS × Int32) → Option ((OS × Int32) ⊕ (OS)) := fun z => match z with | (s_t, b8) => (if b2 ≤ b8 then some (.inr s_t) else if inb b6 16 = true then if inb b8 64 = true then (f_X12_has (s_t.2.2.2 31 (b8 : Int32).toNatClampNeg) b7).bind (fun x42 => (if x42 = 0 then bnd (oB s_t 32 (vp_updL (s_t.2.2.2 32) (b6 : Int32).toNatClampNeg ((s_t.2.2.2 32 (b6 : Int32).toNatClampNeg) ||| 0))) (fun t46 => bnd (b8 + 1 : Int32) (fun v48 => some (.inl ((t46, v48))))) else (f_X12_bit (s_t.2.2.1 33 (b8 : Int32).toNatClampNeg)).bind (fun x50 => bnd (oB s_t 32 (vp_updL (s_t.2.2.2 32) (b6 : Int32).toNatClampNeg ((s_t.2.2.2 32 (b6 : Int32).toNatClampNeg) ||| x50))) (fun t53 => bnd (b8 + 1 : Int32) (fun v55 => some (.inl ((t53, v55)))))))) else none else none)
noncomputable def f_X12_code_94 (b2 : Int32) (b4 : Int64) : (OS × Int32 × Int32) → Option ((OS × Int32 × Int32) ⊕ (OS × Int32)) := fun z => match z with | (s_t, b6, b7) => (if (s_t.1 0) ≤ b7 then some (.inr ((s_t, b6))) else (f_X12_has b4 b7).bind (fun x29 => (if x29 = 0 then (f_X12_bit b7).bind (fun x33 => if inb b6 16 = true then bnd (oB s_t 32 (vp_updL (s_t.2.2.2 32) (b6 : Int32).toNatClampNeg x33)) (fun t37 => (lpv (f_X12_code_131 b2 b4 b6 b7) ((t37, 0))).bind (fun x57 => bnd (b6 + 1 : Int32) (fun v60 => bnd (b7 + 1 : Int32) (fun v62 => some (.inl ((x57, v60, v62))))))) else none) else bnd (b7 + 1 : Int32) (fun v64 => some (.inl ((s_t, b6, v64)))))))
noncomputable def f_X12_code_212 (s_t : OS) (b6 : Int32) (b7 : Int32) (b8 : Int32) : (Int64 × Int32) → Option ((Int64 × Int32) ⊕ (Int64)) := fun z => match z with | (b9, b11) => (if b6 ≤ b11 then some (.inr b9) else (if (b8 >>> (b11 &&& 31)) &&& 1 = 1 then if inb b11 16 = true then bnd (b9 ^^^ (s_t.2.2.2 32 (b11 : Int32).toNatClampNeg) : Int64) (fun v78 => bnd (b11 + 1 : Int32) (fun v80 => some (.inl ((v78, v80))))) else none else bnd (b9 ^^^ 0 : Int64) (fun v73 => bnd (b11 + 1 : Int32) (fun v75 => some (.inl ((v73, v75)))))))
noncomputable def f_X12_code_197 (s_t : OS) (b6 : Int32) : (Int32 × Int32) → Option ((Int32 × Int32) ⊕ (Int32)) := fun z => match z with | (b7, b8) => (if ((1 : Int32) <<< (b6 &&& 31)) ≤ b8 then some (.inr b7) else (lpv (f_X12_code_212 s_t b6 b7 b8) ((0, 0))).bind (fun x82 => (if b7 = ((-1)) then (f_X12_ones x82).bind (fun x94 => bnd (b8 + 1 : Int32) (fun v97 => some (.inl ((x94, v97))))) else (f_X12_ones x82).bind (fun x86 => (f_J9_min_7cf53 b7 x86).bind (fun x89 => bnd (b8 + 1 : Int32) (fun v92 => some (.inl ((x89, v92)))))))))
noncomputable def f_X12_code (st : OS) (a0 : Int32) : Option (Int32 × OS) := (f_X12_within ((a0 : Int32).toInt64) 0 1).bind (fun x1 => (if x1 = 0 then bnd (oI st 2 1) (fun t5 => (if (t5.1 2) ≤ 0 then (f_X12_equate t5).bind (fun x8 => match x8 with | (v10, t11) => bnd ((t11.1 0) - v10 : Int32) (fun v12 => (if a0 = 0 then some ((v12, t11)) else (if v12 ≤ 16 then (lpv (f_X12_code_61 t11 v10) ((0, 0))).bind (fun x25 => (lpv (f_X12_code_94 v10 x25) ((t11, 0, 0))).bind (fun x66 => match x66 with | (t68, v69) => (lpv (f_X12_code_197 t68 v69) (((-1), 1))).bind (fun x99 => some ((x99, t68))))) else some (((-2), t11)))))) else some ((0, t5)))) else bnd (oI st 2 0) (fun t102 => (if (t102.1 2) ≤ 0 then (f_X12_equate t102).bind (fun x105 => match x105 with | (v107, t108) => bnd ((t108.1 0) - v107 : Int32) (fun v109 => (if a0 = 0 then some ((v109, t108)) else (if v109 ≤ 16 then (lpv (f_X12_code_61 t108 v107) ((0, 0))).bind (fun x113 => (lpv (f_X12_code_94 v107 x113) ((t108, 0, 0))).bind (fun x116 => match x116 with | (t118, v119) => (lpv (f_X12_code_197 t118 v119) (((-1), 1))).bind (fun x120 => some ((x120, t118))))) else some (((-2), t108)))))) else some ((0, t102))))))
set_option maxHeartbeats 4000000 in
set_option maxRecDepth 100000 in
theorem w_X12_code_61 {p : Program} {l : Launch} {e : Env} {s : State} {m : MethodId} {args : Array Value} {below : List Frame} {meth : Method} {c : Code} {Q : State → Prop} {G : mG} {h : mM} {q : Nat → Nat} (hq : oinj LX12 q) (X : mX G p m c cX12_code 12 s args RX12) (s_t : OS) (b2 : Int32) : ∀ (z : Int64 × Int32) (r : Int64), lpv (f_X12_code_61 s_t b2) z = some r → ∀ (H : Heap) (locs : List Loc) (ls : Array Slot), mH G (oset LX12 G q s_t h) s.heap H locs → lv_has ls 12 [(0, .ref (q 53)), (2, .int b2), (4, .long z.1), (6, .int z.2)] → (∀ (H : Heap) (locs : List Loc) (ls : Array Slot), mH G (oset LX12 G q s_t h) s.heap H locs → lv_has ls 12 [(0, .ref (q 53)), (2, .int b2), (4, .long r)] → W p l e rm_X12_code s m args below meth c H locs 0 0 Q (F0 m 88 ls [])) → W p l e rm_X12_code s m args below meth c H locs 0 0 Q (F0 m 61 ls []) := by
  refine lpv_rec ?_
  intro z r x hF hx H locs ls hH hl K0
  obtain ⟨b4, b6⟩ := z
  dsimp only [f_X12_code_61] at hF
  try dsimp only at hH hl
  refine lv_iload X.x X.b (dk DX12_code_0 37 rfl) (lv_at hl 3 rfl) ?_
  refine lv_iload_n X.x X.b (dk DX12_code_0 38 rfl) rfl (lv_at hl 1 rfl) ?_
  refine lv_icmp_ge (tgt := 88) X.x X.b (dk DX12_code_0 39 rfl) (by decide) (fun c16 => ?_) (fun c16 => ?_)
  · replace hF := if_t hF c16
    have hr9 := lp_r hF hx
    subst hr9
    exact K0 _ _ _ hH (lv_sub hl [0, 1, 2] rfl)
  · replace hF := if_f hF c16
    refine lv_lload X.x X.b (dk DX12_code_0 40 rfl) (lv_at hl 2 rfl) ?_
    refine lv_aload_n X.x X.b (dk DX12_code_0 41 rfl) rfl (lv_at hl 0 rfl) ?_
    refine og_getR (t := 0) OX12 X hq hH 33 (by decide) rfl kF_X12_57 (dk DX12_code_0 42 rfl) ?_
    refine lv_iload X.x X.b (dk DX12_code_0 43 rfl) (lv_at hl 3 rfl) ?_
    obtain ⟨c17, hF⟩ := gd hF
    refine og_iald X hq hH 33 (by decide) rfl (inb_in c17) (dk DX12_code_0 44 rfl) ?_
    obtain ⟨x18, e19, hF⟩ := bd hF
    refine mr_cl0 hH ⟨rfl, rfl⟩ (mr_runS (As := [.int (s_t.2.2.1 33 (b6 : Int32).toNatClampNeg)]) (rest := [.long b4]) X hH (c_X12_bit e19) kM_X12_111 kT_X12_bit kN_X12 kC_X12_bit hd_X12_bit ⟨Nat.le_of_ble_eq_true rfl, Nat.le_of_ble_eq_true rfl⟩ rfl hl.1 (Nat.le_of_ble_eq_true rfl) (dk DX12_code_0 45 rfl) ⟨Nat.zero_le _, Nat.zero_le _⟩) (fun r h1 H locs hp hH => ?_)
    obtain ⟨hr1, hr2⟩ := hp; rw [hr1]; rw [hr2] at hH; clear hr1 hr2
    refine lv_lor X.x X.b (dk DX12_code_0 46 rfl) ?_
    refine lv_topl (fun v21 e22 => ?_)
    replace hF := bnd_e hF e22
    refine lv_lstore (lv' := [(4, .long v21), (0, .ref (q 53)), (2, .int b2), (6, .int b6)]) X.x X.b (dk DX12_code_0 47 rfl) hl (by decide) rfl (fun ls hl => ?_)
    replace hl : lv_has ls 12 [(0, .ref (q 53)), (2, .int b2), (4, .long v21), (6, .int b6)] := lv_sub hl [1, 2, 0, 3] rfl
    obtain ⟨v23, e24⟩ : ∃ y : Int32, y = b6 + 1 := ⟨_, rfl⟩
    replace hF := bnd_e hF e24
    refine lv_iinc (v := v23) (lv' := [(6, .int v23), (0, .ref (q 53)), (2, .int b2), (4, .long v21)]) X.x X.b (dk DX12_code_0 48 rfl) hl (k := 3) rfl (by rw [e24]; rfl) (by decide) rfl (fun ls hl => ?_)
    replace hl : lv_has ls 12 [(0, .ref (q 53)), (2, .int b2), (4, .long v21), (6, .int v23)] := lv_sub hl [1, 2, 3, 0] rfl
    refine lv_goto (tgt := 61) X.x X.b (dk DX12_code_0 49 rfl) (by decide) ?_
    exact (lp_l hF hx) _ _ _ hH (lv_sub hl [0, 1, 2, 3] rfl) K0
set_option maxHeartbeats 4000000 in
set_option maxRecDepth 100000 in
theorem w_X12_code_131 {p : Program} {l : Launch} {e : Env} {s : State} {m : MethodId} {args : Array Value} {below : List Frame} {meth : Method} {c : Code} {Q : State → Prop} {G : mG} {h : mM} {q : Nat → Nat} (hq : oinj LX12 q) (X : mX G p m c cX12_code 12 s args RX12) (b2 : Int32) (b4 : Int64) (b6 : Int32) (b7 : Int32) : ∀ (z : OS × Int32) (r : OS), lpv (f_X12_code_131 b2 b4 b6 b7) z = some r → ∀ (H : Heap) (locs : List Loc) (ls : Array Slot), mH G (oset LX12 G q z.1 h) s.heap H locs → lv_has ls 12 [(0, .ref (q 53)), (2, .int b2), (4, .long b4), (6, .int b6), (7, .int b7), (8, .int z.2)] → (∀ (H : Heap) (locs : List Loc) (ls : Array Slot), mH G (oset LX12 G q r h) s.heap H locs → lv_has ls 12 [(0, .ref (q 53)), (2, .int b2), (4, .long b4), (6, .int b6), (7, .int b7)] → W p l e rm_X12_code s m args below meth c H locs 0 0 Q (F0 m 182 ls [])) → W p l e rm_X12_code s m args below meth c H locs 0 0 Q (F0 m 131 ls []) := by
  refine lpv_rec ?_
  intro z r x hF hx H locs ls hH hl K0
  obtain ⟨s_t, b8⟩ := z
  dsimp only [f_X12_code_131] at hF
  try dsimp only at hH hl
  refine lv_iload X.x X.b (dk DX12_code_1 11 rfl) (lv_at hl 5 rfl) ?_
  refine lv_iload_n X.x X.b (dk DX12_code_1 12 rfl) rfl (lv_at hl 1 rfl) ?_
  refine lv_icmp_ge (tgt := 182) X.x X.b (dk DX12_code_1 13 rfl) (by decide) (fun c39 => ?_) (fun c39 => ?_)
  · replace hF := if_t hF c39
    have hr9 := lp_r hF hx
    subst hr9
    exact K0 _ _ _ hH (lv_sub hl [0, 1, 2, 3, 4] rfl)
  · replace hF := if_f hF c39
    refine lv_aload_n X.x X.b (dk DX12_code_1 14 rfl) rfl (lv_at hl 0 rfl) ?_
    refine og_getR (t := 1) OX12 X hq hH 32 (by decide) rfl kF_X12_54 (dk DX12_code_1 15 rfl) ?_
    refine lv_iload X.x X.b (dk DX12_code_1 16 rfl) (lv_at hl 3 rfl) ?_
    refine lv_dup2_11 X.x X.b (dk DX12_code_1 17 rfl) rfl rfl ?_
    obtain ⟨c40, hF⟩ := gd hF
    refine og_lald X hq hH 32 (by decide) rfl (inb_in c40) (dk DX12_code_1 18 rfl) ?_
    refine lv_aload_n X.x X.b (dk DX12_code_1 19 rfl) rfl (lv_at hl 0 rfl) ?_
    refine og_getR (t := 1) OX12 X hq hH 31 (by decide) rfl kF_X12_51 (dk DX12_code_1 20 rfl) ?_
    refine lv_iload X.x X.b (dk DX12_code_1 21 rfl) (lv_at hl 5 rfl) ?_
    obtain ⟨c41, hF⟩ := gd hF
    refine og_lald X hq hH 31 (by decide) rfl (inb_in c41) (dk DX12_code_1 22 rfl) ?_
    refine lv_iload X.x X.b (dk DX12_code_1 23 rfl) (lv_at hl 4 rfl) ?_
    obtain ⟨x42, e43, hF⟩ := bd hF
    refine mr_ci0 hH ⟨rfl, rfl⟩ (mr_runS (As := [.long (s_t.2.2.2 31 (b8 : Int32).toNatClampNeg), .int b7]) (rest := [.long (s_t.2.2.2 32 (b6 : Int32).toNatClampNeg), .int b6, .ref (q 32)]) X hH (c_X12_has e43) kM_X12_232 kT_X12_has kN_X12 kC_X12_has hd_X12_has ⟨Nat.le_of_ble_eq_true rfl, Nat.le_of_ble_eq_true rfl⟩ rfl hl.1 (Nat.le_of_ble_eq_true rfl) (dk DX12_code_1 24 rfl) ⟨Nat.zero_le _, Nat.zero_le _⟩) (fun r h1 H locs hp hH => ?_)
    obtain ⟨hr1, hr2⟩ := hp; rw [hr1]; rw [hr2] at hH; clear hr1 hr2
    refine lv_if_eq (tgt := 173) X.x X.b (dk DX12_code_1 25 rfl) (by decide) (fun c45 => ?_) (fun c45 => ?_)
    · replace hF := if_t hF c45
      refine lv_lconst (v := 0) X.x X.b (dk DX12_code_1 32 rfl) (by decide) ?_
      refine lv_lor X.x X.b (dk DX12_code_1 33 rfl) ?_
      refine og_last X hq hH 32 (by decide) rfl (inb_in c40) (dk DX12_code_1 34 rfl) (fun H locs hH => ?_)
      obtain ⟨t46, e47⟩ : ∃ y, y = oB s_t 32 (vp_updL (s_t.2.2.2 32) (b6 : Int32).toNatClampNeg ((s_t.2.2.2 32 (b6 : Int32).toNatClampNeg) ||| 0)) := ⟨_, rfl⟩
      rw [← e47] at hH
      replace hF := bnd_e hF e47
      obtain ⟨v48, e49⟩ : ∃ y : Int32, y = b8 + 1 := ⟨_, rfl⟩
      replace hF := bnd_e hF e49
      refine lv_iinc (v := v48) (lv' := [(8, .int v48), (0, .ref (q 53)), (2, .int b2), (4, .long b4), (6, .int b6), (7, .int b7)]) X.x X.b (dk DX12_code_1 35 rfl) hl (k := 5) rfl (by rw [e49]; rfl) (by decide) rfl (fun ls hl => ?_)
      replace hl : lv_has ls 12 [(0, .ref (q 53)), (2, .int b2), (4, .long b4), (6, .int b6), (7, .int b7), (8, .int v48)] := lv_sub hl [1, 2, 3, 4, 5, 0] rfl
      refine lv_goto (tgt := 131) X.x X.b (dk DX12_code_1 36 rfl) (by decide) ?_
      exact (lp_l hF hx) _ _ _ hH (lv_sub hl [0, 1, 2, 3, 4, 5] rfl) K0
    · replace hF := if_f hF c45
      refine lv_aload_n X.x X.b (dk DX12_code_1 26 rfl) rfl (lv_at hl 0 rfl) ?_
      refine og_getR (t := 0) OX12 X hq hH 33 (by decide) rfl kF_X12_57 (dk DX12_code_1 27 rfl) ?_
      refine lv_iload X.x X.b (dk DX12_code_1 28 rfl) (lv_at hl 5 rfl) ?_
      refine og_iald X hq hH 33 (by decide) rfl (inb_in c41) (dk DX12_code_1 29 rfl) ?_
      obtain ⟨x50, e51, hF⟩ := bd hF
      refine mr_cl0 hH ⟨rfl, rfl⟩ (mr_runS (As := [.int (s_t.2.2.1 33 (b8 : Int32).toNatClampNeg)]) (rest := [.long (s_t.2.2.2 32 (b6 : Int32).toNatClampNeg), .int b6, .ref (q 32)]) X hH (c_X12_bit e51) kM_X12_111 kT_X12_bit kN_X12 kC_X12_bit hd_X12_bit ⟨Nat.le_of_ble_eq_true rfl, Nat.le_of_ble_eq_true rfl⟩ rfl hl.1 (Nat.le_of_ble_eq_true rfl) (dk DX12_code_1 30 rfl) ⟨Nat.zero_le _, Nat.zero_le _⟩) (fun r h1 H locs hp hH => ?_)
      obtain ⟨hr1, hr2⟩ := hp; rw [hr1]; rw [hr2] at hH; clear hr1 hr2
      refine lv_goto (tgt := 174) X.x X.b (dk DX12_code_1 31 rfl) (by decide) ?_
      refine lv_lor X.x X.b (dk DX12_code_1 33 rfl) ?_
      refine og_last X hq hH 32 (by decide) rfl (inb_in c40) (dk DX12_code_1 34 rfl) (fun H locs hH => ?_)
      obtain ⟨t53, e54⟩ : ∃ y, y = oB s_t 32 (vp_updL (s_t.2.2.2 32) (b6 : Int32).toNatClampNeg ((s_t.2.2.2 32 (b6 : Int32).toNatClampNeg) ||| x50)) := ⟨_, rfl⟩
      rw [← e54] at hH
      replace hF := bnd_e hF e54
      obtain ⟨v55, e56⟩ : ∃ y : Int32, y = b8 + 1 := ⟨_, rfl⟩
      replace hF := bnd_e hF e56
      refine lv_iinc (v := v55) (lv' := [(8, .int v55), (0, .ref (q 53)), (2, .int b2), (4, .long b4), (6, .int b6), (7, .int b7)]) X.x X.b (dk DX12_code_1 35 rfl) hl (k := 5) rfl (by rw [e56]; rfl) (by decide) rfl (fun ls hl => ?_)
      replace hl : lv_has ls 12 [(0, .ref (q 53)), (2, .int b2), (4, .long b4), (6, .int b6), (7, .int b7), (8, .int v55)] := lv_sub hl [1, 2, 3, 4, 5, 0] rfl
      refine lv_goto (tgt := 131) X.x X.b (dk DX12_code_1 36 rfl) (by decide) ?_
      exact (lp_l hF hx) _ _ _ hH (lv_sub hl [0, 1, 2, 3, 4, 5] rfl) K0
set_option maxHeartbeats 4000000 in
set_option maxRecDepth 100000 in
theorem w_X12_code_94 {p : Program} {l : Launch} {e : Env} {s : State} {m : MethodId} {args : Array Value} {below : List Frame} {meth : Method} {c : Code} {Q : State → Prop} {G : mG} {h : mM} {q : Nat → Nat} (hq : oinj LX12 q) (X : mX G p m c cX12_code 12 s args RX12) (b2 : Int32) (b4 : Int64) : ∀ (z : OS × Int32 × Int32) (r : OS × Int32), lpv (f_X12_code_94 b2 b4) z = some r → ∀ (H : Heap) (locs : List Loc) (ls : Array Slot), mH G (oset LX12 G q z.1 h) s.heap H locs → lv_has ls 12 [(0, .ref (q 53)), (2, .int b2), (4, .long b4), (6, .int z.2.1), (7, .int z.2.2)] → (∀ (H : Heap) (locs : List Loc) (ls : Array Slot), mH G (oset LX12 G q r.1 h) s.heap H locs → lv_has ls 12 [(0, .ref (q 53)), (6, .int r.2)] → W p l e rm_X12_code s m args below meth c H locs 0 0 Q (F0 m 191 ls [])) → W p l e rm_X12_code s m args below meth c H locs 0 0 Q (F0 m 94 ls []) := by
  refine lpv_rec ?_
  intro z r x hF hx H locs ls hH hl K0
  obtain ⟨s_t, b6, b7⟩ := z
  dsimp only [f_X12_code_94] at hF
  try dsimp only at hH hl
  refine lv_iload X.x X.b (dk DX12_code_0 54 rfl) (lv_at hl 4 rfl) ?_
  refine lv_aload_n X.x X.b (dk DX12_code_0 55 rfl) rfl (lv_at hl 0 rfl) ?_
  refine og_getI OX12 X hq hH 0 (by decide) rfl kF_X12_248 (dk DX12_code_0 56 rfl) ?_
  refine lv_icmp_ge (tgt := 191) X.x X.b (dk DX12_code_0 57 rfl) (by decide) (fun c28 => ?_) (fun c28 => ?_)
  · replace hF := if_t hF c28
    have hr9 := lp_r hF hx
    subst hr9
    exact K0 _ _ _ hH (lv_sub hl [0, 3] rfl)
  · replace hF := if_f hF c28
    refine lv_lload X.x X.b (dk DX12_code_0 58 rfl) (lv_at hl 2 rfl) ?_
    refine lv_iload X.x X.b (dk DX12_code_0 59 rfl) (lv_at hl 4 rfl) ?_
    obtain ⟨x29, e30, hF⟩ := bd hF
    refine mr_ci0 hH ⟨rfl, rfl⟩ (mr_runS (As := [.long b4, .int b7]) (rest := []) X hH (c_X12_has e30) kM_X12_232 kT_X12_has kN_X12 kC_X12_has hd_X12_has ⟨Nat.le_of_ble_eq_true rfl, Nat.le_of_ble_eq_true rfl⟩ rfl hl.1 (Nat.le_of_ble_eq_true rfl) (dk DX12_code_1 0 rfl) ⟨Nat.zero_le _, Nat.zero_le _⟩) (fun r h1 H locs hp hH => ?_)
    obtain ⟨hr1, hr2⟩ := hp; rw [hr1]; rw [hr2] at hH; clear hr1 hr2
    refine lv_if_eq (tgt := 116) X.x X.b (dk DX12_code_1 1 rfl) (by decide) (fun c32 => ?_) (fun c32 => ?_)
    · replace hF := if_t hF c32
      refine lv_aload_n X.x X.b (dk DX12_code_1 3 rfl) rfl (lv_at hl 0 rfl) ?_
      refine og_getR (t := 1) OX12 X hq hH 32 (by decide) rfl kF_X12_54 (dk DX12_code_1 4 rfl) ?_
      refine lv_iload X.x X.b (dk DX12_code_1 5 rfl) (lv_at hl 3 rfl) ?_
      refine lv_iload X.x X.b (dk DX12_code_1 6 rfl) (lv_at hl 4 rfl) ?_
      obtain ⟨x33, e34, hF⟩ := bd hF
      refine mr_cl0 hH ⟨rfl, rfl⟩ (mr_runS (As := [.int b7]) (rest := [.int b6, .ref (q 32)]) X hH (c_X12_bit e34) kM_X12_111 kT_X12_bit kN_X12 kC_X12_bit hd_X12_bit ⟨Nat.le_of_ble_eq_true rfl, Nat.le_of_ble_eq_true rfl⟩ rfl hl.1 (Nat.le_of_ble_eq_true rfl) (dk DX12_code_1 7 rfl) ⟨Nat.zero_le _, Nat.zero_le _⟩) (fun r h1 H locs hp hH => ?_)
      obtain ⟨hr1, hr2⟩ := hp; rw [hr1]; rw [hr2] at hH; clear hr1 hr2
      obtain ⟨c36, hF⟩ := gd hF
      refine og_last X hq hH 32 (by decide) rfl (inb_in c36) (dk DX12_code_1 8 rfl) (fun H locs hH => ?_)
      obtain ⟨t37, e38⟩ : ∃ y, y = oB s_t 32 (vp_updL (s_t.2.2.2 32) (b6 : Int32).toNatClampNeg x33) := ⟨_, rfl⟩
      rw [← e38] at hH
      replace hF := bnd_e hF e38
      refine lv_iconst (v := 0) X.x X.b (dk DX12_code_1 9 rfl) (by decide) ?_
      refine lv_istore (lv' := [(8, .int 0), (0, .ref (q 53)), (2, .int b2), (4, .long b4), (6, .int b6), (7, .int b7)]) X.x X.b (dk DX12_code_1 10 rfl) hl (by decide) rfl (fun ls hl => ?_)
      replace hl : lv_has ls 12 [(0, .ref (q 53)), (2, .int b2), (4, .long b4), (6, .int b6), (7, .int b7), (8, .int 0)] := lv_sub hl [1, 2, 3, 4, 5, 0] rfl
      obtain ⟨x57, e58, hF⟩ := bd hF
      replace hl : lv_has ls 12 [(0, .ref (q 53)), (2, .int b2), (4, .long b4), (6, .int b6), (7, .int b7), (8, .int 0)] := lv_sub hl [0, 1, 2, 3, 4, 5] rfl
      refine w_X12_code_131 hq X b2 b4 b6 b7 _ _ e58 _ _ _ hH hl (fun H locs ls hH hl => ?_)
      obtain ⟨v60, e61⟩ : ∃ y : Int32, y = b6 + 1 := ⟨_, rfl⟩
      replace hF := bnd_e hF e61
      refine lv_iinc (v := v60) (lv' := [(6, .int v60), (0, .ref (q 53)), (2, .int b2), (4, .long b4), (7, .int b7)]) X.x X.b (dk DX12_code_1 37 rfl) hl (k := 3) rfl (by rw [e61]; rfl) (by decide) rfl (fun ls hl => ?_)
      replace hl : lv_has ls 12 [(0, .ref (q 53)), (2, .int b2), (4, .long b4), (6, .int v60), (7, .int b7)] := lv_sub hl [1, 2, 3, 0, 4] rfl
      obtain ⟨v62, e63⟩ : ∃ y : Int32, y = b7 + 1 := ⟨_, rfl⟩
      replace hF := bnd_e hF e63
      refine lv_iinc (v := v62) (lv' := [(7, .int v62), (0, .ref (q 53)), (2, .int b2), (4, .long b4), (6, .int v60)]) X.x X.b (dk DX12_code_1 38 rfl) hl (k := 4) rfl (by rw [e63]; rfl) (by decide) rfl (fun ls hl => ?_)
      replace hl : lv_has ls 12 [(0, .ref (q 53)), (2, .int b2), (4, .long b4), (6, .int v60), (7, .int v62)] := lv_sub hl [1, 2, 3, 4, 0] rfl
      refine lv_goto (tgt := 94) X.x X.b (dk DX12_code_1 39 rfl) (by decide) ?_
      exact (lp_l hF hx) _ _ _ hH (lv_sub hl [0, 1, 2, 3, 4] rfl) K0
    · replace hF := if_f hF c32
      refine lv_goto (tgt := 185) X.x X.b (dk DX12_code_1 2 rfl) (by decide) ?_
      obtain ⟨v64, e65⟩ : ∃ y : Int32, y = b7 + 1 := ⟨_, rfl⟩
      replace hF := bnd_e hF e65
      refine lv_iinc (v := v64) (lv' := [(7, .int v64), (0, .ref (q 53)), (2, .int b2), (4, .long b4), (6, .int b6)]) X.x X.b (dk DX12_code_1 38 rfl) hl (k := 4) rfl (by rw [e65]; rfl) (by decide) rfl (fun ls hl => ?_)
      replace hl : lv_has ls 12 [(0, .ref (q 53)), (2, .int b2), (4, .long b4), (6, .int b6), (7, .int v64)] := lv_sub hl [1, 2, 3, 4, 0] rfl
      refine lv_goto (tgt := 94) X.x X.b (dk DX12_code_1 39 rfl) (by decide) ?_
      exact (lp_l hF hx) _ _ _ hH (lv_sub hl [0, 1, 2, 3, 4] rfl) K0
set_option maxHeartbeats 4000000 in
set_option maxRecDepth 100000 in
theorem w_X12_code_212 {p : Program} {l : Launch} {e : Env} {s : State} {m : MethodId} {args : Array Value} {below : List Frame} {meth : Method} {c : Code} {Q : State → Prop} {G : mG} {h : mM} {q : Nat → Nat} (hq : oinj LX12 q) (X : mX G p m c cX12_code 12 s args RX12) (s_t : OS) (b6 : Int32) (b7 : Int32) (b8 : Int32) : ∀ (z : Int64 × Int32) (r : Int64), lpv (f_X12_code_212 s_t b6 b7 b8) z = some r → ∀ (H : Heap) (locs : List Loc) (ls : Array Slot), mH G (oset LX12 G q s_t h) s.heap H locs → lv_has ls 12 [(0, .ref (q 53)), (6, .int b6), (7, .int b7), (8, .int b8), (9, .long z.1), (11, .int z.2)] → (∀ (H : Heap) (locs : List Loc) (ls : Array Slot), mH G (oset LX12 G q s_t h) s.heap H locs → lv_has ls 12 [(0, .ref (q 53)), (6, .int b6), (7, .int b7), (8, .int b8), (9, .long r)] → W p l e rm_X12_code s m args below meth c H locs 0 0 Q (F0 m 252 ls [])) → W p l e rm_X12_code s m args below meth c H locs 0 0 Q (F0 m 212 ls []) := by
  refine lpv_rec ?_
  intro z r x hF hx H locs ls hH hl K0
  obtain ⟨b9, b11⟩ := z
  dsimp only [f_X12_code_212] at hF
  try dsimp only at hH hl
  refine lv_iload X.x X.b (dk DX12_code_1 53 rfl) (lv_at hl 5 rfl) ?_
  refine lv_iload X.x X.b (dk DX12_code_1 54 rfl) (lv_at hl 1 rfl) ?_
  refine lv_icmp_ge (tgt := 252) X.x X.b (dk DX12_code_1 55 rfl) (by decide) (fun c71 => ?_) (fun c71 => ?_)
  · replace hF := if_t hF c71
    have hr9 := lp_r hF hx
    subst hr9
    exact K0 _ _ _ hH (lv_sub hl [0, 1, 2, 3, 4] rfl)
  · replace hF := if_f hF c71
    refine lv_lload X.x X.b (dk DX12_code_1 56 rfl) (lv_at hl 4 rfl) ?_
    refine lv_iload X.x X.b (dk DX12_code_1 57 rfl) (lv_at hl 3 rfl) ?_
    refine lv_iload X.x X.b (dk DX12_code_1 58 rfl) (lv_at hl 5 rfl) ?_
    refine lv_ishr X.x X.b (dk DX12_code_1 59 rfl) ?_
    refine lv_iconst (v := 1) X.x X.b (dk DX12_code_2 0 rfl) (by decide) ?_
    refine lv_iand X.x X.b (dk DX12_code_2 1 rfl) ?_
    refine lv_iconst (v := 1) X.x X.b (dk DX12_code_2 2 rfl) (by decide) ?_
    refine lv_icmp_ne (tgt := 242) X.x X.b (dk DX12_code_2 3 rfl) (by decide) (fun c72 => ?_) (fun c72 => ?_)
    · replace hF := if_f hF c72
      refine lv_lconst (v := 0) X.x X.b (dk DX12_code_2 9 rfl) (by decide) ?_
      refine lv_lxor X.x X.b (dk DX12_code_2 10 rfl) ?_
      refine lv_topl (fun v73 e74 => ?_)
      replace hF := bnd_e hF e74
      refine lv_lstore (lv' := [(9, .long v73), (0, .ref (q 53)), (6, .int b6), (7, .int b7), (8, .int b8), (11, .int b11)]) X.x X.b (dk DX12_code_2 11 rfl) hl (by decide) rfl (fun ls hl => ?_)
      replace hl : lv_has ls 12 [(0, .ref (q 53)), (6, .int b6), (7, .int b7), (8, .int b8), (9, .long v73), (11, .int b11)] := lv_sub hl [1, 2, 3, 4, 0, 5] rfl
      obtain ⟨v75, e76⟩ : ∃ y : Int32, y = b11 + 1 := ⟨_, rfl⟩
      replace hF := bnd_e hF e76
      refine lv_iinc (v := v75) (lv' := [(11, .int v75), (0, .ref (q 53)), (6, .int b6), (7, .int b7), (8, .int b8), (9, .long v73)]) X.x X.b (dk DX12_code_2 12 rfl) hl (k := 5) rfl (by rw [e76]; rfl) (by decide) rfl (fun ls hl => ?_)
      replace hl : lv_has ls 12 [(0, .ref (q 53)), (6, .int b6), (7, .int b7), (8, .int b8), (9, .long v73), (11, .int v75)] := lv_sub hl [1, 2, 3, 4, 5, 0] rfl
      refine lv_goto (tgt := 212) X.x X.b (dk DX12_code_2 13 rfl) (by decide) ?_
      exact (lp_l hF hx) _ _ _ hH (lv_sub hl [0, 1, 2, 3, 4, 5] rfl) K0
    · replace hF := if_t hF c72
      refine lv_aload_n X.x X.b (dk DX12_code_2 4 rfl) rfl (lv_at hl 0 rfl) ?_
      refine og_getR (t := 1) OX12 X hq hH 32 (by decide) rfl kF_X12_54 (dk DX12_code_2 5 rfl) ?_
      refine lv_iload X.x X.b (dk DX12_code_2 6 rfl) (lv_at hl 5 rfl) ?_
      obtain ⟨c77, hF⟩ := gd hF
      refine og_lald X hq hH 32 (by decide) rfl (inb_in c77) (dk DX12_code_2 7 rfl) ?_
      refine lv_goto (tgt := 243) X.x X.b (dk DX12_code_2 8 rfl) (by decide) ?_
      refine lv_lxor X.x X.b (dk DX12_code_2 10 rfl) ?_
      refine lv_topl (fun v78 e79 => ?_)
      replace hF := bnd_e hF e79
      refine lv_lstore (lv' := [(9, .long v78), (0, .ref (q 53)), (6, .int b6), (7, .int b7), (8, .int b8), (11, .int b11)]) X.x X.b (dk DX12_code_2 11 rfl) hl (by decide) rfl (fun ls hl => ?_)
      replace hl : lv_has ls 12 [(0, .ref (q 53)), (6, .int b6), (7, .int b7), (8, .int b8), (9, .long v78), (11, .int b11)] := lv_sub hl [1, 2, 3, 4, 0, 5] rfl
      obtain ⟨v80, e81⟩ : ∃ y : Int32, y = b11 + 1 := ⟨_, rfl⟩
      replace hF := bnd_e hF e81
      refine lv_iinc (v := v80) (lv' := [(11, .int v80), (0, .ref (q 53)), (6, .int b6), (7, .int b7), (8, .int b8), (9, .long v78)]) X.x X.b (dk DX12_code_2 12 rfl) hl (k := 5) rfl (by rw [e81]; rfl) (by decide) rfl (fun ls hl => ?_)
      replace hl : lv_has ls 12 [(0, .ref (q 53)), (6, .int b6), (7, .int b7), (8, .int b8), (9, .long v78), (11, .int v80)] := lv_sub hl [1, 2, 3, 4, 5, 0] rfl
      refine lv_goto (tgt := 212) X.x X.b (dk DX12_code_2 13 rfl) (by decide) ?_
      exact (lp_l hF hx) _ _ _ hH (lv_sub hl [0, 1, 2, 3, 4, 5] rfl) K0
set_option maxHeartbeats 4000000 in
set_option maxRecDepth 100000 in
theorem w_X12_code_197 {p : Program} {l : Launch} {e : Env} {s : State} {m : MethodId} {args : Array Value} {below : List Frame} {meth : Method} {c : Code} {Q : State → Prop} {G : mG} {h : mM} {q : Nat → Nat} (hq : oinj LX12 q) (X : mX G p m c cX12_code 12 s args RX12) (s_t : OS) (b6 : Int32) : ∀ (z : Int32 × Int32) (r : Int32), lpv (f_X12_code_197 s_t b6) z = some r → ∀ (H : Heap) (locs : List Loc) (ls : Array Slot), mH G (oset LX12 G q s_t h) s.heap H locs → lv_has ls 12 [(0, .ref (q 53)), (6, .int b6), (7, .int z.1), (8, .int z.2)] → (∀ (H : Heap) (locs : List Loc) (ls : Array Slot), mH G (oset LX12 G q s_t h) s.heap H locs → lv_has ls 12 [(7, .int r)] → W p l e rm_X12_code s m args below meth c H locs 0 0 Q (F0 m 284 ls [])) → W p l e rm_X12_code s m args below meth c H locs 0 0 Q (F0 m 197 ls []) := by
  refine lpv_rec ?_
  intro z r x hF hx H locs ls hH hl K0
  obtain ⟨b7, b8⟩ := z
  dsimp only [f_X12_code_197] at hF
  try dsimp only at hH hl
  refine lv_iload X.x X.b (dk DX12_code_1 44 rfl) (lv_at hl 3 rfl) ?_
  refine lv_iconst (v := 1) X.x X.b (dk DX12_code_1 45 rfl) (by decide) ?_
  refine lv_iload X.x X.b (dk DX12_code_1 46 rfl) (lv_at hl 1 rfl) ?_
  refine lv_ishl X.x X.b (dk DX12_code_1 47 rfl) ?_
  refine lv_icmp_ge (tgt := 284) X.x X.b (dk DX12_code_1 48 rfl) (by decide) (fun c70 => ?_) (fun c70 => ?_)
  · replace hF := if_t hF c70
    have hr9 := lp_r hF hx
    subst hr9
    exact K0 _ _ _ hH (lv_sub hl [2] rfl)
  · replace hF := if_f hF c70
    refine lv_lconst (v := 0) X.x X.b (dk DX12_code_1 49 rfl) (by decide) ?_
    refine lv_lstore (lv' := [(9, .long 0), (0, .ref (q 53)), (6, .int b6), (7, .int b7), (8, .int b8)]) X.x X.b (dk DX12_code_1 50 rfl) hl (by decide) rfl (fun ls hl => ?_)
    replace hl : lv_has ls 12 [(0, .ref (q 53)), (6, .int b6), (7, .int b7), (8, .int b8), (9, .long 0)] := lv_sub hl [1, 2, 3, 4, 0] rfl
    refine lv_iconst (v := 0) X.x X.b (dk DX12_code_1 51 rfl) (by decide) ?_
    refine lv_istore (lv' := [(11, .int 0), (0, .ref (q 53)), (6, .int b6), (7, .int b7), (8, .int b8), (9, .long 0)]) X.x X.b (dk DX12_code_1 52 rfl) hl (by decide) rfl (fun ls hl => ?_)
    replace hl : lv_has ls 12 [(0, .ref (q 53)), (6, .int b6), (7, .int b7), (8, .int b8), (9, .long 0), (11, .int 0)] := lv_sub hl [1, 2, 3, 4, 5, 0] rfl
    obtain ⟨x82, e83, hF⟩ := bd hF
    replace hl : lv_has ls 12 [(0, .ref (q 53)), (6, .int b6), (7, .int b7), (8, .int b8), (9, .long 0), (11, .int 0)] := lv_sub hl [0, 1, 2, 3, 4, 5] rfl
    refine w_X12_code_212 hq X s_t b6 b7 b8 _ _ e83 _ _ _ hH hl (fun H locs ls hH hl => ?_)
    refine lv_iload X.x X.b (dk DX12_code_2 14 rfl) (lv_at hl 2 rfl) ?_
    refine lv_iconst (v := (-1)) X.x X.b (dk DX12_code_2 15 rfl) (by decide) ?_
    refine lv_icmp_ne (tgt := 266) X.x X.b (dk DX12_code_2 16 rfl) (by decide) (fun c85 => ?_) (fun c85 => ?_)
    · replace hF := if_f hF c85
      refine lv_iload X.x X.b (dk DX12_code_2 20 rfl) (lv_at hl 2 rfl) ?_
      refine lv_lload X.x X.b (dk DX12_code_2 21 rfl) (lv_at hl 4 rfl) ?_
      obtain ⟨x86, e87, hF⟩ := bd hF
      refine mr_ci0 hH ⟨rfl, rfl⟩ (mr_runS (As := [.long x82]) (rest := [.int b7]) X hH (c_X12_ones e87) kM_X12_283 kT_X12_ones kN_X12 kC_X12_ones hd_X12_ones ⟨Nat.le_of_ble_eq_true rfl, Nat.le_of_ble_eq_true rfl⟩ rfl hl.1 (Nat.le_of_ble_eq_true rfl) (dk DX12_code_2 22 rfl) ⟨Nat.zero_le _, Nat.zero_le _⟩) (fun r h1 H locs hp hH => ?_)
      obtain ⟨hr1, hr2⟩ := hp; rw [hr1]; rw [hr2] at hH; clear hr1 hr2
      obtain ⟨x89, e90, hF⟩ := bd hF
      refine mr_ci0 hH ⟨rfl, rfl⟩ (mr_runS (As := [.int b7, .int x86]) (rest := []) X hH (c_J9_min_7cf53 e90) kM_X12_356 kT_J9_min_7cf53 kN_J9 kC_J9_min_7cf53 hd_J9_min_7cf53 ⟨Nat.le_of_ble_eq_true rfl, Nat.le_of_ble_eq_true rfl⟩ rfl hl.1 (Nat.le_of_ble_eq_true rfl) (dk DX12_code_2 23 rfl) ⟨Nat.zero_le _, Nat.zero_le _⟩) (fun r h1 H locs hp hH => ?_)
      obtain ⟨hr1, hr2⟩ := hp; rw [hr1]; rw [hr2] at hH; clear hr1 hr2
      refine lv_istore (lv' := [(7, .int x89), (0, .ref (q 53)), (6, .int b6), (8, .int b8), (9, .long x82)]) X.x X.b (dk DX12_code_2 24 rfl) hl (by decide) rfl (fun ls hl => ?_)
      replace hl : lv_has ls 12 [(0, .ref (q 53)), (6, .int b6), (7, .int x89), (8, .int b8)] := lv_sub hl [1, 2, 0, 3] rfl
      obtain ⟨v92, e93⟩ : ∃ y : Int32, y = b8 + 1 := ⟨_, rfl⟩
      replace hF := bnd_e hF e93
      refine lv_iinc (v := v92) (lv' := [(8, .int v92), (0, .ref (q 53)), (6, .int b6), (7, .int x89)]) X.x X.b (dk DX12_code_2 25 rfl) hl (k := 3) rfl (by rw [e93]; rfl) (by decide) rfl (fun ls hl => ?_)
      replace hl : lv_has ls 12 [(0, .ref (q 53)), (6, .int b6), (7, .int x89), (8, .int v92)] := lv_sub hl [1, 2, 3, 0] rfl
      refine lv_goto (tgt := 197) X.x X.b (dk DX12_code_2 26 rfl) (by decide) ?_
      exact (lp_l hF hx) _ _ _ hH (lv_sub hl [0, 1, 2, 3] rfl) K0
    · replace hF := if_t hF c85
      refine lv_lload X.x X.b (dk DX12_code_2 17 rfl) (lv_at hl 4 rfl) ?_
      obtain ⟨x94, e95, hF⟩ := bd hF
      refine mr_ci0 hH ⟨rfl, rfl⟩ (mr_runS (As := [.long x82]) (rest := []) X hH (c_X12_ones e95) kM_X12_283 kT_X12_ones kN_X12 kC_X12_ones hd_X12_ones ⟨Nat.le_of_ble_eq_true rfl, Nat.le_of_ble_eq_true rfl⟩ rfl hl.1 (Nat.le_of_ble_eq_true rfl) (dk DX12_code_2 18 rfl) ⟨Nat.zero_le _, Nat.zero_le _⟩) (fun r h1 H locs hp hH => ?_)
      obtain ⟨hr1, hr2⟩ := hp; rw [hr1]; rw [hr2] at hH; clear hr1 hr2
      refine lv_goto (tgt := 276) X.x X.b (dk DX12_code_2 19 rfl) (by decide) ?_
      refine lv_istore (lv' := [(7, .int x94), (0, .ref (q 53)), (6, .int b6), (8, .int b8), (9, .long x82)]) X.x X.b (dk DX12_code_2 24 rfl) hl (by decide) rfl (fun ls hl => ?_)
      replace hl : lv_has ls 12 [(0, .ref (q 53)), (6, .int b6), (7, .int x94), (8, .int b8)] := lv_sub hl [1, 2, 0, 3] rfl
      obtain ⟨v97, e98⟩ : ∃ y : Int32, y = b8 + 1 := ⟨_, rfl⟩
      replace hF := bnd_e hF e98
      refine lv_iinc (v := v97) (lv' := [(8, .int v97), (0, .ref (q 53)), (6, .int b6), (7, .int x94)]) X.x X.b (dk DX12_code_2 25 rfl) hl (k := 3) rfl (by rw [e98]; rfl) (by decide) rfl (fun ls hl => ?_)
      replace hl : lv_has ls 12 [(0, .ref (q 53)), (6, .int b6), (7, .int x94), (8, .int v97)] := lv_sub hl [1, 2, 3, 0] rfl
      refine lv_goto (tgt := 197) X.x X.b (dk DX12_code_2 26 rfl) (by decide) ?_
      exact (lp_l hF hx) _ _ _ hH (lv_sub hl [0, 1, 2, 3] rfl) K0
set_option maxHeartbeats 4000000 in
set_option maxRecDepth 100000 in
theorem c_X12_code {l : Launch} {G : mG} {h : mM} {q : Nat → Nat} (hq : oinj LX12 q) {st : OS} {a0 : Int32} {x : Int32 × OS} (hF : f_X12_code st a0 = some x) : cQ l G yX12_code cX12_code 12 (some FieldType.int) rm_X12_code [.ref (q 53), .int a0] (oset LX12 G q st h) (mQi G (fun r h1 => r = x.1 ∧ h1 = oset LX12 G q x.2 h)) := by
  refine mp_of (by decide +kernel) (Nat.le_of_ble_eq_true rfl) ?_
  intro p e s m below meth c X hr hlk hH hname ls hl
  dsimp only [f_X12_code] at hF
  replace hl : lv_has ls 12 [(0, .ref (q 53)), (1, .int a0)] := hl
  refine lv_aload_n X.x X.b (dk DX12_code_0 0 rfl) rfl (lv_at hl 0 rfl) ?_
  refine lv_iload_n X.x X.b (dk DX12_code_0 1 rfl) rfl (lv_at hl 1 rfl) ?_
  refine lv_i2l X.x X.b (dk DX12_code_0 2 rfl) rfl ?_
  refine lv_lconst (v := 0) X.x X.b (dk DX12_code_0 3 rfl) (by decide) ?_
  refine lv_lconst (v := 1) X.x X.b (dk DX12_code_0 4 rfl) (by decide) ?_
  obtain ⟨x1, e2, hF⟩ := bd hF
  refine mr_ci0 hH ⟨rfl, rfl⟩ (mr_runS (As := [.long ((a0 : Int32).toInt64), .long 0, .long 1]) (rest := [.ref (q 53)]) X hH (c_X12_within e2) kM_X12_171 kT_X12_within kN_X12 kC_X12_within hd_X12_within ⟨Nat.le_of_ble_eq_true rfl, Nat.le_of_ble_eq_true rfl⟩ rfl hl.1 (Nat.le_of_ble_eq_true rfl) (dk DX12_code_0 5 rfl) ⟨Nat.zero_le _, Nat.zero_le _⟩) (fun r h1 H locs hp hH => ?_)
  obtain ⟨hr1, hr2⟩ := hp; rw [hr1]; rw [hr2] at hH; clear hr1 hr2
  refine lv_if_eq (tgt := 15) X.x X.b (dk DX12_code_0 6 rfl) (by decide) (fun c4 => ?_) (fun c4 => ?_)
  · replace hF := if_t hF c4
    refine lv_iconst (v := 1) X.x X.b (dk DX12_code_0 9 rfl) (by decide) ?_
    refine og_putI OX12 X hq hH 2 (by decide) rfl kF_X12_106 rfl rfl rfl (dk DX12_code_0 10 rfl) (fun H locs hH => ?_)
    obtain ⟨t5, e6⟩ : ∃ y, y = oI st 2 1 := ⟨_, rfl⟩
    rw [← e6] at hH
    replace hF := bnd_e hF e6
    refine lv_aload_n X.x X.b (dk DX12_code_0 11 rfl) rfl (lv_at hl 0 rfl) ?_
    refine og_getI OX12 X hq hH 2 (by decide) rfl kF_X12_106 (dk DX12_code_0 12 rfl) ?_
    refine lv_if_le (tgt := 28) X.x X.b (dk DX12_code_0 13 rfl) (by decide) (fun c7 => ?_) (fun c7 => ?_)
    · replace hF := if_t hF c7
      refine lv_aload_n X.x X.b (dk DX12_code_0 16 rfl) rfl (lv_at hl 0 rfl) ?_
      obtain ⟨x8, e9, hF⟩ := bd hF
      refine mr_ci0 hH ⟨rfl, rfl⟩ (mr_runV (As := []) (rest := []) X hH (c_X12_equate hq e9) ((oset_at hq (Nat.le_refl _) ohas_N).trans (congrArg some ocell_N)) OX12.1 kM_X12_362 kI_X12_equate kS_X12_equate kN_X12 kC_X12_equate hd_X12_equate ⟨Nat.le_of_ble_eq_true rfl, Nat.le_of_ble_eq_true rfl⟩ rfl hl.1 (Nat.le_of_ble_eq_true rfl) (dk DX12_code_0 17 rfl) ⟨Nat.zero_le _, Nat.zero_le _⟩) (fun r h1 H locs hp hH => ?_)
      obtain ⟨hr1, hr2⟩ := hp; rw [hr1]; rw [hr2] at hH; clear hr1 hr2
      obtain ⟨v10, t11⟩ := x8
      try dsimp only at hF hH ⊢
      refine lv_istore_n (lv' := [(2, .int v10), (0, .ref (q 53)), (1, .int a0)]) X.x X.b (dk DX12_code_0 18 rfl) rfl hl (by decide) rfl (fun ls hl => ?_)
      replace hl : lv_has ls 12 [(0, .ref (q 53)), (1, .int a0), (2, .int v10)] := lv_sub hl [1, 2, 0] rfl
      refine lv_aload_n X.x X.b (dk DX12_code_0 19 rfl) rfl (lv_at hl 0 rfl) ?_
      refine og_getI OX12 X hq hH 0 (by decide) rfl kF_X12_248 (dk DX12_code_0 20 rfl) ?_
      refine lv_iload_n X.x X.b (dk DX12_code_0 21 rfl) rfl (lv_at hl 2 rfl) ?_
      refine lv_isub X.x X.b (dk DX12_code_0 22 rfl) ?_
      refine lv_topi (fun v12 e13 => ?_)
      replace hF := bnd_e hF e13
      refine lv_istore_n (lv' := [(3, .int v12), (0, .ref (q 53)), (1, .int a0), (2, .int v10)]) X.x X.b (dk DX12_code_0 23 rfl) rfl hl (by decide) rfl (fun ls hl => ?_)
      replace hl : lv_has ls 12 [(0, .ref (q 53)), (1, .int a0), (2, .int v10), (3, .int v12)] := lv_sub hl [1, 2, 3, 0] rfl
      refine lv_iload_n X.x X.b (dk DX12_code_0 24 rfl) rfl (lv_at hl 1 rfl) ?_
      refine lv_if_ne (tgt := 46) X.x X.b (dk DX12_code_0 25 rfl) (by decide) (fun c14 => ?_) (fun c14 => ?_)
      · replace hF := if_f hF c14
        refine lv_iload_n X.x X.b (dk DX12_code_0 28 rfl) rfl (lv_at hl 3 rfl) ?_
        refine lv_bipush (v := 16) X.x X.b (dk DX12_code_0 29 rfl) (by decide) ?_
        refine lv_icmp_le (tgt := 55) X.x X.b (dk DX12_code_0 30 rfl) (by decide) (fun c15 => ?_) (fun c15 => ?_)
        · replace hF := if_t hF c15
          refine lv_lconst (v := 0) X.x X.b (dk DX12_code_0 33 rfl) (by decide) ?_
          refine lv_lstore (lv' := [(4, .long 0), (0, .ref (q 53)), (1, .int a0), (2, .int v10), (3, .int v12)]) X.x X.b (dk DX12_code_0 34 rfl) hl (by decide) rfl (fun ls hl => ?_)
          replace hl : lv_has ls 12 [(0, .ref (q 53)), (2, .int v10), (4, .long 0)] := lv_sub hl [1, 3, 0] rfl
          refine lv_iconst (v := 0) X.x X.b (dk DX12_code_0 35 rfl) (by decide) ?_
          refine lv_istore (lv' := [(6, .int 0), (0, .ref (q 53)), (2, .int v10), (4, .long 0)]) X.x X.b (dk DX12_code_0 36 rfl) hl (by decide) rfl (fun ls hl => ?_)
          replace hl : lv_has ls 12 [(0, .ref (q 53)), (2, .int v10), (4, .long 0), (6, .int 0)] := lv_sub hl [1, 2, 3, 0] rfl
          obtain ⟨x25, e26, hF⟩ := bd hF
          replace hl : lv_has ls 12 [(0, .ref (q 53)), (2, .int v10), (4, .long 0), (6, .int 0)] := lv_sub hl [0, 1, 2, 3] rfl
          refine w_X12_code_61 hq X t11 v10 _ _ e26 _ _ _ hH hl (fun H locs ls hH hl => ?_)
          refine lv_iconst (v := 0) X.x X.b (dk DX12_code_0 50 rfl) (by decide) ?_
          refine lv_istore (lv' := [(6, .int 0), (0, .ref (q 53)), (2, .int v10), (4, .long x25)]) X.x X.b (dk DX12_code_0 51 rfl) hl (by decide) rfl (fun ls hl => ?_)
          replace hl : lv_has ls 12 [(0, .ref (q 53)), (2, .int v10), (4, .long x25), (6, .int 0)] := lv_sub hl [1, 2, 3, 0] rfl
          refine lv_iconst (v := 0) X.x X.b (dk DX12_code_0 52 rfl) (by decide) ?_
          refine lv_istore (lv' := [(7, .int 0), (0, .ref (q 53)), (2, .int v10), (4, .long x25), (6, .int 0)]) X.x X.b (dk DX12_code_0 53 rfl) hl (by decide) rfl (fun ls hl => ?_)
          replace hl : lv_has ls 12 [(0, .ref (q 53)), (2, .int v10), (4, .long x25), (6, .int 0), (7, .int 0)] := lv_sub hl [1, 2, 3, 4, 0] rfl
          obtain ⟨x66, e67, hF⟩ := bd hF
          replace hl : lv_has ls 12 [(0, .ref (q 53)), (2, .int v10), (4, .long x25), (6, .int 0), (7, .int 0)] := lv_sub hl [0, 1, 2, 3, 4] rfl
          obtain ⟨t68, v69⟩ := x66
          try dsimp only at hF
          refine w_X12_code_94 hq X v10 x25 _ _ e67 _ _ _ hH hl (fun H locs ls hH hl => ?_)
          try dsimp only at hH hl
          refine lv_iconst (v := (-1)) X.x X.b (dk DX12_code_1 40 rfl) (by decide) ?_
          refine lv_istore (lv' := [(7, .int ((-1))), (0, .ref (q 53)), (6, .int v69)]) X.x X.b (dk DX12_code_1 41 rfl) hl (by decide) rfl (fun ls hl => ?_)
          replace hl : lv_has ls 12 [(0, .ref (q 53)), (6, .int v69), (7, .int ((-1)))] := lv_sub hl [1, 2, 0] rfl
          refine lv_iconst (v := 1) X.x X.b (dk DX12_code_1 42 rfl) (by decide) ?_
          refine lv_istore (lv' := [(8, .int 1), (0, .ref (q 53)), (6, .int v69), (7, .int ((-1)))]) X.x X.b (dk DX12_code_1 43 rfl) hl (by decide) rfl (fun ls hl => ?_)
          replace hl : lv_has ls 12 [(0, .ref (q 53)), (6, .int v69), (7, .int ((-1))), (8, .int 1)] := lv_sub hl [1, 2, 3, 0] rfl
          obtain ⟨x99, e100, hF⟩ := bd hF
          replace hl : lv_has ls 12 [(0, .ref (q 53)), (6, .int v69), (7, .int ((-1))), (8, .int 1)] := lv_sub hl [0, 1, 2, 3] rfl
          refine w_X12_code_197 hq X t68 v69 _ _ e100 _ _ _ hH hl (fun H locs ls hH hl => ?_)
          refine lv_iload X.x X.b (dk DX12_code_2 27 rfl) (lv_at hl 0 rfl) ?_
          cases sm hF
          exact mr_iret X hr hlk hH ⟨rfl, rfl⟩ (dk DX12_code_2 28 rfl)
        · replace hF := if_f hF c15
          refine lv_bipush (v := (-2)) X.x X.b (dk DX12_code_0 31 rfl) (by decide) ?_
          cases sm hF
          exact mr_iret X hr hlk hH ⟨rfl, rfl⟩ (dk DX12_code_0 32 rfl)
      · replace hF := if_t hF c14
        refine lv_iload_n X.x X.b (dk DX12_code_0 26 rfl) rfl (lv_at hl 3 rfl) ?_
        cases sm hF
        exact mr_iret X hr hlk hH ⟨rfl, rfl⟩ (dk DX12_code_0 27 rfl)
    · replace hF := if_f hF c7
      refine lv_iconst (v := 0) X.x X.b (dk DX12_code_0 14 rfl) (by decide) ?_
      cases sm hF
      exact mr_iret X hr hlk hH ⟨rfl, rfl⟩ (dk DX12_code_0 15 rfl)
  · replace hF := if_f hF c4
    refine lv_iconst (v := 0) X.x X.b (dk DX12_code_0 7 rfl) (by decide) ?_
    refine lv_goto (tgt := 16) X.x X.b (dk DX12_code_0 8 rfl) (by decide) ?_
    refine og_putI OX12 X hq hH 2 (by decide) rfl kF_X12_106 rfl rfl rfl (dk DX12_code_0 10 rfl) (fun H locs hH => ?_)
    obtain ⟨t102, e103⟩ : ∃ y, y = oI st 2 0 := ⟨_, rfl⟩
    rw [← e103] at hH
    replace hF := bnd_e hF e103
    refine lv_aload_n X.x X.b (dk DX12_code_0 11 rfl) rfl (lv_at hl 0 rfl) ?_
    refine og_getI OX12 X hq hH 2 (by decide) rfl kF_X12_106 (dk DX12_code_0 12 rfl) ?_
    refine lv_if_le (tgt := 28) X.x X.b (dk DX12_code_0 13 rfl) (by decide) (fun c104 => ?_) (fun c104 => ?_)
    · replace hF := if_t hF c104
      refine lv_aload_n X.x X.b (dk DX12_code_0 16 rfl) rfl (lv_at hl 0 rfl) ?_
      obtain ⟨x105, e106, hF⟩ := bd hF
      refine mr_ci0 hH ⟨rfl, rfl⟩ (mr_runV (As := []) (rest := []) X hH (c_X12_equate hq e106) ((oset_at hq (Nat.le_refl _) ohas_N).trans (congrArg some ocell_N)) OX12.1 kM_X12_362 kI_X12_equate kS_X12_equate kN_X12 kC_X12_equate hd_X12_equate ⟨Nat.le_of_ble_eq_true rfl, Nat.le_of_ble_eq_true rfl⟩ rfl hl.1 (Nat.le_of_ble_eq_true rfl) (dk DX12_code_0 17 rfl) ⟨Nat.zero_le _, Nat.zero_le _⟩) (fun r h1 H locs hp hH => ?_)
      obtain ⟨hr1, hr2⟩ := hp; rw [hr1]; rw [hr2] at hH; clear hr1 hr2
      obtain ⟨v107, t108⟩ := x105
      try dsimp only at hF hH ⊢
      refine lv_istore_n (lv' := [(2, .int v107), (0, .ref (q 53)), (1, .int a0)]) X.x X.b (dk DX12_code_0 18 rfl) rfl hl (by decide) rfl (fun ls hl => ?_)
      replace hl : lv_has ls 12 [(0, .ref (q 53)), (1, .int a0), (2, .int v107)] := lv_sub hl [1, 2, 0] rfl
      refine lv_aload_n X.x X.b (dk DX12_code_0 19 rfl) rfl (lv_at hl 0 rfl) ?_
      refine og_getI OX12 X hq hH 0 (by decide) rfl kF_X12_248 (dk DX12_code_0 20 rfl) ?_
      refine lv_iload_n X.x X.b (dk DX12_code_0 21 rfl) rfl (lv_at hl 2 rfl) ?_
      refine lv_isub X.x X.b (dk DX12_code_0 22 rfl) ?_
      refine lv_topi (fun v109 e110 => ?_)
      replace hF := bnd_e hF e110
      refine lv_istore_n (lv' := [(3, .int v109), (0, .ref (q 53)), (1, .int a0), (2, .int v107)]) X.x X.b (dk DX12_code_0 23 rfl) rfl hl (by decide) rfl (fun ls hl => ?_)
      replace hl : lv_has ls 12 [(0, .ref (q 53)), (1, .int a0), (2, .int v107), (3, .int v109)] := lv_sub hl [1, 2, 3, 0] rfl
      refine lv_iload_n X.x X.b (dk DX12_code_0 24 rfl) rfl (lv_at hl 1 rfl) ?_
      refine lv_if_ne (tgt := 46) X.x X.b (dk DX12_code_0 25 rfl) (by decide) (fun c111 => ?_) (fun c111 => ?_)
      · replace hF := if_f hF c111
        refine lv_iload_n X.x X.b (dk DX12_code_0 28 rfl) rfl (lv_at hl 3 rfl) ?_
        refine lv_bipush (v := 16) X.x X.b (dk DX12_code_0 29 rfl) (by decide) ?_
        refine lv_icmp_le (tgt := 55) X.x X.b (dk DX12_code_0 30 rfl) (by decide) (fun c112 => ?_) (fun c112 => ?_)
        · replace hF := if_t hF c112
          refine lv_lconst (v := 0) X.x X.b (dk DX12_code_0 33 rfl) (by decide) ?_
          refine lv_lstore (lv' := [(4, .long 0), (0, .ref (q 53)), (1, .int a0), (2, .int v107), (3, .int v109)]) X.x X.b (dk DX12_code_0 34 rfl) hl (by decide) rfl (fun ls hl => ?_)
          replace hl : lv_has ls 12 [(0, .ref (q 53)), (2, .int v107), (4, .long 0)] := lv_sub hl [1, 3, 0] rfl
          refine lv_iconst (v := 0) X.x X.b (dk DX12_code_0 35 rfl) (by decide) ?_
          refine lv_istore (lv' := [(6, .int 0), (0, .ref (q 53)), (2, .int v107), (4, .long 0)]) X.x X.b (dk DX12_code_0 36 rfl) hl (by decide) rfl (fun ls hl => ?_)
          replace hl : lv_has ls 12 [(0, .ref (q 53)), (2, .int v107), (4, .long 0), (6, .int 0)] := lv_sub hl [1, 2, 3, 0] rfl
          obtain ⟨x113, e114, hF⟩ := bd hF
          replace hl : lv_has ls 12 [(0, .ref (q 53)), (2, .int v107), (4, .long 0), (6, .int 0)] := lv_sub hl [0, 1, 2, 3] rfl
          refine w_X12_code_61 hq X t108 v107 _ _ e114 _ _ _ hH hl (fun H locs ls hH hl => ?_)
          refine lv_iconst (v := 0) X.x X.b (dk DX12_code_0 50 rfl) (by decide) ?_
          refine lv_istore (lv' := [(6, .int 0), (0, .ref (q 53)), (2, .int v107), (4, .long x113)]) X.x X.b (dk DX12_code_0 51 rfl) hl (by decide) rfl (fun ls hl => ?_)
          replace hl : lv_has ls 12 [(0, .ref (q 53)), (2, .int v107), (4, .long x113), (6, .int 0)] := lv_sub hl [1, 2, 3, 0] rfl
          refine lv_iconst (v := 0) X.x X.b (dk DX12_code_0 52 rfl) (by decide) ?_
          refine lv_istore (lv' := [(7, .int 0), (0, .ref (q 53)), (2, .int v107), (4, .long x113), (6, .int 0)]) X.x X.b (dk DX12_code_0 53 rfl) hl (by decide) rfl (fun ls hl => ?_)
          replace hl : lv_has ls 12 [(0, .ref (q 53)), (2, .int v107), (4, .long x113), (6, .int 0), (7, .int 0)] := lv_sub hl [1, 2, 3, 4, 0] rfl
          obtain ⟨x116, e117, hF⟩ := bd hF
          replace hl : lv_has ls 12 [(0, .ref (q 53)), (2, .int v107), (4, .long x113), (6, .int 0), (7, .int 0)] := lv_sub hl [0, 1, 2, 3, 4] rfl
          obtain ⟨t118, v119⟩ := x116
          try dsimp only at hF
          refine w_X12_code_94 hq X v107 x113 _ _ e117 _ _ _ hH hl (fun H locs ls hH hl => ?_)
          try dsimp only at hH hl
          refine lv_iconst (v := (-1)) X.x X.b (dk DX12_code_1 40 rfl) (by decide) ?_
          refine lv_istore (lv' := [(7, .int ((-1))), (0, .ref (q 53)), (6, .int v119)]) X.x X.b (dk DX12_code_1 41 rfl) hl (by decide) rfl (fun ls hl => ?_)
          replace hl : lv_has ls 12 [(0, .ref (q 53)), (6, .int v119), (7, .int ((-1)))] := lv_sub hl [1, 2, 0] rfl
          refine lv_iconst (v := 1) X.x X.b (dk DX12_code_1 42 rfl) (by decide) ?_
          refine lv_istore (lv' := [(8, .int 1), (0, .ref (q 53)), (6, .int v119), (7, .int ((-1)))]) X.x X.b (dk DX12_code_1 43 rfl) hl (by decide) rfl (fun ls hl => ?_)
          replace hl : lv_has ls 12 [(0, .ref (q 53)), (6, .int v119), (7, .int ((-1))), (8, .int 1)] := lv_sub hl [1, 2, 3, 0] rfl
          obtain ⟨x120, e121, hF⟩ := bd hF
          replace hl : lv_has ls 12 [(0, .ref (q 53)), (6, .int v119), (7, .int ((-1))), (8, .int 1)] := lv_sub hl [0, 1, 2, 3] rfl
          refine w_X12_code_197 hq X t118 v119 _ _ e121 _ _ _ hH hl (fun H locs ls hH hl => ?_)
          refine lv_iload X.x X.b (dk DX12_code_2 27 rfl) (lv_at hl 0 rfl) ?_
          cases sm hF
          exact mr_iret X hr hlk hH ⟨rfl, rfl⟩ (dk DX12_code_2 28 rfl)
        · replace hF := if_f hF c112
          refine lv_bipush (v := (-2)) X.x X.b (dk DX12_code_0 31 rfl) (by decide) ?_
          cases sm hF
          exact mr_iret X hr hlk hH ⟨rfl, rfl⟩ (dk DX12_code_0 32 rfl)
      · replace hF := if_t hF c111
        refine lv_iload_n X.x X.b (dk DX12_code_0 26 rfl) rfl (lv_at hl 3 rfl) ?_
        cases sm hF
        exact mr_iret X hr hlk hH ⟨rfl, rfl⟩ (dk DX12_code_0 27 rfl)
    · replace hF := if_f hF c104
      refine lv_iconst (v := 0) X.x X.b (dk DX12_code_0 14 rfl) (by decide) ?_
      cases sm hF
      exact mr_iret X hr hlk hH ⟨rfl, rfl⟩ (dk DX12_code_0 15 rfl)
