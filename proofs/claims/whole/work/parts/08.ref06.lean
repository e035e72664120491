-- X12_rankOf
abbrev rm_X12_rankOf : Room := { frames := 1, cells := 0, slots := 0, locals := 22 }
theorem hd_X12_rankOf : mHd yX12_rankOf 1 := ⟨by decide +kernel, by decide +kernel, by decide +kernel⟩
theorem DX12_rankOf_0 : ∀ t ∈ ([(0, .iconst 0, 1), (1, .istore_n 2, 1), (2, .iload_n 2, 1), (3, .aload_n 0, 1), (4, .getfield 250, 3), (7, .if_icmp .ge 54, 3), (10, .iconst 0, 1), (11, .istore_n 3, 1), (12, .iload_n 3, 1), (13, .aload_n 0, 1), (14, .getfield 248, 3), (17, .if_icmp .ge 38, 3), (20, .aload_n 0, 1), (21, .getfield 48, 3), (24, .bipush 64, 2), (26, .iload_n 2, 1), (27, .imul, 1), (28, .iload_n 3, 1), (29, .iadd, 1), (30, .aload_n 0, 1), (31, .getfield 7, 3), (34, .iload_n 2, 1), (35, .laload, 1), (36, .iload_n 3, 1), (37, .invokestatic 232, 3), (40, .ifCond .eq 7, 3), (43, .iconst 1, 1), (44, .goto 4, 3), (47, .iconst 0, 1), (48, .iastore, 1), (49, .iinc 3 1, 3), (52, .goto (-40), 3), (55, .iinc 2 1, 3), (58, .goto (-56), 3), (61, .iconst 0, 1), (62, .istore_n 2, 1), (63, .iconst 0, 1), (64, .istore_n 3, 1), (65, .iload_n 3, 1), (66, .aload_n 0, 1), (67, .getfield 248, 3), (70, .if_icmp .ge 270, 3), (73, .iload_n 2, 1), (74, .aload_n 0, 1), (75, .getfield 250, 3), (78, .if_icmp .ge 262, 3), (81, .iload_n 2, 1), (82, .istore 4, 2), (84, .iload 4, 2), (86, .aload_n 0, 1), (87, .getfield 250, 3), (90, .if_icmp .ge 24, 3), (93, .aload_n 0, 1), (94, .getfield 48, 3), (97, .bipush 64, 2), (99, .iload 4, 2), (101, .imul, 1), (102, .iload_n 3, 1), (103, .iadd, 1), (104, .iaload, 1)] : List (Nat × Instr × Nat)), decode cX12_rankOf t.1 = .ok (t.2.1, t.2.2) := by decide +kernel
theorem DX12_rankOf_1 : ∀ t ∈ ([(105, .ifCond .ne 9, 3), (108, .iinc 4 1, 3), (111, .goto (-27), 3), (114, .iload 4, 2), (116, .aload_n 0, 1), (117, .getfield 250, 3), (120, .if_icmp .ne 6, 3), (123, .goto 211, 3), (126, .iconst 1, 1), (127, .istore 5, 2), (129, .iload 5, 2), (131, .aload_n 0, 1), (132, .getfield 48, 3), (135, .bipush 64, 2), (137, .iload 4, 2), (139, .imul, 1), (140, .iload_n 3, 1), (141, .iadd, 1), (142, .iaload, 1), (143, .imul, 1), (144, .iload_n 1, 1), (145, .irem, 1), (146, .iconst 1, 1), (147, .if_icmp .eq 9, 3), (150, .iinc 5 1, 3), (153, .goto (-24), 3), (156, .iconst 0, 1), (157, .istore 6, 2), (159, .iload 6, 2), (161, .aload_n 0, 1), (162, .getfield 248, 3), (165, .if_icmp .ge 68, 3), (168, .aload_n 0, 1), (169, .getfield 48, 3), (172, .bipush 64, 2), (174, .iload 4, 2), (176, .imul, 1), (177, .iload 6, 2), (179, .iadd, 1), (180, .iaload, 1), (181, .iload 5, 2), (183, .imul, 1), (184, .iload_n 1, 1), (185, .irem, 1), (186, .istore 7, 2), (188, .aload_n 0, 1), (189, .getfield 48, 3), (192, .bipush 64, 2), (194, .iload 4, 2), (196, .imul, 1), (197, .iload 6, 2), (199, .iadd, 1), (200, .aload_n 0, 1), (201, .getfield 48, 3), (204, .bipush 64, 2), (206, .iload_n 2, 1), (207, .imul, 1), (208, .iload 6, 2), (210, .iadd, 1), (211, .iaload, 1)] : List (Nat × Instr × Nat)), decode cX12_rankOf t.1 = .ok (t.2.1, t.2.2) := by decide +kernel
theorem DX12_rankOf_2 : ∀ t ∈ ([(212, .iastore, 1), (213, .aload_n 0, 1), (214, .getfield 48, 3), (217, .bipush 64, 2), (219, .iload_n 2, 1), (220, .imul, 1), (221, .iload 6, 2), (223, .iadd, 1), (224, .iload 7, 2), (226, .iastore, 1), (227, .iinc 6 1, 3), (230, .goto (-71), 3), (233, .iload_n 2, 1), (234, .iconst 1, 1), (235, .iadd, 1), (236, .istore 6, 2), (238, .iload 6, 2), (240, .aload_n 0, 1), (241, .getfield 250, 3), (244, .if_icmp .ge 87, 3), (247, .iload_n 1, 1), (248, .aload_n 0, 1), (249, .getfield 48, 3), (252, .bipush 64, 2), (254, .iload 6, 2), (256, .imul, 1), (257, .iload_n 3, 1), (258, .iadd, 1), (259, .iaload, 1), (260, .isub, 1), (261, .istore 7, 2), (263, .iconst 0, 1), (264, .istore 8, 2), (266, .iload 8, 2), (268, .aload_n 0, 1), (269, .getfield 248, 3), (272, .if_icmp .ge 53, 3), (275, .aload_n 0, 1), (276, .getfield 48, 3), (279, .bipush 64, 2), (281, .iload 6, 2), (283, .imul, 1), (284, .iload 8, 2), (286, .iadd, 1), (287, .aload_n 0, 1), (288, .getfield 48, 3), (291, .bipush 64, 2), (293, .iload 6, 2), (295, .imul, 1), (296, .iload 8, 2), (298, .iadd, 1), (299, .iaload, 1), (300, .iload 7, 2), (302, .aload_n 0, 1), (303, .getfield 48, 3), (306, .bipush 64, 2), (308, .iload_n 2, 1), (309, .imul, 1), (310, .iload 8, 2), (312, .iadd, 1)] : List (Nat × Instr × Nat)), decode cX12_rankOf t.1 = .ok (t.2.1, t.2.2) := by decide +kernel
theorem DX12_rankOf_3 : ∀ t ∈ ([(313, .iaload, 1), (314, .imul, 1), (315, .iadd, 1), (316, .iload_n 1, 1), (317, .irem, 1), (318, .iastore, 1), (319, .iinc 8 1, 3), (322, .goto (-56), 3), (325, .iinc 6 1, 3), (328, .goto (-90), 3), (331, .iinc 2 1, 3), (334, .iinc 3 1, 3), (337, .goto (-272), 3), (340, .iload_n 2, 1), (341, .ireturn, 1)] : List (Nat × Instr × Nat)), decode cX12_rankOf t.1 = .ok (t.2.1, t.2.2) := by decide +kernel
noncomputable def f_X12_rankOf_12 (b1 : Int32) (b2 : Int32) : (OS × Int32) → Option ((OS × Int32) ⊕ (OS)) := fun z => match z with | (s0, b3) => (if (s0.1 0) ≤ b3 then some (.inr s0) else if inb b2 64 = true then (f_X12_has (s0.2.2.2 3 (b2 : Int32).toNatClampNeg) b3).bind (fun x4 => (if x4 = 0 then if inb (((64 : Int32) * b2) + b3) 4096 = true then bnd (oA s0 30 (upd (s0.2.2.1 30) (((64 : Int32) * b2) + b3 : Int32).toNatClampNeg 0)) (fun t8 => bnd (b3 + 1 : Int32) (fun v10 => some (.inl ((t8, v10))))) else none else if inb (((64 : Int32) * b2) + b3) 4096 = true then bnd (oA s0 30 (upd (s0.2.2.1 30) (((64 : Int32) * b2) + b3 : Int32).toNatClampNeg 1)) (fun t13 => bnd (b3 + 1 : Int32) (fun v15 => some (.inl ((t13, v15))))) else none)) else none)
noncomputable def f_X12_rankOf_2 (b1 : Int32) : (OS × Int32) → Option ((OS × Int32) ⊕ (OS)) := fun z => match z with | (s0, b2) => (if (s0.1 1) ≤ b2 then some (.inr s0) else (lpv (f_X12_rankOf_12 b1 b2) ((s0, 0))).bind (fun x17 => bnd (b2 + 1 : Int32) (fun v20 => some (.inl ((x17, v20))))))
noncomputable def f_X12_rankOf_84 (s0 : OS) (b1 : Int32) (b2 : Int32) (b3 : Int32) : Int32 → Option ((Int32) ⊕ (Int32)) := fun b4 => (if (s0.1 1) ≤ b4 then some (.inr b4) else if inb (((64 : Int32) * b4) + b3) 4096 = true then (if (s0.2.2.1 30 (((64 : Int32) * b4) + b3 : Int32).toNatClampNeg) = 0 then bnd (b4 + 1 : Int32) (fun v30 => some (.inl v30)) else some (.inr b4)) else none)
noncomputable def f_X12_rankOf_129 (s0 : OS) (b1 : Int32) (b2 : Int32) (b3 : Int32) (b4 : Int32) : Int32 → Option ((Int32) ⊕ (Int32)) := fun b5 => if inb (((64 : Int32) * b4) + b3) 4096 = true then if b1 = 0 then none else (if (b5 * (s0.2.2.1 30 (((64 : Int32) * b4) + b3 : Int32).toNatClampNeg)) - (b5 * (s0.2.2.1 30 (((64 : Int32) * b4) + b3 : Int32).toNatClampNeg)) / b1 * b1 = 1 then some (.inr b5) else bnd (b5 + 1 : Int32) (fun v39 => some (.inl v39))) else none
noncomputable def f_X12_rankOf_159 (b1 : Int32) (b2 : Int32) (b3 : Int32) (b4 : Int32) (b5 : Int32) : (OS × Int32) → Option ((OS × Int32) ⊕ (OS)) := fun z => match z with | (s0, b6) => (if (s0.1 0) ≤ b6 then some (.inr s0) else if inb (((64 : Int32) * b4) + b6) 4096 = true then if b1 = 0 then none else bnd (((s0.2.2.1 30 (((64 : Int32) * b4) + b6 : Int32).toNatClampNeg) * b5) - ((s0.2.2.1 30 (((64 : Int32) * b4) + b6 : Int32).toNatClampNeg) * b5) / b1 * b1 : Int32) (fun v47 => if inb (((64 : Int32) * b2) + b6) 4096 = true then bnd (oA s0 30 (upd (s0.2.2.1 30) (((64 : Int32) * b4) + b6 : Int32).toNatClampNeg (s0.2.2.1 30 (((64 : Int32) * b2) + b6 : Int32).toNatClampNeg))) (fun t50 => bnd (oA t50 30 (upd (t50.2.2.1 30) (((64 : Int32) * b2) + b6 : Int32).toNatClampNeg v47)) (fun t52 => bnd (b6 + 1 : Int32) (fun v54 => some (.inl ((t52, v54)))))) else none) else none)
noncomputable def f_X12_rankOf_266 (b1 : Int32) (b2 : Int32) (b3 : Int32) (b6 : Int32) (b7 : Int32) : (OS × Int32) → Option ((OS × Int32) ⊕ (OS)) := fun z => match z with | (s0, b8) => (if (s0.1 0) ≤ b8 then some (.inr s0) else if inb (((64 : Int32) * b6) + b8) 4096 = true then if inb (((64 : Int32) * b2) + b8) 4096 = true then if b1 = 0 then none else bnd (oA s0 30 (upd (s0.2.2.1 30) (((64 : Int32) * b6) + b8 : Int32).toNatClampNeg (((s0.2.2.1 30 (((64 : Int32) * b6) + b8 : Int32).toNatClampNeg) + (b7 * (s0.2.2.1 30 (((64 : Int32) * b2) + b8 : Int32).toNatClampNeg))) - ((s0.2.2.1 30 (((64 : Int32) * b6) + b8 : Int32).toNatClampNeg) + (b7 * (s0.2.2.1 30 (((64 : Int32) * b2) + b8 : Int32).toNatClampNeg))) / b1 * b1))) (fun t69 => bnd (b8 + 1 : Int32) (fun v71 => some (.inl ((t69, v71))))) else none else none)
noncomputable def f_X12_rankOf_238 (b1 : Int32) (b2 : Int32) (b3 : Int32) : (OS × Int32) → Option ((OS × Int32) ⊕ (OS)) := fun z => match z with | (s0, b6) => (if (s0.1 1) ≤ b6 then some (.inr s0) else if inb (((64 : Int32) * b6) + b3) 4096 = true then bnd (b1 - (s0.2.2.1 30 (((64 : Int32) * b6) + b3 : Int32).toNatClampNeg) : Int32) (fun v63 => (lpv (f_X12_rankOf_266 b1 b2 b3 b6 v63) ((s0, 0))).bind (fun x73 => bnd (b6 + 1 : Int32) (fun v76 => some (.inl ((x73, v76)))))) else none)
noncomputable def f_X12_rankOf_65 (b1 : Int32) : (OS × Int32 × Int32) → Option ((OS × Int32 × Int32) ⊕ (OS × Int32)) := fun z => match z with | (s0, b2, b3) => (if (s0.1 0) ≤ b3 then some (.inr ((s0, b2))) else (if (s0.1 1) ≤ b2 then some (.inr ((s0, b2))) else (lpv (f_X12_rankOf_84 s0 b1 b2 b3) b2).bind (fun x32 => (if x32 = (s0.1 1) then bnd (b3 + 1 : Int32) (fun v85 => some (.inl ((s0, b2, v85)))) else (lpv (f_X12_rankOf_129 s0 b1 b2 b3 x32) 1).bind (fun x41 => (lpv (f_X12_rankOf_159 b1 b2 b3 x32 x41) ((s0, 0))).bind (fun x56 => bnd (b2 + 1 : Int32) (fun v59 => (lpv (f_X12_rankOf_238 b1 b2 b3) ((x56, v59))).bind (fun x78 => bnd (b2 + 1 : Int32) (fun v81 => bnd (b3 + 1 : Int32) (fun v83 => some (.inl ((x78, v81, v83)))))))))))))
noncomputable def f_X12_rankOf (st : OS) (a0 : Int32) : Option (Int32 × OS) := (lpv (f_X12_rankOf_2 a0) ((st, 0))).bind (fun x22 => (lpv (f_X12_rankOf_65 a0) ((x22, 0, 0))).bind (fun x87 => match x87 with | (t89, v90) => some ((v90, t89))))
set_option maxHeartbeats 4000000 in
set_option maxRecDepth 100000 in
theorem w_X12_rankOf_12 {p : Program} {l : Launch} {e : Env} {s : State} {m : MethodId} {args : Array Value} {below : List Frame} {meth : Method} {c : Code} {Q : State → Prop} {G : mG} {h : mM} {q : Nat → Nat} (hq : oinj LX12 q) (X : mX G p m c cX12_rankOf 9 s args RX12) (b1 : Int32) (b2 : Int32) : ∀ (z : OS × Int32) (r : OS), lpv (f_X12_rankOf_12 b1 b2) z = some r → ∀ (H : Heap) (locs : List Loc) (ls : Array Slot), mH G (oset LX12 G q z.1 h) s.heap H locs → lv_has ls 9 [(0, .ref (q 53)), (1, .int b1), (2, .int b2), (3, .int z.2)] → (∀ (H : Heap) (locs : List Loc) (ls : Array Slot), mH G (oset LX12 G q r h) s.heap H locs → lv_has ls 9 [(0, .ref (q 53)), (1, .int b1), (2, .int b2)] → W p l e rm_X12_rankOf s m args below meth c H locs 0 0 Q (F0 m 55 ls [])) → W p l e rm_X12_rankOf s m args below meth c H locs 0 0 Q (F0 m 12 ls []) := by
  refine lpv_rec ?_
  intro z r x hF hx H locs ls hH hl K0
  obtain ⟨s0, b3⟩ := z
  dsimp only [f_X12_rankOf_12] at hF
  try dsimp only at hH hl
  refine lv_iload_n X.x X.b (dk DX12_rankOf_0 8 rfl) rfl (lv_at hl 3 rfl) ?_
  refine lv_aload_n X.x X.b (dk DX12_rankOf_0 9 rfl) rfl (lv_at hl 0 rfl) ?_
  refine og_getI OX12 X hq hH 0 (by decide) rfl kF_X12_248 (dk DX12_rankOf_0 10 rfl) ?_
  refine lv_icmp_ge (tgt := 55) X.x X.b (dk DX12_rankOf_0 11 rfl) (by decide) (fun c2 => ?_) (fun c2 => ?_)
  · replace hF := if_t hF c2
    have hr9 := lp_r hF hx
    subst hr9
    exact K0 _ _ _ hH (lv_sub hl [0, 1, 2] rfl)
  · replace hF := if_f hF c2
    refine lv_aload_n X.x X.b (dk DX12_rankOf_0 12 rfl) rfl (lv_at hl 0 rfl) ?_
    refine og_getR (t := 0) OX12 X hq hH 30 (by decide) rfl kF_X12_48 (dk DX12_rankOf_0 13 rfl) ?_
    refine lv_bipush (v := 64) X.x X.b (dk DX12_rankOf_0 14 rfl) (by decide) ?_
    refine lv_iload_n X.x X.b (dk DX12_rankOf_0 15 rfl) rfl (lv_at hl 2 rfl) ?_
    refine lv_imul X.x X.b (dk DX12_rankOf_0 16 rfl) ?_
    refine lv_iload_n X.x X.b (dk DX12_rankOf_0 17 rfl) rfl (lv_at hl 3 rfl) ?_
    refine lv_iadd X.x X.b (dk DX12_rankOf_0 18 rfl) ?_
    refine lv_aload_n X.x X.b (dk DX12_rankOf_0 19 rfl) rfl (lv_at hl 0 rfl) ?_
    refine og_getR (t := 1) OX12 X hq hH 3 (by decide) rfl kF_X12_7 (dk DX12_rankOf_0 20 rfl) ?_
    refine lv_iload_n X.x X.b (dk DX12_rankOf_0 21 rfl) rfl (lv_at hl 2 rfl) ?_
    obtain ⟨c3, hF⟩ := gd hF
    refine og_lald X hq hH 3 (by decide) rfl (inb_in c3) (dk DX12_rankOf_0 22 rfl) ?_
    refine lv_iload_n X.x X.b (dk DX12_rankOf_0 23 rfl) rfl (lv_at hl 3 rfl) ?_
    obtain ⟨x4, e5, hF⟩ := bd hF
    refine mr_ci0 hH ⟨rfl, rfl⟩ (mr_runS (As := [.long (s0.2.2.2 3 (b2 : Int32).toNatClampNeg), .int b3]) (rest := [.int (((64 : Int32) * b2) + b3), .ref (q 30)]) X hH (c_X12_has e5) kM_X12_232 kT_X12_has kN_X12 kC_X12_has hd_X12_has ⟨Nat.le_of_ble_eq_true rfl, Nat.le_of_ble_eq_true rfl⟩ rfl hl.1 (Nat.le_of_ble_eq_true rfl) (dk DX12_rankOf_0 24 rfl) ⟨Nat.zero_le _, Nat.zero_le _⟩) (fun r h1 H locs hp hH => ?_)
    obtain ⟨hr1, hr2⟩ := hp; rw [hr1]; rw [hr2] at hH; clear hr1 hr2
    refine lv_if_eq (tgt := 47) X.x X.b (dk DX12_rankOf_0 25 rfl) (by decide) (fun c6 => ?_) (fun c6 => ?_)
    · replace hF := if_t hF c6
      refine lv_iconst (v := 0) X.x X.b (dk DX12_rankOf_0 28 rfl) (by decide) ?_
      obtain ⟨c7, hF⟩ := gd hF
      refine og_iast X hq hH 30 (by decide) rfl (inb_in c7) (dk DX12_rankOf_0 29 rfl) (fun H locs hH => ?_)
      obtain ⟨t8, e9⟩ : ∃ y, y = oA s0 30 (upd (s0.2.2.1 30) (((64 : Int32) * b2) + b3 : Int32).toNatClampNeg 0) := ⟨_, rfl⟩
      rw [← e9] at hH
      replace hF := bnd_e hF e9
      obtain ⟨v10, e11⟩ : ∃ y : Int32, y = b3 + 1 := ⟨_, rfl⟩
      replace hF := bnd_e hF e11
      refine lv_iinc (v := v10) (lv' := [(3, .int v10), (0, .ref (q 53)), (1, .int b1), (2, .int b2)]) X.x X.b (dk DX12_rankOf_0 30 rfl) hl (k := 3) rfl (by rw [e11]; rfl) (by decide) rfl (fun ls hl => ?_)
      replace hl : lv_has ls 9 [(0, .ref (q 53)), (1, .int b1), (2, .int b2), (3, .int v10)] := lv_sub hl [1, 2, 3, 0] rfl
      refine lv_goto (tgt := 12) X.x X.b (dk DX12_rankOf_0 31 rfl) (by decide) ?_
      exact (lp_l hF hx) _ _ _ hH (lv_sub hl [0, 1, 2, 3] rfl) K0
    · replace hF := if_f hF c6
      refine lv_iconst (v := 1) X.x X.b (dk DX12_rankOf_0 26 rfl) (by decide) ?_
      refine lv_goto (tgt := 48) X.x X.b (dk DX12_rankOf_0 27 rfl) (by decide) ?_
      obtain ⟨c12, hF⟩ := gd hF
      refine og_iast X hq hH 30 (by decide) rfl (inb_in c12) (dk DX12_rankOf_0 29 rfl) (fun H locs hH => ?_)
      obtain ⟨t13, e14⟩ : ∃ y, y = oA s0 30 (upd (s0.2.2.1 30) (((64 : Int32) * b2) + b3 : Int32).toNatClampNeg 1) := ⟨_, rfl⟩
      rw [← e14] at hH
      replace hF := bnd_e hF e14
      obtain ⟨v15, e16⟩ : ∃ y : Int32, y = b3 + 1 := ⟨_, rfl⟩
      replace hF := bnd_e hF e16
      refine lv_iinc (v := v15) (lv' := [(3, .int v15), (0, .ref (q 53)), (1, .int b1), (2, .int b2)]) X.x X.b (dk DX12_rankOf_0 30 rfl) hl (k := 3) rfl (by rw [e16]; rfl) (by decide) rfl (fun ls hl => ?_)
      replace hl : lv_has ls 9 [(0, .ref (q 53)), (1, .int b1), (2, .int b2), (3, .int v15)] := lv_sub hl [1, 2, 3, 0] rfl
      refine lv_goto (tgt := 12) X.x X.b (dk DX12_rankOf_0 31 rfl) (by decide) ?_
      exact (lp_l hF hx) _ _ _ hH (lv_sub hl [0, 1, 2, 3] rfl) K0
set_option maxHeartbeats 4000000 in
set_option maxRecDepth 100000 in
theorem w_X12_rankOf_2 {p : Program} {l : Launch} {e : Env} {s : State} {m : MethodId} {args : Array Value} {below : List Frame} {meth : Method} {c : Code} {Q : State → Prop} {G : mG} {h : mM} {q : Nat → Nat} (hq : oinj LX12 q) (X : mX G p m c cX12_rankOf 9 s args RX12) (b1 : Int32) : ∀ (z : OS × Int32) (r : OS), lpv (f_X12_rankOf_2 b1) z = some r → ∀ (H : Heap) (locs : List Loc) (ls : Array Slot), mH G (oset LX12 G q z.1 h) s.heap H locs → lv_has ls 9 [(0, .ref (q 53)), (1, .int b1), (2, .int z.2)] → (∀ (H : Heap) (locs : List Loc) (ls : Array Slot), mH G (oset LX12 G q r h) s.heap H locs → lv_has ls 9 [(0, .ref (q 53)), (1, .int b1)] → W p l e rm_X12_rankOf s m args below meth c H locs 0 0 Q (F0 m 61 ls [])) → W p l e rm_X12_rankOf s m args below meth c H locs 0 0 Q (F0 m 2 ls []) := by
  refine lpv_rec ?_
  intro z r x hF hx H locs ls hH hl K0
  obtain ⟨s0, b2⟩ := z
  dsimp only [f_X12_rankOf_2] at hF
  try dsimp only at hH hl
  refine lv_iload_n X.x X.b (dk DX12_rankOf_0 2 rfl) rfl (lv_at hl 2 rfl) ?_
  refine lv_aload_n X.x X.b (dk DX12_rankOf_0 3 rfl) rfl (lv_at hl 0 rfl) ?_
  refine og_getI OX12 X hq hH 1 (by decide) rfl kF_X12_250 (dk DX12_rankOf_0 4 rfl) ?_
  refine lv_icmp_ge (tgt := 61) X.x X.b (dk DX12_rankOf_0 5 rfl) (by decide) (fun c1 => ?_) (fun c1 => ?_)
  · replace hF := if_t hF c1
    have hr9 := lp_r hF hx
    subst hr9
    exact K0 _ _ _ hH (lv_sub hl [0, 1] rfl)
  · replace hF := if_f hF c1
    refine lv_iconst (v := 0) X.x X.b (dk DX12_rankOf_0 6 rfl) (by decide) ?_
    refine lv_istore_n (lv' := [(3, .int 0), (0, .ref (q 53)), (1, .int b1), (2, .int b2)]) X.x X.b (dk DX12_rankOf_0 7 rfl) rfl hl (by decide) rfl (fun ls hl => ?_)
    replace hl : lv_has ls 9 [(0, .ref (q 53)), (1, .int b1), (2, .int b2), (3, .int 0)] := lv_sub hl [1, 2, 3, 0] rfl
    obtain ⟨x17, e18, hF⟩ := bd hF
    replace hl : lv_has ls 9 [(0, .ref (q 53)), (1, .int b1), (2, .int b2), (3, .int 0)] := lv_sub hl [0, 1, 2, 3] rfl
    refine w_X12_rankOf_12 hq X b1 b2 _ _ e18 _ _ _ hH hl (fun H locs ls hH hl => ?_)
    obtain ⟨v20, e21⟩ : ∃ y : Int32, y = b2 + 1 := ⟨_, rfl⟩
    replace hF := bnd_e hF e21
    refine lv_iinc (v := v20) (lv' := [(2, .int v20), (0, .ref (q 53)), (1, .int b1)]) X.x X.b (dk DX12_rankOf_0 32 rfl) hl (k := 2) rfl (by rw [e21]; rfl) (by decide) rfl (fun ls hl => ?_)
    replace hl : lv_has ls 9 [(0, .ref (q 53)), (1, .int b1), (2, .int v20)] := lv_sub hl [1, 2, 0] rfl
    refine lv_goto (tgt := 2) X.x X.b (dk DX12_rankOf_0 33 rfl) (by decide) ?_
    exact (lp_l hF hx) _ _ _ hH (lv_sub hl [0, 1, 2] rfl) K0
set_option maxHeartbeats 4000000 in
set_option maxRecDepth 100000 in
theorem w_X12_rankOf_84 {p : Program} {l : Launch} {e : Env} {s : State} {m : MethodId} {args : Array Value} {below : List Frame} {meth : Method} {c : Code} {Q : State → Prop} {G : mG} {h : mM} {q : Nat → Nat} (hq : oinj LX12 q) (X : mX G p m c cX12_rankOf 9 s args RX12) (s0 : OS) (b1 : Int32) (b2 : Int32) (b3 : Int32) : ∀ (z : Int32) (r : Int32), lpv (f_X12_rankOf_84 s0 b1 b2 b3) z = some r → ∀ (H : Heap) (locs : List Loc) (ls : Array Slot), mH G (oset LX12 G q s0 h) s.heap H locs → lv_has ls 9 [(0, .ref (q 53)), (1, .int b1), (2, .int b2), (3, .int b3), (4, .int z)] → (∀ (H : Heap) (locs : List Loc) (ls : Array Slot), mH G (oset LX12 G q s0 h) s.heap H locs → lv_has ls 9 [(0, .ref (q 53)), (1, .int b1), (2, .int b2), (3, .int b3), (4, .int r)] → W p l e rm_X12_rankOf s m args below meth c H locs 0 0 Q (F0 m 114 ls [])) → W p l e rm_X12_rankOf s m args below meth c H locs 0 0 Q (F0 m 84 ls []) := by
  refine lpv_rec ?_
  intro z r x hF hx H locs ls hH hl K0
  obtain ⟨b4, hz⟩ : ∃ y, y = z := ⟨_, rfl⟩
  subst hz
  dsimp only [f_X12_rankOf_84] at hF
  refine lv_iload X.x X.b (dk DX12_rankOf_0 48 rfl) (lv_at hl 4 rfl) ?_
  refine lv_aload_n X.x X.b (dk DX12_rankOf_0 49 rfl) rfl (lv_at hl 0 rfl) ?_
  refine og_getI OX12 X hq hH 1 (by decide) rfl kF_X12_250 (dk DX12_rankOf_0 50 rfl) ?_
  refine lv_icmp_ge (tgt := 114) X.x X.b (dk DX12_rankOf_0 51 rfl) (by decide) (fun c27 => ?_) (fun c27 => ?_)
  · replace hF := if_t hF c27
    have hr9 := lp_r hF hx
    subst hr9
    exact K0 _ _ _ hH (lv_sub hl [0, 1, 2, 3, 4] rfl)
  · replace hF := if_f hF c27
    refine lv_aload_n X.x X.b (dk DX12_rankOf_0 52 rfl) rfl (lv_at hl 0 rfl) ?_
    refine og_getR (t := 0) OX12 X hq hH 30 (by decide) rfl kF_X12_48 (dk DX12_rankOf_0 53 rfl) ?_
    refine lv_bipush (v := 64) X.x X.b (dk DX12_rankOf_0 54 rfl) (by decide) ?_
    refine lv_iload X.x X.b (dk DX12_rankOf_0 55 rfl) (lv_at hl 4 rfl) ?_
    refine lv_imul X.x X.b (dk DX12_rankOf_0 56 rfl) ?_
    refine lv_iload_n X.x X.b (dk DX12_rankOf_0 57 rfl) rfl (lv_at hl 3 rfl) ?_
    refine lv_iadd X.x X.b (dk DX12_rankOf_0 58 rfl) ?_
    obtain ⟨c28, hF⟩ := gd hF
    refine og_iald X hq hH 30 (by decide) rfl (inb_in c28) (dk DX12_rankOf_0 59 rfl) ?_
    refine lv_if_ne (tgt := 114) X.x X.b (dk DX12_rankOf_1 0 rfl) (by decide) (fun c29 => ?_) (fun c29 => ?_)
    · replace hF := if_f hF c29
      have hr9 := lp_r hF hx
      subst hr9
      exact K0 _ _ _ hH (lv_sub hl [0, 1, 2, 3, 4] rfl)
    · replace hF := if_t hF c29
      obtain ⟨v30, e31⟩ : ∃ y : Int32, y = b4 + 1 := ⟨_, rfl⟩
      replace hF := bnd_e hF e31
      refine lv_iinc (v := v30) (lv' := [(4, .int v30), (0, .ref (q 53)), (1, .int b1), (2, .int b2), (3, .int b3)]) X.x X.b (dk DX12_rankOf_1 1 rfl) hl (k := 4) rfl (by rw [e31]; rfl) (by decide) rfl (fun ls hl => ?_)
      replace hl : lv_has ls 9 [(0, .ref (q 53)), (1, .int b1), (2, .int b2), (3, .int b3), (4, .int v30)] := lv_sub hl [1, 2, 3, 4, 0] rfl
      refine lv_goto (tgt := 84) X.x X.b (dk DX12_rankOf_1 2 rfl) (by decide) ?_
      exact (lp_l hF hx) _ _ _ hH (lv_sub hl [0, 1, 2, 3, 4] rfl) K0
set_option maxHeartbeats 4000000 in
set_option maxRecDepth 100000 in
theorem w_X12_rankOf_129 {p : Program} {l : Launch} {e : Env} {s : State} {m : MethodId} {args : Array Value} {below : List Frame} {meth : Method} {c : Code} {Q : State → Prop} {G : mG} {h : mM} {q : Nat → Nat} (hq : oinj LX12 q) (X : mX G p m c cX12_rankOf 9 s args RX12) (s0 : OS) (b1 : Int32) (b2 : Int32) (b3 : Int32) (b4 : Int32) : ∀ (z : Int32) (r : Int32), lpv (f_X12_rankOf_129 s0 b1 b2 b3 b4) z = some r → ∀ (H : Heap) (locs : List Loc) (ls : Array Slot), mH G (oset LX12 G q s0 h) s.heap H locs → lv_has ls 9 [(0, .ref (q 53)), (1, .int b1), (2, .int b2), (3, .int b3), (4, .int b4), (5, .int z)] → (∀ (H : Heap) (locs : List Loc) (ls : Array Slot), mH G (oset LX12 G q s0 h) s.heap H locs → lv_has ls 9 [(0, .ref (q 53)), (1, .int b1), (2, .int b2), (3, .int b3), (4, .int b4), (5, .int r)] → W p l e rm_X12_rankOf s m args below meth c H locs 0 0 Q (F0 m 156 ls [])) → W p l e rm_X12_rankOf s m args below meth c H locs 0 0 Q (F0 m 129 ls []) := by
  refine lpv_rec ?_
  intro z r x hF hx H locs ls hH hl K0
  obtain ⟨b5, hz⟩ : ∃ y, y = z := ⟨_, rfl⟩
  subst hz
  dsimp only [f_X12_rankOf_129] at hF
  refine lv_iload X.x X.b (dk DX12_rankOf_1 10 rfl) (lv_at hl 5 rfl) ?_
  refine lv_aload_n X.x X.b (dk DX12_rankOf_1 11 rfl) rfl (lv_at hl 0 rfl) ?_
  refine og_getR (t := 0) OX12 X hq hH 30 (by decide) rfl kF_X12_48 (dk DX12_rankOf_1 12 rfl) ?_
  refine lv_bipush (v := 64) X.x X.b (dk DX12_rankOf_1 13 rfl) (by decide) ?_
  refine lv_iload X.x X.b (dk DX12_rankOf_1 14 rfl) (lv_at hl 4 rfl) ?_
  refine lv_imul X.x X.b (dk DX12_rankOf_1 15 rfl) ?_
  refine lv_iload_n X.x X.b (dk DX12_rankOf_1 16 rfl) rfl (lv_at hl 3 rfl) ?_
  refine lv_iadd X.x X.b (dk DX12_rankOf_1 17 rfl) ?_
  obtain ⟨c36, hF⟩ := gd hF
  refine og_iald X hq hH 30 (by decide) rfl (inb_in c36) (dk DX12_rankOf_1 18 rfl) ?_
  refine lv_imul X.x X.b (dk DX12_rankOf_1 19 rfl) ?_
  refine lv_iload_n X.x X.b (dk DX12_rankOf_1 20 rfl) rfl (lv_at hl 1 rfl) ?_
  obtain ⟨c37, hF⟩ := gn hF
  refine lv_irem X.x X.b (dk DX12_rankOf_1 21 rfl) c37 ?_
  refine lv_iconst (v := 1) X.x X.b (dk DX12_rankOf_1 22 rfl) (by decide) ?_
  refine lv_icmp_eq (tgt := 156) X.x X.b (dk DX12_rankOf_1 23 rfl) (by decide) (fun c38 => ?_) (fun c38 => ?_)
  · replace hF := if_t hF c38
    have hr9 := lp_r hF hx
    subst hr9
    exact K0 _ _ _ hH (lv_sub hl [0, 1, 2, 3, 4, 5] rfl)
  · replace hF := if_f hF c38
    obtain ⟨v39, e40⟩ : ∃ y : Int32, y = b5 + 1 := ⟨_, rfl⟩
    replace hF := bnd_e hF e40
    refine lv_iinc (v := v39) (lv' := [(5, .int v39), (0, .ref (q 53)), (1, .int b1), (2, .int b2), (3, .int b3), (4, .int b4)]) X.x X.b (dk DX12_rankOf_1 24 rfl) hl (k := 5) rfl (by rw [e40]; rfl) (by decide) rfl (fun ls hl => ?_)
    replace hl : lv_has ls 9 [(0, .ref (q 53)), (1, .int b1), (2, .int b2), (3, .int b3), (4, .int b4), (5, .int v39)] := lv_sub hl [1, 2, 3, 4, 5, 0] rfl
    refine lv_goto (tgt := 129) X.x X.b (dk DX12_rankOf_1 25 rfl) (by decide) ?_
    exact (lp_l hF hx) _ _ _ hH (lv_sub hl [0, 1, 2, 3, 4, 5] rfl) K0
set_option maxHeartbeats 4000000 in
set_option maxRecDepth 100000 in
theorem w_X12_rankOf_159 {p : Program} {l : Launch} {e : Env} {s : State} {m : MethodId} {args : Array Value} {below : List Frame} {meth : Method} {c : Code} {Q : State → Prop} {G : mG} {h : mM} {q : Nat → Nat} (hq : oinj LX12 q) (X : mX G p m c cX12_rankOf 9 s args RX12) (b1 : Int32) (b2 : Int32) (b3 : Int32) (b4 : Int32) (b5 : Int32) : ∀ (z : OS × Int32) (r : OS), lpv (f_X12_rankOf_159 b1 b2 b3 b4 b5) z = some r → ∀ (H : Heap) (locs : List Loc) (ls : Array Slot), mH G (oset LX12 G q z.1 h) s.heap H locs → lv_has ls 9 [(0, .ref (q 53)), (1, .int b1), (2, .int b2), (3, .int b3), (4, .int b4), (5, .int b5), (6, .int z.2)] → (∀ (H : Heap) (locs : List Loc) (ls : Array Slot), mH G (oset LX12 G q r h) s.heap H locs → lv_has ls 9 [(0, .ref (q 53)), (1, .int b1), (2, .int b2), (3, .int b3)] → W p l e rm_X12_rankOf s m args below meth c H locs 0 0 Q (F0 m 233 ls [])) → W p l e rm_X12_rankOf s m args below meth c H locs 0 0 Q (F0 m 159 ls []) := by
  refine lpv_rec ?_
  intro z r x hF hx H locs ls hH hl K0
  obtain ⟨s0, b6⟩ := z
  dsimp only [f_X12_rankOf_159] at hF
  try dsimp only at hH hl
  refine lv_iload X.x X.b (dk DX12_rankOf_1 28 rfl) (lv_at hl 6 rfl) ?_
  refine lv_aload_n X.x X.b (dk DX12_rankOf_1 29 rfl) rfl (lv_at hl 0 rfl) ?_
  refine og_getI OX12 X hq hH 0 (by decide) rfl kF_X12_248 (dk DX12_rankOf_1 30 rfl) ?_
  refine lv_icmp_ge (tgt := 233) X.x X.b (dk DX12_rankOf_1 31 rfl) (by decide) (fun c44 => ?_) (fun c44 => ?_)
  · replace hF := if_t hF c44
    have hr9 := lp_r hF hx
    subst hr9
    exact K0 _ _ _ hH (lv_sub hl [0, 1, 2, 3] rfl)
  · replace hF := if_f hF c44
    refine lv_aload_n X.x X.b (dk DX12_rankOf_1 32 rfl) rfl (lv_at hl 0 rfl) ?_
    refine og_getR (t := 0) OX12 X hq hH 30 (by decide) rfl kF_X12_48 (dk DX12_rankOf_1 33 rfl) ?_
    refine lv_bipush (v := 64) X.x X.b (dk DX12_rankOf_1 34 rfl) (by decide) ?_
    refine lv_iload X.x X.b (dk DX12_rankOf_1 35 rfl) (lv_at hl 4 rfl) ?_
    refine lv_imul X.x X.b (dk DX12_rankOf_1 36 rfl) ?_
    refine lv_iload X.x X.b (dk DX12_rankOf_1 37 rfl) (lv_at hl 6 rfl) ?_
    refine lv_iadd X.x X.b (dk DX12_rankOf_1 38 rfl) ?_
    obtain ⟨c45, hF⟩ := gd hF
    refine og_iald X hq hH 30 (by decide) rfl (inb_in c45) (dk DX12_rankOf_1 39 rfl) ?_
    refine lv_iload X.x X.b (dk DX12_rankOf_1 40 rfl) (lv_at hl 5 rfl) ?_
    refine lv_imul X.x X.b (dk DX12_rankOf_1 41 rfl) ?_
    refine lv_iload_n X.x X.b (dk DX12_rankOf_1 42 rfl) rfl (lv_at hl 1 rfl) ?_
    obtain ⟨c46, hF⟩ := gn hF
    refine lv_irem X.x X.b (dk DX12_rankOf_1 43 rfl) c46 ?_
    refine lv_topi (fun v47 e48 => ?_)
    replace hF := bnd_e hF e48
    refine lv_istore (lv' := [(7, .int v47), (0, .ref (q 53)), (1, .int b1), (2, .int b2), (3, .int b3), (4, .int b4), (5, .int b5), (6, .int b6)]) X.x X.b (dk DX12_rankOf_1 44 rfl) hl (by decide) rfl (fun ls hl => ?_)
    replace hl : lv_has ls 9 [(0, .ref (q 53)), (1, .int b1), (2, .int b2), (3, .int b3), (4, .int b4), (5, .int b5), (6, .int b6), (7, .int v47)] := lv_sub hl [1, 2, 3, 4, 5, 6, 7, 0] rfl
    refine lv_aload_n X.x X.b (dk DX12_rankOf_1 45 rfl) rfl (lv_at hl 0 rfl) ?_
    refine og_getR (t := 0) OX12 X hq hH 30 (by decide) rfl kF_X12_48 (dk DX12_rankOf_1 46 rfl) ?_
    refine lv_bipush (v := 64) X.x X.b (dk DX12_rankOf_1 47 rfl) (by decide) ?_
    refine lv_iload X.x X.b (dk DX12_rankOf_1 48 rfl) (lv_at hl 4 rfl) ?_
    refine lv_imul X.x X.b (dk DX12_rankOf_1 49 rfl) ?_
    refine lv_iload X.x X.b (dk DX12_rankOf_1 50 rfl) (lv_at hl 6 rfl) ?_
    refine lv_iadd X.x X.b (dk DX12_rankOf_1 51 rfl) ?_
    refine lv_aload_n X.x X.b (dk DX12_rankOf_1 52 rfl) rfl (lv_at hl 0 rfl) ?_
    refine og_getR (t := 0) OX12 X hq hH 30 (by decide) rfl kF_X12_48 (dk DX12_rankOf_1 53 rfl) ?_
    refine lv_bipush (v := 64) X.x X.b (dk DX12_rankOf_1 54 rfl) (by decide) ?_
    refine lv_iload_n X.x X.b (dk DX12_rankOf_1 55 rfl) rfl (lv_at hl 2 rfl) ?_
    refine lv_imul X.x X.b (dk DX12_rankOf_1 56 rfl) ?_
    refine lv_iload X.x X.b (dk DX12_rankOf_1 57 rfl) (lv_at hl 6 rfl) ?_
    refine lv_iadd X.x X.b (dk DX12_rankOf_1 58 rfl) ?_
    obtain ⟨c49, hF⟩ := gd hF
    refine og_iald X hq hH 30 (by decide) rfl (inb_in c49) (dk DX12_rankOf_1 59 rfl) ?_
    refine og_iast X hq hH 30 (by decide) rfl (inb_in c45) (dk DX12_rankOf_2 0 rfl) (fun H locs hH => ?_)
    obtain ⟨t50, e51⟩ : ∃ y, y = oA s0 30 (upd (s0.2.2.1 30) (((64 : Int32) * b4) + b6 : Int32).toNatClampNeg (s0.2.2.1 30 (((64 : Int32) * b2) + b6 : Int32).toNatClampNeg)) := ⟨_, rfl⟩
    rw [← e51] at hH
    replace hF := bnd_e hF e51
    refine lv_aload_n X.x X.b (dk DX12_rankOf_2 1 rfl) rfl (lv_at hl 0 rfl) ?_
    refine og_getR (t := 0) OX12 X hq hH 30 (by decide) rfl kF_X12_48 (dk DX12_rankOf_2 2 rfl) ?_
    refine lv_bipush (v := 64) X.x X.b (dk DX12_rankOf_2 3 rfl) (by decide) ?_
    refine lv_iload_n X.x X.b (dk DX12_rankOf_2 4 rfl) rfl (lv_at hl 2 rfl) ?_
    refine lv_imul X.x X.b (dk DX12_rankOf_2 5 rfl) ?_
    refine lv_iload X.x X.b (dk DX12_rankOf_2 6 rfl) (lv_at hl 6 rfl) ?_
    refine lv_iadd X.x X.b (dk DX12_rankOf_2 7 rfl) ?_
    refine lv_iload X.x X.b (dk DX12_rankOf_2 8 rfl) (lv_at hl 7 rfl) ?_
    refine og_iast X hq hH 30 (by decide) rfl (inb_in c49) (dk DX12_rankOf_2 9 rfl) (fun H locs hH => ?_)
    obtain ⟨t52, e53⟩ : ∃ y, y = oA t50 30 (upd (t50.2.2.1 30) (((64 : Int32) * b2) + b6 : Int32).toNatClampNeg v47) := ⟨_, rfl⟩
    rw [← e53] at hH
    replace hF := bnd_e hF e53
    obtain ⟨v54, e55⟩ : ∃ y : Int32, y = b6 + 1 := ⟨_, rfl⟩
    replace hF := bnd_e hF e55
    refine lv_iinc (v := v54) (lv' := [(6, .int v54), (0, .ref (q 53)), (1, .int b1), (2, .int b2), (3, .int b3), (4, .int b4), (5, .int b5), (7, .int v47)]) X.x X.b (dk DX12_rankOf_2 10 rfl) hl (k := 6) rfl (by rw [e55]; rfl) (by decide) rfl (fun ls hl => ?_)
    replace hl : lv_has ls 9 [(0, .ref (q 53)), (1, .int b1), (2, .int b2), (3, .int b3), (4, .int b4), (5, .int b5), (6, .int v54)] := lv_sub hl [1, 2, 3, 4, 5, 6, 0] rfl
    refine lv_goto (tgt := 159) X.x X.b (dk DX12_rankOf_2 11 rfl) (by decide) ?_
    exact (lp_l hF hx) _ _ _ hH (lv_sub hl [0, 1, 2, 3, 4, 5, 6] rfl) K0
set_option maxHeartbeats 4000000 in
set_option maxRecDepth 100000 in
theorem w_X12_rankOf_266 {p : Program} {l : Launch} {e : Env} {s : State} {m : MethodId} {args : Array Value} {below : List Frame} {meth : Method} {c : Code} {Q : State → Prop} {G : mG} {h : mM} {q : Nat → Nat} (hq : oinj LX12 q) (X : mX G p m c cX12_rankOf 9 s args RX12) (b1 : Int32) (b2 : Int32) (b3 : Int32) (b6 : Int32) (b7 : Int32) : ∀ (z : OS × Int32) (r : OS), lpv (f_X12_rankOf_266 b1 b2 b3 b6 b7) z = some r → ∀ (H : Heap) (locs : List Loc) (ls : Array Slot), mH G (oset LX12 G q z.1 h) s.heap H locs → lv_has ls 9 [(0, .ref (q 53)), (1, .int b1), (2, .int b2), (3, .int b3), (6, .int b6), (7, .int b7), (8, .int z.2)] → (∀ (H : Heap) (locs : List Loc) (ls : Array Slot), mH G (oset LX12 G q r h) s.heap H locs → lv_has ls 9 [(0, .ref (q 53)), (1, .int b1), (2, .int b2), (3, .int b3), (6, .int b6)] → W p l e rm_X12_rankOf s m args below meth c H locs 0 0 Q (F0 m 325 ls [])) → W p l e rm_X12_rankOf s m args below meth c H locs 0 0 Q (F0 m 266 ls []) := by
  refine lpv_rec ?_
  intro z r x hF hx H locs ls hH hl K0
  obtain ⟨s0, b8⟩ := z
  dsimp only [f_X12_rankOf_266] at hF
  try dsimp only at hH hl
  refine lv_iload X.x X.b (dk DX12_rankOf_2 33 rfl) (lv_at hl 6 rfl) ?_
  refine lv_aload_n X.x X.b (dk DX12_rankOf_2 34 rfl) rfl (lv_at hl 0 rfl) ?_
  refine og_getI OX12 X hq hH 0 (by decide) rfl kF_X12_248 (dk DX12_rankOf_2 35 rfl) ?_
  refine lv_icmp_ge (tgt := 325) X.x X.b (dk DX12_rankOf_2 36 rfl) (by decide) (fun c65 => ?_) (fun c65 => ?_)
  · replace hF := if_t hF c65
    have hr9 := lp_r hF hx
    subst hr9
    exact K0 _ _ _ hH (lv_sub hl [0, 1, 2, 3, 4] rfl)
  · replace hF := if_f hF c65
    refine lv_aload_n X.x X.b (dk DX12_rankOf_2 37 rfl) rfl (lv_at hl 0 rfl) ?_
    refine og_getR (t := 0) OX12 X hq hH 30 (by decide) rfl kF_X12_48 (dk DX12_rankOf_2 38 rfl) ?_
    refine lv_bipush (v := 64) X.x X.b (dk DX12_rankOf_2 39 rfl) (by decide) ?_
    refine lv_iload X.x X.b (dk DX12_rankOf_2 40 rfl) (lv_at hl 4 rfl) ?_
    refine lv_imul X.x X.b (dk DX12_rankOf_2 41 rfl) ?_
    refine lv_iload X.x X.b (dk DX12_rankOf_2 42 rfl) (lv_at hl 6 rfl) ?_
    refine lv_iadd X.x X.b (dk DX12_rankOf_2 43 rfl) ?_
    refine lv_aload_n X.x X.b (dk DX12_rankOf_2 44 rfl) rfl (lv_at hl 0 rfl) ?_
    refine og_getR (t := 0) OX12 X hq hH 30 (by decide) rfl kF_X12_48 (dk DX12_rankOf_2 45 rfl) ?_
    refine lv_bipush (v := 64) X.x X.b (dk DX12_rankOf_2 46 rfl) (by decide) ?_
    refine lv_iload X.x X.b (dk DX12_rankOf_2 47 rfl) (lv_at hl 4 rfl) ?_
    refine lv_imul X.x X.b (dk DX12_rankOf_2 48 rfl) ?_
    refine lv_iload X.x X.b (dk DX12_rankOf_2 49 rfl) (lv_at hl 6 rfl) ?_
    refine lv_iadd X.x X.b (dk DX12_rankOf_2 50 rfl) ?_
    obtain ⟨c66, hF⟩ := gd hF
    refine og_iald X hq hH 30 (by decide) rfl (inb_in c66) (dk DX12_rankOf_2 51 rfl) ?_
    refine lv_iload X.x X.b (dk DX12_rankOf_2 52 rfl) (lv_at hl 5 rfl) ?_
    refine lv_aload_n X.x X.b (dk DX12_rankOf_2 53 rfl) rfl (lv_at hl 0 rfl) ?_
    refine og_getR (t := 0) OX12 X hq hH 30 (by decide) rfl kF_X12_48 (dk DX12_rankOf_2 54 rfl) ?_
    refine lv_bipush (v := 64) X.x X.b (dk DX12_rankOf_2 55 rfl) (by decide) ?_
    refine lv_iload_n X.x X.b (dk DX12_rankOf_2 56 rfl) rfl (lv_at hl 2 rfl) ?_
    refine lv_imul X.x X.b (dk DX12_rankOf_2 57 rfl) ?_
    refine lv_iload X.x X.b (dk DX12_rankOf_2 58 rfl) (lv_at hl 6 rfl) ?_
    refine lv_iadd X.x X.b (dk DX12_rankOf_2 59 rfl) ?_
    obtain ⟨c67, hF⟩ := gd hF
    refine og_iald X hq hH 30 (by decide) rfl (inb_in c67) (dk DX12_rankOf_3 0 rfl) ?_
    refine lv_imul X.x X.b (dk DX12_rankOf_3 1 rfl) ?_
    refine lv_iadd X.x X.b (dk DX12_rankOf_3 2 rfl) ?_
    refine lv_iload_n X.x X.b (dk DX12_rankOf_3 3 rfl) rfl (lv_at hl 1 rfl) ?_
    obtain ⟨c68, hF⟩ := gn hF
    refine lv_irem X.x X.b (dk DX12_rankOf_3 4 rfl) c68 ?_
    refine og_iast X hq hH 30 (by decide) rfl (inb_in c66) (dk DX12_rankOf_3 5 rfl) (fun H locs hH => ?_)
    obtain ⟨t69, e70⟩ : ∃ y, y = oA s0 30 (upd (s0.2.2.1 30) (((64 : Int32) * b6) + b8 : Int32).toNatClampNeg (((s0.2.2.1 30 (((64 : Int32) * b6) + b8 : Int32).toNatClampNeg) + (b7 * (s0.2.2.1 30 (((64 : Int32) * b2) + b8 : Int32).toNatClampNeg))) - ((s0.2.2.1 30 (((64 : Int32) * b6) + b8 : Int32).toNatClampNeg) + (b7 * (s0.2.2.1 30 (((64 : Int32) * b2) + b8 : Int32).toNatClampNeg))) / b1 * b1)) := ⟨_, rfl⟩
    rw [← e70] at hH
    replace hF := bnd_e hF e70
    obtain ⟨v71, e72⟩ : ∃ y : Int32, y = b8 + 1 := ⟨_, rfl⟩
    replace hF := bnd_e hF e72
    refine lv_iinc (v := v71) (lv' := [(8, .int v71), (0, .ref (q 53)), (1, .int b1), (2, .int b2), (3, .int b3), (6, .int b6), (7, .int b7)]) X.x X.b (dk DX12_rankOf_3 6 rfl) hl (k := 6) rfl (by rw [e72]; rfl) (by decide) rfl (fun ls hl => ?_)
    replace hl : lv_has ls 9 [(0, .ref (q 53)), (1, .int b1), (2, .int b2), (3, .int b3), (6, .int b6), (7, .int b7), (8, .int v71)] := lv_sub hl [1, 2, 3, 4, 5, 6, 0] rfl
    refine lv_goto (tgt := 266) X.x X.b (dk DX12_rankOf_3 7 rfl) (by decide) ?_
    exact (lp_l hF hx) _ _ _ hH (lv_sub hl [0, 1, 2, 3, 4, 5, 6] rfl) K0
set_option maxHeartbeats 4000000 in
set_option maxRecDepth 100000 in
theorem w_X12_rankOf_238 {p : Program} {l : Launch} {e : Env} {s : State} {m : MethodId} {args : Array Value} {below : List Frame} {meth : Method} {c : Code} {Q : State → Prop} {G : mG} {h : mM} {q : Nat → Nat} (hq : oinj LX12 q) (X : mX G p m c cX12_rankOf 9 s args RX12) (b1 : Int32) (b2 : Int32) (b3 : Int32) : ∀ (z : OS × Int32) (r : OS), lpv (f_X12_rankOf_238 b1 b2 b3) z = some r → ∀ (H : Heap) (locs : List Loc) (ls : Array Slot), mH G (oset LX12 G q z.1 h) s.heap H locs → lv_has ls 9 [(0, .ref (q 53)), (1, .int b1), (2, .int b2), (3, .int b3), (6, .int z.2)] → (∀ (H : Heap) (locs : List Loc) (ls : Array Slot), mH G (oset LX12 G q r h) s.heap H locs → lv_has ls 9 [(0, .ref (q 53)), (1, .int b1), (2, .int b2), (3, .int b3)] → W p l e rm_X12_rankOf s m args below meth c H locs 0 0 Q (F0 m 331 ls [])) → W p l e rm_X12_rankOf s m args below meth c H locs 0 0 Q (F0 m 238 ls []) := by
  refine lpv_rec ?_
  intro z r x hF hx H locs ls hH hl K0
  obtain ⟨s0, b6⟩ := z
  dsimp only [f_X12_rankOf_238] at hF
  try dsimp only at hH hl
  refine lv_iload X.x X.b (dk DX12_rankOf_2 16 rfl) (lv_at hl 4 rfl) ?_
  refine lv_aload_n X.x X.b (dk DX12_rankOf_2 17 rfl) rfl (lv_at hl 0 rfl) ?_
  refine og_getI OX12 X hq hH 1 (by decide) rfl kF_X12_250 (dk DX12_rankOf_2 18 rfl) ?_
  refine lv_icmp_ge (tgt := 331) X.x X.b (dk DX12_rankOf_2 19 rfl) (by decide) (fun c61 => ?_) (fun c61 => ?_)
  · replace hF := if_t hF c61
    have hr9 := lp_r hF hx
    subst hr9
    exact K0 _ _ _ hH (lv_sub hl [0, 1, 2, 3] rfl)
  · replace hF := if_f hF c61
    refine lv_iload_n X.x X.b (dk DX12_rankOf_2 20 rfl) rfl (lv_at hl 1 rfl) ?_
    refine lv_aload_n X.x X.b (dk DX12_rankOf_2 21 rfl) rfl (lv_at hl 0 rfl) ?_
    refine og_getR (t := 0) OX12 X hq hH 30 (by decide) rfl kF_X12_48 (dk DX12_rankOf_2 22 rfl) ?_
    refine lv_bipush (v := 64) X.x X.b (dk DX12_rankOf_2 23 rfl) (by decide) ?_
    refine lv_iload X.x X.b (dk DX12_rankOf_2 24 rfl) (lv_at hl 4 rfl) ?_
    refine lv_imul X.x X.b (dk DX12_rankOf_2 25 rfl) ?_
    refine lv_iload_n X.x X.b (dk DX12_rankOf_2 26 rfl) rfl (lv_at hl 3 rfl) ?_
    refine lv_iadd X.x X.b (dk DX12_rankOf_2 27 rfl) ?_
    obtain ⟨c62, hF⟩ := gd hF
    refine og_iald X hq hH 30 (by decide) rfl (inb_in c62) (dk DX12_rankOf_2 28 rfl) ?_
    refine lv_isub X.x X.b (dk DX12_rankOf_2 29 rfl) ?_
    refine lv_topi (fun v63 e64 => ?_)
    replace hF := bnd_e hF e64
    refine lv_istore (lv' := [(7, .int v63), (0, .ref (q 53)), (1, .int b1), (2, .int b2), (3, .int b3), (6, .int b6)]) X.x X.b (dk DX12_rankOf_2 30 rfl) hl (by decide) rfl (fun ls hl => ?_)
    replace hl : lv_has ls 9 [(0, .ref (q 53)), (1, .int b1), (2, .int b2), (3, .int b3), (6, .int b6), (7, .int v63)] := lv_sub hl [1, 2, 3, 4, 5, 0] rfl
    refine lv_iconst (v := 0) X.x X.b (dk DX12_rankOf_2 31 rfl) (by decide) ?_
    refine lv_istore (lv' := [(8, .int 0), (0, .ref (q 53)), (1, .int b1), (2, .int b2), (3, .int b3), (6, .int b6), (7, .int v63)]) X.x X.b (dk DX12_rankOf_2 32 rfl) hl (by decide) rfl (fun ls hl => ?_)
    replace hl : lv_has ls 9 [(0, .ref (q 53)), (1, .int b1), (2, .int b2), (3, .int b3), (6, .int b6), (7, .int v63), (8, .int 0)] := lv_sub hl [1, 2, 3, 4, 5, 6, 0] rfl
    obtain ⟨x73, e74, hF⟩ := bd hF
    replace hl : lv_has ls 9 [(0, .ref (q 53)), (1, .int b1), (2, .int b2), (3, .int b3), (6, .int b6), (7, .int v63), (8, .int 0)] := lv_sub hl [0, 1, 2, 3, 4, 5, 6] rfl
    refine w_X12_rankOf_266 hq X b1 b2 b3 b6 v63 _ _ e74 _ _ _ hH hl (fun H locs ls hH hl => ?_)
    obtain ⟨v76, e77⟩ : ∃ y : Int32, y = b6 + 1 := ⟨_, rfl⟩
    replace hF := bnd_e hF e77
    refine lv_iinc (v := v76) (lv' := [(6, .int v76), (0, .ref (q 53)), (1, .int b1), (2, .int b2), (3, .int b3)]) X.x X.b (dk DX12_rankOf_3 8 rfl) hl (k := 4) rfl (by rw [e77]; rfl) (by decide) rfl (fun ls hl => ?_)
    replace hl : lv_has ls 9 [(0, .ref (q 53)), (1, .int b1), (2, .int b2), (3, .int b3), (6, .int v76)] := lv_sub hl [1, 2, 3, 4, 0] rfl
    refine lv_goto (tgt := 238) X.x X.b (dk DX12_rankOf_3 9 rfl) (by decide) ?_
    exact (lp_l hF hx) _ _ _ hH (lv_sub hl [0, 1, 2, 3, 4] rfl) K0
set_option maxHeartbeats 4000000 in
set_option maxRecDepth 100000 in
theorem w_X12_rankOf_65 {p : Program} {l : Launch} {e : Env} {s : State} {m : MethodId} {args : Array Value} {below : List Frame} {meth : Method} {c : Code} {Q : State → Prop} {G : mG} {h : mM} {q : Nat → Nat} (hq : oinj LX12 q) (X : mX G p m c cX12_rankOf 9 s args RX12) (b1 : Int32) : ∀ (z : OS × Int32 × Int32) (r : OS × Int32), lpv (f_X12_rankOf_65 b1) z = some r → ∀ (H : Heap) (locs : List Loc) (ls : Array Slot), mH G (oset LX12 G q z.1 h) s.heap H locs → lv_has ls 9 [(0, .ref (q 53)), (1, .int b1), (2, .int z.2.1), (3, .int z.2.2)] → (∀ (H : Heap) (locs : List Loc) (ls : Array Slot), mH G (oset LX12 G q r.1 h) s.heap H locs → lv_has ls 9 [(2, .int r.2)] → W p l e rm_X12_rankOf s m args below meth c H locs 0 0 Q (F0 m 340 ls [])) → W p l e rm_X12_rankOf s m args below meth c H locs 0 0 Q (F0 m 65 ls []) := by
  refine lpv_rec ?_
  intro z r x hF hx H locs ls hH hl K0
  obtain ⟨s0, b2, b3⟩ := z
  dsimp only [f_X12_rankOf_65] at hF
  try dsimp only at hH hl
  refine lv_iload_n X.x X.b (dk DX12_rankOf_0 38 rfl) rfl (lv_at hl 3 rfl) ?_
  refine lv_aload_n X.x X.b (dk DX12_rankOf_0 39 rfl) rfl (lv_at hl 0 rfl) ?_
  refine og_getI OX12 X hq hH 0 (by decide) rfl kF_X12_248 (dk DX12_rankOf_0 40 rfl) ?_
  refine lv_icmp_ge (tgt := 340) X.x X.b (dk DX12_rankOf_0 41 rfl) (by decide) (fun c25 => ?_) (fun c25 => ?_)
  · replace hF := if_t hF c25
    have hr9 := lp_r hF hx
    subst hr9
    exact K0 _ _ _ hH (lv_sub hl [2] rfl)
  · replace hF := if_f hF c25
    refine lv_iload_n X.x X.b (dk DX12_rankOf_0 42 rfl) rfl (lv_at hl 2 rfl) ?_
    refine lv_aload_n X.x X.b (dk DX12_rankOf_0 43 rfl) rfl (lv_at hl 0 rfl) ?_
    refine og_getI OX12 X hq hH 1 (by decide) rfl kF_X12_250 (dk DX12_rankOf_0 44 rfl) ?_
    refine lv_icmp_ge (tgt := 340) X.x X.b (dk DX12_rankOf_0 45 rfl) (by decide) (fun c26 => ?_) (fun c26 => ?_)
    · replace hF := if_t hF c26
      have hr9 := lp_r hF hx
      subst hr9
      exact K0 _ _ _ hH (lv_sub hl [2] rfl)
    · replace hF := if_f hF c26
      refine lv_iload_n X.x X.b (dk DX12_rankOf_0 46 rfl) rfl (lv_at hl 2 rfl) ?_
      refine lv_istore (lv' := [(4, .int b2), (0, .ref (q 53)), (1, .int b1), (2, .int b2), (3, .int b3)]) X.x X.b (dk DX12_rankOf_0 47 rfl) hl (by decide) rfl (fun ls hl => ?_)
      replace hl : lv_has ls 9 [(0, .ref (q 53)), (1, .int b1), (2, .int b2), (3, .int b3), (4, .int b2)] := lv_sub hl [1, 2, 3, 4, 0] rfl
      obtain ⟨x32, e33, hF⟩ := bd hF
      replace hl : lv_has ls 9 [(0, .ref (q 53)), (1, .int b1), (2, .int b2), (3, .int b3), (4, .int b2)] := lv_sub hl [0, 1, 2, 3, 4] rfl
      refine w_X12_rankOf_84 hq X s0 b1 b2 b3 _ _ e33 _ _ _ hH hl (fun H locs ls hH hl => ?_)
      refine lv_iload X.x X.b (dk DX12_rankOf_1 3 rfl) (lv_at hl 4 rfl) ?_
      refine lv_aload_n X.x X.b (dk DX12_rankOf_1 4 rfl) rfl (lv_at hl 0 rfl) ?_
      refine og_getI OX12 X hq hH 1 (by decide) rfl kF_X12_250 (dk DX12_rankOf_1 5 rfl) ?_
      refine lv_icmp_ne (tgt := 126) X.x X.b (dk DX12_rankOf_1 6 rfl) (by decide) (fun c35 => ?_) (fun c35 => ?_)
      · replace hF := if_f hF c35
        refine lv_iconst (v := 1) X.x X.b (dk DX12_rankOf_1 8 rfl) (by decide) ?_
        refine lv_istore (lv' := [(5, .int 1), (0, .ref (q 53)), (1, .int b1), (2, .int b2), (3, .int b3), (4, .int x32)]) X.x X.b (dk DX12_rankOf_1 9 rfl) hl (by decide) rfl (fun ls hl => ?_)
        replace hl : lv_has ls 9 [(0, .ref (q 53)), (1, .int b1), (2, .int b2), (3, .int b3), (4, .int x32), (5, .int 1)] := lv_sub hl [1, 2, 3, 4, 5, 0] rfl
        obtain ⟨x41, e42, hF⟩ := bd hF
        replace hl : lv_has ls 9 [(0, .ref (q 53)), (1, .int b1), (2, .int b2), (3, .int b3), (4, .int x32), (5, .int 1)] := lv_sub hl [0, 1, 2, 3, 4, 5] rfl
        refine w_X12_rankOf_129 hq X s0 b1 b2 b3 x32 _ _ e42 _ _ _ hH hl (fun H locs ls hH hl => ?_)
        refine lv_iconst (v := 0) X.x X.b (dk DX12_rankOf_1 26 rfl) (by decide) ?_
        refine lv_istore (lv' := [(6, .int 0), (0, .ref (q 53)), (1, .int b1), (2, .int b2), (3, .int b3), (4, .int x32), (5, .int x41)]) X.x X.b (dk DX12_rankOf_1 27 rfl) hl (by decide) rfl (fun ls hl => ?_)
        replace hl : lv_has ls 9 [(0, .ref (q 53)), (1, .int b1), (2, .int b2), (3, .int b3), (4, .int x32), (5, .int x41), (6, .int 0)] := lv_sub hl [1, 2, 3, 4, 5, 6, 0] rfl
        obtain ⟨x56, e57, hF⟩ := bd hF
        replace hl : lv_has ls 9 [(0, .ref (q 53)), (1, .int b1), (2, .int b2), (3, .int b3), (4, .int x32), (5, .int x41), (6, .int 0)] := lv_sub hl [0, 1, 2, 3, 4, 5, 6] rfl
        refine w_X12_rankOf_159 hq X b1 b2 b3 x32 x41 _ _ e57 _ _ _ hH hl (fun H locs ls hH hl => ?_)
        refine lv_iload_n X.x X.b (dk DX12_rankOf_2 12 rfl) rfl (lv_at hl 2 rfl) ?_
        refine lv_iconst (v := 1) X.x X.b (dk DX12_rankOf_2 13 rfl) (by decide) ?_
        refine lv_iadd X.x X.b (dk DX12_rankOf_2 14 rfl) ?_
        refine lv_topi (fun v59 e60 => ?_)
        replace hF := bnd_e hF e60
        refine lv_istore (lv' := [(6, .int v59), (0, .ref (q 53)), (1, .int b1), (2, .int b2), (3, .int b3)]) X.x X.b (dk DX12_rankOf_2 15 rfl) hl (by decide) rfl (fun ls hl => ?_)
        replace hl : lv_has ls 9 [(0, .ref (q 53)), (1, .int b1), (2, .int b2), (3, .int b3), (6, .int v59)] := lv_sub hl [1, 2, 3, 4, 0] rfl
        obtain ⟨x78, e79, hF⟩ := bd hF
        replace hl : lv_has ls 9 [(0, .ref (q 53)), (1, .int b1), (2, .int b2), (3, .int b3), (6, .int v59)] := lv_sub hl [0, 1, 2, 3, 4] rfl
        refine w_X12_rankOf_238 hq X b1 b2 b3 _ _ e79 _ _ _ hH hl (fun H locs ls hH hl => ?_)
        obtain ⟨v81, e82⟩ : ∃ y : Int32, y = b2 + 1 := ⟨_, rfl⟩
        replace hF := bnd_e hF e82
        refine lv_iinc (v := v81) (lv' := [(2, .int v81), (0, .ref (q 53)), (1, .int b1), (3, .int b3)]) X.x X.b (dk DX12_rankOf_3 10 rfl) hl (k := 2) rfl (by rw [e82]; rfl) (by decide) rfl (fun ls hl => ?_)
        replace hl : lv_has ls 9 [(0, .ref (q 53)), (1, .int b1), (2, .int v81), (3, .int b3)] := lv_sub hl [1, 2, 0, 3] rfl
        obtain ⟨v83, e84⟩ : ∃ y : Int32, y = b3 + 1 := ⟨_, rfl⟩
        replace hF := bnd_e hF e84
        refine lv_iinc (v := v83) (lv' := [(3, .int v83), (0, .ref (q 53)), (1, .int b1), (2, .int v81)]) X.x X.b (dk DX12_rankOf_3 11 rfl) hl (k := 3) rfl (by rw [e84]; rfl) (by decide) rfl (fun ls hl => ?_)
        replace hl : lv_has ls 9 [(0, .ref (q 53)), (1, .int b1), (2, .int v81), (3, .int v83)] := lv_sub hl [1, 2, 3, 0] rfl
        refine lv_goto (tgt := 65) X.x X.b (dk DX12_rankOf_3 12 rfl) (by decide) ?_
        exact (lp_l hF hx) _ _ _ hH (lv_sub hl [0, 1, 2, 3] rfl) K0
      · replace hF := if_t hF c35
        refine lv_goto (tgt := 334) X.x X.b (dk DX12_rankOf_1 7 rfl) (by decide) ?_
        obtain ⟨v85, e86⟩ : ∃ y : Int32, y = b3 + 1 := ⟨_, rfl⟩
        replace hF := bnd_e hF e86
        refine lv_iinc (v := v85) (lv' := [(3, .int v85), (0, .ref (q 53)), (1, .int b1), (2, .int b2), (4, .int x32)]) X.x X.b (dk DX12_rankOf_3 11 rfl) hl (k := 3) rfl (by rw [e86]; rfl) (by decide) rfl (fun ls hl => ?_)
        replace hl : lv_has ls 9 [(0, .ref (q 53)), (1, .int b1), (2, .int b2), (3, .int v85)] := lv_sub hl [1, 2, 3, 0] rfl
        refine lv_goto (tgt := 65) X.x X.b (dk DX12_rankOf_3 12 rfl) (by decide) ?_
        exact (lp_l hF hx) _ _ _ hH (lv_sub hl [0, 1, 2, 3] rfl) K0
set_option maxHeartbeats 4000000 in
set_option maxRecDepth 100000 in
theorem c_X12_rankOf {l : Launch} {G : mG} {h : mM} {q : Nat → Nat} (hq : oinj LX12 q) {st : OS} {a0 : Int32} {x : Int32 × OS} (hF : f_X12_rankOf st a0 = some x) : cQ l G yX12_rankOf cX12_rankOf 9 (some FieldType.int) rm_X12_rankOf [.ref (q 53), .int a0] (oset LX12 G q st h) (mQi G (fun r h1 => r = x.1 ∧ h1 = oset LX12 G q x.2 h)) := by
  refine mp_of (by decide +kernel) (Nat.le_of_ble_eq_true rfl) ?_
  intro p e s m below meth c X hr hlk hH hname ls hl
  dsimp only [f_X12_rankOf] at hF
  replace hl : lv_has ls 9 [(0, .ref (q 53)), (1, .int a0)] := hl
  refine lv_iconst (v := 0) X.x X.b (dk DX12_rankOf_0 0 rfl) (by decide) ?_
  refine lv_istore_n (lv' := [(2, .int 0), (0, .ref (q 53)), (1, .int a0)]) X.x X.b (dk DX12_rankOf_0 1 rfl) rfl hl (by decide) rfl (fun ls hl => ?_)
  replace hl : lv_has ls 9 [(0, .ref (q 53)), (1, .int a0), (2, .int 0)] := lv_sub hl [1, 2, 0] rfl
  obtain ⟨x22, e23, hF⟩ := bd hF
  replace hl : lv_has ls 9 [(0, .ref (q 53)), (1, .int a0), (2, .int 0)] := lv_sub hl [0, 1, 2] rfl
  refine w_X12_rankOf_2 hq X a0 _ _ e23 _ _ _ hH hl (fun H locs ls hH hl => ?_)
  refine lv_iconst (v := 0) X.x X.b (dk DX12_rankOf_0 34 rfl) (by decide) ?_
  refine lv_istore_n (lv' := [(2, .int 0), (0, .ref (q 53)), (1, .int a0)]) X.x X.b (dk DX12_rankOf_0 35 rfl) rfl hl (by decide) rfl (fun ls hl => ?_)
  replace hl : lv_has ls 9 [(0, .ref (q 53)), (1, .int a0), (2, .int 0)] := lv_sub hl [1, 2, 0] rfl
  refine lv_iconst (v := 0) X.x X.b (dk DX12_rankOf_0 36 rfl) (by decide) ?_
  refine lv_istore_n (lv' := [(3, .int 0), (0, .ref (q 53)), (1, .int a0), (2, .int 0)]) X.x X.b (dk DX12_rankOf_0 37 rfl) rfl hl (by decide) rfl (fun ls hl => ?_)
  replace hl : lv_has ls 9 [(0, .ref (q 53)), (1, .int a0), (2, .int 0), (3, .int 0)] := lv_sub hl [1, 2, 3, 0] rfl
  obtain ⟨x87, e88, hF⟩ := bd hF
  replace hl : lv_has ls 9 [(0, .ref (q 53)), (1, .int a0), (2, .int 0), (3, .int 0)] := lv_sub hl [0, 1, 2, 3] rfl
  obtain ⟨t89, v90⟩ := x87
  try dsimp only at hF
  refine w_X12_rankOf_65 hq X a0 _ _ e88 _ _ _ hH hl (fun H locs ls hH hl => ?_)
  try dsimp only at hH hl
  refine lv_iload_n X.x X.b (dk DX12_rankOf_3 13 rfl) rfl (lv_at hl 0 rfl) ?_
  cases sm hF
  exact mr_iret X hr hlk hH ⟨rfl, rfl⟩ (dk DX12_rankOf_3 14 rfl)
-- X12_rank
abbrev rm_X12_rank : Room := { frames := 2, cells := 0, slots := 0, locals := 50 }
theorem hd_X12_rank : mHd yX12_rank 1 := ⟨by decide +kernel, by decide +kernel, by decide +kernel⟩
theorem DX12_rank_0 : ∀ t ∈ ([(0, .aload_n 0, 1), (1, .iload_n 1, 1), (2, .iconst 2, 1), (3, .if_icmp .eq 19, 3), (6, .iload_n 1, 1), (7, .iconst 3, 1), (8, .if_icmp .eq 14, 3), (11, .iload_n 1, 1), (12, .iconst 5, 1), (13, .if_icmp .eq 9, 3), (16, .iload_n 1, 1), (17, .bipush 7, 2), (19, .if_icmp .ne 7, 3), (22, .iconst 0, 1), (23, .goto 4, 3), (26, .iconst 1, 1), (27, .putfield 106, 3), (30, .aload_n 0, 1), (31, .getfield 106, 3), (34, .ifCond .le 7, 3), (37, .iconst 0, 1), (38, .goto 8, 3), (41, .aload_n 0, 1), (42, .iload_n 1, 1), (43, .invokevirtual 359, 3), (46, .ireturn, 1)] : List (Nat × Instr × Nat)), decode cX12_rank t.1 = .ok (t.2.1, t.2.2) := by decide +kernel
noncomputable def f_X12_rank (st : OS) (a0 : Int32) : Option (Int32 × OS) := (if a0 = 2 then bnd (oI st 2 0) (fun t2 => (if (t2.1 2) ≤ 0 then (f_X12_rankOf t2 a0).bind (fun x5 => match x5 with | (v8, t7) => some ((v8, t7))) else some ((0, t2)))) else (if a0 = 3 then bnd (oI st 2 0) (fun t10 => (if (t10.1 2) ≤ 0 then (f_X12_rankOf t10 a0).bind (fun x13 => match x13 with | (v16, t15) => some ((v16, t15))) else some ((0, t10)))) else (if a0 = 5 then bnd (oI st 2 0) (fun t18 => (if (t18.1 2) ≤ 0 then (f_X12_rankOf t18 a0).bind (fun x21 => match x21 with | (v24, t23) => some ((v24, t23))) else some ((0, t18)))) else (if a0 = 7 then bnd (oI st 2 0) (fun t33 => (if (t33.1 2) ≤ 0 then (f_X12_rankOf t33 a0).bind (fun x36 => match x36 with | (v39, t38) => some ((v39, t38))) else some ((0, t33)))) else bnd (oI st 2 1) (fun t26 => (if (t26.1 2) ≤ 0 then (f_X12_rankOf t26 a0).bind (fun x29 => match x29 with | (v32, t31) => some ((v32, t31))) else some ((0, t26))))))))
set_option maxHeartbeats 4000000 in
set_option maxRecDepth 100000 in
theorem c_X12_rank {l : Launch} {G : mG} {h : mM} {q : Nat → Nat} (hq : oinj LX12 q) {st : OS} {a0 : Int32} {x : Int32 × OS} (hF : f_X12_rank st a0 = some x) : cQ l G yX12_rank cX12_rank 2 (some FieldType.int) rm_X12_rank [.ref (q 53), .int a0] (oset LX12 G q st h) (mQi G (fun r h1 => r = x.1 ∧ h1 = oset LX12 G q x.2 h)) := by
  refine mp_of (by decide +kernel) (Nat.le_of_ble_eq_true rfl) ?_
  intro p e s m below meth c X hr hlk hH hname ls hl
  dsimp only [f_X12_rank] at hF
  replace hl : lv_has ls 2 [(0, .ref (q 53)), (1, .int a0)] := hl
  refine lv_aload_n X.x X.b (dk DX12_rank_0 0 rfl) rfl (lv_at hl 0 rfl) ?_
  refine lv_iload_n X.x X.b (dk DX12_rank_0 1 rfl) rfl (lv_at hl 1 rfl) ?_
  refine lv_iconst (v := 2) X.x X.b (dk DX12_rank_0 2 rfl) (by decide) ?_
  refine lv_icmp_eq (tgt := 22) X.x X.b (dk DX12_rank_0 3 rfl) (by decide) (fun c1 => ?_) (fun c1 => ?_)
  · replace hF := if_t hF c1
    refine lv_iconst (v := 0) X.x X.b (dk DX12_rank_0 13 rfl) (by decide) ?_
    refine lv_goto (tgt := 27) X.x X.b (dk DX12_rank_0 14 rfl) (by decide) ?_
    refine og_putI OX12 X hq hH 2 (by decide) rfl kF_X12_106 rfl rfl rfl (dk DX12_rank_0 16 rfl) (fun H locs hH => ?_)
    obtain ⟨t2, e3⟩ : ∃ y, y = oI st 2 0 := ⟨_, rfl⟩
    rw [← e3] at hH
    replace hF := bnd_e hF e3
    refine lv_aload_n X.x X.b (dk DX12_rank_0 17 rfl) rfl (lv_at hl 0 rfl) ?_
    refine og_getI OX12 X hq hH 2 (by decide) rfl kF_X12_106 (dk DX12_rank_0 18 rfl) ?_
    refine lv_if_le (tgt := 41) X.x X.b (dk DX12_rank_0 19 rfl) (by decide) (fun c4 => ?_) (fun c4 => ?_)
    · replace hF := if_t hF c4
      refine lv_aload_n X.x X.b (dk DX12_rank_0 22 rfl) rfl (lv_at hl 0 rfl) ?_
      refine lv_iload_n X.x X.b (dk DX12_rank_0 23 rfl) rfl (lv_at hl 1 rfl) ?_
      obtain ⟨x5, e6, hF⟩ := bd hF
      refine mr_ci0 hH ⟨rfl, rfl⟩ (mr_runV (As := [.int a0]) (rest := []) X hH (c_X12_rankOf hq e6) ((oset_at hq (Nat.le_refl _) ohas_N).trans (congrArg some ocell_N)) OX12.1 kM_X12_359 kI_X12_rankOf kS_X12_rankOf kN_X12 kC_X12_rankOf hd_X12_rankOf ⟨Nat.le_of_ble_eq_true rfl, Nat.le_of_ble_eq_true rfl⟩ rfl hl.1 (Nat.le_of_ble_eq_true rfl) (dk DX12_rank_0 24 rfl) ⟨Nat.zero_le _, Nat.zero_le _⟩) (fun r h1 H locs hp hH => ?_)
      obtain ⟨hr1, hr2⟩ := hp; rw [hr1]; rw [hr2] at hH; clear hr1 hr2
      obtain ⟨v8, t7⟩ := x5
      try dsimp only at hF hH ⊢
      cases sm hF
      exact mr_iret X hr hlk hH ⟨rfl, rfl⟩ (dk DX12_rank_0 25 rfl)
    · replace hF := if_f hF c4
      refine lv_iconst (v := 0) X.x X.b (dk DX12_rank_0 20 rfl) (by decide) ?_
      refine lv_goto (tgt := 46) X.x X.b (dk DX12_rank_0 21 rfl) (by decide) ?_
      cases sm hF
      exact mr_iret X hr hlk hH ⟨rfl, rfl⟩ (dk DX12_rank_0 25 rfl)
  · replace hF := if_f hF c1
    refine lv_iload_n X.x X.b (dk DX12_rank_0 4 rfl) rfl (lv_at hl 1 rfl) ?_
    refine lv_iconst (v := 3) X.x X.b (dk DX12_rank_0 5 rfl) (by decide) ?_
    refine lv_icmp_eq (tgt := 22) X.x X.b (dk DX12_rank_0 6 rfl) (by decide) (fun c9 => ?_) (fun c9 => ?_)
    · replace hF := if_t hF c9
      refine lv_iconst (v := 0) X.x X.b (dk DX12_rank_0 13 rfl) (by decide) ?_
      refine lv_goto (tgt := 27) X.x X.b (dk DX12_rank_0 14 rfl) (by decide) ?_
      refine og_putI OX12 X hq hH 2 (by decide) rfl kF_X12_106 rfl rfl rfl (dk DX12_rank_0 16 rfl) (fun H locs hH => ?_)
      obtain ⟨t10, e11⟩ : ∃ y, y = oI st 2 0 := ⟨_, rfl⟩
      rw [← e11] at hH
      replace hF := bnd_e hF e11
      refine lv_aload_n X.x X.b (dk DX12_rank_0 17 rfl) rfl (lv_at hl 0 rfl) ?_
      refine og_getI OX12 X hq hH 2 (by decide) rfl kF_X12_106 (dk DX12_rank_0 18 rfl) ?_
      refine lv_if_le (tgt := 41) X.x X.b (dk DX12_rank_0 19 rfl) (by decide) (fun c12 => ?_) (fun c12 => ?_)
      · replace hF := if_t hF c12
        refine lv_aload_n X.x X.b (dk DX12_rank_0 22 rfl) rfl (lv_at hl 0 rfl) ?_
        refine lv_iload_n X.x X.b (dk DX12_rank_0 23 rfl) rfl (lv_at hl 1 rfl) ?_
        obtain ⟨x13, e14, hF⟩ := bd hF
        refine mr_ci0 hH ⟨rfl, rfl⟩ (mr_runV (As := [.int a0]) (rest := []) X hH (c_X12_rankOf hq e14) ((oset_at hq (Nat.le_refl _) ohas_N).trans (congrArg some ocell_N)) OX12.1 kM_X12_359 kI_X12_rankOf kS_X12_rankOf kN_X12 kC_X12_rankOf hd_X12_rankOf ⟨Nat.le_of_ble_eq_true rfl, Nat.le_of_ble_eq_true rfl⟩ rfl hl.1 (Nat.le_of_ble_eq_true rfl) (dk DX12_rank_0 24 rfl) ⟨Nat.zero_le _, Nat.zero_le _⟩) (fun r h1 H locs hp hH => ?_)
        obtain ⟨hr1, hr2⟩ := hp; rw [hr1]; rw [hr2] at hH; clear hr1 hr2
        obtain ⟨v16, t15⟩ := x13
        try dsimp only at hF hH ⊢
        cases sm hF
        exact mr_iret X hr hlk hH ⟨rfl, rfl⟩ (dk DX12_rank_0 25 rfl)
      · replace hF := if_f hF c12
        refine lv_iconst (v := 0) X.x X.b (dk DX12_rank_0 20 rfl) (by decide) ?_
        refine lv_goto (tgt := 46) X.x X.b (dk DX12_rank_0 21 rfl) (by decide) ?_
        cases sm hF
        exact mr_iret X hr hlk hH ⟨rfl, rfl⟩ (dk DX12_rank_0 25 rfl)
    · replace hF := if_f hF c9
      refine lv_iload_n X.x X.b (dk DX12_rank_0 7 rfl) rfl (lv_at hl 1 rfl) ?_
      refine lv_iconst (v := 5) X.x X.b (dk DX12_rank_0 8 rfl) (by decide) ?_
      refine lv_icmp_eq (tgt := 22) X.x X.b (dk DX12_rank_0 9 rfl) (by decide) (fun c17 => ?_) (fun c17 => ?_)
      · replace hF := if_t hF c17
        refine lv_iconst (v := 0) X.x X.b (dk DX12_rank_0 13 rfl) (by decide) ?_
        refine lv_goto (tgt := 27) X.x X.b (dk DX12_rank_0 14 rfl) (by decide) ?_
        refine og_putI OX12 X hq hH 2 (by decide) rfl kF_X12_106 rfl rfl rfl (dk DX12_rank_0 16 rfl) (fun H locs hH => ?_)
        obtain ⟨t18, e19⟩ : ∃ y, y = oI st 2 0 := ⟨_, rfl⟩
        rw [← e19] at hH
        replace hF := bnd_e hF e19
        refine lv_aload_n X.x X.b (dk DX12_rank_0 17 rfl) rfl (lv_at hl 0 rfl) ?_
        refine og_getI OX12 X hq hH 2 (by decide) rfl kF_X12_106 (dk DX12_rank_0 18 rfl) ?_
        refine lv_if_le (tgt := 41) X.x X.b (dk DX12_rank_0 19 rfl) (by decide) (fun c20 => ?_) (fun c20 => ?_)
        · replace hF := if_t hF c20
          refine lv_aload_n X.x X.b (dk DX12_rank_0 22 rfl) rfl (lv_at hl 0 rfl) ?_
          refine lv_iload_n X.x X.b (dk DX12_rank_0 23 rfl) rfl (lv_at hl 1 rfl) ?_
          obtain ⟨x21, e22, hF⟩ := bd hF
          refine mr_ci0 hH ⟨rfl, rfl⟩ (mr_runV (As := [.int a0]) (rest := []) X hH (c_X12_rankOf hq e22) ((oset_at hq (Nat.le_refl _) ohas_N).trans (congrArg some ocell_N)) OX12.1 kM_X12_359 kI_X12_rankOf kS_X12_rankOf kN_X12 kC_X12_rankOf hd_X12_rankOf ⟨Nat.le_of_ble_eq_true rfl, Nat.le_of_ble_eq_true rfl⟩ rfl hl.1 (Nat.le_of_ble_eq_true rfl) (dk DX12_rank_0 24 rfl) ⟨Nat.zero_le _, Nat.zero_le _⟩) (fun r h1 H locs hp hH => ?_)
          obtain ⟨hr1, hr2⟩ := hp; rw [hr1]; rw [hr2] at hH; clear hr1 hr2
          obtain ⟨v24, t23⟩ := x21
          try dsimp only at hF hH ⊢
          cases sm hF
          exact mr_iret X hr hlk hH ⟨rfl, rfl⟩ (dk DX12_rank_0 25 rfl)
        · replace hF := if_f hF c20
          refine lv_iconst (v := 0) X.x X.b (dk DX12_rank_0 20 rfl) (by decide) ?_
          refine lv_goto (tgt := 46) X.x X.b (dk DX12_rank_0 21 rfl) (by decide) ?_
          cases sm hF
          exact mr_iret X hr hlk hH ⟨rfl, rfl⟩ (dk DX12_rank_0 25 rfl)
      · replace hF := if_f hF c17
        refine lv_iload_n X.x X.b (dk DX12_rank_0 10 rfl) rfl (lv_at hl 1 rfl) ?_
        refine lv_bipush (v := 7) X.x X.b (dk DX12_rank_0 11 rfl) (by decide) ?_
        refine lv_icmp_ne (tgt := 26) X.x X.b (dk DX12_rank_0 12 rfl) (by decide) (fun c25 => ?_) (fun c25 => ?_)
        · replace hF := if_f hF c25
          refine lv_iconst (v := 1) X.x X.b (dk DX12_rank_0 15 rfl) (by decide) ?_
          refine og_putI OX12 X hq hH 2 (by decide) rfl kF_X12_106 rfl rfl rfl (dk DX12_rank_0 16 rfl) (fun H locs hH => ?_)
          obtain ⟨t26, e27⟩ : ∃ y, y = oI st 2 1 := ⟨_, rfl⟩
          rw [← e27] at hH
          replace hF := bnd_e hF e27
          refine lv_aload_n X.x X.b (dk DX12_rank_0 17 rfl) rfl (lv_at hl 0 rfl) ?_
          refine og_getI OX12 X hq hH 2 (by decide) rfl kF_X12_106 (dk DX12_rank_0 18 rfl) ?_
          refine lv_if_le (tgt := 41) X.x X.b (dk DX12_rank_0 19 rfl) (by decide) (fun c28 => ?_) (fun c28 => ?_)
          · replace hF := if_t hF c28
            refine lv_aload_n X.x X.b (dk DX12_rank_0 22 rfl) rfl (lv_at hl 0 rfl) ?_
            refine lv_iload_n X.x X.b (dk DX12_rank_0 23 rfl) rfl (lv_at hl 1 rfl) ?_
            obtain ⟨x29, e30, hF⟩ := bd hF
            refine mr_ci0 hH ⟨rfl, rfl⟩ (mr_runV (As := [.int a0]) (rest := []) X hH (c_X12_rankOf hq e30) ((oset_at hq (Nat.le_refl _) ohas_N).trans (congrArg some ocell_N)) OX12.1 kM_X12_359 kI_X12_rankOf kS_X12_rankOf kN_X12 kC_X12_rankOf hd_X12_rankOf ⟨Nat.le_of_ble_eq_true rfl, Nat.le_of_ble_eq_true rfl⟩ rfl hl.1 (Nat.le_of_ble_eq_true rfl) (dk DX12_rank_0 24 rfl) ⟨Nat.zero_le _, Nat.zero_le _⟩) (fun r h1 H locs hp hH => ?_)
            obtain ⟨hr1, hr2⟩ := hp; rw [hr1]; rw [hr2] at hH; clear hr1 hr2
            obtain ⟨v32, t31⟩ := x29
            try dsimp only at hF hH ⊢
            cases sm hF
            exact mr_iret X hr hlk hH ⟨rfl, rfl⟩ (dk DX12_rank_0 25 rfl)
          · replace hF := if_f hF c28
            refine lv_iconst (v := 0) X.x X.b (dk DX12_rank_0 20 rfl) (by decide) ?_
            refine lv_goto (tgt := 46) X.x X.b (dk DX12_rank_0 21 rfl) (by decide) ?_
            cases sm hF
            exact mr_iret X hr hlk hH ⟨rfl, rfl⟩ (dk DX12_rank_0 25 rfl)
        · replace hF := if_t hF c25
          refine lv_iconst (v := 0) X.x X.b (dk DX12_rank_0 13 rfl) (by decide) ?_
          refine lv_goto (tgt := 27) X.x X.b (dk DX12_rank_0 14 rfl) (by decide) ?_
          refine og_putI OX12 X hq hH 2 (by decide) rfl kF_X12_106 rfl rfl rfl (dk DX12_rank_0 16 rfl) (fun H locs hH => ?_)
          obtain ⟨t33, e34⟩ : ∃ y, y = oI st 2 0 := ⟨_, rfl⟩
          rw [← e34] at hH
          replace hF := bnd_e hF e34
          refine lv_aload_n X.x X.b (dk DX12_rank_0 17 rfl) rfl (lv_at hl 0 rfl) ?_
          refine og_getI OX12 X hq hH 2 (by decide) rfl kF_X12_106 (dk DX12_rank_0 18 rfl) ?_
          refine lv_if_le (tgt := 41) X.x X.b (dk DX12_rank_0 19 rfl) (by decide) (fun c35 => ?_) (fun c35 => ?_)
          · replace hF := if_t hF c35
            refine lv_aload_n X.x X.b (dk DX12_rank_0 22 rfl) rfl (lv_at hl 0 rfl) ?_
            refine lv_iload_n X.x X.b (dk DX12_rank_0 23 rfl) rfl (lv_at hl 1 rfl) ?_
            obtain ⟨x36, e37, hF⟩ := bd hF
            refine mr_ci0 hH ⟨rfl, rfl⟩ (mr_runV (As := [.int a0]) (rest := []) X hH (c_X12_rankOf hq e37) ((oset_at hq (Nat.le_refl _) ohas_N).trans (congrArg some ocell_N)) OX12.1 kM_X12_359 kI_X12_rankOf kS_X12_rankOf kN_X12 kC_X12_rankOf hd_X12_rankOf ⟨Nat.le_of_ble_eq_true rfl, Nat.le_of_ble_eq_true rfl⟩ rfl hl.1 (Nat.le_of_ble_eq_true rfl) (dk DX12_rank_0 24 rfl) ⟨Nat.zero_le _, Nat.zero_le _⟩) (fun r h1 H locs hp hH => ?_)
            obtain ⟨hr1, hr2⟩ := hp; rw [hr1]; rw [hr2] at hH; clear hr1 hr2
            obtain ⟨v39, t38⟩ := x36
            try dsimp only at hF hH ⊢
            cases sm hF
            exact mr_iret X hr hlk hH ⟨rfl, rfl⟩ (dk DX12_rank_0 25 rfl)
          · replace hF := if_f hF c35
            refine lv_iconst (v := 0) X.x X.b (dk DX12_rank_0 20 rfl) (by decide) ?_
            refine lv_goto (tgt := 46) X.x X.b (dk DX12_rank_0 21 rfl) (by decide) ?_
            cases sm hF
            exact mr_iret X hr hlk hH ⟨rfl, rfl⟩ (dk DX12_rank_0 25 rfl)
-- X12_equate
abbrev rm_X12_equate : Room := { frames := 1, cells := 0, slots := 0, locals := 22 }
theorem hd_X12_equate : mHd yX12_equate 0 := ⟨by decide +kernel, by decide +kernel, by decide +kernel⟩
theorem DX12_equate_0 : ∀ t ∈ ([(0, .iconst 0, 1), (1, .istore_n 1, 1), (2, .iconst 0, 1), (3, .istore_n 2, 1), (4, .iload_n 2, 1), (5, .aload_n 0, 1), (6, .getfield 250, 3), (9, .if_icmp .ge 141, 3), (12, .aload_n 0, 1), (13, .getfield 7, 3), (16, .iload_n 2, 1), (17, .laload, 1), (18, .lstore_n 3, 1), (19, .iconst 0, 1), (20, .istore 5, 2), (22, .iload 5, 2), (24, .iload_n 1, 1), (25, .if_icmp .ge 33, 3), (28, .lload_n 3, 1), (29, .aload_n 0, 1), (30, .getfield 57, 3), (33, .iload 5, 2), (35, .iaload, 1), (36, .invokestatic 232, 3), (39, .ifCond .eq 13, 3), (42, .lload_n 3, 1), (43, .aload_n 0, 1), (44, .getfield 51, 3), (47, .iload 5, 2), (49, .laload, 1), (50, .lxor, 1), (51, .lstore_n 3, 1), (52, .iinc 5 1, 3), (55, .goto (-33), 3), (58, .lload_n 3, 1), (59, .lconst 0, 1), (60, .lcmp, 1), (61, .ifCond .ne 6, 3), (64, .goto 80, 3), (67, .iconst 0, 1), (68, .istore 5, 2), (70, .lload_n 3, 1), (71, .iload 5, 2), (73, .invokestatic 232, 3), (76, .ifCond .ne 9, 3), (79, .iinc 5 1, 3), (82, .goto (-12), 3), (85, .iconst 0, 1), (86, .istore 6, 2), (88, .iload 6, 2), (90, .iload_n 1, 1), (91, .if_icmp .ge 35, 3), (94, .aload_n 0, 1), (95, .getfield 51, 3), (98, .iload 6, 2), (100, .laload, 1), (101, .iload 5, 2), (103, .invokestatic 232, 3), (106, .ifCond .eq 14, 3), (109, .aload_n 0, 1)] : List (Nat × Instr × Nat)), decode cX12_equate t.1 = .ok (t.2.1, t.2.2) := by decide +kernel
theorem DX12_equate_1 : ∀ t ∈ ([(110, .getfield 51, 3), (113, .iload 6, 2), (115, .dup2, 1), (116, .laload, 1), (117, .lload_n 3, 1), (118, .lxor, 1), (119, .lastore, 1), (120, .iinc 6 1, 3), (123, .goto (-35), 3), (126, .aload_n 0, 1), (127, .getfield 51, 3), (130, .iload_n 1, 1), (131, .lload_n 3, 1), (132, .lastore, 1), (133, .aload_n 0, 1), (134, .getfield 57, 3), (137, .iload_n 1, 1), (138, .iload 5, 2), (140, .iastore, 1), (141, .iinc 1 1, 3), (144, .iinc 2 1, 3), (147, .goto (-143), 3), (150, .iload_n 1, 1), (151, .ireturn, 1)] : List (Nat × Instr × Nat)), decode cX12_equate t.1 = .ok (t.2.1, t.2.2) := by decide +kernel
noncomputable def f_X12_equate_22 (s0 : OS) (b1 : Int32) (b2 : Int32) : (Int64 × Int32) → Option ((Int64 × Int32) ⊕ (Int64)) := fun z => match z with | (b3, b5) => (if b1 ≤ b5 then some (.inr b3) else if inb b5 64 = true then (f_X12_has b3 (s0.2.2.1 33 (b5 : Int32).toNatClampNeg)).bind (fun x7 => (if x7 = 0 then bnd (b5 + 1 : Int32) (fun v10 => some (.inl ((b3, v10)))) else bnd (b3 ^^^ (s0.2.2.2 31 (b5 : Int32).toNatClampNeg) : Int64) (fun v12 => bnd (b5 + 1 : Int32) (fun v14 => some (.inl ((v12, v14))))))) else none)
noncomputable def f_X12_equate_70 (s0 : OS) (b1 : Int32) (b2 : Int32) (b3 : Int64) : Int32 → Option ((Int32) ⊕ (Int32)) := fun b5 => (f_X12_has b3 b5).bind (fun x20 => (if x20 = 0 then bnd (b5 + 1 : Int32) (fun v23 => some (.inl v23)) else some (.inr b5)))
noncomputable def f_X12_equate_88 (b1 : Int32) (b2 : Int32) (b3 : Int64) (b5 : Int32) : (OS × Int32) → Option ((OS × Int32) ⊕ (OS)) := fun z => match z with | (s0, b6) => (if b1 ≤ b6 then some (.inr s0) else if inb b6 64 = true then (f_X12_has (s0.2.2.2 31 (b6 : Int32).toNatClampNeg) b5).bind (fun x30 => (if x30 = 0 then bnd (b6 + 1 : Int32) (fun v33 => some (.inl ((s0, v33)))) else bnd (oB s0 31 (vp_updL (s0.2.2.2 31) (b6 : Int32).toNatClampNeg ((s0.2.2.2 31 (b6 : Int32).toNatClampNeg) ^^^ b3))) (fun t35 => bnd (b6 + 1 : Int32) (fun v37 => some (.inl ((t35, v37))))))) else none)
noncomputable def f_X12_equate_4 : (OS × Int32 × Int32) → Option ((OS × Int32 × Int32) ⊕ (OS × Int32)) := fun z => match z with | (s0, b1, b2) => (if (s0.1 1) ≤ b2 then some (.inr ((s0, b1))) else if inb b2 64 = true then bnd (s0.2.2.2 3 (b2 : Int32).toNatClampNeg : Int64) (fun v3 => (lpv (f_X12_equate_22 s0 b1 b2) ((v3, 0))).bind (fun x16 => (if (lg_cmp x16 0) = 0 then bnd (b2 + 1 : Int32) (fun v51 => some (.inl ((s0, b1, v51)))) else (lpv (f_X12_equate_70 s0 b1 b2 x16) 0).bind (fun x25 => (lpv (f_X12_equate_88 b1 b2 x16 x25) ((s0, 0))).bind (fun x39 => if inb b1 64 = true then bnd (oB x39 31 (vp_updL (x39.2.2.2 31) (b1 : Int32).toNatClampNeg x16)) (fun t43 => bnd (oA t43 33 (upd (t43.2.2.1 33) (b1 : Int32).toNatClampNeg x25)) (fun t45 => bnd (b1 + 1 : Int32) (fun v47 => bnd (b2 + 1 : Int32) (fun v49 => some (.inl ((t45, v47, v49))))))) else none))))) else none)
noncomputable def f_X12_equate (st : OS) : Option (Int32 × OS) := (lpv (f_X12_equate_4) ((st, 0, 0))).bind (fun x53 => match x53 with | (t55, v56) => some ((v56, t55)))
set_option maxHeartbeats 4000000 in
set_option maxRecDepth 100000 in
theorem w_X12_equate_22 {p : Program} {l : Launch} {e : Env} {s : State} {m : MethodId} {args : Array Value} {below : List Frame} {meth : Method} {c : Code} {Q : State → Prop} {G : mG} {h : mM} {q : Nat → Nat} (hq : oinj LX12 q) (X : mX G p m c cX12_equate 7 s args RX12) (s0 : OS) (b1 : Int32) (b2 : Int32) : ∀ (z : Int64 × Int32) (r : Int64), lpv (f_X12_equate_22 s0 b1 b2) z = some r → ∀ (H : Heap) (locs : List Loc) (ls : Array Slot), mH G (oset LX12 G q s0 h) s.heap H locs → lv_has ls 7 [(0, .ref (q 53)), (1, .int b1), (2, .int b2), (3, .long z.1), (5, .int z.2)] → (∀ (H : Heap) (locs : List Loc) (ls : Array Slot), mH G (oset LX12 G q s0 h) s.heap H locs → lv_has ls 7 [(0, .ref (q 53)), (1, .int b1), (2, .int b2), (3, .long r)] → W p l e rm_X12_equate s m args below meth c H locs 0 0 Q (F0 m 58 ls [])) → W p l e rm_X12_equate s m args below meth c H locs 0 0 Q (F0 m 22 ls []) := by
  refine lpv_rec ?_
  intro z r x hF hx H locs ls hH hl K0
  obtain ⟨b3, b5⟩ := z
  dsimp only [f_X12_equate_22] at hF
  try dsimp only at hH hl
  refine lv_iload X.x X.b (dk DX12_equate_0 15 rfl) (lv_at hl 4 rfl) ?_
  refine lv_iload_n X.x X.b (dk DX12_equate_0 16 rfl) rfl (lv_at hl 1 rfl) ?_
  refine lv_icmp_ge (tgt := 58) X.x X.b (dk DX12_equate_0 17 rfl) (by decide) (fun c5 => ?_) (fun c5 => ?_)
  · replace hF := if_t hF c5
    have hr9 := lp_r hF hx
    subst hr9
    exact K0 _ _ _ hH (lv_sub hl [0, 1, 2, 3] rfl)
  · replace hF := if_f hF c5
    refine lv_lload_n X.x X.b (dk DX12_equate_0 18 rfl) rfl (lv_at hl 3 rfl) ?_
    refine lv_aload_n X.x X.b (dk DX12_equate_0 19 rfl) rfl (lv_at hl 0 rfl) ?_
    refine og_getR (t := 0) OX12 X hq hH 33 (by decide) rfl kF_X12_57 (dk DX12_equate_0 20 rfl) ?_
    refine lv_iload X.x X.b (dk DX12_equate_0 21 rfl) (lv_at hl 4 rfl) ?_
    obtain ⟨c6, hF⟩ := gd hF
    refine og_iald X hq hH 33 (by decide) rfl (inb_in c6) (dk DX12_equate_0 22 rfl) ?_
    obtain ⟨x7, e8, hF⟩ := bd hF
    refine mr_ci0 hH ⟨rfl, rfl⟩ (mr_runS (As := [.long b3, .int (s0.2.2.1 33 (b5 : Int32).toNatClampNeg)]) (rest := []) X hH (c_X12_has e8) kM_X12_232 kT_X12_has kN_X12 kC_X12_has hd_X12_has ⟨Nat.le_of_ble_eq_true rfl, Nat.le_of_ble_eq_true rfl⟩ rfl hl.1 (Nat.le_of_ble_eq_true rfl) (dk DX12_equate_0 23 rfl) ⟨Nat.zero_le _, Nat.zero_le _⟩) (fun r h1 H locs hp hH => ?_)
    obtain ⟨hr1, hr2⟩ := hp; rw [hr1]; rw [hr2] at hH; clear hr1 hr2
    refine lv_if_eq (tgt := 52) X.x X.b (dk DX12_equate_0 24 rfl) (by decide) (fun c9 => ?_) (fun c9 => ?_)
    · replace hF := if_t hF c9
      obtain ⟨v10, e11⟩ : ∃ y : Int32, y = b5 + 1 := ⟨_, rfl⟩
      replace hF := bnd_e hF e11
      refine lv_iinc (v := v10) (lv' := [(5, .int v10), (0, .ref (q 53)), (1, .int b1), (2, .int b2), (3, .long b3)]) X.x X.b (dk DX12_equate_0 32 rfl) hl (k := 4) rfl (by rw [e11]; rfl) (by decide) rfl (fun ls hl => ?_)
      replace hl : lv_has ls 7 [(0, .ref (q 53)), (1, .int b1), (2, .int b2), (3, .long b3), (5, .int v10)] := lv_sub hl [1, 2, 3, 4, 0] rfl
      refine lv_goto (tgt := 22) X.x X.b (dk DX12_equate_0 33 rfl) (by decide) ?_
      exact (lp_l hF hx) _ _ _ hH (lv_sub hl [0, 1, 2, 3, 4] rfl) K0
    · replace hF := if_f hF c9
      refine lv_lload_n X.x X.b (dk DX12_equate_0 25 rfl) rfl (lv_at hl 3 rfl) ?_
      refine lv_aload_n X.x X.b (dk DX12_equate_0 26 rfl) rfl (lv_at hl 0 rfl) ?_
      refine og_getR (t := 1) OX12 X hq hH 31 (by decide) rfl kF_X12_51 (dk DX12_equate_0 27 rfl) ?_
      refine lv_iload X.x X.b (dk DX12_equate_0 28 rfl) (lv_at hl 4 rfl) ?_
      refine og_lald X hq hH 31 (by decide) rfl (inb_in c6) (dk DX12_equate_0 29 rfl) ?_
      refine lv_lxor X.x X.b (dk DX12_equate_0 30 rfl) ?_
      refine lv_topl (fun v12 e13 => ?_)
      replace hF := bnd_e hF e13
      refine lv_lstore_n (lv' := [(3, .long v12), (0, .ref (q 53)), (1, .int b1), (2, .int b2), (5, .int b5)]) X.x X.b (dk DX12_equate_0 31 rfl) rfl hl (by decide) rfl (fun ls hl => ?_)
      replace hl : lv_has ls 7 [(0, .ref (q 53)), (1, .int b1), (2, .int b2), (3, .long v12), (5, .int b5)] := lv_sub hl [1, 2, 3, 0, 4] rfl
      obtain ⟨v14, e15⟩ : ∃ y : Int32, y = b5 + 1 := ⟨_, rfl⟩
      replace hF := bnd_e hF e15
      refine lv_iinc (v := v14) (lv' := [(5, .int v14), (0, .ref (q 53)), (1, .int b1), (2, .int b2), (3, .long v12)]) X.x X.b (dk DX12_equate_0 32 rfl) hl (k := 4) rfl (by rw [e15]; rfl) (by decide) rfl (fun ls hl => ?_)
      replace hl : lv_has ls 7 [(0, .ref (q 53)), (1, .int b1), (2, .int b2), (3, .long v12), (5, .int v14)] := lv_sub hl [1, 2, 3, 4, 0] rfl
      refine lv_goto (tgt := 22) X.x X.b (dk DX12_equate_0 33 rfl) (by decide) ?_
      exact (lp_l hF hx) _ _ _ hH (lv_sub hl [0, 1, 2, 3, 4] rfl) K0
set_option maxHeartbeats 4000000 in
set_option maxRecDepth 100000 in
theorem w_X12_equate_70 {p : Program} {l : Launch} {e : Env} {s : State} {m : MethodId} {args : Array Value} {below : List Frame} {meth : Method} {c : Code} {Q : State → Prop} {G : mG} {h : mM} {q : Nat → Nat} (hq : oinj LX12 q) (X : mX G p m c cX12_equate 7 s args RX12) (s0 : OS) (b1 : Int32) (b2 : Int32) (b3 : Int64) : ∀ (z : Int32) (r : Int32), lpv (f_X12_equate_70 s0 b1 b2 b3) z = some r → ∀ (H : Heap) (locs : List Loc) (ls : Array Slot), mH G (oset LX12 G q s0 h) s.heap H locs → lv_has ls 7 [(0, .ref (q 53)), (1, .int b1), (2, .int b2), (3, .long b3), (5, .int z)] → (∀ (H : Heap) (locs : List Loc) (ls : Array Slot), mH G (oset LX12 G q s0 h) s.heap H locs → lv_has ls 7 [(0, .ref (q 53)), (1, .int b1), (2, .int b2), (3, .long b3), (5, .int r)] → W p l e rm_X12_equate s m args below meth c H locs 0 0 Q (F0 m 85 ls [])) → W p l e rm_X12_equate s m args below meth c H locs 0 0 Q (F0 m 70 ls []) := by
  refine lpv_rec ?_
  intro z r x hF hx H locs ls hH hl K0
  obtain ⟨b5, hz⟩ : ∃ y, y = z := ⟨_, rfl⟩
  subst hz
  dsimp only [f_X12_equate_70] at hF
  refine lv_lload_n X.x X.b (dk DX12_equate_0 41 rfl) rfl (lv_at hl 3 rfl) ?_
  refine lv_iload X.x X.b (dk DX12_equate_0 42 rfl) (lv_at hl 4 rfl) ?_
  obtain ⟨x20, e21, hF⟩ := bd hF
  refine mr_ci0 hH ⟨rfl, rfl⟩ (mr_runS (As := [.long b3, .int b5]) (rest := []) X hH (c_X12_has e21) kM_X12_232 kT_X12_has kN_X12 kC_X12_has hd_X12_has ⟨Nat.le_of_ble_eq_true rfl, Nat.le_of_ble_eq_true rfl⟩ rfl hl.1 (Nat.le_of_ble_eq_true rfl) (dk DX12_equate_0 43 rfl) ⟨Nat.zero_le _, Nat.zero_le _⟩) (fun r h1 H locs hp hH => ?_)
  obtain ⟨hr1, hr2⟩ := hp; rw [hr1]; rw [hr2] at hH; clear hr1 hr2
  refine lv_if_ne (tgt := 85) X.x X.b (dk DX12_equate_0 44 rfl) (by decide) (fun c22 => ?_) (fun c22 => ?_)
  · replace hF := if_f hF c22
    have hr9 := lp_r hF hx
    subst hr9
    exact K0 _ _ _ hH (lv_sub hl [0, 1, 2, 3, 4] rfl)
  · replace hF := if_t hF c22
    obtain ⟨v23, e24⟩ : ∃ y : Int32, y = b5 + 1 := ⟨_, rfl⟩
    replace hF := bnd_e hF e24
    refine lv_iinc (v := v23) (lv' := [(5, .int v23), (0, .ref (q 53)), (1, .int b1), (2, .int b2), (3, .long b3)]) X.x X.b (dk DX12_equate_0 45 rfl) hl (k := 4) rfl (by rw [e24]; rfl) (by decide) rfl (fun ls hl => ?_)
    replace hl : lv_has ls 7 [(0, .ref (q 53)), (1, .int b1), (2, .int b2), (3, .long b3), (5, .int v23)] := lv_sub hl [1, 2, 3, 4, 0] rfl
    refine lv_goto (tgt := 70) X.x X.b (dk DX12_equate_0 46 rfl) (by decide) ?_
    exact (lp_l hF hx) _ _ _ hH (lv_sub hl [0, 1, 2, 3, 4] rfl) K0
set_option maxHeartbeats 4000000 in
set_option maxRecDepth 100000 in
theorem w_X12_equate_88 {p : Program} {l : Launch} {e : Env} {s : State} {m : MethodId} {args : Array Value} {below : List Frame} {meth : Method} {c : Code} {Q : State → Prop} {G : mG} {h : mM} {q : Nat → Nat} (hq : oinj LX12 q) (X : mX G p m c cX12_equate 7 s args RX12) (b1 : Int32) (b2 : Int32) (b3 : Int64) (b5 : Int32) : ∀ (z : OS × Int32) (r : OS), lpv (f_X12_equate_88 b1 b2 b3 b5) z = some r → ∀ (H : Heap) (locs : List Loc) (ls : Array Slot), mH G (oset LX12 G q z.1 h) s.heap H locs → lv_has ls 7 [(0, .ref (q 53)), (1, .int b1), (2, .int b2), (3, .long b3), (5, .int b5), (6, .int z.2)] → (∀ (H : Heap) (locs : List Loc) (ls : Array Slot), mH G (oset LX12 G q r h) s.heap H locs → lv_has ls 7 [(0, .ref (q 53)), (1, .int b1), (2, .int b2), (3, .long b3), (5, .int b5)] → W p l e rm_X12_equate s m args below meth c H locs 0 0 Q (F0 m 126 ls [])) → W p l e rm_X12_equate s m args below meth c H locs 0 0 Q (F0 m 88 ls []) := by
  refine lpv_rec ?_
  intro z r x hF hx H locs ls hH hl K0
  obtain ⟨s0, b6⟩ := z
  dsimp only [f_X12_equate_88] at hF
  try dsimp only at hH hl
  refine lv_iload X.x X.b (dk DX12_equate_0 49 rfl) (lv_at hl 5 rfl) ?_
  refine lv_iload_n X.x X.b (dk DX12_equate_0 50 rfl) rfl (lv_at hl 1 rfl) ?_
  refine lv_icmp_ge (tgt := 126) X.x X.b (dk DX12_equate_0 51 rfl) (by decide) (fun c28 => ?_) (fun c28 => ?_)
  · replace hF := if_t hF c28
    have hr9 := lp_r hF hx
    subst hr9
    exact K0 _ _ _ hH (lv_sub hl [0, 1, 2, 3, 4] rfl)
  · replace hF := if_f hF c28
    refine lv_aload_n X.x X.b (dk DX12_equate_0 52 rfl) rfl (lv_at hl 0 rfl) ?_
    refine og_getR (t := 1) OX12 X hq hH 31 (by decide) rfl kF_X12_51 (dk DX12_equate_0 53 rfl) ?_
    refine lv_iload X.x X.b (dk DX12_equate_0 54 rfl) (lv_at hl 5 rfl) ?_
    obtain ⟨c29, hF⟩ := gd hF
    refine og_lald X hq hH 31 (by decide) rfl (inb_in c29) (dk DX12_equate_0 55 rfl) ?_
    refine lv_iload X.x X.b (dk DX12_equate_0 56 rfl) (lv_at hl 4 rfl) ?_
    obtain ⟨x30, e31, hF⟩ := bd hF
    refine mr_ci0 hH ⟨rfl, rfl⟩ (mr_runS (As := [.long (s0.2.2.2 31 (b6 : Int32).toNatClampNeg), .int b5]) (rest := []) X hH (c_X12_has e31) kM_X12_232 kT_X12_has kN_X12 kC_X12_has hd_X12_has ⟨Nat.le_of_ble_eq_true rfl, Nat.le_of_ble_eq_true rfl⟩ rfl hl.1 (Nat.le_of_ble_eq_true rfl) (dk DX12_equate_0 57 rfl) ⟨Nat.zero_le _, Nat.zero_le _⟩) (fun r h1 H locs hp hH => ?_)
    obtain ⟨hr1, hr2⟩ := hp; rw [hr1]; rw [hr2] at hH; clear hr1 hr2
    refine lv_if_eq (tgt := 120) X.x X.b (dk DX12_equate_0 58 rfl) (by decide) (fun c32 => ?_) (fun c32 => ?_)
    · replace hF := if_t hF c32
      obtain ⟨v33, e34⟩ : ∃ y : Int32, y = b6 + 1 := ⟨_, rfl⟩
      replace hF := bnd_e hF e34
      refine lv_iinc (v := v33) (lv' := [(6, .int v33), (0, .ref (q 53)), (1, .int b1), (2, .int b2), (3, .long b3), (5, .int b5)]) X.x X.b (dk DX12_equate_1 7 rfl) hl (k := 5) rfl (by rw [e34]; rfl) (by decide) rfl (fun ls hl => ?_)
      replace hl : lv_has ls 7 [(0, .ref (q 53)), (1, .int b1), (2, .int b2), (3, .long b3), (5, .int b5), (6, .int v33)] := lv_sub hl [1, 2, 3, 4, 5, 0] rfl
      refine lv_goto (tgt := 88) X.x X.b (dk DX12_equate_1 8 rfl) (by decide) ?_
      exact (lp_l hF hx) _ _ _ hH (lv_sub hl [0, 1, 2, 3, 4, 5] rfl) K0
    · replace hF := if_f hF c32
      refine lv_aload_n X.x X.b (dk DX12_equate_0 59 rfl) rfl (lv_at hl 0 rfl) ?_
      refine og_getR (t := 1) OX12 X hq hH 31 (by decide) rfl kF_X12_51 (dk DX12_equate_1 0 rfl) ?_
      refine lv_iload X.x X.b (dk DX12_equate_1 1 rfl) (lv_at hl 5 rfl) ?_
      refine lv_dup2_11 X.x X.b (dk DX12_equate_1 2 rfl) rfl rfl ?_
      refine og_lald X hq hH 31 (by decide) rfl (inb_in c29) (dk DX12_equate_1 3 rfl) ?_
      refine lv_lload_n X.x X.b (dk DX12_equate_1 4 rfl) rfl (lv_at hl 3 rfl) ?_
      refine lv_lxor X.x X.b (dk DX12_equate_1 5 rfl) ?_
      refine og_last X hq hH 31 (by decide) rfl (inb_in c29) (dk DX12_equate_1 6 rfl) (fun H locs hH => ?_)
      obtain ⟨t35, e36⟩ : ∃ y, y = oB s0 31 (vp_updL (s0.2.2.2 31) (b6 : Int32).toNatClampNeg ((s0.2.2.2 31 (b6 : Int32).toNatClampNeg) ^^^ b3)) := ⟨_, rfl⟩
      rw [← e36] at hH
      replace hF := bnd_e hF e36
      obtain ⟨v37, e38⟩ : ∃ y : Int32, y = b6 + 1 := ⟨_, rfl⟩
      replace hF := bnd_e hF e38
      refine lv_iinc (v := v37) (lv' := [(6, .int v37), (0, .ref (q 53)), (1, .int b1), (2, .int b2), (3, .long b3), (5, .int b5)]) X.x X.b (dk DX12_equate_1 7 rfl) hl (k := 5) rfl (by rw [e38]; rfl) (by decide) rfl (fun ls hl => ?_)
      replace hl : lv_has ls 7 [(0, .ref (q 53)), (1, .int b1), (2, .int b2), (3, .long b3), (5, .int b5), (6, .int v37)] := lv_sub hl [1, 2, 3, 4, 5, 0] rfl
      refine lv_goto (tgt := 88) X.x X.b (dk DX12_equate_1 8 rfl) (by decide) ?_
      exact (lp_l hF hx) _ _ _ hH (lv_sub hl [0, 1, 2, 3, 4, 5] rfl) K0
set_option maxHeartbeats 4000000 in
set_option maxRecDepth 100000 in
theorem w_X12_equate_4 {p : Program} {l : Launch} {e : Env} {s : State} {m : MethodId} {args : Array Value} {below : List Frame} {meth : Method} {c : Code} {Q : State → Prop} {G : mG} {h : mM} {q : Nat → Nat} (hq : oinj LX12 q) (X : mX G p m c cX12_equate 7 s args RX12) : ∀ (z : OS × Int32 × Int32) (r : OS × Int32), lpv (f_X12_equate_4) z = some r → ∀ (H : Heap) (locs : List Loc) (ls : Array Slot), mH G (oset LX12 G q z.1 h) s.heap H locs → lv_has ls 7 [(0, .ref (q 53)), (1, .int z.2.1), (2, .int z.2.2)] → (∀ (H : Heap) (locs : List Loc) (ls : Array Slot), mH G (oset LX12 G q r.1 h) s.heap H locs → lv_has ls 7 [(1, .int r.2)] → W p l e rm_X12_equate s m args below meth c H locs 0 0 Q (F0 m 150 ls [])) → W p l e rm_X12_equate s m args below meth c H locs 0 0 Q (F0 m 4 ls []) := by
  refine lpv_rec ?_
  intro z r x hF hx H locs ls hH hl K0
  obtain ⟨s0, b1, b2⟩ := z
  dsimp only [f_X12_equate_4] at hF
  try dsimp only at hH hl
  refine lv_iload_n X.x X.b (dk DX12_equate_0 4 rfl) rfl (lv_at hl 2 rfl) ?_
  refine lv_aload_n X.x X.b (dk DX12_equate_0 5 rfl) rfl (lv_at hl 0 rfl) ?_
  refine og_getI OX12 X hq hH 1 (by decide) rfl kF_X12_250 (dk DX12_equate_0 6 rfl) ?_
  refine lv_icmp_ge (tgt := 150) X.x X.b (dk DX12_equate_0 7 rfl) (by decide) (fun c1 => ?_) (fun c1 => ?_)
  · replace hF := if_t hF c1
    have hr9 := lp_r hF hx
    subst hr9
    exact K0 _ _ _ hH (lv_sub hl [1] rfl)
  · replace hF := if_f hF c1
    refine lv_aload_n X.x X.b (dk DX12_equate_0 8 rfl) rfl (lv_at hl 0 rfl) ?_
    refine og_getR (t := 1) OX12 X hq hH 3 (by decide) rfl kF_X12_7 (dk DX12_equate_0 9 rfl) ?_
    refine lv_iload_n X.x X.b (dk DX12_equate_0 10 rfl) rfl (lv_at hl 2 rfl) ?_
    obtain ⟨c2, hF⟩ := gd hF
    refine og_lald X hq hH 3 (by decide) rfl (inb_in c2) (dk DX12_equate_0 11 rfl) ?_
    refine lv_topl (fun v3 e4 => ?_)
    replace hF := bnd_e hF e4
    refine lv_lstore_n (lv' := [(3, .long v3), (0, .ref (q 53)), (1, .int b1), (2, .int b2)]) X.x X.b (dk DX12_equate_0 12 rfl) rfl hl (by decide) rfl (fun ls hl => ?_)
    replace hl : lv_has ls 7 [(0, .ref (q 53)), (1, .int b1), (2, .int b2), (3, .long v3)] := lv_sub hl [1, 2, 3, 0] rfl
    refine lv_iconst (v := 0) X.x X.b (dk DX12_equate_0 13 rfl) (by decide) ?_
    refine lv_istore (lv' := [(5, .int 0), (0, .ref (q 53)), (1, .int b1), (2, .int b2), (3, .long v3)]) X.x X.b (dk DX12_equate_0 14 rfl) hl (by decide) rfl (fun ls hl => ?_)
    replace hl : lv_has ls 7 [(0, .ref (q 53)), (1, .int b1), (2, .int b2), (3, .long v3), (5, .int 0)] := lv_sub hl [1, 2, 3, 4, 0] rfl
    obtain ⟨x16, e17, hF⟩ := bd hF
    replace hl : lv_has ls 7 [(0, .ref (q 53)), (1, .int b1), (2, .int b2), (3, .long v3), (5, .int 0)] := lv_sub hl [0, 1, 2, 3, 4] rfl
    refine w_X12_equate_22 hq X s0 b1 b2 _ _ e17 _ _ _ hH hl (fun H locs ls hH hl => ?_)
    refine lv_lload_n X.x X.b (dk DX12_equate_0 34 rfl) rfl (lv_at hl 3 rfl) ?_
    refine lv_lconst (v := 0) X.x X.b (dk DX12_equate_0 35 rfl) (by decide) ?_
    refine W.lcmp X.x X.b (dk DX12_equate_0 36 rfl) ?_
    refine lv_if_ne (tgt := 67) X.x X.b (dk DX12_equate_0 37 rfl) (by decide) (fun c19 => ?_) (fun c19 => ?_)
    · replace hF := if_f hF c19
      refine lv_iconst (v := 0) X.x X.b (dk DX12_equate_0 39 rfl) (by decide) ?_
      refine lv_istore (lv' := [(5, .int 0), (0, .ref (q 53)), (1, .int b1), (2, .int b2), (3, .long x16)]) X.x X.b (dk DX12_equate_0 40 rfl) hl (by decide) rfl (fun ls hl => ?_)
      replace hl : lv_has ls 7 [(0, .ref (q 53)), (1, .int b1), (2, .int b2), (3, .long x16), (5, .int 0)] := lv_sub hl [1, 2, 3, 4, 0] rfl
      obtain ⟨x25, e26, hF⟩ := bd hF
      replace hl : lv_has ls 7 [(0, .ref (q 53)), (1, .int b1), (2, .int b2), (3, .long x16), (5, .int 0)] := lv_sub hl [0, 1, 2, 3, 4] rfl
      refine w_X12_equate_70 hq X s0 b1 b2 x16 _ _ e26 _ _ _ hH hl (fun H locs ls hH hl => ?_)
      refine lv_iconst (v := 0) X.x X.b (dk DX12_equate_0 47 rfl) (by decide) ?_
      refine lv_istore (lv' := [(6, .int 0), (0, .ref (q 53)), (1, .int b1), (2, .int b2), (3, .long x16), (5, .int x25)]) X.x X.b (dk DX12_equate_0 48 rfl) hl (by decide) rfl (fun ls hl => ?_)
      replace hl : lv_has ls 7 [(0, .ref (q 53)), (1, .int b1), (2, .int b2), (3, .long x16), (5, .int x25), (6, .int 0)] := lv_sub hl [1, 2, 3, 4, 5, 0] rfl
      obtain ⟨x39, e40, hF⟩ := bd hF
      replace hl : lv_has ls 7 [(0, .ref (q 53)), (1, .int b1), (2, .int b2), (3, .long x16), (5, .int x25), (6, .int 0)] := lv_sub hl [0, 1, 2, 3, 4, 5] rfl
      refine w_X12_equate_88 hq X b1 b2 x16 x25 _ _ e40 _ _ _ hH hl (fun H locs ls hH hl => ?_)
      refine lv_aload_n X.x X.b (dk DX12_equate_1 9 rfl) rfl (lv_at hl 0 rfl) ?_
      refine og_getR (t := 1) OX12 X hq hH 31 (by decide) rfl kF_X12_51 (dk DX12_equate_1 10 rfl) ?_
      refine lv_iload_n X.x X.b (dk DX12_equate_1 11 rfl) rfl (lv_at hl 1 rfl) ?_
      refine lv_lload_n X.x X.b (dk DX12_equate_1 12 rfl) rfl (lv_at hl 3 rfl) ?_
      obtain ⟨c42, hF⟩ := gd hF
      refine og_last X hq hH 31 (by decide) rfl (inb_in c42) (dk DX12_equate_1 13 rfl) (fun H locs hH => ?_)
      obtain ⟨t43, e44⟩ : ∃ y, y = oB x39 31 (vp_updL (x39.2.2.2 31) (b1 : Int32).toNatClampNeg x16) := ⟨_, rfl⟩
      rw [← e44] at hH
      replace hF := bnd_e hF e44
      refine lv_aload_n X.x X.b (dk DX12_equate_1 14 rfl) rfl (lv_at hl 0 rfl) ?_
      refine og_getR (t := 0) OX12 X hq hH 33 (by decide) rfl kF_X12_57 (dk DX12_equate_1 15 rfl) ?_
      refine lv_iload_n X.x X.b (dk DX12_equate_1 16 rfl) rfl (lv_at hl 1 rfl) ?_
      refine lv_iload X.x X.b (dk DX12_equate_1 17 rfl) (lv_at hl 4 rfl) ?_
      refine og_iast X hq hH 33 (by decide) rfl (inb_in c42) (dk DX12_equate_1 18 rfl) (fun H locs hH => ?_)
      obtain ⟨t45, e46⟩ : ∃ y, y = oA t43 33 (upd (t43.2.2.1 33) (b1 : Int32).toNatClampNeg x25) := ⟨_, rfl⟩
      rw [← e46] at hH
      replace hF := bnd_e hF e46
      obtain ⟨v47, e48⟩ : ∃ y : Int32, y = b1 + 1 := ⟨_, rfl⟩
      replace hF := bnd_e hF e48
      refine lv_iinc (v := v47) (lv' := [(1, .int v47), (0, .ref (q 53)), (2, .int b2), (3, .long x16), (5, .int x25)]) X.x X.b (dk DX12_equate_1 19 rfl) hl (k := 1) rfl (by rw [e48]; rfl) (by decide) rfl (fun ls hl => ?_)
      replace hl : lv_has ls 7 [(0, .ref (q 53)), (1, .int v47), (2, .int b2)] := lv_sub hl [1, 0, 2] rfl
      obtain ⟨v49, e50⟩ : ∃ y : Int32, y = b2 + 1 := ⟨_, rfl⟩
      replace hF := bnd_e hF e50
      refine lv_iinc (v := v49) (lv' := [(2, .int v49), (0, .ref (q 53)), (1, .int v47)]) X.x X.b (dk DX12_equate_1 20 rfl) hl (k := 2) rfl (by rw [e50]; rfl) (by decide) rfl (fun ls hl => ?_)
      replace hl : lv_has ls 7 [(0, .ref (q 53)), (1, .int v47), (2, .int v49)] := lv_sub hl [1, 2, 0] rfl
      refine lv_goto (tgt := 4) X.x X.b (dk DX12_equate_1 21 rfl) (by decide) ?_
      exact (lp_l hF hx) _ _ _ hH (lv_sub hl [0, 1, 2] rfl) K0
    · replace hF := if_t hF c19
      refine lv_goto (tgt := 144) X.x X.b (dk DX12_equate_0 38 rfl) (by decide) ?_
      obtain ⟨v51, e52⟩ : ∃ y : Int32, y = b2 + 1 := ⟨_, rfl⟩
      replace hF := bnd_e hF e52
      refine lv_iinc (v := v51) (lv' := [(2, .int v51), (0, .ref (q 53)), (1, .int b1), (3, .long x16)]) X.x X.b (dk DX12_equate_1 20 rfl) hl (k := 2) rfl (by rw [e52]; rfl) (by decide) rfl (fun ls hl => ?_)
      replace hl : lv_has ls 7 [(0, .ref (q 53)), (1, .int b1), (2, .int v51)] := lv_sub hl [1, 2, 0] rfl
      refine lv_goto (tgt := 4) X.x X.b (dk DX12_equate_1 21 rfl) (by decide) ?_
      exact (lp_l hF hx) _ _ _ hH (lv_sub hl [0, 1, 2] rfl) K0
set_option maxHeartbeats 4000000 in
set_option maxRecDepth 100000 in
theorem c_X12_equate {l : Launch} {G : mG} {h : mM} {q : Nat → Nat} (hq : oinj LX12 q) {st : OS} {x : Int32 × OS} (hF : f_X12_equate st = some x) : cQ l G yX12_equate cX12_equate 7 (some FieldType.int) rm_X12_equate [.ref (q 53)] (oset LX12 G q st h) (mQi G (fun r h1 => r = x.1 ∧ h1 = oset LX12 G q x.2 h)) := by
  refine mp_of (by decide +kernel) (Nat.le_of_ble_eq_true rfl) ?_
  intro p e s m below meth c X hr hlk hH hname ls hl
  dsimp only [f_X12_equate] at hF
  replace hl : lv_has ls 7 [(0, .ref (q 53))] := hl
  refine lv_iconst (v := 0) X.x X.b (dk DX12_equate_0 0 rfl) (by decide) ?_
  refine lv_istore_n (lv' := [(1, .int 0), (0, .ref (q 53))]) X.x X.b (dk DX12_equate_0 1 rfl) rfl hl (by decide) rfl (fun ls hl => ?_)
  replace hl : lv_has ls 7 [(0, .ref (q 53)), (1, .int 0)] := lv_sub hl [1, 0] rfl
  refine lv_iconst (v := 0) X.x X.b (dk DX12_equate_0 2 rfl) (by decide) ?_
  refine lv_istore_n (lv' := [(2, .int 0), (0, .ref (q 53)), (1, .int 0)]) X.x X.b (dk DX12_equate_0 3 rfl) rfl hl (by decide) rfl (fun ls hl => ?_)
  replace hl : lv_has ls 7 [(0, .ref (q 53)), (1, .int 0), (2, .int 0)] := lv_sub hl [1, 2, 0] rfl
  obtain ⟨x53, e54, hF⟩ := bd hF
  replace hl : lv_has ls 7 [(0, .ref (q 53)), (1, .int 0), (2, .int 0)] := lv_sub hl [0, 1, 2] rfl
  obtain ⟨t55, v56⟩ := x53
  try dsimp only at hF
  refine w_X12_equate_4 hq X _ _ e54 _ _ _ hH hl (fun H locs ls hH hl => ?_)
  try dsimp only at hH hl
  refine lv_iload_n X.x X.b (dk DX12_equate_1 22 rfl) rfl (lv_at hl 0 rfl) ?_
  cases sm hF
  exact mr_iret X hr hlk hH ⟨rfl, rfl⟩ (dk DX12_equate_1 23 rfl)
-- X12_code
abbrev rm_X12_code : Room := { frames := 2, cells := 0, slots := 0, locals := 48 }
theorem hd_X12_code : mHd yX12_code 1 := ⟨by decide +kernel, by decide +kernel, by decide +kernel⟩
theorem DX12_code_0 : ∀ t ∈ ([(0, .aload_n 0, 1), (1, .iload_n 1, 1), (2, .i2l, 1), (3, .lconst 0, 1), (4, .lconst 1, 1), (5, .invokestatic 171, 3), (8, .ifCond .eq 7, 3), (11, .iconst 0, 1), (12, .goto 4, 3), (15, .iconst 1, 1), (16, .putfield 106, 3), (19, .aload_n 0, 1), (20, .getfield 106, 3), (23, .ifCond .le 5, 3), (26, .iconst 0, 1), (27, .ireturn, 1), (28, .aload_n 0, 1), (29, .invokevirtual 362, 3), (32, .istore_n 2, 1), (33, .aload_n 0, 1), (34, .getfield 248, 3), (37, .iload_n 2, 1), (38, .isub, 1), (39, .istore_n 3, 1), (40, .iload_n 1, 1), (41, .ifCond .ne 5, 3), (44, .iload_n 3, 1), (45, .ireturn, 1), (46, .iload_n 3, 1), (47, .bipush 16, 2), (49, .if_icmp .le 6, 3), (52, .bipush (-2), 2), (54, .ireturn, 1), (55, .lconst 0, 1), (56, .lstore 4, 2), (58, .iconst 0, 1), (59, .istore 6, 2), (61, .iload 6, 2), (63, .iload_n 2, 1), (64, .if_icmp .ge 24, 3), (67, .lload 4, 2), (69, .aload_n 0, 1), (70, .getfield 57, 3), (73, .iload 6, 2), (75, .iaload, 1), (76, .invokestatic 111, 3), (79, .lor, 1), (80, .lstore 4, 2), (82, .iinc 6 1, 3), (85, .goto (-24), 3), (88, .iconst 0, 1), (89, .istore 6, 2), (91, .iconst 0, 1), (92, .istore 7, 2), (94, .iload 7, 2), (96, .aload_n 0, 1), (97, .getfield 248, 3), (100, .if_icmp .ge 91, 3), (103, .lload 4, 2), (105, .iload 7, 2)] : List (Nat × Instr × Nat)), decode cX12_code t.1 = .ok (t.2.1, t.2.2) := by decide +kernel
theorem DX12_code_1 : ∀ t ∈ ([(107, .invokestatic 232, 3), (110, .ifCond .eq 6, 3), (113, .goto 72, 3), (116, .aload_n 0, 1), (117, .getfield 54, 3), (120, .iload 6, 2), (122, .iload 7, 2), (124, .invokestatic 111, 3), (127, .lastore, 1), (128, .iconst 0, 1), (129, .istore 8, 2), (131, .iload 8, 2), (133, .iload_n 2, 1), (134, .if_icmp .ge 48, 3), (137, .aload_n 0, 1), (138, .getfield 54, 3), (141, .iload 6, 2), (143, .dup2, 1), (144, .laload, 1), (145, .aload_n 0, 1), (146, .getfield 51, 3), (149, .iload 8, 2), (151, .laload, 1), (152, .iload 7, 2), (154, .invokestatic 232, 3), (157, .ifCond .eq 16, 3), (160, .aload_n 0, 1), (161, .getfield 57, 3), (164, .iload 8, 2), (166, .iaload, 1), (167, .invokestatic 111, 3), (170, .goto 4, 3), (173, .lconst 0, 1), (174, .lor, 1), (175, .lastore, 1), (176, .iinc 8 1, 3), (179, .goto (-48), 3), (182, .iinc 6 1, 3), (185, .iinc 7 1, 3), (188, .goto (-94), 3), (191, .iconst (-1), 1), (192, .istore 7, 2), (194, .iconst 1, 1), (195, .istore 8, 2), (197, .iload 8, 2), (199, .iconst 1, 1), (200, .iload 6, 2), (202, .ishl, 1), (203, .if_icmp .ge 81, 3), (206, .lconst 0, 1), (207, .lstore 9, 2), (209, .iconst 0, 1), (210, .istore 11, 2), (212, .iload 11, 2), (214, .iload 6, 2), (216, .if_icmp .ge 36, 3), (219, .lload 9, 2), (221, .iload 8, 2), (223, .iload 11, 2), (225, .ishr, 1)] : List (Nat × Instr × Nat)), decode cX12_code t.1 = .ok (t.2.1, t.2.2) := by decide +kernel
theorem DX12_code_2 : ∀ t ∈ ([(226, .iconst 1, 1), (227, .iand, 1), (228, .iconst 1, 1), (229, .if_icmp .ne 13, 3), (232, .aload_n 0, 1), (233, .getfield 54, 3), (236, .iload 11, 2), (238, .laload, 1), (239, .goto 4, 3), (242, .lconst 0, 1), (243, .lxor, 1), (244, .lstore 9, 2), (246, .iinc 11 1, 3), (249, .goto (-37), 3), (252, .iload 7, 2), (254, .iconst (-1), 1), (255, .if_icmp .ne 11, 3), (258, .lload 9, 2), (260, .invokestatic 283, 3), (263, .goto 13, 3), (266, .iload 7, 2), (268, .lload 9, 2), (270, .invokestatic 283, 3), (273, .invokestatic 356, 3), (276, .istore 7, 2), (278, .iinc 8 1, 3), (281, .goto (-84), 3), (284, .iload 7, 2), (286, .ireturn, 1)] : List (Nat × Instr × Nat)), decode cX12_code t.1 = .ok (t.2.1, t.2.2) := by decide +kernel
noncomputable def f_X12_code_61 (s0 : OS) (b2 : Int32) : (Int64 × Int32) → Option ((Int64 × Int32) ⊕ (Int64)) := fun z => match z with | (b4, b6) => (if b2 ≤ b6 then some (.inr b4) else if inb b6 64 = true then (f_X12_bit (s0.2.2.1 33 (b6 : Int32).toNatClampNeg)).bind (fun x17 => bnd (b4 ||| x17 : Int64) (fun v19 => bnd (b6 + 1 : Int32) (fun v21 => some (.inl ((v19, v21)))))) else none)
noncomputable def f_X12_code_131 (b2 : Int32) (b4 : Int64) (b6 : Int32) (b7 : Int32) : (OS × Int32) → Option ((OS × Int32) ⊕ (OS)) := fun z => match z with | (s0, b8) => (if b2 ≤ b8 then some (.inr s0) else if inb b6 16 = true then if inb b8 64 = true then (f_X12_has (s0.2.2.2 31 (b8 : Int32).toNatClampNeg) b7).bind (fun x38 => (if x38 = 0 then bnd (oB s0 32 (vp_updL (s0.2.2.2 32) (b6 : Int32).toNatClampNeg ((s0.2.2.2 32 (b6 : Int32).toNatClampNeg) ||| 0))) (fun t41 => bnd (b8 + 1 : Int32) (fun v43 => some (.inl ((t41, v43))))) else (f_X12_bit (s0.2.2.1 33 (b8 : Int32).toNatClampNeg)).bind (fun x45 => bnd (oB s0 32 (vp_updL (s0.2.2.2 32) (b6 : Int32).toNatClampNeg ((s0.2.2.2 32 (b6 : Int32).toNatClampNeg) ||| x45))) (fun t47 => bnd (b8 + 1 : Int32) (fun v49 => some (.inl ((t47, v49)))))))) else none else none)
noncomputable def f_X12_code_94 (b2 : Int32) (b4 : Int64) : (OS × Int32 × Int32) → Option ((OS × Int32 × Int32) ⊕ (OS × Int32)) := fun z => match z with | (s0, b6, b7) => (if (s0.1 0) ≤ b7 then some (.inr ((s0, b6))) else (f_X12_has b4 b7).bind (fun x27 => (if x27 = 0 then (f_X12_bit b7).bind (fun x30 => if inb b6 16 = true then bnd (oB s0 32 (vp_updL (s0.2.2.2 32) (b6 : Int32).toNatClampNeg x30)) (fun t33 => (lpv (f_X12_code_131 b2 b4 b6 b7) ((t33, 0))).bind (fun x51 => bnd (b6 + 1 : Int32) (fun v54 => bnd (b7 + 1 : Int32) (fun v56 => some (.inl ((x51, v54, v56))))))) else none) else bnd (b7 + 1 : Int32) (fun v58 => some (.inl ((s0, b6, v58)))))))
noncomputable def f_X12_code_212 (s0 : OS) (b6 : Int32) (b7 : Int32) (b8 : Int32) : (Int64 × Int32) → Option ((Int64 × Int32) ⊕ (Int64)) := fun z => match z with | (b9, b11) => (if b6 ≤ b11 then some (.inr b9) else (if (b8 >>> (b11 &&& 31)) &&& 1 = 1 then if inb b11 16 = true then bnd (b9 ^^^ (s0.2.2.2 32 (b11 : Int32).toNatClampNeg) : Int64) (fun v72 => bnd (b11 + 1 : Int32) (fun v74 => some (.inl ((v72, v74))))) else none else bnd (b9 ^^^ 0 : Int64) (fun v67 => bnd (b11 + 1 : Int32) (fun v69 => some (.inl ((v67, v69)))))))
noncomputable def f_X12_code_197 (s0 : OS) (b6 : Int32) : (Int32 × Int32) → Option ((Int32 × Int32) ⊕ (Int32)) := fun z => match z with | (b7, b8) => (if ((1 : Int32) <<< (b6 &&& 31)) ≤ b8 then some (.inr b7) else (lpv (f_X12_code_212 s0 b6 b7 b8) ((0, 0))).bind (fun x76 => (if b7 = ((-1)) then (f_X12_ones x76).bind (fun x86 => bnd (b8 + 1 : Int32) (fun v88 => some (.inl ((x86, v88))))) else (f_X12_ones x76).bind (fun x80 => (f_J9_min_7cf53 b7 x80).bind (fun x82 => bnd (b8 + 1 : Int32) (fun v84 => some (.inl ((x82, v84)))))))))
noncomputable def f_X12_code (st : OS) (a0 : Int32) : Option (Int32 × OS) := (f_X12_within ((a0 : Int32).toInt64) 0 1).bind (fun x1 => (if x1 = 0 then bnd (oI st 2 1) (fun t4 => (if (t4.1 2) ≤ 0 then (f_X12_equate t4).bind (fun x7 => match x7 with | (v10, t9) => bnd ((t9.1 0) - v10 : Int32) (fun v11 => (if a0 = 0 then some ((v11, t9)) else (if v11 ≤ 16 then (lpv (f_X12_code_61 t9 v10) ((0, 0))).bind (fun x23 => (lpv (f_X12_code_94 v10 x23) ((t9, 0, 0))).bind (fun x60 => match x60 with | (t62, v63) => (lpv (f_X12_code_197 t62 v63) (((-1), 1))).bind (fun x90 => some ((x90, t62))))) else some (((-2), t9)))))) else some ((0, t4)))) else bnd (oI st 2 0) (fun t93 => (if (t93.1 2) ≤ 0 then (f_X12_equate t93).bind (fun x96 => match x96 with | (v99, t98) => bnd ((t98.1 0) - v99 : Int32) (fun v100 => (if a0 = 0 then some ((v100, t98)) else (if v100 ≤ 16 then (lpv (f_X12_code_61 t98 v99) ((0, 0))).bind (fun x104 => (lpv (f_X12_code_94 v99 x104) ((t98, 0, 0))).bind (fun x107 => match x107 with | (t109, v110) => (lpv (f_X12_code_197 t109 v110) (((-1), 1))).bind (fun x111 => some ((x111, t109))))) else some (((-2), t98)))))) else some ((0, t93))))))
set_option maxHeartbeats 4000000 in
set_option maxRecDepth 100000 in
theorem w_X12_code_61 {p : Program} {l : Launch} {e : Env} {s : State} {m : MethodId} {args : Array Value} {below : List Frame} {meth : Method} {c : Code} {Q : State → Prop} {G : mG} {h : mM} {q : Nat → Nat} (hq : oinj LX12 q) (X : mX G p m c cX12_code 12 s args RX12) (s0 : OS) (b2 : Int32) : ∀ (z : Int64 × Int32) (r : Int64), lpv (f_X12_code_61 s0 b2) z = some r → ∀ (H : Heap) (locs : List Loc) (ls : Array Slot), mH G (oset LX12 G q s0 h) s.heap H locs → lv_has ls 12 [(0, .ref (q 53)), (2, .int b2), (4, .long z.1), (6, .int z.2)] → (∀ (H : Heap) (locs : List Loc) (ls : Array Slot), mH G (oset LX12 G q s0 h) s.heap H locs → lv_has ls 12 [(0, .ref (q 53)), (2, .int b2), (4, .long r)] → W p l e rm_X12_code s m args below meth c H locs 0 0 Q (F0 m 88 ls [])) → W p l e rm_X12_code s m args below meth c H locs 0 0 Q (F0 m 61 ls []) := by
  refine lpv_rec ?_
  intro z r x hF hx H locs ls hH hl K0
  obtain ⟨b4, b6⟩ := z
  dsimp only [f_X12_code_61] at hF
  try dsimp only at hH hl
  refine lv_iload X.x X.b (dk DX12_code_0 37 rfl) (lv_at hl 3 rfl) ?_
  refine lv_iload_n X.x X.b (dk DX12_code_0 38 rfl) rfl (lv_at hl 1 rfl) ?_
  refine lv_icmp_ge (tgt := 88) X.x X.b (dk DX12_code_0 39 rfl) (by decide) (fun c15 => ?_) (fun c15 => ?_)
  · replace hF := if_t hF c15
    have hr9 := lp_r hF hx
    subst hr9
    exact K0 _ _ _ hH (lv_sub hl [0, 1, 2] rfl)
  · replace hF := if_f hF c15
    refine lv_lload X.x X.b (dk DX12_code_0 40 rfl) (lv_at hl 2 rfl) ?_
    refine lv_aload_n X.x X.b (dk DX12_code_0 41 rfl) rfl (lv_at hl 0 rfl) ?_
    refine og_getR (t := 0) OX12 X hq hH 33 (by decide) rfl kF_X12_57 (dk DX12_code_0 42 rfl) ?_
    refine lv_iload X.x X.b (dk DX12_code_0 43 rfl) (lv_at hl 3 rfl) ?_
    obtain ⟨c16, hF⟩ := gd hF
    refine og_iald X hq hH 33 (by decide) rfl (inb_in c16) (dk DX12_code_0 44 rfl) ?_
    obtain ⟨x17, e18, hF⟩ := bd hF
    refine mr_cl0 hH ⟨rfl, rfl⟩ (mr_runS (As := [.int (s0.2.2.1 33 (b6 : Int32).toNatClampNeg)]) (rest := [.long b4]) X hH (c_X12_bit e18) kM_X12_111 kT_X12_bit kN_X12 kC_X12_bit hd_X12_bit ⟨Nat.le_of_ble_eq_true rfl, Nat.le_of_ble_eq_true rfl⟩ rfl hl.1 (Nat.le_of_ble_eq_true rfl) (dk DX12_code_0 45 rfl) ⟨Nat.zero_le _, Nat.zero_le _⟩) (fun r h1 H locs hp hH => ?_)
    obtain ⟨hr1, hr2⟩ := hp; rw [hr1]; rw [hr2] at hH; clear hr1 hr2
    refine lv_lor X.x X.b (dk DX12_code_0 46 rfl) ?_
    refine lv_topl (fun v19 e20 => ?_)
    replace hF := bnd_e hF e20
    refine lv_lstore (lv' := [(4, .long v19), (0, .ref (q 53)), (2, .int b2), (6, .int b6)]) X.x X.b (dk DX12_code_0 47 rfl) hl (by decide) rfl (fun ls hl => ?_)
    replace hl : lv_has ls 12 [(0, .ref (q 53)), (2, .int b2), (4, .long v19), (6, .int b6)] := lv_sub hl [1, 2, 0, 3] rfl
    obtain ⟨v21, e22⟩ : ∃ y : Int32, y = b6 + 1 := ⟨_, rfl⟩
    replace hF := bnd_e hF e22
    refine lv_iinc (v := v21) (lv' := [(6, .int v21), (0, .ref (q 53)), (2, .int b2), (4, .long v19)]) X.x X.b (dk DX12_code_0 48 rfl) hl (k := 3) rfl (by rw [e22]; rfl) (by decide) rfl (fun ls hl => ?_)
    replace hl : lv_has ls 12 [(0, .ref (q 53)), (2, .int b2), (4, .long v19), (6, .int v21)] := lv_sub hl [1, 2, 3, 0] rfl
    refine lv_goto (tgt := 61) X.x X.b (dk DX12_code_0 49 rfl) (by decide) ?_
    exact (lp_l hF hx) _ _ _ hH (lv_sub hl [0, 1, 2, 3] rfl) K0
set_option maxHeartbeats 4000000 in
set_option maxRecDepth 100000 in
theorem w_X12_code_131 {p : Program} {l : Launch} {e : Env} {s : State} {m : MethodId} {args : Array Value} {below : List Frame} {meth : Method} {c : Code} {Q : State → Prop} {G : mG} {h : mM} {q : Nat → Nat} (hq : oinj LX12 q) (X : mX G p m c cX12_code 12 s args RX12) (b2 : Int32) (b4 : Int64) (b6 : Int32) (b7 : Int32) : ∀ (z : OS × Int32) (r : OS), lpv (f_X12_code_131 b2 b4 b6 b7) z = some r → ∀ (H : Heap) (locs : List Loc) (ls : Array Slot), mH G (oset LX12 G q z.1 h) s.heap H locs → lv_has ls 12 [(0, .ref (q 53)), (2, .int b2), (4, .long b4), (6, .int b6), (7, .int b7), (8, .int z.2)] → (∀ (H : Heap) (locs : List Loc) (ls : Array Slot), mH G (oset LX12 G q r h) s.heap H locs → lv_has ls 12 [(0, .ref (q 53)), (2, .int b2), (4, .long b4), (6, .int b6), (7, .int b7)] → W p l e rm_X12_code s m args below meth c H locs 0 0 Q (F0 m 182 ls [])) → W p l e rm_X12_code s m args below meth c H locs 0 0 Q (F0 m 131 ls []) := by
  refine lpv_rec ?_
  intro z r x hF hx H locs ls hH hl K0
  obtain ⟨s0, b8⟩ := z
  dsimp only [f_X12_code_131] at hF
  try dsimp only at hH hl
  refine lv_iload X.x X.b (dk DX12_code_1 11 rfl) (lv_at hl 5 rfl) ?_
  refine lv_iload_n X.x X.b (dk DX12_code_1 12 rfl) rfl (lv_at hl 1 rfl) ?_
  refine lv_icmp_ge (tgt := 182) X.x X.b (dk DX12_code_1 13 rfl) (by decide) (fun c35 => ?_) (fun c35 => ?_)
  · replace hF := if_t hF c35
    have hr9 := lp_r hF hx
    subst hr9
    exact K0 _ _ _ hH (lv_sub hl [0, 1, 2, 3, 4] rfl)
  · replace hF := if_f hF c35
    refine lv_aload_n X.x X.b (dk DX12_code_1 14 rfl) rfl (lv_at hl 0 rfl) ?_
    refine og_getR (t := 1) OX12 X hq hH 32 (by decide) rfl kF_X12_54 (dk DX12_code_1 15 rfl) ?_
    refine lv_iload X.x X.b (dk DX12_code_1 16 rfl) (lv_at hl 3 rfl) ?_
    refine lv_dup2_11 X.x X.b (dk DX12_code_1 17 rfl) rfl rfl ?_
    obtain ⟨c36, hF⟩ := gd hF
    refine og_lald X hq hH 32 (by decide) rfl (inb_in c36) (dk DX12_code_1 18 rfl) ?_
    refine lv_aload_n X.x X.b (dk DX12_code_1 19 rfl) rfl (lv_at hl 0 rfl) ?_
    refine og_getR (t := 1) OX12 X hq hH 31 (by decide) rfl kF_X12_51 (dk DX12_code_1 20 rfl) ?_
    refine lv_iload X.x X.b (dk DX12_code_1 21 rfl) (lv_at hl 5 rfl) ?_
    obtain ⟨c37, hF⟩ := gd hF
    refine og_lald X hq hH 31 (by decide) rfl (inb_in c37) (dk DX12_code_1 22 rfl) ?_
    refine lv_iload X.x X.b (dk DX12_code_1 23 rfl) (lv_at hl 4 rfl) ?_
    obtain ⟨x38, e39, hF⟩ := bd hF
    refine mr_ci0 hH ⟨rfl, rfl⟩ (mr_runS (As := [.long (s0.2.2.2 31 (b8 : Int32).toNatClampNeg), .int b7]) (rest := [.long (s0.2.2.2 32 (b6 : Int32).toNatClampNeg), .int b6, .ref (q 32)]) X hH (c_X12_has e39) kM_X12_232 kT_X12_has kN_X12 kC_X12_has hd_X12_has ⟨Nat.le_of_ble_eq_true rfl, Nat.le_of_ble_eq_true rfl⟩ rfl hl.1 (Nat.le_of_ble_eq_true rfl) (dk DX12_code_1 24 rfl) ⟨Nat.zero_le _, Nat.zero_le _⟩) (fun r h1 H locs hp hH => ?_)
    obtain ⟨hr1, hr2⟩ := hp; rw [hr1]; rw [hr2] at hH; clear hr1 hr2
    refine lv_if_eq (tgt := 173) X.x X.b (dk DX12_code_1 25 rfl) (by decide) (fun c40 => ?_) (fun c40 => ?_)
    · replace hF := if_t hF c40
      refine lv_lconst (v := 0) X.x X.b (dk DX12_code_1 32 rfl) (by decide) ?_
      refine lv_lor X.x X.b (dk DX12_code_1 33 rfl) ?_
      refine og_last X hq hH 32 (by decide) rfl (inb_in c36) (dk DX12_code_1 34 rfl) (fun H locs hH => ?_)
      obtain ⟨t41, e42⟩ : ∃ y, y = oB s0 32 (vp_updL (s0.2.2.2 32) (b6 : Int32).toNatClampNeg ((s0.2.2.2 32 (b6 : Int32).toNatClampNeg) ||| 0)) := ⟨_, rfl⟩
      rw [← e42] at hH
      replace hF := bnd_e hF e42
      obtain ⟨v43, e44⟩ : ∃ y : Int32, y = b8 + 1 := ⟨_, rfl⟩
      replace hF := bnd_e hF e44
      refine lv_iinc (v := v43) (lv' := [(8, .int v43), (0, .ref (q 53)), (2, .int b2), (4, .long b4), (6, .int b6), (7, .int b7)]) X.x X.b (dk DX12_code_1 35 rfl) hl (k := 5) rfl (by rw [e44]; rfl) (by decide) rfl (fun ls hl => ?_)
      replace hl : lv_has ls 12 [(0, .ref (q 53)), (2, .int b2), (4, .long b4), (6, .int b6), (7, .int b7), (8, .int v43)] := lv_sub hl [1, 2, 3, 4, 5, 0] rfl
      refine lv_goto (tgt := 131) X.x X.b (dk DX12_code_1 36 rfl) (by decide) ?_
      exact (lp_l hF hx) _ _ _ hH (lv_sub hl [0, 1, 2, 3, 4, 5] rfl) K0
    · replace hF := if_f hF c40
      refine lv_aload_n X.x X.b (dk DX12_code_1 26 rfl) rfl (lv_at hl 0 rfl) ?_
      refine og_getR (t := 0) OX12 X hq hH 33 (by decide) rfl kF_X12_57 (dk DX12_code_1 27 rfl) ?_
      refine lv_iload X.x X.b (dk DX12_code_1 28 rfl) (lv_at hl 5 rfl) ?_
      refine og_iald X hq hH 33 (by decide) rfl (inb_in c37) (dk DX12_code_1 29 rfl) ?_
      obtain ⟨x45, e46, hF⟩ := bd hF
      refine mr_cl0 hH ⟨rfl, rfl⟩ (mr_runS (As := [.int (s0.2.2.1 33 (b8 : Int32).toNatClampNeg)]) (rest := [.long (s0.2.2.2 32 (b6 : Int32).toNatClampNeg), .int b6, .ref (q 32)]) X hH (c_X12_bit e46) kM_X12_111 kT_X12_bit kN_X12 kC_X12_bit hd_X12_bit ⟨Nat.le_of_ble_eq_true rfl, Nat.le_of_ble_eq_true rfl⟩ rfl hl.1 (Nat.le_of_ble_eq_true rfl) (dk DX12_code_1 30 rfl) ⟨Nat.zero_le _, Nat.zero_le _⟩) (fun r h1 H locs hp hH => ?_)
      obtain ⟨hr1, hr2⟩ := hp; rw [hr1]; rw [hr2] at hH; clear hr1 hr2
      refine lv_goto (tgt := 174) X.x X.b (dk DX12_code_1 31 rfl) (by decide) ?_
      refine lv_lor X.x X.b (dk DX12_code_1 33 rfl) ?_
      refine og_last X hq hH 32 (by decide) rfl (inb_in c36) (dk DX12_code_1 34 rfl) (fun H locs hH => ?_)
      obtain ⟨t47, e48⟩ : ∃ y, y = oB s0 32 (vp_updL (s0.2.2.2 32) (b6 : Int32).toNatClampNeg ((s0.2.2.2 32 (b6 : Int32).toNatClampNeg) ||| x45)) := ⟨_, rfl⟩
      rw [← e48] at hH
      replace hF := bnd_e hF e48
      obtain ⟨v49, e50⟩ : ∃ y : Int32, y = b8 + 1 := ⟨_, rfl⟩
      replace hF := bnd_e hF e50
      refine lv_iinc (v := v49) (lv' := [(8, .int v49), (0, .ref (q 53)), (2, .int b2), (4, .long b4), (6, .int b6), (7, .int b7)]) X.x X.b (dk DX12_code_1 35 rfl) hl (k := 5) rfl (by rw [e50]; rfl) (by decide) rfl (fun ls hl => ?_)
      replace hl : lv_has ls 12 [(0, .ref (q 53)), (2, .int b2), (4, .long b4), (6, .int b6), (7, .int b7), (8, .int v49)] := lv_sub hl [1, 2, 3, 4, 5, 0] rfl
      refine lv_goto (tgt := 131) X.x X.b (dk DX12_code_1 36 rfl) (by decide) ?_
      exact (lp_l hF hx) _ _ _ hH (lv_sub hl [0, 1, 2, 3, 4, 5] rfl) K0
set_option maxHeartbeats 4000000 in
set_option maxRecDepth 100000 in
theorem w_X12_code_94 {p : Program} {l : Launch} {e : Env} {s : State} {m : MethodId} {args : Array Value} {below : List Frame} {meth : Method} {c : Code} {Q : State → Prop} {G : mG} {h : mM} {q : Nat → Nat} (hq : oinj LX12 q) (X : mX G p m c cX12_code 12 s args RX12) (b2 : Int32) (b4 : Int64) : ∀ (z : OS × Int32 × Int32) (r : OS × Int32), lpv (f_X12_code_94 b2 b4) z = some r → ∀ (H : Heap) (locs : List Loc) (ls : Array Slot), mH G (oset LX12 G q z.1 h) s.heap H locs → lv_has ls 12 [(0, .ref (q 53)), (2, .int b2), (4, .long b4), (6, .int z.2.1), (7, .int z.2.2)] → (∀ (H : Heap) (locs : List Loc) (ls : Array Slot), mH G (oset LX12 G q r.1 h) s.heap H locs → lv_has ls 12 [(0, .ref (q 53)), (6, .int r.2)] → W p l e rm_X12_code s m args below meth c H locs 0 0 Q (F0 m 191 ls [])) → W p l e rm_X12_code s m args below meth c H locs 0 0 Q (F0 m 94 ls []) := by
  refine lpv_rec ?_
  intro z r x hF hx H locs ls hH hl K0
  obtain ⟨s0, b6, b7⟩ := z
  dsimp only [f_X12_code_94] at hF
  try dsimp only at hH hl
  refine lv_iload X.x X.b (dk DX12_code_0 54 rfl) (lv_at hl 4 rfl) ?_
  refine lv_aload_n X.x X.b (dk DX12_code_0 55 rfl) rfl (lv_at hl 0 rfl) ?_
  refine og_getI OX12 X hq hH 0 (by decide) rfl kF_X12_248 (dk DX12_code_0 56 rfl) ?_
  refine lv_icmp_ge (tgt := 191) X.x X.b (dk DX12_code_0 57 rfl) (by decide) (fun c26 => ?_) (fun c26 => ?_)
  · replace hF := if_t hF c26
    have hr9 := lp_r hF hx
    subst hr9
    exact K0 _ _ _ hH (lv_sub hl [0, 3] rfl)
  · replace hF := if_f hF c26
    refine lv_lload X.x X.b (dk DX12_code_0 58 rfl) (lv_at hl 2 rfl) ?_
    refine lv_iload X.x X.b (dk DX12_code_0 59 rfl) (lv_at hl 4 rfl) ?_
    obtain ⟨x27, e28, hF⟩ := bd hF
    refine mr_ci0 hH ⟨rfl, rfl⟩ (mr_runS (As := [.long b4, .int b7]) (rest := []) X hH (c_X12_has e28) kM_X12_232 kT_X12_has kN_X12 kC_X12_has hd_X12_has ⟨Nat.le_of_ble_eq_true rfl, Nat.le_of_ble_eq_true rfl⟩ rfl hl.1 (Nat.le_of_ble_eq_true rfl) (dk DX12_code_1 0 rfl) ⟨Nat.zero_le _, Nat.zero_le _⟩) (fun r h1 H locs hp hH => ?_)
    obtain ⟨hr1, hr2⟩ := hp; rw [hr1]; rw [hr2] at hH; clear hr1 hr2
    refine lv_if_eq (tgt := 116) X.x X.b (dk DX12_code_1 1 rfl) (by decide) (fun c29 => ?_) (fun c29 => ?_)
    · replace hF := if_t hF c29
      refine lv_aload_n X.x X.b (dk DX12_code_1 3 rfl) rfl (lv_at hl 0 rfl) ?_
      refine og_getR (t := 1) OX12 X hq hH 32 (by decide) rfl kF_X12_54 (dk DX12_code_1 4 rfl) ?_
      refine lv_iload X.x X.b (dk DX12_code_1 5 rfl) (lv_at hl 3 rfl) ?_
      refine lv_iload X.x X.b (dk DX12_code_1 6 rfl) (lv_at hl 4 rfl) ?_
      obtain ⟨x30, e31, hF⟩ := bd hF
      refine mr_cl0 hH ⟨rfl, rfl⟩ (mr_runS (As := [.int b7]) (rest := [.int b6, .ref (q 32)]) X hH (c_X12_bit e31) kM_X12_111 kT_X12_bit kN_X12 kC_X12_bit hd_X12_bit ⟨Nat.le_of_ble_eq_true rfl, Nat.le_of_ble_eq_true rfl⟩ rfl hl.1 (Nat.le_of_ble_eq_true rfl) (dk DX12_code_1 7 rfl) ⟨Nat.zero_le _, Nat.zero_le _⟩) (fun r h1 H locs hp hH => ?_)
      obtain ⟨hr1, hr2⟩ := hp; rw [hr1]; rw [hr2] at hH; clear hr1 hr2
      obtain ⟨c32, hF⟩ := gd hF
      refine og_last X hq hH 32 (by decide) rfl (inb_in c32) (dk DX12_code_1 8 rfl) (fun H locs hH => ?_)
      obtain ⟨t33, e34⟩ : ∃ y, y = oB s0 32 (vp_updL (s0.2.2.2 32) (b6 : Int32).toNatClampNeg x30) := ⟨_, rfl⟩
      rw [← e34] at hH
      replace hF := bnd_e hF e34
      refine lv_iconst (v := 0) X.x X.b (dk DX12_code_1 9 rfl) (by decide) ?_
      refine lv_istore (lv' := [(8, .int 0), (0, .ref (q 53)), (2, .int b2), (4, .long b4), (6, .int b6), (7, .int b7)]) X.x X.b (dk DX12_code_1 10 rfl) hl (by decide) rfl (fun ls hl => ?_)
      replace hl : lv_has ls 12 [(0, .ref (q 53)), (2, .int b2), (4, .long b4), (6, .int b6), (7, .int b7), (8, .int 0)] := lv_sub hl [1, 2, 3, 4, 5, 0] rfl
      obtain ⟨x51, e52, hF⟩ := bd hF
      replace hl : lv_has ls 12 [(0, .ref (q 53)), (2, .int b2), (4, .long b4), (6, .int b6), (7, .int b7), (8, .int 0)] := lv_sub hl [0, 1, 2, 3, 4, 5] rfl
      refine w_X12_code_131 hq X b2 b4 b6 b7 _ _ e52 _ _ _ hH hl (fun H locs ls hH hl => ?_)
      obtain ⟨v54, e55⟩ : ∃ y : Int32, y = b6 + 1 := ⟨_, rfl⟩
      replace hF := bnd_e hF e55
      refine lv_iinc (v := v54) (lv' := [(6, .int v54), (0, .ref (q 53)), (2, .int b2), (4, .long b4), (7, .int b7)]) X.x X.b (dk DX12_code_1 37 rfl) hl (k := 3) rfl (by rw [e55]; rfl) (by decide) rfl (fun ls hl => ?_)
      replace hl : lv_has ls 12 [(0, .ref (q 53)), (2, .int b2), (4, .long b4), (6, .int v54), (7, .int b7)] := lv_sub hl [1, 2, 3, 0, 4] rfl
      obtain ⟨v56, e57⟩ : ∃ y : Int32, y = b7 + 1 := ⟨_, rfl⟩
      replace hF := bnd_e hF e57
      refine lv_iinc (v := v56) (lv' := [(7, .int v56), (0, .ref (q 53)), (2, .int b2), (4, .long b4), (6, .int v54)]) X.x X.b (dk DX12_code_1 38 rfl) hl (k := 4) rfl (by rw [e57]; rfl) (by decide) rfl (fun ls hl => ?_)
      replace hl : lv_has ls 12 [(0, .ref (q 53)), (2, .int b2), (4, .long b4), (6, .int v54), (7, .int v56)] := lv_sub hl [1, 2, 3, 4, 0] rfl
      refine lv_goto (tgt := 94) X.x X.b (dk DX12_code_1 39 rfl) (by decide) ?_
      exact (lp_l hF hx) _ _ _ hH (lv_sub hl [0, 1, 2, 3, 4] rfl) K0
    · replace hF := if_f hF c29
      refine lv_goto (tgt := 185) X.x X.b (dk DX12_code_1 2 rfl) (by decide) ?_
      obtain ⟨v58, e59⟩ : ∃ y : Int32, y = b7 + 1 := ⟨_, rfl⟩
      replace hF := bnd_e hF e59
      refine lv_iinc (v := v58) (lv' := [(7, .int v58), (0, .ref (q 53)), (2, .int b2), (4, .long b4), (6, .int b6)]) X.x X.b (dk DX12_code_1 38 rfl) hl (k := 4) rfl (by rw [e59]; rfl) (by decide) rfl (fun ls hl => ?_)
      replace hl : lv_has ls 12 [(0, .ref (q 53)), (2, .int b2), (4, .long b4), (6, .int b6), (7, .int v58)] := lv_sub hl [1, 2, 3, 4, 0] rfl
      refine lv_goto (tgt := 94) X.x X.b (dk DX12_code_1 39 rfl) (by decide) ?_
      exact (lp_l hF hx) _ _ _ hH (lv_sub hl [0, 1, 2, 3, 4] rfl) K0
set_option maxHeartbeats 4000000 in
set_option maxRecDepth 100000 in
theorem w_X12_code_212 {p : Program} {l : Launch} {e : Env} {s : State} {m : MethodId} {args : Array Value} {below : List Frame} {meth : Method} {c : Code} {Q : State → Prop} {G : mG} {h : mM} {q : Nat → Nat} (hq : oinj LX12 q) (X : mX G p m c cX12_code 12 s args RX12) (s0 : OS) (b6 : Int32) (b7 : Int32) (b8 : Int32) : ∀ (z : Int64 × Int32) (r : Int64), lpv (f_X12_code_212 s0 b6 b7 b8) z = some r → ∀ (H : Heap) (locs : List Loc) (ls : Array Slot), mH G (oset LX12 G q s0 h) s.heap H locs → lv_has ls 12 [(0, .ref (q 53)), (6, .int b6), (7, .int b7), (8, .int b8), (9, .long z.1), (11, .int z.2)] → (∀ (H : Heap) (locs : List Loc) (ls : Array Slot), mH G (oset LX12 G q s0 h) s.heap H locs → lv_has ls 12 [(0, .ref (q 53)), (6, .int b6), (7, .int b7), (8, .int b8), (9, .long r)] → W p l e rm_X12_code s m args below meth c H locs 0 0 Q (F0 m 252 ls [])) → W p l e rm_X12_code s m args below meth c H locs 0 0 Q (F0 m 212 ls []) := by
  refine lpv_rec ?_
  intro z r x hF hx H locs ls hH hl K0
  obtain ⟨b9, b11⟩ := z
  dsimp only [f_X12_code_212] at hF
  try dsimp only at hH hl
  refine lv_iload X.x X.b (dk DX12_code_1 53 rfl) (lv_at hl 5 rfl) ?_
  refine lv_iload X.x X.b (dk DX12_code_1 54 rfl) (lv_at hl 1 rfl) ?_
  refine lv_icmp_ge (tgt := 252) X.x X.b (dk DX12_code_1 55 rfl) (by decide) (fun c65 => ?_) (fun c65 => ?_)
  · replace hF := if_t hF c65
    have hr9 := lp_r hF hx
    subst hr9
    exact K0 _ _ _ hH (lv_sub hl [0, 1, 2, 3, 4] rfl)
  · replace hF := if_f hF c65
    refine lv_lload X.x X.b (dk DX12_code_1 56 rfl) (lv_at hl 4 rfl) ?_
    refine lv_iload X.x X.b (dk DX12_code_1 57 rfl) (lv_at hl 3 rfl) ?_
    refine lv_iload X.x X.b (dk DX12_code_1 58 rfl) (lv_at hl 5 rfl) ?_
    refine lv_ishr X.x X.b (dk DX12_code_1 59 rfl) ?_
    refine lv_iconst (v := 1) X.x X.b (dk DX12_code_2 0 rfl) (by decide) ?_
    refine lv_iand X.x X.b (dk DX12_code_2 1 rfl) ?_
    refine lv_iconst (v := 1) X.x X.b (dk DX12_code_2 2 rfl) (by decide) ?_
    refine lv_icmp_ne (tgt := 242) X.x X.b (dk DX12_code_2 3 rfl) (by decide) (fun c66 => ?_) (fun c66 => ?_)
    · replace hF := if_f hF c66
      refine lv_lconst (v := 0) X.x X.b (dk DX12_code_2 9 rfl) (by decide) ?_
      refine lv_lxor X.x X.b (dk DX12_code_2 10 rfl) ?_
      refine lv_topl (fun v67 e68 => ?_)
      replace hF := bnd_e hF e68
      refine lv_lstore (lv' := [(9, .long v67), (0, .ref (q 53)), (6, .int b6), (7, .int b7), (8, .int b8), (11, .int b11)]) X.x X.b (dk DX12_code_2 11 rfl) hl (by decide) rfl (fun ls hl => ?_)
      replace hl : lv_has ls 12 [(0, .ref (q 53)), (6, .int b6), (7, .int b7), (8, .int b8), (9, .long v67), (11, .int b11)] := lv_sub hl [1, 2, 3, 4, 0, 5] rfl
      obtain ⟨v69, e70⟩ : ∃ y : Int32, y = b11 + 1 := ⟨_, rfl⟩
      replace hF := bnd_e hF e70
      refine lv_iinc (v := v69) (lv' := [(11, .int v69), (0, .ref (q 53)), (6, .int b6), (7, .int b7), (8, .int b8), (9, .long v67)]) X.x X.b (dk DX12_code_2 12 rfl) hl (k := 5) rfl (by rw [e70]; rfl) (by decide) rfl (fun ls hl => ?_)
      replace hl : lv_has ls 12 [(0, .ref (q 53)), (6, .int b6), (7, .int b7), (8, .int b8), (9, .long v67), (11, .int v69)] := lv_sub hl [1, 2, 3, 4, 5, 0] rfl
      refine lv_goto (tgt := 212) X.x X.b (dk DX12_code_2 13 rfl) (by decide) ?_
      exact (lp_l hF hx) _ _ _ hH (lv_sub hl [0, 1, 2, 3, 4, 5] rfl) K0
    · replace hF := if_t hF c66
      refine lv_aload_n X.x X.b (dk DX12_code_2 4 rfl) rfl (lv_at hl 0 rfl) ?_
      refine og_getR (t := 1) OX12 X hq hH 32 (by decide) rfl kF_X12_54 (dk DX12_code_2 5 rfl) ?_
      refine lv_iload X.x X.b (dk DX12_code_2 6 rfl) (lv_at hl 5 rfl) ?_
      obtain ⟨c71, hF⟩ := gd hF
      refine og_lald X hq hH 32 (by decide) rfl (inb_in c71) (dk DX12_code_2 7 rfl) ?_
      refine lv_goto (tgt := 243) X.x X.b (dk DX12_code_2 8 rfl) (by decide) ?_
      refine lv_lxor X.x X.b (dk DX12_code_2 10 rfl) ?_
      refine lv_topl (fun v72 e73 => ?_)
      replace hF := bnd_e hF e73
      refine lv_lstore (lv' := [(9, .long v72), (0, .ref (q 53)), (6, .int b6), (7, .int b7), (8, .int b8), (11, .int b11)]) X.x X.b (dk DX12_code_2 11 rfl) hl (by decide) rfl (fun ls hl => ?_)
      replace hl : lv_has ls 12 [(0, .ref (q 53)), (6, .int b6), (7, .int b7), (8, .int b8), (9, .long v72), (11, .int b11)] := lv_sub hl [1, 2, 3, 4, 0, 5] rfl
      obtain ⟨v74, e75⟩ : ∃ y : Int32, y = b11 + 1 := ⟨_, rfl⟩
      replace hF := bnd_e hF e75
      refine lv_iinc (v := v74) (lv' := [(11, .int v74), (0, .ref (q 53)), (6, .int b6), (7, .int b7), (8, .int b8), (9, .long v72)]) X.x X.b (dk DX12_code_2 12 rfl) hl (k := 5) rfl (by rw [e75]; rfl) (by decide) rfl (fun ls hl => ?_)
      replace hl : lv_has ls 12 [(0, .ref (q 53)), (6, .int b6), (7, .int b7), (8, .int b8), (9, .long v72), (11, .int v74)] := lv_sub hl [1, 2, 3, 4, 5, 0] rfl
      refine lv_goto (tgt := 212) X.x X.b (dk DX12_code_2 13 rfl) (by decide) ?_
      exact (lp_l hF hx) _ _ _ hH (lv_sub hl [0, 1, 2, 3, 4, 5] rfl) K0
set_option maxHeartbeats 4000000 in
set_option maxRecDepth 100000 in
theorem w_X12_code_197 {p : Program} {l : Launch} {e : Env} {s : State} {m : MethodId} {args : Array Value} {below : List Frame} {meth : Method} {c : Code} {Q : State → Prop} {G : mG} {h : mM} {q : Nat → Nat} (hq : oinj LX12 q) (X : mX G p m c cX12_code 12 s args RX12) (s0 : OS) (b6 : Int32) : ∀ (z : Int32 × Int32) (r : Int32), lpv (f_X12_code_197 s0 b6) z = some r → ∀ (H : Heap) (locs : List Loc) (ls : Array Slot), mH G (oset LX12 G q s0 h) s.heap H locs → lv_has ls 12 [(0, .ref (q 53)), (6, .int b6), (7, .int z.1), (8, .int z.2)] → (∀ (H : Heap) (locs : List Loc) (ls : Array Slot), mH G (oset LX12 G q s0 h) s.heap H locs → lv_has ls 12 [(7, .int r)] → W p l e rm_X12_code s m args below meth c H locs 0 0 Q (F0 m 284 ls [])) → W p l e rm_X12_code s m args below meth c H locs 0 0 Q (F0 m 197 ls []) := by
  refine lpv_rec ?_
  intro z r x hF hx H locs ls hH hl K0
  obtain ⟨b7, b8⟩ := z
  dsimp only [f_X12_code_197] at hF
  try dsimp only at hH hl
  refine lv_iload X.x X.b (dk DX12_code_1 44 rfl) (lv_at hl 3 rfl) ?_
  refine lv_iconst (v := 1) X.x X.b (dk DX12_code_1 45 rfl) (by decide) ?_
  refine lv_iload X.x X.b (dk DX12_code_1 46 rfl) (lv_at hl 1 rfl) ?_
  refine lv_ishl X.x X.b (dk DX12_code_1 47 rfl) ?_
  refine lv_icmp_ge (tgt := 284) X.x X.b (dk DX12_code_1 48 rfl) (by decide) (fun c64 => ?_) (fun c64 => ?_)
  · replace hF := if_t hF c64
    have hr9 := lp_r hF hx
    subst hr9
    exact K0 _ _ _ hH (lv_sub hl [2] rfl)
  · replace hF := if_f hF c64
    refine lv_lconst (v := 0) X.x X.b (dk DX12_code_1 49 rfl) (by decide) ?_
    refine lv_lstore (lv' := [(9, .long 0), (0, .ref (q 53)), (6, .int b6), (7, .int b7), (8, .int b8)]) X.x X.b (dk DX12_code_1 50 rfl) hl (by decide) rfl (fun ls hl => ?_)
    replace hl : lv_has ls 12 [(0, .ref (q 53)), (6, .int b6), (7, .int b7), (8, .int b8), (9, .long 0)] := lv_sub hl [1, 2, 3, 4, 0] rfl
    refine lv_iconst (v := 0) X.x X.b (dk DX12_code_1 51 rfl) (by decide) ?_
    refine lv_istore (lv' := [(11, .int 0), (0, .ref (q 53)), (6, .int b6), (7, .int b7), (8, .int b8), (9, .long 0)]) X.x X.b (dk DX12_code_1 52 rfl) hl (by decide) rfl (fun ls hl => ?_)
    replace hl : lv_has ls 12 [(0, .ref (q 53)), (6, .int b6), (7, .int b7), (8, .int b8), (9, .long 0), (11, .int 0)] := lv_sub hl [1, 2, 3, 4, 5, 0] rfl
    obtain ⟨x76, e77, hF⟩ := bd hF
    replace hl : lv_has ls 12 [(0, .ref (q 53)), (6, .int b6), (7, .int b7), (8, .int b8), (9, .long 0), (11, .int 0)] := lv_sub hl [0, 1, 2, 3, 4, 5] rfl
    refine w_X12_code_212 hq X s0 b6 b7 b8 _ _ e77 _ _ _ hH hl (fun H locs ls hH hl => ?_)
    refine lv_iload X.x X.b (dk DX12_code_2 14 rfl) (lv_at hl 2 rfl) ?_
    refine lv_iconst (v := (-1)) X.x X.b (dk DX12_code_2 15 rfl) (by decide) ?_
    refine lv_icmp_ne (tgt := 266) X.x X.b (dk DX12_code_2 16 rfl) (by decide) (fun c79 => ?_) (fun c79 => ?_)
    · replace hF := if_f hF c79
      refine lv_iload X.x X.b (dk DX12_code_2 20 rfl) (lv_at hl 2 rfl) ?_
      refine lv_lload X.x X.b (dk DX12_code_2 21 rfl) (lv_at hl 4 rfl) ?_
      obtain ⟨x80, e81, hF⟩ := bd hF
      refine mr_ci0 hH ⟨rfl, rfl⟩ (mr_runS (As := [.long x76]) (rest := [.int b7]) X hH (c_X12_ones e81) kM_X12_283 kT_X12_ones kN_X12 kC_X12_ones hd_X12_ones ⟨Nat.le_of_ble_eq_true rfl, Nat.le_of_ble_eq_true rfl⟩ rfl hl.1 (Nat.le_of_ble_eq_true rfl) (dk DX12_code_2 22 rfl) ⟨Nat.zero_le _, Nat.zero_le _⟩) (fun r h1 H locs hp hH => ?_)
      obtain ⟨hr1, hr2⟩ := hp; rw [hr1]; rw [hr2] at hH; clear hr1 hr2
      obtain ⟨x82, e83, hF⟩ := bd hF
      refine mr_ci0 hH ⟨rfl, rfl⟩ (mr_runS (As := [.int b7, .int x80]) (rest := []) X hH (c_J9_min_7cf53 e83) kM_X12_356 kT_J9_min_7cf53 kN_J9 kC_J9_min_7cf53 hd_J9_min_7cf53 ⟨Nat.le_of_ble_eq_true rfl, Nat.le_of_ble_eq_true rfl⟩ rfl hl.1 (Nat.le_of_ble_eq_true rfl) (dk DX12_code_2 23 rfl) ⟨Nat.zero_le _, Nat.zero_le _⟩) (fun r h1 H locs hp hH => ?_)
      obtain ⟨hr1, hr2⟩ := hp; rw [hr1]; rw [hr2] at hH; clear hr1 hr2
      refine lv_istore (lv' := [(7, .int x82), (0, .ref (q 53)), (6, .int b6), (8, .int b8), (9, .long x76)]) X.x X.b (dk DX12_code_2 24 rfl) hl (by decide) rfl (fun ls hl => ?_)
      replace hl : lv_has ls 12 [(0, .ref (q 53)), (6, .int b6), (7, .int x82), (8, .int b8)] := lv_sub hl [1, 2, 0, 3] rfl
      obtain ⟨v84, e85⟩ : ∃ y : Int32, y = b8 + 1 := ⟨_, rfl⟩
      replace hF := bnd_e hF e85
      refine lv_iinc (v := v84) (lv' := [(8, .int v84), (0, .ref (q 53)), (6, .int b6), (7, .int x82)]) X.x X.b (dk DX12_code_2 25 rfl) hl (k := 3) rfl (by rw [e85]; rfl) (by decide) rfl (fun ls hl => ?_)
      replace hl : lv_has ls 12 [(0, .ref (q 53)), (6, .int b6), (7, .int x82), (8, .int v84)] := lv_sub hl [1, 2, 3, 0] rfl
      refine lv_goto (tgt := 197) X.x X.b (dk DX12_code_2 26 rfl) (by decide) ?_
      exact (lp_l hF hx) _ _ _ hH (lv_sub hl [0, 1, 2, 3] rfl) K0
    · replace hF := if_t hF c79
      refine lv_lload X.x X.b (dk DX12_code_2 17 rfl) (lv_at hl 4 rfl) ?_
      obtain ⟨x86, e87, hF⟩ := bd hF
      refine mr_ci0 hH ⟨rfl, rfl⟩ (mr_runS (As := [.long x76]) (rest := []) X hH (c_X12_ones e87) kM_X12_283 kT_X12_ones kN_X12 kC_X12_ones hd_X12_ones ⟨Nat.le_of_ble_eq_true rfl, Nat.le_of_ble_eq_true rfl⟩ rfl hl.1 (Nat.le_of_ble_eq_true rfl) (dk DX12_code_2 18 rfl) ⟨Nat.zero_le _, Nat.zero_le _⟩) (fun r h1 H locs hp hH => ?_)
      obtain ⟨hr1, hr2⟩ := hp; rw [hr1]; rw [hr2] at hH; clear hr1 hr2
      refine lv_goto (tgt := 276) X.x X.b (dk DX12_code_2 19 rfl) (by decide) ?_
      refine lv_istore (lv' := [(7, .int x86), (0, .ref (q 53)), (6, .int b6), (8, .int b8), (9, .long x76)]) X.x X.b (dk DX12_code_2 24 rfl) hl (by decide) rfl (fun ls hl => ?_)
      replace hl : lv_has ls 12 [(0, .ref (q 53)), (6, .int b6), (7, .int x86), (8, .int b8)] := lv_sub hl [1, 2, 0, 3] rfl
      obtain ⟨v88, e89⟩ : ∃ y : Int32, y = b8 + 1 := ⟨_, rfl⟩
      replace hF := bnd_e hF e89
      refine lv_iinc (v := v88) (lv' := [(8, .int v88), (0, .ref (q 53)), (6, .int b6), (7, .int x86)]) X.x X.b (dk DX12_code_2 25 rfl) hl (k := 3) rfl (by rw [e89]; rfl) (by decide) rfl (fun ls hl => ?_)
      replace hl : lv_has ls 12 [(0, .ref (q 53)), (6, .int b6), (7, .int x86), (8, .int v88)] := lv_sub hl [1, 2, 3, 0] rfl
      refine lv_goto (tgt := 197) X.x X.b (dk DX12_code_2 26 rfl) (by decide) ?_
      exact (lp_l hF hx) _ _ _ hH (lv_sub hl [0, 1, 2, 3] rfl) K0
set_option maxHeartbeats 4000000 in
set_option maxRecDepth 100000 in
theorem c_X12_code {l : Launch} {G : mG} {h : mM} {q : Nat → Nat} (hq : oinj LX12 q) {st : OS} {a0 : Int32} {x : Int32 × OS} (hF : f_X12_code st a0 = some x) : cQ l G yX12_code cX12_code 12 (some FieldType.int) rm_X12_code [.ref (q 53), .int a0] (oset LX12 G q st h) (mQi G (fun r h1 => r = x.1 ∧ h1 = oset LX12 G q x.2 h)) := by
  refine mp_of (by decide +kernel) (Nat.le_of_ble_eq_true rfl) ?_
  intro p e s m below meth c X hr hlk hH hname ls hl
  dsimp only [f_X12_code] at hF
  replace hl : lv_has ls 12 [(0, .ref (q 53)), (1, .int a0)] := hl
  refine lv_aload_n X.x X.b (dk DX12_code_0 0 rfl) rfl (lv_at hl 0 rfl) ?_
  refine lv_iload_n X.x X.b (dk DX12_code_0 1 rfl) rfl (lv_at hl 1 rfl) ?_
  refine lv_i2l X.x X.b (dk DX12_code_0 2 rfl) rfl ?_
  refine lv_lconst (v := 0) X.x X.b (dk DX12_code_0 3 rfl) (by decide) ?_
  refine lv_lconst (v := 1) X.x X.b (dk DX12_code_0 4 rfl) (by decide) ?_
  obtain ⟨x1, e2, hF⟩ := bd hF
  refine mr_ci0 hH ⟨rfl, rfl⟩ (mr_runS (As := [.long ((a0 : Int32).toInt64), .long 0, .long 1]) (rest := [.ref (q 53)]) X hH (c_X12_within e2) kM_X12_171 kT_X12_within kN_X12 kC_X12_within hd_X12_within ⟨Nat.le_of_ble_eq_true rfl, Nat.le_of_ble_eq_true rfl⟩ rfl hl.1 (Nat.le_of_ble_eq_true rfl) (dk DX12_code_0 5 rfl) ⟨Nat.zero_le _, Nat.zero_le _⟩) (fun r h1 H locs hp hH => ?_)
  obtain ⟨hr1, hr2⟩ := hp; rw [hr1]; rw [hr2] at hH; clear hr1 hr2
  refine lv_if_eq (tgt := 15) X.x X.b (dk DX12_code_0 6 rfl) (by decide) (fun c3 => ?_) (fun c3 => ?_)
  · replace hF := if_t hF c3
    refine lv_iconst (v := 1) X.x X.b (dk DX12_code_0 9 rfl) (by decide) ?_
    refine og_putI OX12 X hq hH 2 (by decide) rfl kF_X12_106 rfl rfl rfl (dk DX12_code_0 10 rfl) (fun H locs hH => ?_)
    obtain ⟨t4, e5⟩ : ∃ y, y = oI st 2 1 := ⟨_, rfl⟩
    rw [← e5] at hH
    replace hF := bnd_e hF e5
    refine lv_aload_n X.x X.b (dk DX12_code_0 11 rfl) rfl (lv_at hl 0 rfl) ?_
    refine og_getI OX12 X hq hH 2 (by decide) rfl kF_X12_106 (dk DX12_code_0 12 rfl) ?_
    refine lv_if_le (tgt := 28) X.x X.b (dk DX12_code_0 13 rfl) (by decide) (fun c6 => ?_) (fun c6 => ?_)
    · replace hF := if_t hF c6
      refine lv_aload_n X.x X.b (dk DX12_code_0 16 rfl) rfl (lv_at hl 0 rfl) ?_
      obtain ⟨x7, e8, hF⟩ := bd hF
      refine mr_ci0 hH ⟨rfl, rfl⟩ (mr_runV (As := []) (rest := []) X hH (c_X12_equate hq e8) ((oset_at hq (Nat.le_refl _) ohas_N).trans (congrArg some ocell_N)) OX12.1 kM_X12_362 kI_X12_equate kS_X12_equate kN_X12 kC_X12_equate hd_X12_equate ⟨Nat.le_of_ble_eq_true rfl, Nat.le_of_ble_eq_true rfl⟩ rfl hl.1 (Nat.le_of_ble_eq_true rfl) (dk DX12_code_0 17 rfl) ⟨Nat.zero_le _, Nat.zero_le _⟩) (fun r h1 H locs hp hH => ?_)
      obtain ⟨hr1, hr2⟩ := hp; rw [hr1]; rw [hr2] at hH; clear hr1 hr2
      obtain ⟨v10, t9⟩ := x7
      try dsimp only at hF hH ⊢
      refine lv_istore_n (lv' := [(2, .int v10), (0, .ref (q 53)), (1, .int a0)]) X.x X.b (dk DX12_code_0 18 rfl) rfl hl (by decide) rfl (fun ls hl => ?_)
      replace hl : lv_has ls 12 [(0, .ref (q 53)), (1, .int a0), (2, .int v10)] := lv_sub hl [1, 2, 0] rfl
      refine lv_aload_n X.x X.b (dk DX12_code_0 19 rfl) rfl (lv_at hl 0 rfl) ?_
      refine og_getI OX12 X hq hH 0 (by decide) rfl kF_X12_248 (dk DX12_code_0 20 rfl) ?_
      refine lv_iload_n X.x X.b (dk DX12_code_0 21 rfl) rfl (lv_at hl 2 rfl) ?_
      refine lv_isub X.x X.b (dk DX12_code_0 22 rfl) ?_
      refine lv_topi (fun v11 e12 => ?_)
      replace hF := bnd_e hF e12
      refine lv_istore_n (lv' := [(3, .int v11), (0, .ref (q 53)), (1, .int a0), (2, .int v10)]) X.x X.b (dk DX12_code_0 23 rfl) rfl hl (by decide) rfl (fun ls hl => ?_)
      replace hl : lv_has ls 12 [(0, .ref (q 53)), (1, .int a0), (2, .int v10), (3, .int v11)] := lv_sub hl [1, 2, 3, 0] rfl
      refine lv_iload_n X.x X.b (dk DX12_code_0 24 rfl) rfl (lv_at hl 1 rfl) ?_
      refine lv_if_ne (tgt := 46) X.x X.b (dk DX12_code_0 25 rfl) (by decide) (fun c13 => ?_) (fun c13 => ?_)
      · replace hF := if_f hF c13
        refine lv_iload_n X.x X.b (dk DX12_code_0 28 rfl) rfl (lv_at hl 3 rfl) ?_
        refine lv_bipush (v := 16) X.x X.b (dk DX12_code_0 29 rfl) (by decide) ?_
        refine lv_icmp_le (tgt := 55) X.x X.b (dk DX12_code_0 30 rfl) (by decide) (fun c14 => ?_) (fun c14 => ?_)
        · replace hF := if_t hF c14
          refine lv_lconst (v := 0) X.x X.b (dk DX12_code_0 33 rfl) (by decide) ?_
          refine lv_lstore (lv' := [(4, .long 0), (0, .ref (q 53)), (1, .int a0), (2, .int v10), (3, .int v11)]) X.x X.b (dk DX12_code_0 34 rfl) hl (by decide) rfl (fun ls hl => ?_)
          replace hl : lv_has ls 12 [(0, .ref (q 53)), (2, .int v10), (4, .long 0)] := lv_sub hl [1, 3, 0] rfl
          refine lv_iconst (v := 0) X.x X.b (dk DX12_code_0 35 rfl) (by decide) ?_
          refine lv_istore (lv' := [(6, .int 0), (0, .ref (q 53)), (2, .int v10), (4, .long 0)]) X.x X.b (dk DX12_code_0 36 rfl) hl (by decide) rfl (fun ls hl => ?_)
          replace hl : lv_has ls 12 [(0, .ref (q 53)), (2, .int v10), (4, .long 0), (6, .int 0)] := lv_sub hl [1, 2, 3, 0] rfl
          obtain ⟨x23, e24, hF⟩ := bd hF
          replace hl : lv_has ls 12 [(0, .ref (q 53)), (2, .int v10), (4, .long 0), (6, .int 0)] := lv_sub hl [0, 1, 2, 3] rfl
          refine w_X12_code_61 hq X t9 v10 _ _ e24 _ _ _ hH hl (fun H locs ls hH hl => ?_)
          refine lv_iconst (v := 0) X.x X.b (dk DX12_code_0 50 rfl) (by decide) ?_
          refine lv_istore (lv' := [(6, .int 0), (0, .ref (q 53)), (2, .int v10), (4, .long x23)]) X.x X.b (dk DX12_code_0 51 rfl) hl (by decide) rfl (fun ls hl => ?_)
          replace hl : lv_has ls 12 [(0, .ref (q 53)), (2, .int v10), (4, .long x23), (6, .int 0)] := lv_sub hl [1, 2, 3, 0] rfl
          refine lv_iconst (v := 0) X.x X.b (dk DX12_code_0 52 rfl) (by decide) ?_
          refine lv_istore (lv' := [(7, .int 0), (0, .ref (q 53)), (2, .int v10), (4, .long x23), (6, .int 0)]) X.x X.b (dk DX12_code_0 53 rfl) hl (by decide) rfl (fun ls hl => ?_)
          replace hl : lv_has ls 12 [(0, .ref (q 53)), (2, .int v10), (4, .long x23), (6, .int 0), (7, .int 0)] := lv_sub hl [1, 2, 3, 4, 0] rfl
          obtain ⟨x60, e61, hF⟩ := bd hF
          replace hl : lv_has ls 12 [(0, .ref (q 53)), (2, .int v10), (4, .long x23), (6, .int 0), (7, .int 0)] := lv_sub hl [0, 1, 2, 3, 4] rfl
          obtain ⟨t62, v63⟩ := x60
          try dsimp only at hF
          refine w_X12_code_94 hq X v10 x23 _ _ e61 _ _ _ hH hl (fun H locs ls hH hl => ?_)
          try dsimp only at hH hl
          refine lv_iconst (v := (-1)) X.x X.b (dk DX12_code_1 40 rfl) (by decide) ?_
          refine lv_istore (lv' := [(7, .int ((-1))), (0, .ref (q 53)), (6, .int v63)]) X.x X.b (dk DX12_code_1 41 rfl) hl (by decide) rfl (fun ls hl => ?_)
          replace hl : lv_has ls 12 [(0, .ref (q 53)), (6, .int v63), (7, .int ((-1)))] := lv_sub hl [1, 2, 0] rfl
          refine lv_iconst (v := 1) X.x X.b (dk DX12_code_1 42 rfl) (by decide) ?_
          refine lv_istore (lv' := [(8, .int 1), (0, .ref (q 53)), (6, .int v63), (7, .int ((-1)))]) X.x X.b (dk DX12_code_1 43 rfl) hl (by decide) rfl (fun ls hl => ?_)
          replace hl : lv_has ls 12 [(0, .ref (q 53)), (6, .int v63), (7, .int ((-1))), (8, .int 1)] := lv_sub hl [1, 2, 3, 0] rfl
          obtain ⟨x90, e91, hF⟩ := bd hF
          replace hl : lv_has ls 12 [(0, .ref (q 53)), (6, .int v63), (7, .int ((-1))), (8, .int 1)] := lv_sub hl [0, 1, 2, 3] rfl
          refine w_X12_code_197 hq X t62 v63 _ _ e91 _ _ _ hH hl (fun H locs ls hH hl => ?_)
          refine lv_iload X.x X.b (dk DX12_code_2 27 rfl) (lv_at hl 0 rfl) ?_
          cases sm hF
          exact mr_iret X hr hlk hH ⟨rfl, rfl⟩ (dk DX12_code_2 28 rfl)
        · replace hF := if_f hF c14
          refine lv_bipush (v := (-2)) X.x X.b (dk DX12_code_0 31 rfl) (by decide) ?_
          cases sm hF
          exact mr_iret X hr hlk hH ⟨rfl, rfl⟩ (dk DX12_code_0 32 rfl)
      · replace hF := if_t hF c13
        refine lv_iload_n X.x X.b (dk DX12_code_0 26 rfl) rfl (lv_at hl 3 rfl) ?_
        cases sm hF
        exact mr_iret X hr hlk hH ⟨rfl, rfl⟩ (dk DX12_code_0 27 rfl)
    · replace hF := if_f hF c6
      refine lv_iconst (v := 0) X.x X.b (dk DX12_code_0 14 rfl) (by decide) ?_
      cases sm hF
      exact mr_iret X hr hlk hH ⟨rfl, rfl⟩ (dk DX12_code_0 15 rfl)
  · replace hF := if_f hF c3
    refine lv_iconst (v := 0) X.x X.b (dk DX12_code_0 7 rfl) (by decide) ?_
    refine lv_goto (tgt := 16) X.x X.b (dk DX12_code_0 8 rfl) (by decide) ?_
    refine og_putI OX12 X hq hH 2 (by decide) rfl kF_X12_106 rfl rfl rfl (dk DX12_code_0 10 rfl) (fun H locs hH => ?_)
    obtain ⟨t93, e94⟩ : ∃ y, y = oI st 2 0 := ⟨_, rfl⟩
    rw [← e94] at hH
    replace hF := bnd_e hF e94
    refine lv_aload_n X.x X.b (dk DX12_code_0 11 rfl) rfl (lv_at hl 0 rfl) ?_
    refine og_getI OX12 X hq hH 2 (by decide) rfl kF_X12_106 (dk DX12_code_0 12 rfl) ?_
    refine lv_if_le (tgt := 28) X.x X.b (dk DX12_code_0 13 rfl) (by decide) (fun c95 => ?_) (fun c95 => ?_)
    · replace hF := if_t hF c95
      refine lv_aload_n X.x X.b (dk DX12_code_0 16 rfl) rfl (lv_at hl 0 rfl) ?_
      obtain ⟨x96, e97, hF⟩ := bd hF
      refine mr_ci0 hH ⟨rfl, rfl⟩ (mr_runV (As := []) (rest := []) X hH (c_X12_equate hq e97) ((oset_at hq (Nat.le_refl _) ohas_N).trans (congrArg some ocell_N)) OX12.1 kM_X12_362 kI_X12_equate kS_X12_equate kN_X12 kC_X12_equate hd_X12_equate ⟨Nat.le_of_ble_eq_true rfl, Nat.le_of_ble_eq_true rfl⟩ rfl hl.1 (Nat.le_of_ble_eq_true rfl) (dk DX12_code_0 17 rfl) ⟨Nat.zero_le _, Nat.zero_le _⟩) (fun r h1 H locs hp hH => ?_)
      obtain ⟨hr1, hr2⟩ := hp; rw [hr1]; rw [hr2] at hH; clear hr1 hr2
      obtain ⟨v99, t98⟩ := x96
      try dsimp only at hF hH ⊢
      refine lv_istore_n (lv' := [(2, .int v99), (0, .ref (q 53)), (1, .int a0)]) X.x X.b (dk DX12_code_0 18 rfl) rfl hl (by decide) rfl (fun ls hl => ?_)
      replace hl : lv_has ls 12 [(0, .ref (q 53)), (1, .int a0), (2, .int v99)] := lv_sub hl [1, 2, 0] rfl
      refine lv_aload_n X.x X.b (dk DX12_code_0 19 rfl) rfl (lv_at hl 0 rfl) ?_
      refine og_getI OX12 X hq hH 0 (by decide) rfl kF_X12_248 (dk DX12_code_0 20 rfl) ?_
      refine lv_iload_n X.x X.b (dk DX12_code_0 21 rfl) rfl (lv_at hl 2 rfl) ?_
      refine lv_isub X.x X.b (dk DX12_code_0 22 rfl) ?_
      refine lv_topi (fun v100 e101 => ?_)
      replace hF := bnd_e hF e101
      refine lv_istore_n (lv' := [(3, .int v100), (0, .ref (q 53)), (1, .int a0), (2, .int v99)]) X.x X.b (dk DX12_code_0 23 rfl) rfl hl (by decide) rfl (fun ls hl => ?_)
      replace hl : lv_has ls 12 [(0, .ref (q 53)), (1, .int a0), (2, .int v99), (3, .int v100)] := lv_sub hl [1, 2, 3, 0] rfl
      refine lv_iload_n X.x X.b (dk DX12_code_0 24 rfl) rfl (lv_at hl 1 rfl) ?_
      refine lv_if_ne (tgt := 46) X.x X.b (dk DX12_code_0 25 rfl) (by decide) (fun c102 => ?_) (fun c102 => ?_)
      · replace hF := if_f hF c102
        refine lv_iload_n X.x X.b (dk DX12_code_0 28 rfl) rfl (lv_at hl 3 rfl) ?_
        refine lv_bipush (v := 16) X.x X.b (dk DX12_code_0 29 rfl) (by decide) ?_
        refine lv_icmp_le (tgt := 55) X.x X.b (dk DX12_code_0 30 rfl) (by decide) (fun c103 => ?_) (fun c103 => ?_)
        · replace hF := if_t hF c103
          refine lv_lconst (v := 0) X.x X.b (dk DX12_code_0 33 rfl) (by decide) ?_
          refine lv_lstore (lv' := [(4, .long 0), (0, .ref (q 53)), (1, .int a0), (2, .int v99), (3, .int v100)]) X.x X.b (dk DX12_code_0 34 rfl) hl (by decide) rfl (fun ls hl => ?_)
          replace hl : lv_has ls 12 [(0, .ref (q 53)), (2, .int v99), (4, .long 0)] := lv_sub hl [1, 3, 0] rfl
          refine lv_iconst (v := 0) X.x X.b (dk DX12_code_0 35 rfl) (by decide) ?_
          refine lv_istore (lv' := [(6, .int 0), (0, .ref (q 53)), (2, .int v99), (4, .long 0)]) X.x X.b (dk DX12_code_0 36 rfl) hl (by decide) rfl (fun ls hl => ?_)
          replace hl : lv_has ls 12 [(0, .ref (q 53)), (2, .int v99), (4, .long 0), (6, .int 0)] := lv_sub hl [1, 2, 3, 0] rfl
          obtain ⟨x104, e105, hF⟩ := bd hF
          replace hl : lv_has ls 12 [(0, .ref (q 53)), (2, .int v99), (4, .long 0), (6, .int 0)] := lv_sub hl [0, 1, 2, 3] rfl
          refine w_X12_code_61 hq X t98 v99 _ _ e105 _ _ _ hH hl (fun H locs ls hH hl => ?_)
          refine lv_iconst (v := 0) X.x X.b (dk DX12_code_0 50 rfl) (by decide) ?_
          refine lv_istore (lv' := [(6, .int 0), (0, .ref (q 53)), (2, .int v99), (4, .long x104)]) X.x X.b (dk DX12_code_0 51 rfl) hl (by decide) rfl (fun ls hl => ?_)
          replace hl : lv_has ls 12 [(0, .ref (q 53)), (2, .int v99), (4, .long x104), (6, .int 0)] := lv_sub hl [1, 2, 3, 0] rfl
          refine lv_iconst (v := 0) X.x X.b (dk DX12_code_0 52 rfl) (by decide) ?_
          refine lv_istore (lv' := [(7, .int 0), (0, .ref (q 53)), (2, .int v99), (4, .long x104), (6, .int 0)]) X.x X.b (dk DX12_code_0 53 rfl) hl (by decide) rfl (fun ls hl => ?_)
          replace hl : lv_has ls 12 [(0, .ref (q 53)), (2, .int v99), (4, .long x104), (6, .int 0), (7, .int 0)] := lv_sub hl [1, 2, 3, 4, 0] rfl
          obtain ⟨x107, e108, hF⟩ := bd hF
          replace hl : lv_has ls 12 [(0, .ref (q 53)), (2, .int v99), (4, .long x104), (6, .int 0), (7, .int 0)] := lv_sub hl [0, 1, 2, 3, 4] rfl
          obtain ⟨t109, v110⟩ := x107
          try dsimp only at hF
          refine w_X12_code_94 hq X v99 x104 _ _ e108 _ _ _ hH hl (fun H locs ls hH hl => ?_)
          try dsimp only at hH hl
          refine lv_iconst (v := (-1)) X.x X.b (dk DX12_code_1 40 rfl) (by decide) ?_
          refine lv_istore (lv' := [(7, .int ((-1))), (0, .ref (q 53)), (6, .int v110)]) X.x X.b (dk DX12_code_1 41 rfl) hl (by decide) rfl (fun ls hl => ?_)
          replace hl : lv_has ls 12 [(0, .ref (q 53)), (6, .int v110), (7, .int ((-1)))] := lv_sub hl [1, 2, 0] rfl
          refine lv_iconst (v := 1) X.x X.b (dk DX12_code_1 42 rfl) (by decide) ?_
          refine lv_istore (lv' := [(8, .int 1), (0, .ref (q 53)), (6, .int v110), (7, .int ((-1)))]) X.x X.b (dk DX12_code_1 43 rfl) hl (by decide) rfl (fun ls hl => ?_)
          replace hl : lv_has ls 12 [(0, .ref (q 53)), (6, .int v110), (7, .int ((-1))), (8, .int 1)] := lv_sub hl [1, 2, 3, 0] rfl
          obtain ⟨x111, e112, hF⟩ := bd hF
          replace hl : lv_has ls 12 [(0, .ref (q 53)), (6, .int v110), (7, .int ((-1))), (8, .int 1)] := lv_sub hl [0, 1, 2, 3] rfl
          refine w_X12_code_197 hq X t109 v110 _ _ e112 _ _ _ hH hl (fun H locs ls hH hl => ?_)
          refine lv_iload X.x X.b (dk DX12_code_2 27 rfl) (lv_at hl 0 rfl) ?_
          cases sm hF
          exact mr_iret X hr hlk hH ⟨rfl, rfl⟩ (dk DX12_code_2 28 rfl)
        · replace hF := if_f hF c103
          refine lv_bipush (v := (-2)) X.x X.b (dk DX12_code_0 31 rfl) (by decide) ?_
          cases sm hF
          exact mr_iret X hr hlk hH ⟨rfl, rfl⟩ (dk DX12_code_0 32 rfl)
      · replace hF := if_t hF c102
        refine lv_iload_n X.x X.b (dk DX12_code_0 26 rfl) rfl (lv_at hl 3 rfl) ?_
        cases sm hF
        exact mr_iret X hr hlk hH ⟨rfl, rfl⟩ (dk DX12_code_0 27 rfl)
    · replace hF := if_f hF c95
      refine lv_iconst (v := 0) X.x X.b (dk DX12_code_0 14 rfl) (by decide) ?_
      cases sm hF
      exact mr_iret X hr hlk hH ⟨rfl, rfl⟩ (dk DX12_code_0 15 rfl)
