-- X8_mix
abbrev rm_X8_mix : Room := { frames := 0, cells := 0, slots := 0, locals := 0 }
theorem hd_X8_mix : mHd yX8_mix 1 := ⟨by decide +kernel, by decide +kernel, by decide +kernel⟩
theorem DX8_mix_0 : ∀ t ∈ ([(0, .lload_n 0, 1), (1, .lload_n 0, 1), (2, .bipush 31, 2), (4, .lushr, 1), (5, .lxor, 1), (6, .ldc2_w 120, 3), (9, .lmul, 1), (10, .ldc2_w 122, 3), (13, .ladd, 1), (14, .lstore_n 2, 1), (15, .lload_n 2, 1), (16, .lload_n 2, 1), (17, .bipush 29, 2), (19, .lushr, 1), (20, .lxor, 1), (21, .ldc2_w 124, 3), (24, .lmul, 1), (25, .lstore_n 2, 1), (26, .lload_n 2, 1), (27, .lload_n 2, 1), (28, .bipush 32, 2), (30, .lushr, 1), (31, .lxor, 1), (32, .lreturn, 1)] : List (Nat × Instr × Nat)), decode cX8_mix t.1 = .ok (t.2.1, t.2.2) := by decide +kernel
noncomputable def f_X8_mix (a0 : Int64) : Option (Int64) := bnd (((a0 ^^^ (((a0 : Int64).toUInt64 >>> ((31 : Int32).toInt64.toUInt64 &&& Int64.toUInt64 63)).toInt64)) * ((-7046029254386353131))) + 7146057691288625177 : Int64) (fun v1 => bnd ((v1 ^^^ (((v1 : Int64).toUInt64 >>> ((29 : Int32).toInt64.toUInt64 &&& Int64.toUInt64 63)).toInt64)) * ((-4658895280553007687)) : Int64) (fun v3 => some (v3 ^^^ (((v3 : Int64).toUInt64 >>> ((32 : Int32).toInt64.toUInt64 &&& Int64.toUInt64 63)).toInt64))))
set_option maxHeartbeats 4000000 in
set_option maxRecDepth 100000 in
theorem c_X8_mix {l : Launch} {G : mG} {h : mM}  {a0 : Int64} {x : Int64} (hF : f_X8_mix a0 = some x) : cQ l G yX8_mix cX8_mix 4 (some FieldType.long) rm_X8_mix [.long a0] (h) (mQl G (fun r h1 => r = x ∧ h1 = h)) := by
  refine mp_of (by decide +kernel) (Nat.le_of_ble_eq_true rfl) ?_
  intro p e s m below meth c X hr hlk hH hname ls hl
  dsimp only [f_X8_mix] at hF
  replace hl : lv_has ls 4 [(0, .long a0)] := hl
  refine lv_lload_n X.x X.b (dk DX8_mix_0 0 rfl) rfl (lv_at hl 0 rfl) ?_
  refine lv_lload_n X.x X.b (dk DX8_mix_0 1 rfl) rfl (lv_at hl 0 rfl) ?_
  refine lv_bipush (v := 31) X.x X.b (dk DX8_mix_0 2 rfl) (by decide) ?_
  refine lv_lushr X.x X.b (dk DX8_mix_0 3 rfl) rfl ?_
  refine lv_lxor X.x X.b (dk DX8_mix_0 4 rfl) ?_
  refine lv_ldc2 (v := (-7046029254386353131)) X.x X.b X.ow (X.ts _ kK_X8_120) (dk DX8_mix_0 5 rfl) ?_
  refine lv_lmul X.x X.b (dk DX8_mix_0 6 rfl) ?_
  refine lv_ldc2 (v := 7146057691288625177) X.x X.b X.ow (X.ts _ kK_X8_122) (dk DX8_mix_0 7 rfl) ?_
  refine lv_ladd X.x X.b (dk DX8_mix_0 8 rfl) ?_
  refine lv_topl (fun v1 e2 => ?_)
  replace hF := bnd_e hF e2
  refine lv_lstore_n (lv' := [(2, .long v1), (0, .long a0)]) X.x X.b (dk DX8_mix_0 9 rfl) rfl hl (by decide) rfl (fun ls hl => ?_)
  replace hl : lv_has ls 4 [(2, .long v1)] := lv_sub hl [0] rfl
  refine lv_lload_n X.x X.b (dk DX8_mix_0 10 rfl) rfl (lv_at hl 0 rfl) ?_
  refine lv_lload_n X.x X.b (dk DX8_mix_0 11 rfl) rfl (lv_at hl 0 rfl) ?_
  refine lv_bipush (v := 29) X.x X.b (dk DX8_mix_0 12 rfl) (by decide) ?_
  refine lv_lushr X.x X.b (dk DX8_mix_0 13 rfl) rfl ?_
  refine lv_lxor X.x X.b (dk DX8_mix_0 14 rfl) ?_
  refine lv_ldc2 (v := (-4658895280553007687)) X.x X.b X.ow (X.ts _ kK_X8_124) (dk DX8_mix_0 15 rfl) ?_
  refine lv_lmul X.x X.b (dk DX8_mix_0 16 rfl) ?_
  refine lv_topl (fun v3 e4 => ?_)
  replace hF := bnd_e hF e4
  refine lv_lstore_n (lv' := [(2, .long v3)]) X.x X.b (dk DX8_mix_0 17 rfl) rfl hl (by decide) rfl (fun ls hl => ?_)
  replace hl : lv_has ls 4 [(2, .long v3)] := lv_sub hl [0] rfl
  refine lv_lload_n X.x X.b (dk DX8_mix_0 18 rfl) rfl (lv_at hl 0 rfl) ?_
  refine lv_lload_n X.x X.b (dk DX8_mix_0 19 rfl) rfl (lv_at hl 0 rfl) ?_
  refine lv_bipush (v := 32) X.x X.b (dk DX8_mix_0 20 rfl) (by decide) ?_
  refine lv_lushr X.x X.b (dk DX8_mix_0 21 rfl) rfl ?_
  refine lv_lxor X.x X.b (dk DX8_mix_0 22 rfl) ?_
  cases sm hF
  exact mr_lret X hr hlk hH ⟨rfl, rfl⟩ (dk DX8_mix_0 23 rfl)
-- X8_changeHues
abbrev rm_X8_changeHues : Room := { frames := 1, cells := 0, slots := 0, locals := 23 }
theorem hd_X8_changeHues : mHd yX8_changeHues 3 := ⟨by decide +kernel, by decide +kernel, by decide +kernel⟩
theorem DX8_changeHues_0 : ∀ t ∈ ([(0, .iconst 0, 1), (1, .istore 4, 2), (3, .iload 4, 2), (5, .aload_n 0, 1), (6, .getfield 43, 3), (9, .if_icmp .ge 40, 3), (12, .iload 4, 2), (14, .bipush 16, 2), (16, .if_icmp .ge 33, 3), (19, .aload_n 0, 1), (20, .getfield 26, 3), (23, .iload 4, 2), (25, .aload_n 1, 1), (26, .iload_n 3, 1), (27, .iload 4, 2), (29, .iadd, 1), (30, .laload, 1), (31, .invokestatic 114, 3), (34, .lastore, 1), (35, .aload_n 0, 1), (36, .getfield 29, 3), (39, .iload 4, 2), (41, .lconst 0, 1), (42, .lastore, 1), (43, .iinc 4 1, 3), (46, .goto (-43), 3), (49, .iconst 0, 1), (50, .istore 4, 2), (52, .iload 4, 2), (54, .aload_n 0, 1), (55, .getfield 75, 3), (58, .if_icmp .ge 132, 3), (61, .iload 4, 2), (63, .bipush 64, 2), (65, .if_icmp .ge 125, 3), (68, .lconst 0, 1), (69, .lstore 5, 2), (71, .iconst 0, 1), (72, .istore 7, 2), (74, .iload 7, 2), (76, .aload_n 0, 1), (77, .getfield 43, 3), (80, .if_icmp .ge 44, 3), (83, .iload 7, 2), (85, .bipush 16, 2), (87, .if_icmp .ge 37, 3), (90, .lload 5, 2), (92, .aload_n 2, 1), (93, .iload 4, 2), (95, .laload, 1), (96, .iload 7, 2), (98, .invokestatic 79, 3), (101, .ifCond .eq 13, 3), (104, .aload_n 0, 1), (105, .getfield 26, 3), (108, .iload 7, 2), (110, .laload, 1), (111, .goto 4, 3), (114, .lconst 0, 1), (115, .ladd, 1)] : List (Nat × Instr × Nat)), decode cX8_changeHues t.1 = .ok (t.2.1, t.2.2) := by decide +kernel
theorem DX8_changeHues_1 : ∀ t ∈ ([(116, .lstore 5, 2), (118, .iinc 7 1, 3), (121, .goto (-47), 3), (124, .lload 5, 2), (126, .invokestatic 114, 3), (129, .lstore 5, 2), (131, .iconst 0, 1), (132, .istore 7, 2), (134, .iload 7, 2), (136, .aload_n 0, 1), (137, .getfield 43, 3), (140, .if_icmp .ge 44, 3), (143, .iload 7, 2), (145, .bipush 16, 2), (147, .if_icmp .ge 37, 3), (150, .aload_n 0, 1), (151, .getfield 29, 3), (154, .iload 7, 2), (156, .dup2, 1), (157, .laload, 1), (158, .aload_n 2, 1), (159, .iload 4, 2), (161, .laload, 1), (162, .iload 7, 2), (164, .invokestatic 79, 3), (167, .ifCond .eq 8, 3), (170, .lload 5, 2), (172, .goto 4, 3), (175, .lconst 0, 1), (176, .ladd, 1), (177, .lastore, 1), (178, .iinc 7 1, 3), (181, .goto (-47), 3), (184, .iinc 4 1, 3), (187, .goto (-135), 3), (190, .lconst 0, 1), (191, .lstore 4, 2), (193, .iconst 0, 1), (194, .istore 6, 2), (196, .iload 6, 2), (198, .aload_n 0, 1), (199, .getfield 43, 3), (202, .if_icmp .ge 58, 3), (205, .iload 6, 2), (207, .bipush 16, 2), (209, .if_icmp .ge 51, 3), (212, .aload_n 1, 1), (213, .iload_n 3, 1), (214, .iload 6, 2), (216, .iadd, 1), (217, .ldc2_w 118, 3), (220, .aload_n 0, 1), (221, .getfield 26, 3), (224, .iload 6, 2), (226, .laload, 1), (227, .lmul, 1), (228, .aload_n 0, 1), (229, .getfield 29, 3), (232, .iload 6, 2), (234, .laload, 1)] : List (Nat × Instr × Nat)), decode cX8_changeHues t.1 = .ok (t.2.1, t.2.2) := by decide +kernel
theorem DX8_changeHues_2 : ∀ t ∈ ([(235, .ladd, 1), (236, .invokestatic 114, 3), (239, .lastore, 1), (240, .lload 4, 2), (242, .aload_n 1, 1), (243, .iload_n 3, 1), (244, .iload 6, 2), (246, .iadd, 1), (247, .laload, 1), (248, .invokestatic 114, 3), (251, .ladd, 1), (252, .lstore 4, 2), (254, .iinc 6 1, 3), (257, .goto (-61), 3), (260, .lload 4, 2), (262, .lreturn, 1)] : List (Nat × Instr × Nat)), decode cX8_changeHues t.1 = .ok (t.2.1, t.2.2) := by decide +kernel
noncomputable def f_X8_changeHues_3 (a0 : Nat) (na0 : Nat) (a1 : Nat) (na1 : Nat) (b3 : Int32) : (OS × Int32) → Option ((OS × Int32) ⊕ (OS)) := fun z => match z with | (s_t, b4) => (if (s_t.1 0) ≤ b4 then some (.inr s_t) else (if 16 ≤ b4 then some (.inr s_t) else if inb (b3 + b4) na0 = true then (f_X8_mix (s_t.2.2.2 a0 (b3 + b4 : Int32).toNatClampNeg)).bind (fun x4 => if inb b4 16 = true then bnd (oB s_t 6 (vp_updL (s_t.2.2.2 6) (b4 : Int32).toNatClampNeg x4)) (fun t8 => bnd (oB t8 7 (vp_updL (t8.2.2.2 7) (b4 : Int32).toNatClampNeg 0)) (fun t10 => bnd (b4 + 1 : Int32) (fun v12 => some (.inl ((t10, v12)))))) else none) else none))
noncomputable def f_X8_changeHues_74 (s_t : OS) (a0 : Nat) (na0 : Nat) (a1 : Nat) (na1 : Nat) (b3 : Int32) (b4 : Int32) : (Int64 × Int32) → Option ((Int64 × Int32) ⊕ (Int64)) := fun z => match z with | (b5, b7) => (if (s_t.1 0) ≤ b7 then some (.inr b5) else (if 16 ≤ b7 then some (.inr b5) else if inb b4 na1 = true then (f_X10_has (s_t.2.2.2 a1 (b4 : Int32).toNatClampNeg) b7).bind (fun x22 => (if x22 = 0 then bnd (b5 + 0 : Int64) (fun v26 => bnd (b7 + 1 : Int32) (fun v28 => some (.inl ((v26, v28))))) else if inb b7 16 = true then bnd (b5 + (s_t.2.2.2 6 (b7 : Int32).toNatClampNeg) : Int64) (fun v31 => bnd (b7 + 1 : Int32) (fun v33 => some (.inl ((v31, v33))))) else none)) else none))
noncomputable def f_X8_changeHues_134 (a0 : Nat) (na0 : Nat) (a1 : Nat) (na1 : Nat) (b3 : Int32) (b4 : Int32) (b5 : Int64) : (OS × Int32) → Option ((OS × Int32) ⊕ (OS)) := fun z => match z with | (s_t, b7) => (if (s_t.1 0) ≤ b7 then some (.inr s_t) else (if 16 ≤ b7 then some (.inr s_t) else if inb b7 16 = true then if inb b4 na1 = true then (f_X10_has (s_t.2.2.2 a1 (b4 : Int32).toNatClampNeg) b7).bind (fun x45 => (if x45 = 0 then bnd (oB s_t 7 (vp_updL (s_t.2.2.2 7) (b7 : Int32).toNatClampNeg ((s_t.2.2.2 7 (b7 : Int32).toNatClampNeg) + 0))) (fun t49 => bnd (b7 + 1 : Int32) (fun v51 => some (.inl ((t49, v51))))) else bnd (oB s_t 7 (vp_updL (s_t.2.2.2 7) (b7 : Int32).toNatClampNeg ((s_t.2.2.2 7 (b7 : Int32).toNatClampNeg) + b5))) (fun t53 => bnd (b7 + 1 : Int32) (fun v55 => some (.inl ((t53, v55))))))) else none else none))
noncomputable def f_X8_changeHues_52 (a0 : Nat) (na0 : Nat) (a1 : Nat) (na1 : Nat) (b3 : Int32) : (OS × Int32) → Option ((OS × Int32) ⊕ (OS)) := fun z => match z with | (s_t, b4) => (if (s_t.1 1) ≤ b4 then some (.inr s_t) else (if 64 ≤ b4 then some (.inr s_t) else (lpv (f_X8_changeHues_74 s_t a0 na0 a1 na1 b3 b4) ((0, 0))).bind (fun x35 => (f_X8_mix x35).bind (fun x38 => (lpv (f_X8_changeHues_134 a0 na0 a1 na1 b3 b4 x38) ((s_t, 0))).bind (fun x57 => bnd (b4 + 1 : Int32) (fun v60 => some (.inl ((x57, v60)))))))))
noncomputable def f_X8_changeHues_196 (a0 : Nat) (na0 : Nat) (a1 : Nat) (na1 : Nat) (b3 : Int32) : (OS × Int64 × Int32) → Option ((OS × Int64 × Int32) ⊕ (OS × Int64)) := fun z => match z with | (s_t, b4, b6) => (if (s_t.1 0) ≤ b6 then some (.inr ((s_t, b4))) else (if 16 ≤ b6 then some (.inr ((s_t, b4))) else if inb b6 16 = true then (f_X8_mix (((3 : Int64) * (s_t.2.2.2 6 (b6 : Int32).toNatClampNeg)) + (s_t.2.2.2 7 (b6 : Int32).toNatClampNeg))).bind (fun x68 => if inb (b3 + b6) na0 = true then bnd (oB s_t a0 (vp_updL (s_t.2.2.2 a0) (b3 + b6 : Int32).toNatClampNeg x68)) (fun t72 => (f_X8_mix (t72.2.2.2 a0 (b3 + b6 : Int32).toNatClampNeg)).bind (fun x74 => bnd (b4 + x74 : Int64) (fun v77 => bnd (b6 + 1 : Int32) (fun v79 => some (.inl ((t72, v77, v79))))))) else none) else none))
noncomputable def f_X8_changeHues (st : OS) (a0 : Nat) (na0 : Nat) (a1 : Nat) (na1 : Nat) (a2 : Int32) : Option (Int64 × OS) := (lpv (f_X8_changeHues_3 a0 na0 a1 na1 a2) ((st, 0))).bind (fun x14 => (lpv (f_X8_changeHues_52 a0 na0 a1 na1 a2) ((x14, 0))).bind (fun x62 => (lpv (f_X8_changeHues_196 a0 na0 a1 na1 a2) ((x62, 0, 0))).bind (fun x81 => match x81 with | (t83, v84) => some ((v84, t83)))))
set_option maxHeartbeats 4000000 in
set_option maxRecDepth 100000 in
theorem w_X8_changeHues_3 {p : Program} {l : Launch} {e : Env} {s : State} {m : MethodId} {args : Array Value} {below : List Frame} {meth : Method} {c : Code} {Q : State → Prop} {G : mG} {h : mM} {q : Nat → Nat} {a0 : Nat} {na0 : Nat} {a1 : Nat} {na1 : Nat} (hq : oinj LX8 q) (hka0 : a0 < 10) (hsa0 : LX8.2.2 a0 = (3, na0)) (hka1 : a1 < 10) (hsa1 : LX8.2.2 a1 = (3, na1)) (X : mX G p m c cX8_changeHues 8 s args RX8) (b3 : Int32) : ∀ (z : OS × Int32) (r : OS), lpv (f_X8_changeHues_3 a0 na0 a1 na1 b3) z = some r → ∀ (H : Heap) (locs : List Loc) (ls : Array Slot), mH G (oset LX8 G q z.1 h) s.heap H locs → lv_has ls 8 [(0, .ref (q 10)), (1, .ref (q a0)), (2, .ref (q a1)), (3, .int b3), (4, .int z.2)] → (∀ (H : Heap) (locs : List Loc) (ls : Array Slot), mH G (oset LX8 G q r h) s.heap H locs → lv_has ls 8 [(0, .ref (q 10)), (1, .ref (q a0)), (2, .ref (q a1)), (3, .int b3)] → W p l e rm_X8_changeHues s m args below meth c H locs 0 0 Q (F0 m 49 ls [])) → W p l e rm_X8_changeHues s m args below meth c H locs 0 0 Q (F0 m 3 ls []) := by
  refine lpv_rec ?_
  intro z r x hF hx H locs ls hH hl K0
  obtain ⟨s_t, b4⟩ := z
  dsimp only [f_X8_changeHues_3] at hF
  try dsimp only at hH hl
  refine lv_iload X.x X.b (dk DX8_changeHues_0 2 rfl) (lv_at hl 4 rfl) ?_
  refine lv_aload_n X.x X.b (dk DX8_changeHues_0 3 rfl) rfl (lv_at hl 0 rfl) ?_
  refine og_getI OX8 X hq hH 0 (by decide) rfl kF_X8_43 (dk DX8_changeHues_0 4 rfl) ?_
  refine lv_icmp_ge (tgt := 49) X.x X.b (dk DX8_changeHues_0 5 rfl) (by decide) (fun c1 => ?_) (fun c1 => ?_)
  · replace hF := if_t hF c1
    have hr9 := lp_r hF hx
    subst hr9
    exact K0 _ _ _ hH (lv_sub hl [0, 1, 2, 3] rfl)
  · replace hF := if_f hF c1
    refine lv_iload X.x X.b (dk DX8_changeHues_0 6 rfl) (lv_at hl 4 rfl) ?_
    refine lv_bipush (v := 16) X.x X.b (dk DX8_changeHues_0 7 rfl) (by decide) ?_
    refine lv_icmp_ge (tgt := 49) X.x X.b (dk DX8_changeHues_0 8 rfl) (by decide) (fun c2 => ?_) (fun c2 => ?_)
    · replace hF := if_t hF c2
      have hr9 := lp_r hF hx
      subst hr9
      exact K0 _ _ _ hH (lv_sub hl [0, 1, 2, 3] rfl)
    · replace hF := if_f hF c2
      refine lv_aload_n X.x X.b (dk DX8_changeHues_0 9 rfl) rfl (lv_at hl 0 rfl) ?_
      refine og_getR (t := 1) OX8 X hq hH 6 (by decide) rfl kF_X8_26 (dk DX8_changeHues_0 10 rfl) ?_
      refine lv_iload X.x X.b (dk DX8_changeHues_0 11 rfl) (lv_at hl 4 rfl) ?_
      refine lv_aload_n X.x X.b (dk DX8_changeHues_0 12 rfl) rfl (lv_at hl 1 rfl) ?_
      refine lv_iload_n X.x X.b (dk DX8_changeHues_0 13 rfl) rfl (lv_at hl 3 rfl) ?_
      refine lv_iload X.x X.b (dk DX8_changeHues_0 14 rfl) (lv_at hl 4 rfl) ?_
      refine lv_iadd X.x X.b (dk DX8_changeHues_0 15 rfl) ?_
      obtain ⟨c3, hF⟩ := gd hF
      refine og_lald X hq hH a0 hka0 hsa0 (inb_in c3) (dk DX8_changeHues_0 16 rfl) ?_
      obtain ⟨x4, e5, hF⟩ := bd hF
      refine mr_cl0 hH ⟨rfl, rfl⟩ (mr_runS (As := [.long (s_t.2.2.2 a0 (b3 + b4 : Int32).toNatClampNeg)]) (rest := [.int b4, .ref (q 6)]) X hH (c_X8_mix e5) kM_X8_114 kT_X8_mix kN_X8 kC_X8_mix hd_X8_mix ⟨Nat.le_of_ble_eq_true rfl, Nat.le_of_ble_eq_true rfl⟩ rfl hl.1 (Nat.le_of_ble_eq_true rfl) (dk DX8_changeHues_0 17 rfl) ⟨Nat.zero_le _, Nat.zero_le _⟩) (fun r h1 H locs hp hH => ?_)
      obtain ⟨hr1, hr2⟩ := hp; rw [hr1]; rw [hr2] at hH; clear hr1 hr2
      obtain ⟨c7, hF⟩ := gd hF
      refine og_last X hq hH 6 (by decide) rfl (inb_in c7) (dk DX8_changeHues_0 18 rfl) (fun H locs hH => ?_)
      obtain ⟨t8, e9⟩ : ∃ y, y = oB s_t 6 (vp_updL (s_t.2.2.2 6) (b4 : Int32).toNatClampNeg x4) := ⟨_, rfl⟩
      rw [← e9] at hH
      replace hF := bnd_e hF e9
      refine lv_aload_n X.x X.b (dk DX8_changeHues_0 19 rfl) rfl (lv_at hl 0 rfl) ?_
      refine og_getR (t := 1) OX8 X hq hH 7 (by decide) rfl kF_X8_29 (dk DX8_changeHues_0 20 rfl) ?_
      refine lv_iload X.x X.b (dk DX8_changeHues_0 21 rfl) (lv_at hl 4 rfl) ?_
      refine lv_lconst (v := 0) X.x X.b (dk DX8_changeHues_0 22 rfl) (by decide) ?_
      refine og_last X hq hH 7 (by decide) rfl (inb_in c7) (dk DX8_changeHues_0 23 rfl) (fun H locs hH => ?_)
      obtain ⟨t10, e11⟩ : ∃ y, y = oB t8 7 (vp_updL (t8.2.2.2 7) (b4 : Int32).toNatClampNeg 0) := ⟨_, rfl⟩
      rw [← e11] at hH
      replace hF := bnd_e hF e11
      obtain ⟨v12, e13⟩ : ∃ y : Int32, y = b4 + 1 := ⟨_, rfl⟩
      replace hF := bnd_e hF e13
      refine lv_iinc (v := v12) (lv' := [(4, .int v12), (0, .ref (q 10)), (1, .ref (q a0)), (2, .ref (q a1)), (3, .int b3)]) X.x X.b (dk DX8_changeHues_0 24 rfl) hl (k := 4) rfl (by rw [e13]; rfl) (by decide) rfl (fun ls hl => ?_)
      replace hl : lv_has ls 8 [(0, .ref (q 10)), (1, .ref (q a0)), (2, .ref (q a1)), (3, .int b3), (4, .int v12)] := lv_sub hl [1, 2, 3, 4, 0] rfl
      refine lv_goto (tgt := 3) X.x X.b (dk DX8_changeHues_0 25 rfl) (by decide) ?_
      exact (lp_l hF hx) _ _ _ hH (lv_sub hl [0, 1, 2, 3, 4] rfl) K0
set_option maxHeartbeats 4000000 in
set_option maxRecDepth 100000 in
theorem w_X8_changeHues_74 {p : Program} {l : Launch} {e : Env} {s : State} {m : MethodId} {args : Array Value} {below : List Frame} {meth : Method} {c : Code} {Q : State → Prop} {G : mG} {h : mM} {q : Nat → Nat} {a0 : Nat} {na0 : Nat} {a1 : Nat} {na1 : Nat} (hq : oinj LX8 q) (hka0 : a0 < 10) (hsa0 : LX8.2.2 a0 = (3, na0)) (hka1 : a1 < 10) (hsa1 : LX8.2.2 a1 = (3, na1)) (X : mX G p m c cX8_changeHues 8 s args RX8) (s_t : OS) (b3 : Int32) (b4 : Int32) : ∀ (z : Int64 × Int32) (r : Int64), lpv (f_X8_changeHues_74 s_t a0 na0 a1 na1 b3 b4) z = some r → ∀ (H : Heap) (locs : List Loc) (ls : Array Slot), mH G (oset LX8 G q s_t h) s.heap H locs → lv_has ls 8 [(0, .ref (q 10)), (1, .ref (q a0)), (2, .ref (q a1)), (3, .int b3), (4, .int b4), (5, .long z.1), (7, .int z.2)] → (∀ (H : Heap) (locs : List Loc) (ls : Array Slot), mH G (oset LX8 G q s_t h) s.heap H locs → lv_has ls 8 [(0, .ref (q 10)), (1, .ref (q a0)), (2, .ref (q a1)), (3, .int b3), (4, .int b4), (5, .long r)] → W p l e rm_X8_changeHues s m args below meth c H locs 0 0 Q (F0 m 124 ls [])) → W p l e rm_X8_changeHues s m args below meth c H locs 0 0 Q (F0 m 74 ls []) := by
  refine lpv_rec ?_
  intro z r x hF hx H locs ls hH hl K0
  obtain ⟨b5, b7⟩ := z
  dsimp only [f_X8_changeHues_74] at hF
  try dsimp only at hH hl
  refine lv_iload X.x X.b (dk DX8_changeHues_0 39 rfl) (lv_at hl 6 rfl) ?_
  refine lv_aload_n X.x X.b (dk DX8_changeHues_0 40 rfl) rfl (lv_at hl 0 rfl) ?_
  refine og_getI OX8 X hq hH 0 (by decide) rfl kF_X8_43 (dk DX8_changeHues_0 41 rfl) ?_
  refine lv_icmp_ge (tgt := 124) X.x X.b (dk DX8_changeHues_0 42 rfl) (by decide) (fun c19 => ?_) (fun c19 => ?_)
  · replace hF := if_t hF c19
    have hr9 := lp_r hF hx
    subst hr9
    exact K0 _ _ _ hH (lv_sub hl [0, 1, 2, 3, 4, 5] rfl)
  · replace hF := if_f hF c19
    refine lv_iload X.x X.b (dk DX8_changeHues_0 43 rfl) (lv_at hl 6 rfl) ?_
    refine lv_bipush (v := 16) X.x X.b (dk DX8_changeHues_0 44 rfl) (by decide) ?_
    refine lv_icmp_ge (tgt := 124) X.x X.b (dk DX8_changeHues_0 45 rfl) (by decide) (fun c20 => ?_) (fun c20 => ?_)
    · replace hF := if_t hF c20
      have hr9 := lp_r hF hx
      subst hr9
      exact K0 _ _ _ hH (lv_sub hl [0, 1, 2, 3, 4, 5] rfl)
    · replace hF := if_f hF c20
      refine lv_lload X.x X.b (dk DX8_changeHues_0 46 rfl) (lv_at hl 5 rfl) ?_
      refine lv_aload_n X.x X.b (dk DX8_changeHues_0 47 rfl) rfl (lv_at hl 2 rfl) ?_
      refine lv_iload X.x X.b (dk DX8_changeHues_0 48 rfl) (lv_at hl 4 rfl) ?_
      obtain ⟨c21, hF⟩ := gd hF
      refine og_lald X hq hH a1 hka1 hsa1 (inb_in c21) (dk DX8_changeHues_0 49 rfl) ?_
      refine lv_iload X.x X.b (dk DX8_changeHues_0 50 rfl) (lv_at hl 6 rfl) ?_
      obtain ⟨x22, e23, hF⟩ := bd hF
      refine mr_ci0 hH ⟨rfl, rfl⟩ (mr_runS (As := [.long (s_t.2.2.2 a1 (b4 : Int32).toNatClampNeg), .int b7]) (rest := [.long b5]) X hH (c_X10_has e23) kM_X8_79 kT_X10_has kN_X10 kC_X10_has hd_X10_has ⟨Nat.le_of_ble_eq_true rfl, Nat.le_of_ble_eq_true rfl⟩ rfl hl.1 (Nat.le_of_ble_eq_true rfl) (dk DX8_changeHues_0 51 rfl) ⟨Nat.zero_le _, Nat.zero_le _⟩) (fun r h1 H locs hp hH => ?_)
      obtain ⟨hr1, hr2⟩ := hp; rw [hr1]; rw [hr2] at hH; clear hr1 hr2
      refine lv_if_eq (tgt := 114) X.x X.b (dk DX8_changeHues_0 52 rfl) (by decide) (fun c25 => ?_) (fun c25 => ?_)
      · replace hF := if_t hF c25
        refine lv_lconst (v := 0) X.x X.b (dk DX8_changeHues_0 58 rfl) (by decide) ?_
        refine lv_ladd X.x X.b (dk DX8_changeHues_0 59 rfl) ?_
        refine lv_topl (fun v26 e27 => ?_)
        replace hF := bnd_e hF e27
        refine lv_lstore (lv' := [(5, .long v26), (0, .ref (q 10)), (1, .ref (q a0)), (2, .ref (q a1)), (3, .int b3), (4, .int b4), (7, .int b7)]) X.x X.b (dk DX8_changeHues_1 0 rfl) hl (by decide) rfl (fun ls hl => ?_)
        replace hl : lv_has ls 8 [(0, .ref (q 10)), (1, .ref (q a0)), (2, .ref (q a1)), (3, .int b3), (4, .int b4), (5, .long v26), (7, .int b7)] := lv_sub hl [1, 2, 3, 4, 5, 0, 6] rfl
        obtain ⟨v28, e29⟩ : ∃ y : Int32, y = b7 + 1 := ⟨_, rfl⟩
        replace hF := bnd_e hF e29
        refine lv_iinc (v := v28) (lv' := [(7, .int v28), (0, .ref (q 10)), (1, .ref (q a0)), (2, .ref (q a1)), (3, .int b3), (4, .int b4), (5, .long v26)]) X.x X.b (dk DX8_changeHues_1 1 rfl) hl (k := 6) rfl (by rw [e29]; rfl) (by decide) rfl (fun ls hl => ?_)
        replace hl : lv_has ls 8 [(0, .ref (q 10)), (1, .ref (q a0)), (2, .ref (q a1)), (3, .int b3), (4, .int b4), (5, .long v26), (7, .int v28)] := lv_sub hl [1, 2, 3, 4, 5, 6, 0] rfl
        refine lv_goto (tgt := 74) X.x X.b (dk DX8_changeHues_1 2 rfl) (by decide) ?_
        exact (lp_l hF hx) _ _ _ hH (lv_sub hl [0, 1, 2, 3, 4, 5, 6] rfl) K0
      · replace hF := if_f hF c25
        refine lv_aload_n X.x X.b (dk DX8_changeHues_0 53 rfl) rfl (lv_at hl 0 rfl) ?_
        refine og_getR (t := 1) OX8 X hq hH 6 (by decide) rfl kF_X8_26 (dk DX8_changeHues_0 54 rfl) ?_
        refine lv_iload X.x X.b (dk DX8_changeHues_0 55 rfl) (lv_at hl 6 rfl) ?_
        obtain ⟨c30, hF⟩ := gd hF
        refine og_lald X hq hH 6 (by decide) rfl (inb_in c30) (dk DX8_changeHues_0 56 rfl) ?_
        refine lv_goto (tgt := 115) X.x X.b (dk DX8_changeHues_0 57 rfl) (by decide) ?_
        refine lv_ladd X.x X.b (dk DX8_changeHues_0 59 rfl) ?_
        refine lv_topl (fun v31 e32 => ?_)
        replace hF := bnd_e hF e32
        refine lv_lstore (lv' := [(5, .long v31), (0, .ref (q 10)), (1, .ref (q a0)), (2, .ref (q a1)), (3, .int b3), (4, .int b4), (7, .int b7)]) X.x X.b (dk DX8_changeHues_1 0 rfl) hl (by decide) rfl (fun ls hl => ?_)
        replace hl : lv_has ls 8 [(0, .ref (q 10)), (1, .ref (q a0)), (2, .ref (q a1)), (3, .int b3), (4, .int b4), (5, .long v31), (7, .int b7)] := lv_sub hl [1, 2, 3, 4, 5, 0, 6] rfl
        obtain ⟨v33, e34⟩ : ∃ y : Int32, y = b7 + 1 := ⟨_, rfl⟩
        replace hF := bnd_e hF e34
        refine lv_iinc (v := v33) (lv' := [(7, .int v33), (0, .ref (q 10)), (1, .ref (q a0)), (2, .ref (q a1)), (3, .int b3), (4, .int b4), (5, .long v31)]) X.x X.b (dk DX8_changeHues_1 1 rfl) hl (k := 6) rfl (by rw [e34]; rfl) (by decide) rfl (fun ls hl => ?_)
        replace hl : lv_has ls 8 [(0, .ref (q 10)), (1, .ref (q a0)), (2, .ref (q a1)), (3, .int b3), (4, .int b4), (5, .long v31), (7, .int v33)] := lv_sub hl [1, 2, 3, 4, 5, 6, 0] rfl
        refine lv_goto (tgt := 74) X.x X.b (dk DX8_changeHues_1 2 rfl) (by decide) ?_
        exact (lp_l hF hx) _ _ _ hH (lv_sub hl [0, 1, 2, 3, 4, 5, 6] rfl) K0
set_option maxHeartbeats 4000000 in
set_option maxRecDepth 100000 in
theorem w_X8_changeHues_134 {p : Program} {l : Launch} {e : Env} {s : State} {m : MethodId} {args : Array Value} {below : List Frame} {meth : Method} {c : Code} {Q : State → Prop} {G : mG} {h : mM} {q : Nat → Nat} {a0 : Nat} {na0 : Nat} {a1 : Nat} {na1 : Nat} (hq : oinj LX8 q) (hka0 : a0 < 10) (hsa0 : LX8.2.2 a0 = (3, na0)) (hka1 : a1 < 10) (hsa1 : LX8.2.2 a1 = (3, na1)) (X : mX G p m c cX8_changeHues 8 s args RX8) (b3 : Int32) (b4 : Int32) (b5 : Int64) : ∀ (z : OS × Int32) (r : OS), lpv (f_X8_changeHues_134 a0 na0 a1 na1 b3 b4 b5) z = some r → ∀ (H : Heap) (locs : List Loc) (ls : Array Slot), mH G (oset LX8 G q z.1 h) s.heap H locs → lv_has ls 8 [(0, .ref (q 10)), (1, .ref (q a0)), (2, .ref (q a1)), (3, .int b3), (4, .int b4), (5, .long b5), (7, .int z.2)] → (∀ (H : Heap) (locs : List Loc) (ls : Array Slot), mH G (oset LX8 G q r h) s.heap H locs → lv_has ls 8 [(0, .ref (q 10)), (1, .ref (q a0)), (2, .ref (q a1)), (3, .int b3), (4, .int b4)] → W p l e rm_X8_changeHues s m args below meth c H locs 0 0 Q (F0 m 184 ls [])) → W p l e rm_X8_changeHues s m args below meth c H locs 0 0 Q (F0 m 134 ls []) := by
  refine lpv_rec ?_
  intro z r x hF hx H locs ls hH hl K0
  obtain ⟨s_t, b7⟩ := z
  dsimp only [f_X8_changeHues_134] at hF
  try dsimp only at hH hl
  refine lv_iload X.x X.b (dk DX8_changeHues_1 8 rfl) (lv_at hl 6 rfl) ?_
  refine lv_aload_n X.x X.b (dk DX8_changeHues_1 9 rfl) rfl (lv_at hl 0 rfl) ?_
  refine og_getI OX8 X hq hH 0 (by decide) rfl kF_X8_43 (dk DX8_changeHues_1 10 rfl) ?_
  refine lv_icmp_ge (tgt := 184) X.x X.b (dk DX8_changeHues_1 11 rfl) (by decide) (fun c41 => ?_) (fun c41 => ?_)
  · replace hF := if_t hF c41
    have hr9 := lp_r hF hx
    subst hr9
    exact K0 _ _ _ hH (lv_sub hl [0, 1, 2, 3, 4] rfl)
  · replace hF := if_f hF c41
    refine lv_iload X.x X.b (dk DX8_changeHues_1 12 rfl) (lv_at hl 6 rfl) ?_
    refine lv_bipush (v := 16) X.x X.b (dk DX8_changeHues_1 13 rfl) (by decide) ?_
    refine lv_icmp_ge (tgt := 184) X.x X.b (dk DX8_changeHues_1 14 rfl) (by decide) (fun c42 => ?_) (fun c42 => ?_)
    · replace hF := if_t hF c42
      have hr9 := lp_r hF hx
      subst hr9
      exact K0 _ _ _ hH (lv_sub hl [0, 1, 2, 3, 4] rfl)
    · replace hF := if_f hF c42
      refine lv_aload_n X.x X.b (dk DX8_changeHues_1 15 rfl) rfl (lv_at hl 0 rfl) ?_
      refine og_getR (t := 1) OX8 X hq hH 7 (by decide) rfl kF_X8_29 (dk DX8_changeHues_1 16 rfl) ?_
      refine lv_iload X.x X.b (dk DX8_changeHues_1 17 rfl) (lv_at hl 6 rfl) ?_
      refine lv_dup2_11 X.x X.b (dk DX8_changeHues_1 18 rfl) rfl rfl ?_
      obtain ⟨c43, hF⟩ := gd hF
      refine og_lald X hq hH 7 (by decide) rfl (inb_in c43) (dk DX8_changeHues_1 19 rfl) ?_
      refine lv_aload_n X.x X.b (dk DX8_changeHues_1 20 rfl) rfl (lv_at hl 2 rfl) ?_
      refine lv_iload X.x X.b (dk DX8_changeHues_1 21 rfl) (lv_at hl 4 rfl) ?_
      obtain ⟨c44, hF⟩ := gd hF
      refine og_lald X hq hH a1 hka1 hsa1 (inb_in c44) (dk DX8_changeHues_1 22 rfl) ?_
      refine lv_iload X.x X.b (dk DX8_changeHues_1 23 rfl) (lv_at hl 6 rfl) ?_
      obtain ⟨x45, e46, hF⟩ := bd hF
      refine mr_ci0 hH ⟨rfl, rfl⟩ (mr_runS (As := [.long (s_t.2.2.2 a1 (b4 : Int32).toNatClampNeg), .int b7]) (rest := [.long (s_t.2.2.2 7 (b7 : Int32).toNatClampNeg), .int b7, .ref (q 7)]) X hH (c_X10_has e46) kM_X8_79 kT_X10_has kN_X10 kC_X10_has hd_X10_has ⟨Nat.le_of_ble_eq_true rfl, Nat.le_of_ble_eq_true rfl⟩ rfl hl.1 (Nat.le_of_ble_eq_true rfl) (dk DX8_changeHues_1 24 rfl) ⟨Nat.zero_le _, Nat.zero_le _⟩) (fun r h1 H locs hp hH => ?_)
      obtain ⟨hr1, hr2⟩ := hp; rw [hr1]; rw [hr2] at hH; clear hr1 hr2
      refine lv_if_eq (tgt := 175) X.x X.b (dk DX8_changeHues_1 25 rfl) (by decide) (fun c48 => ?_) (fun c48 => ?_)
      · replace hF := if_t hF c48
        refine lv_lconst (v := 0) X.x X.b (dk DX8_changeHues_1 28 rfl) (by decide) ?_
        refine lv_ladd X.x X.b (dk DX8_changeHues_1 29 rfl) ?_
        refine og_last X hq hH 7 (by decide) rfl (inb_in c43) (dk DX8_changeHues_1 30 rfl) (fun H locs hH => ?_)
        obtain ⟨t49, e50⟩ : ∃ y, y = oB s_t 7 (vp_updL (s_t.2.2.2 7) (b7 : Int32).toNatClampNeg ((s_t.2.2.2 7 (b7 : Int32).toNatClampNeg) + 0)) := ⟨_, rfl⟩
        rw [← e50] at hH
        replace hF := bnd_e hF e50
        obtain ⟨v51, e52⟩ : ∃ y : Int32, y = b7 + 1 := ⟨_, rfl⟩
        replace hF := bnd_e hF e52
        refine lv_iinc (v := v51) (lv' := [(7, .int v51), (0, .ref (q 10)), (1, .ref (q a0)), (2, .ref (q a1)), (3, .int b3), (4, .int b4), (5, .long b5)]) X.x X.b (dk DX8_changeHues_1 31 rfl) hl (k := 6) rfl (by rw [e52]; rfl) (by decide) rfl (fun ls hl => ?_)
        replace hl : lv_has ls 8 [(0, .ref (q 10)), (1, .ref (q a0)), (2, .ref (q a1)), (3, .int b3), (4, .int b4), (5, .long b5), (7, .int v51)] := lv_sub hl [1, 2, 3, 4, 5, 6, 0] rfl
        refine lv_goto (tgt := 134) X.x X.b (dk DX8_changeHues_1 32 rfl) (by decide) ?_
        exact (lp_l hF hx) _ _ _ hH (lv_sub hl [0, 1, 2, 3, 4, 5, 6] rfl) K0
      · replace hF := if_f hF c48
        refine lv_lload X.x X.b (dk DX8_changeHues_1 26 rfl) (lv_at hl 5 rfl) ?_
        refine lv_goto (tgt := 176) X.x X.b (dk DX8_changeHues_1 27 rfl) (by decide) ?_
        refine lv_ladd X.x X.b (dk DX8_changeHues_1 29 rfl) ?_
        refine og_last X hq hH 7 (by decide) rfl (inb_in c43) (dk DX8_changeHues_1 30 rfl) (fun H locs hH => ?_)
        obtain ⟨t53, e54⟩ : ∃ y, y = oB s_t 7 (vp_updL (s_t.2.2.2 7) (b7 : Int32).toNatClampNeg ((s_t.2.2.2 7 (b7 : Int32).toNatClampNeg) + b5)) := ⟨_, rfl⟩
        rw [← e54] at hH
        replace hF := bnd_e hF e54
        obtain ⟨v55, e56⟩ : ∃ y : Int32, y = b7 + 1 := ⟨_, rfl⟩
        replace hF := bnd_e hF e56
        refine lv_iinc (v := v55) (lv' := [(7, .int v55), (0, .ref (q 10)), (1, .ref (q a0)), (2, .ref (q a1)), (3, .int b3), (4, .int b4), (5, .long b5)]) X.x X.b (dk DX8_changeHues_1 31 rfl) hl (k := 6) rfl (by rw [e56]; rfl) (by decide) rfl (fun ls hl => ?_)
        replace hl : lv_has ls 8 [(0, .ref (q 10)), (1, .ref (q a0)), (2, .ref (q a1)), (3, .int b3), (4, .int b4), (5, .long b5), (7, .int v55)] := lv_sub hl [1, 2, 3, 4, 5, 6, 0] rfl
        refine lv_goto (tgt := 134) X.x X.b (dk DX8_changeHues_1 32 rfl) (by decide) ?_
        exact (lp_l hF hx) _ _ _ hH (lv_sub hl [0, 1, 2, 3, 4, 5, 6] rfl) K0
set_option maxHeartbeats 4000000 in
set_option maxRecDepth 100000 in
theorem w_X8_changeHues_52 {p : Program} {l : Launch} {e : Env} {s : State} {m : MethodId} {args : Array Value} {below : List Frame} {meth : Method} {c : Code} {Q : State → Prop} {G : mG} {h : mM} {q : Nat → Nat} {a0 : Nat} {na0 : Nat} {a1 : Nat} {na1 : Nat} (hq : oinj LX8 q) (hka0 : a0 < 10) (hsa0 : LX8.2.2 a0 = (3, na0)) (hka1 : a1 < 10) (hsa1 : LX8.2.2 a1 = (3, na1)) (X : mX G p m c cX8_changeHues 8 s args RX8) (b3 : Int32) : ∀ (z : OS × Int32) (r : OS), lpv (f_X8_changeHues_52 a0 na0 a1 na1 b3) z = some r → ∀ (H : Heap) (locs : List Loc) (ls : Array Slot), mH G (oset LX8 G q z.1 h) s.heap H locs → lv_has ls 8 [(0, .ref (q 10)), (1, .ref (q a0)), (2, .ref (q a1)), (3, .int b3), (4, .int z.2)] → (∀ (H : Heap) (locs : List Loc) (ls : Array Slot), mH G (oset LX8 G q r h) s.heap H locs → lv_has ls 8 [(0, .ref (q 10)), (1, .ref (q a0)), (3, .int b3)] → W p l e rm_X8_changeHues s m args below meth c H locs 0 0 Q (F0 m 190 ls [])) → W p l e rm_X8_changeHues s m args below meth c H locs 0 0 Q (F0 m 52 ls []) := by
  refine lpv_rec ?_
  intro z r x hF hx H locs ls hH hl K0
  obtain ⟨s_t, b4⟩ := z
  dsimp only [f_X8_changeHues_52] at hF
  try dsimp only at hH hl
  refine lv_iload X.x X.b (dk DX8_changeHues_0 28 rfl) (lv_at hl 4 rfl) ?_
  refine lv_aload_n X.x X.b (dk DX8_changeHues_0 29 rfl) rfl (lv_at hl 0 rfl) ?_
  refine og_getI OX8 X hq hH 1 (by decide) rfl kF_X8_75 (dk DX8_changeHues_0 30 rfl) ?_
  refine lv_icmp_ge (tgt := 190) X.x X.b (dk DX8_changeHues_0 31 rfl) (by decide) (fun c17 => ?_) (fun c17 => ?_)
  · replace hF := if_t hF c17
    have hr9 := lp_r hF hx
    subst hr9
    exact K0 _ _ _ hH (lv_sub hl [0, 1, 3] rfl)
  · replace hF := if_f hF c17
    refine lv_iload X.x X.b (dk DX8_changeHues_0 32 rfl) (lv_at hl 4 rfl) ?_
    refine lv_bipush (v := 64) X.x X.b (dk DX8_changeHues_0 33 rfl) (by decide) ?_
    refine lv_icmp_ge (tgt := 190) X.x X.b (dk DX8_changeHues_0 34 rfl) (by decide) (fun c18 => ?_) (fun c18 => ?_)
    · replace hF := if_t hF c18
      have hr9 := lp_r hF hx
      subst hr9
      exact K0 _ _ _ hH (lv_sub hl [0, 1, 3] rfl)
    · replace hF := if_f hF c18
      refine lv_lconst (v := 0) X.x X.b (dk DX8_changeHues_0 35 rfl) (by decide) ?_
      refine lv_lstore (lv' := [(5, .long 0), (0, .ref (q 10)), (1, .ref (q a0)), (2, .ref (q a1)), (3, .int b3), (4, .int b4)]) X.x X.b (dk DX8_changeHues_0 36 rfl) hl (by decide) rfl (fun ls hl => ?_)
      replace hl : lv_has ls 8 [(0, .ref (q 10)), (1, .ref (q a0)), (2, .ref (q a1)), (3, .int b3), (4, .int b4), (5, .long 0)] := lv_sub hl [1, 2, 3, 4, 5, 0] rfl
      refine lv_iconst (v := 0) X.x X.b (dk DX8_changeHues_0 37 rfl) (by decide) ?_
      refine lv_istore (lv' := [(7, .int 0), (0, .ref (q 10)), (1, .ref (q a0)), (2, .ref (q a1)), (3, .int b3), (4, .int b4), (5, .long 0)]) X.x X.b (dk DX8_changeHues_0 38 rfl) hl (by decide) rfl (fun ls hl => ?_)
      replace hl : lv_has ls 8 [(0, .ref (q 10)), (1, .ref (q a0)), (2, .ref (q a1)), (3, .int b3), (4, .int b4), (5, .long 0), (7, .int 0)] := lv_sub hl [1, 2, 3, 4, 5, 6, 0] rfl
      obtain ⟨x35, e36, hF⟩ := bd hF
      replace hl : lv_has ls 8 [(0, .ref (q 10)), (1, .ref (q a0)), (2, .ref (q a1)), (3, .int b3), (4, .int b4), (5, .long 0), (7, .int 0)] := lv_sub hl [0, 1, 2, 3, 4, 5, 6] rfl
      refine w_X8_changeHues_74 hq hka0 hsa0 hka1 hsa1 X s_t b3 b4 _ _ e36 _ _ _ hH hl (fun H locs ls hH hl => ?_)
      refine lv_lload X.x X.b (dk DX8_changeHues_1 3 rfl) (lv_at hl 5 rfl) ?_
      obtain ⟨x38, e39, hF⟩ := bd hF
      refine mr_cl0 hH ⟨rfl, rfl⟩ (mr_runS (As := [.long x35]) (rest := []) X hH (c_X8_mix e39) kM_X8_114 kT_X8_mix kN_X8 kC_X8_mix hd_X8_mix ⟨Nat.le_of_ble_eq_true rfl, Nat.le_of_ble_eq_true rfl⟩ rfl hl.1 (Nat.le_of_ble_eq_true rfl) (dk DX8_changeHues_1 4 rfl) ⟨Nat.zero_le _, Nat.zero_le _⟩) (fun r h1 H locs hp hH => ?_)
      obtain ⟨hr1, hr2⟩ := hp; rw [hr1]; rw [hr2] at hH; clear hr1 hr2
      refine lv_lstore (lv' := [(5, .long x38), (0, .ref (q 10)), (1, .ref (q a0)), (2, .ref (q a1)), (3, .int b3), (4, .int b4)]) X.x X.b (dk DX8_changeHues_1 5 rfl) hl (by decide) rfl (fun ls hl => ?_)
      replace hl : lv_has ls 8 [(0, .ref (q 10)), (1, .ref (q a0)), (2, .ref (q a1)), (3, .int b3), (4, .int b4), (5, .long x38)] := lv_sub hl [1, 2, 3, 4, 5, 0] rfl
      refine lv_iconst (v := 0) X.x X.b (dk DX8_changeHues_1 6 rfl) (by decide) ?_
      refine lv_istore (lv' := [(7, .int 0), (0, .ref (q 10)), (1, .ref (q a0)), (2, .ref (q a1)), (3, .int b3), (4, .int b4), (5, .long x38)]) X.x X.b (dk DX8_changeHues_1 7 rfl) hl (by decide) rfl (fun ls hl => ?_)
      replace hl : lv_has ls 8 [(0, .ref (q 10)), (1, .ref (q a0)), (2, .ref (q a1)), (3, .int b3), (4, .int b4), (5, .long x38), (7, .int 0)] := lv_sub hl [1, 2, 3, 4, 5, 6, 0] rfl
      obtain ⟨x57, e58, hF⟩ := bd hF
      replace hl : lv_has ls 8 [(0, .ref (q 10)), (1, .ref (q a0)), (2, .ref (q a1)), (3, .int b3), (4, .int b4), (5, .long x38), (7, .int 0)] := lv_sub hl [0, 1, 2, 3, 4, 5, 6] rfl
      refine w_X8_changeHues_134 hq hka0 hsa0 hka1 hsa1 X b3 b4 x38 _ _ e58 _ _ _ hH hl (fun H locs ls hH hl => ?_)
      obtain ⟨v60, e61⟩ : ∃ y : Int32, y = b4 + 1 := ⟨_, rfl⟩
      replace hF := bnd_e hF e61
      refine lv_iinc (v := v60) (lv' := [(4, .int v60), (0, .ref (q 10)), (1, .ref (q a0)), (2, .ref (q a1)), (3, .int b3)]) X.x X.b (dk DX8_changeHues_1 33 rfl) hl (k := 4) rfl (by rw [e61]; rfl) (by decide) rfl (fun ls hl => ?_)
      replace hl : lv_has ls 8 [(0, .ref (q 10)), (1, .ref (q a0)), (2, .ref (q a1)), (3, .int b3), (4, .int v60)] := lv_sub hl [1, 2, 3, 4, 0] rfl
      refine lv_goto (tgt := 52) X.x X.b (dk DX8_changeHues_1 34 rfl) (by decide) ?_
      exact (lp_l hF hx) _ _ _ hH (lv_sub hl [0, 1, 2, 3, 4] rfl) K0
set_option maxHeartbeats 4000000 in
set_option maxRecDepth 100000 in
theorem w_X8_changeHues_196 {p : Program} {l : Launch} {e : Env} {s : State} {m : MethodId} {args : Array Value} {below : List Frame} {meth : Method} {c : Code} {Q : State → Prop} {G : mG} {h : mM} {q : Nat → Nat} {a0 : Nat} {na0 : Nat} {a1 : Nat} {na1 : Nat} (hq : oinj LX8 q) (hka0 : a0 < 10) (hsa0 : LX8.2.2 a0 = (3, na0)) (hka1 : a1 < 10) (hsa1 : LX8.2.2 a1 = (3, na1)) (X : mX G p m c cX8_changeHues 8 s args RX8) (b3 : Int32) : ∀ (z : OS × Int64 × Int32) (r : OS × Int64), lpv (f_X8_changeHues_196 a0 na0 a1 na1 b3) z = some r → ∀ (H : Heap) (locs : List Loc) (ls : Array Slot), mH G (oset LX8 G q z.1 h) s.heap H locs → lv_has ls 8 [(0, .ref (q 10)), (1, .ref (q a0)), (3, .int b3), (4, .long z.2.1), (6, .int z.2.2)] → (∀ (H : Heap) (locs : List Loc) (ls : Array Slot), mH G (oset LX8 G q r.1 h) s.heap H locs → lv_has ls 8 [(4, .long r.2)] → W p l e rm_X8_changeHues s m args below meth c H locs 0 0 Q (F0 m 260 ls [])) → W p l e rm_X8_changeHues s m args below meth c H locs 0 0 Q (F0 m 196 ls []) := by
  refine lpv_rec ?_
  intro z r x hF hx H locs ls hH hl K0
  obtain ⟨s_t, b4, b6⟩ := z
  dsimp only [f_X8_changeHues_196] at hF
  try dsimp only at hH hl
  refine lv_iload X.x X.b (dk DX8_changeHues_1 39 rfl) (lv_at hl 4 rfl) ?_
  refine lv_aload_n X.x X.b (dk DX8_changeHues_1 40 rfl) rfl (lv_at hl 0 rfl) ?_
  refine og_getI OX8 X hq hH 0 (by decide) rfl kF_X8_43 (dk DX8_changeHues_1 41 rfl) ?_
  refine lv_icmp_ge (tgt := 260) X.x X.b (dk DX8_changeHues_1 42 rfl) (by decide) (fun c65 => ?_) (fun c65 => ?_)
  · replace hF := if_t hF c65
    have hr9 := lp_r hF hx
    subst hr9
    exact K0 _ _ _ hH (lv_sub hl [3] rfl)
  · replace hF := if_f hF c65
    refine lv_iload X.x X.b (dk DX8_changeHues_1 43 rfl) (lv_at hl 4 rfl) ?_
    refine lv_bipush (v := 16) X.x X.b (dk DX8_changeHues_1 44 rfl) (by decide) ?_
    refine lv_icmp_ge (tgt := 260) X.x X.b (dk DX8_changeHues_1 45 rfl) (by decide) (fun c66 => ?_) (fun c66 => ?_)
    · replace hF := if_t hF c66
      have hr9 := lp_r hF hx
      subst hr9
      exact K0 _ _ _ hH (lv_sub hl [3] rfl)
    · replace hF := if_f hF c66
      refine lv_aload_n X.x X.b (dk DX8_changeHues_1 46 rfl) rfl (lv_at hl 1 rfl) ?_
      refine lv_iload_n X.x X.b (dk DX8_changeHues_1 47 rfl) rfl (lv_at hl 2 rfl) ?_
      refine lv_iload X.x X.b (dk DX8_changeHues_1 48 rfl) (lv_at hl 4 rfl) ?_
      refine lv_iadd X.x X.b (dk DX8_changeHues_1 49 rfl) ?_
      refine lv_ldc2 (v := 3) X.x X.b X.ow (X.ts _ kK_X8_118) (dk DX8_changeHues_1 50 rfl) ?_
      refine lv_aload_n X.x X.b (dk DX8_changeHues_1 51 rfl) rfl (lv_at hl 0 rfl) ?_
      refine og_getR (t := 1) OX8 X hq hH 6 (by decide) rfl kF_X8_26 (dk DX8_changeHues_1 52 rfl) ?_
      refine lv_iload X.x X.b (dk DX8_changeHues_1 53 rfl) (lv_at hl 4 rfl) ?_
      obtain ⟨c67, hF⟩ := gd hF
      refine og_lald X hq hH 6 (by decide) rfl (inb_in c67) (dk DX8_changeHues_1 54 rfl) ?_
      refine lv_lmul X.x X.b (dk DX8_changeHues_1 55 rfl) ?_
      refine lv_aload_n X.x X.b (dk DX8_changeHues_1 56 rfl) rfl (lv_at hl 0 rfl) ?_
      refine og_getR (t := 1) OX8 X hq hH 7 (by decide) rfl kF_X8_29 (dk DX8_changeHues_1 57 rfl) ?_
      refine lv_iload X.x X.b (dk DX8_changeHues_1 58 rfl) (lv_at hl 4 rfl) ?_
      refine og_lald X hq hH 7 (by decide) rfl (inb_in c67) (dk DX8_changeHues_1 59 rfl) ?_
      refine lv_ladd X.x X.b (dk DX8_changeHues_2 0 rfl) ?_
      obtain ⟨x68, e69, hF⟩ := bd hF
      refine mr_cl0 hH ⟨rfl, rfl⟩ (mr_runS (As := [.long (((3 : Int64) * (s_t.2.2.2 6 (b6 : Int32).toNatClampNeg)) + (s_t.2.2.2 7 (b6 : Int32).toNatClampNeg))]) (rest := [.int (b3 + b6), .ref (q a0)]) X hH (c_X8_mix e69) kM_X8_114 kT_X8_mix kN_X8 kC_X8_mix hd_X8_mix ⟨Nat.le_of_ble_eq_true rfl, Nat.le_of_ble_eq_true rfl⟩ rfl hl.1 (Nat.le_of_ble_eq_true rfl) (dk DX8_changeHues_2 1 rfl) ⟨Nat.zero_le _, Nat.zero_le _⟩) (fun r h1 H locs hp hH => ?_)
      obtain ⟨hr1, hr2⟩ := hp; rw [hr1]; rw [hr2] at hH; clear hr1 hr2
      obtain ⟨c71, hF⟩ := gd hF
      refine og_last X hq hH a0 hka0 hsa0 (inb_in c71) (dk DX8_changeHues_2 2 rfl) (fun H locs hH => ?_)
      obtain ⟨t72, e73⟩ : ∃ y, y = oB s_t a0 (vp_updL (s_t.2.2.2 a0) (b3 + b6 : Int32).toNatClampNeg x68) := ⟨_, rfl⟩
      rw [← e73] at hH
      replace hF := bnd_e hF e73
      refine lv_lload X.x X.b (dk DX8_changeHues_2 3 rfl) (lv_at hl 3 rfl) ?_
      refine lv_aload_n X.x X.b (dk DX8_changeHues_2 4 rfl) rfl (lv_at hl 1 rfl) ?_
      refine lv_iload_n X.x X.b (dk DX8_changeHues_2 5 rfl) rfl (lv_at hl 2 rfl) ?_
      refine lv_iload X.x X.b (dk DX8_changeHues_2 6 rfl) (lv_at hl 4 rfl) ?_
      refine lv_iadd X.x X.b (dk DX8_changeHues_2 7 rfl) ?_
      refine og_lald X hq hH a0 hka0 hsa0 (inb_in c71) (dk DX8_changeHues_2 8 rfl) ?_
      obtain ⟨x74, e75, hF⟩ := bd hF
      refine mr_cl0 hH ⟨rfl, rfl⟩ (mr_runS (As := [.long (t72.2.2.2 a0 (b3 + b6 : Int32).toNatClampNeg)]) (rest := [.long b4]) X hH (c_X8_mix e75) kM_X8_114 kT_X8_mix kN_X8 kC_X8_mix hd_X8_mix ⟨Nat.le_of_ble_eq_true rfl, Nat.le_of_ble_eq_true rfl⟩ rfl hl.1 (Nat.le_of_ble_eq_true rfl) (dk DX8_changeHues_2 9 rfl) ⟨Nat.zero_le _, Nat.zero_le _⟩) (fun r h1 H locs hp hH => ?_)
      obtain ⟨hr1, hr2⟩ := hp; rw [hr1]; rw [hr2] at hH; clear hr1 hr2
      refine lv_ladd X.x X.b (dk DX8_changeHues_2 10 rfl) ?_
      refine lv_topl (fun v77 e78 => ?_)
      replace hF := bnd_e hF e78
      refine lv_lstore (lv' := [(4, .long v77), (0, .ref (q 10)), (1, .ref (q a0)), (3, .int b3), (6, .int b6)]) X.x X.b (dk DX8_changeHues_2 11 rfl) hl (by decide) rfl (fun ls hl => ?_)
      replace hl : lv_has ls 8 [(0, .ref (q 10)), (1, .ref (q a0)), (3, .int b3), (4, .long v77), (6, .int b6)] := lv_sub hl [1, 2, 3, 0, 4] rfl
      obtain ⟨v79, e80⟩ : ∃ y : Int32, y = b6 + 1 := ⟨_, rfl⟩
      replace hF := bnd_e hF e80
      refine lv_iinc (v := v79) (lv' := [(6, .int v79), (0, .ref (q 10)), (1, .ref (q a0)), (3, .int b3), (4, .long v77)]) X.x X.b (dk DX8_changeHues_2 12 rfl) hl (k := 4) rfl (by rw [e80]; rfl) (by decide) rfl (fun ls hl => ?_)
      replace hl : lv_has ls 8 [(0, .ref (q 10)), (1, .ref (q a0)), (3, .int b3), (4, .long v77), (6, .int v79)] := lv_sub hl [1, 2, 3, 4, 0] rfl
      refine lv_goto (tgt := 196) X.x X.b (dk DX8_changeHues_2 13 rfl) (by decide) ?_
      exact (lp_l hF hx) _ _ _ hH (lv_sub hl [0, 1, 2, 3, 4] rfl) K0
set_option maxHeartbeats 4000000 in
set_option maxRecDepth 100000 in
theorem c_X8_changeHues {l : Launch} {G : mG} {h : mM} {q : Nat → Nat} {a0 : Nat} {na0 : Nat} {a1 : Nat} {na1 : Nat} (hq : oinj LX8 q) (hka0 : a0 < 10) (hsa0 : LX8.2.2 a0 = (3, na0)) (hka1 : a1 < 10) (hsa1 : LX8.2.2 a1 = (3, na1)) {st : OS} {a2 : Int32} {x : Int64 × OS} (hF : f_X8_changeHues st a0 na0 a1 na1 a2 = some x) : cQ l G yX8_changeHues cX8_changeHues 8 (some FieldType.long) rm_X8_changeHues [.ref (q 10), .ref (q a0), .ref (q a1), .int a2] (oset LX8 G q st h) (mQl G (fun r h1 => r = x.1 ∧ h1 = oset LX8 G q x.2 h)) := by
  refine mp_of (by decide +kernel) (Nat.le_of_ble_eq_true rfl) ?_
  intro p e s m below meth c X hr hlk hH hname ls hl
  dsimp only [f_X8_changeHues] at hF
  replace hl : lv_has ls 8 [(0, .ref (q 10)), (1, .ref (q a0)), (2, .ref (q a1)), (3, .int a2)] := hl
  refine lv_iconst (v := 0) X.x X.b (dk DX8_changeHues_0 0 rfl) (by decide) ?_
  refine lv_istore (lv' := [(4, .int 0), (0, .ref (q 10)), (1, .ref (q a0)), (2, .ref (q a1)), (3, .int a2)]) X.x X.b (dk DX8_changeHues_0 1 rfl) hl (by decide) rfl (fun ls hl => ?_)
  replace hl : lv_has ls 8 [(0, .ref (q 10)), (1, .ref (q a0)), (2, .ref (q a1)), (3, .int a2), (4, .int 0)] := lv_sub hl [1, 2, 3, 4, 0] rfl
  obtain ⟨x14, e15, hF⟩ := bd hF
  replace hl : lv_has ls 8 [(0, .ref (q 10)), (1, .ref (q a0)), (2, .ref (q a1)), (3, .int a2), (4, .int 0)] := lv_sub hl [0, 1, 2, 3, 4] rfl
  refine w_X8_changeHues_3 hq hka0 hsa0 hka1 hsa1 X a2 _ _ e15 _ _ _ hH hl (fun H locs ls hH hl => ?_)
  refine lv_iconst (v := 0) X.x X.b (dk DX8_changeHues_0 26 rfl) (by decide) ?_
  refine lv_istore (lv' := [(4, .int 0), (0, .ref (q 10)), (1, .ref (q a0)), (2, .ref (q a1)), (3, .int a2)]) X.x X.b (dk DX8_changeHues_0 27 rfl) hl (by decide) rfl (fun ls hl => ?_)
  replace hl : lv_has ls 8 [(0, .ref (q 10)), (1, .ref (q a0)), (2, .ref (q a1)), (3, .int a2), (4, .int 0)] := lv_sub hl [1, 2, 3, 4, 0] rfl
  obtain ⟨x62, e63, hF⟩ := bd hF
  replace hl : lv_has ls 8 [(0, .ref (q 10)), (1, .ref (q a0)), (2, .ref (q a1)), (3, .int a2), (4, .int 0)] := lv_sub hl [0, 1, 2, 3, 4] rfl
  refine w_X8_changeHues_52 hq hka0 hsa0 hka1 hsa1 X a2 _ _ e63 _ _ _ hH hl (fun H locs ls hH hl => ?_)
  refine lv_lconst (v := 0) X.x X.b (dk DX8_changeHues_1 35 rfl) (by decide) ?_
  refine lv_lstore (lv' := [(4, .long 0), (0, .ref (q 10)), (1, .ref (q a0)), (3, .int a2)]) X.x X.b (dk DX8_changeHues_1 36 rfl) hl (by decide) rfl (fun ls hl => ?_)
  replace hl : lv_has ls 8 [(0, .ref (q 10)), (1, .ref (q a0)), (3, .int a2), (4, .long 0)] := lv_sub hl [1, 2, 3, 0] rfl
  refine lv_iconst (v := 0) X.x X.b (dk DX8_changeHues_1 37 rfl) (by decide) ?_
  refine lv_istore (lv' := [(6, .int 0), (0, .ref (q 10)), (1, .ref (q a0)), (3, .int a2), (4, .long 0)]) X.x X.b (dk DX8_changeHues_1 38 rfl) hl (by decide) rfl (fun ls hl => ?_)
  replace hl : lv_has ls 8 [(0, .ref (q 10)), (1, .ref (q a0)), (3, .int a2), (4, .long 0), (6, .int 0)] := lv_sub hl [1, 2, 3, 4, 0] rfl
  obtain ⟨x81, e82, hF⟩ := bd hF
  replace hl : lv_has ls 8 [(0, .ref (q 10)), (1, .ref (q a0)), (3, .int a2), (4, .long 0), (6, .int 0)] := lv_sub hl [0, 1, 2, 3, 4] rfl
  obtain ⟨t83, v84⟩ := x81
  try dsimp only at hF
  refine w_X8_changeHues_196 hq hka0 hsa0 hka1 hsa1 X a2 _ _ e82 _ _ _ hH hl (fun H locs ls hH hl => ?_)
  try dsimp only at hH hl
  refine lv_lload X.x X.b (dk DX8_changeHues_2 14 rfl) (lv_at hl 0 rfl) ?_
  cases sm hF
  exact mr_lret X hr hlk hH ⟨rfl, rfl⟩ (dk DX8_changeHues_2 15 rfl)
-- X8_settleHues
abbrev rm_X8_settleHues : Room := { frames := 2, cells := 0, slots := 0, locals := 50 }
theorem hd_X8_settleHues : mHd yX8_settleHues 1 := ⟨by decide +kernel, by decide +kernel, by decide +kernel⟩
theorem DX8_settleHues_0 : ∀ t ∈ ([(0, .aload_n 0, 1), (1, .iload_n 1, 1), (2, .invokevirtual 107, 3), (5, .istore_n 2, 1), (6, .iconst 0, 1), (7, .istore_n 3, 1), (8, .iload_n 3, 1), (9, .bipush 16, 2), (11, .if_icmp .gt 67, 3), (14, .iload_n 2, 1), (15, .aload_n 0, 1), (16, .getfield 43, 3), (19, .if_icmp .ge 59, 3), (22, .aload_n 0, 1), (23, .aload_n 0, 1), (24, .getfield 20, 3), (27, .aload_n 0, 1), (28, .getfield 13, 3), (31, .iload_n 1, 1), (32, .invokevirtual 110, 3), (35, .aload_n 0, 1), (36, .aload_n 0, 1), (37, .getfield 23, 3), (40, .aload_n 0, 1), (41, .getfield 17, 3), (44, .iload_n 1, 1), (45, .invokevirtual 110, 3), (48, .lcmp, 1), (49, .ifCond .eq 5, 3), (52, .iconst 0, 1), (53, .ireturn, 1), (54, .aload_n 0, 1), (55, .iload_n 1, 1), (56, .invokevirtual 107, 3), (59, .istore 4, 2), (61, .iload 4, 2), (63, .iload_n 2, 1), (64, .if_icmp .ne 5, 3), (67, .iconst 1, 1), (68, .ireturn, 1), (69, .iload 4, 2), (71, .istore_n 2, 1), (72, .iinc 3 1, 3), (75, .goto (-67), 3), (78, .iconst 1, 1), (79, .ireturn, 1)] : List (Nat × Instr × Nat)), decode cX8_settleHues t.1 = .ok (t.2.1, t.2.2) := by decide +kernel
noncomputable def f_X8_settleHues_8 (b1 : Int32) : (OS × Int32 × Int32) → Option ((OS × Int32 × Int32) ⊕ (Nat × OS)) := fun z => match z with | (s_t, b2, b3) => (if 16 < b3 then some (.inr ((2, s_t))) else (if (s_t.1 0) ≤ b2 then some (.inr ((2, s_t))) else (f_X8_changeHues s_t 4 288 2 64 b1).bind (fun x6 => match x6 with | (v8, t9) => (f_X8_changeHues t9 5 288 3 64 b1).bind (fun x10 => match x10 with | (v12, t13) => (if (lg_cmp v8 v12) = 0 then (f_X8_kindsIn t13 b1).bind (fun x15 => (if x15 = b2 then some (.inr ((1, t13))) else bnd (b3 + 1 : Int32) (fun v19 => some (.inl ((t13, x15, v19)))))) else some (.inr ((0, t13))))))))
noncomputable def f_X8_settleHues (st : OS) (a0 : Int32) : Option (Int32 × OS) := (f_X8_kindsIn st a0).bind (fun x1 => (lpv (f_X8_settleHues_8 a0) ((st, x1, 0))).bind (fun x21 => match x21 with | (k24, t23) => (if k24 = 0 then some ((0, t23)) else (if k24 = 1 then some ((1, t23)) else some ((1, t23))))))
set_option maxHeartbeats 4000000 in
set_option maxRecDepth 100000 in
theorem w_X8_settleHues_8 {p : Program} {l : Launch} {e : Env} {s : State} {m : MethodId} {args : Array Value} {below : List Frame} {meth : Method} {c : Code} {Q : State → Prop} {G : mG} {h : mM} {q : Nat → Nat} (hq : oinj LX8 q) (X : mX G p m c cX8_settleHues 5 s args RX8) (b1 : Int32) : ∀ (z : OS × Int32 × Int32) (r : Nat × OS), lpv (f_X8_settleHues_8 b1) z = some r → ∀ (H : Heap) (locs : List Loc) (ls : Array Slot), mH G (oset LX8 G q z.1 h) s.heap H locs → lv_has ls 5 [(0, .ref (q 10)), (1, .int b1), (2, .int z.2.1), (3, .int z.2.2)] → (r.1 = 0 → ∀ (H : Heap) (locs : List Loc) (ls : Array Slot), mH G (oset LX8 G q r.2 h) s.heap H locs → lv_has ls 5 [] → W p l e rm_X8_settleHues s m args below meth c H locs 0 0 Q (F0 m 52 ls [])) → (r.1 = 1 → ∀ (H : Heap) (locs : List Loc) (ls : Array Slot), mH G (oset LX8 G q r.2 h) s.heap H locs → lv_has ls 5 [] → W p l e rm_X8_settleHues s m args below meth c H locs 0 0 Q (F0 m 67 ls [])) → (r.1 = 2 → ∀ (H : Heap) (locs : List Loc) (ls : Array Slot), mH G (oset LX8 G q r.2 h) s.heap H locs → lv_has ls 5 [] → W p l e rm_X8_settleHues s m args below meth c H locs 0 0 Q (F0 m 78 ls [])) → W p l e rm_X8_settleHues s m args below meth c H locs 0 0 Q (F0 m 8 ls []) := by
  refine lpv_rec ?_
  intro z r x hF hx H locs ls hH hl K0 K1 K2
  obtain ⟨s_t, b2, b3⟩ := z
  dsimp only [f_X8_settleHues_8] at hF
  try dsimp only at hH hl
  refine lv_iload_n X.x X.b (dk DX8_settleHues_0 6 rfl) rfl (lv_at hl 3 rfl) ?_
  refine lv_bipush (v := 16) X.x X.b (dk DX8_settleHues_0 7 rfl) (by decide) ?_
  refine lv_icmp_gt (tgt := 78) X.x X.b (dk DX8_settleHues_0 8 rfl) (by decide) (fun c4 => ?_) (fun c4 => ?_)
  · replace hF := if_t hF c4
    have hr9 := lp_r hF hx
    subst hr9
    exact K2 rfl _ _ _ hH (lv_sub hl [] rfl)
  · replace hF := if_f hF c4
    refine lv_iload_n X.x X.b (dk DX8_settleHues_0 9 rfl) rfl (lv_at hl 2 rfl) ?_
    refine lv_aload_n X.x X.b (dk DX8_settleHues_0 10 rfl) rfl (lv_at hl 0 rfl) ?_
    refine og_getI OX8 X hq hH 0 (by decide) rfl kF_X8_43 (dk DX8_settleHues_0 11 rfl) ?_
    refine lv_icmp_ge (tgt := 78) X.x X.b (dk DX8_settleHues_0 12 rfl) (by decide) (fun c5 => ?_) (fun c5 => ?_)
    · replace hF := if_t hF c5
      have hr9 := lp_r hF hx
      subst hr9
      exact K2 rfl _ _ _ hH (lv_sub hl [] rfl)
    · replace hF := if_f hF c5
      refine lv_aload_n X.x X.b (dk DX8_settleHues_0 13 rfl) rfl (lv_at hl 0 rfl) ?_
      refine lv_aload_n X.x X.b (dk DX8_settleHues_0 14 rfl) rfl (lv_at hl 0 rfl) ?_
      refine og_getR (t := 1) OX8 X hq hH 4 (by decide) rfl kF_X8_20 (dk DX8_settleHues_0 15 rfl) ?_
      refine lv_aload_n X.x X.b (dk DX8_settleHues_0 16 rfl) rfl (lv_at hl 0 rfl) ?_
      refine og_getR (t := 1) OX8 X hq hH 2 (by decide) rfl kF_X8_13 (dk DX8_settleHues_0 17 rfl) ?_
      refine lv_iload_n X.x X.b (dk DX8_settleHues_0 18 rfl) rfl (lv_at hl 1 rfl) ?_
      obtain ⟨x6, e7, hF⟩ := bd hF
      refine mr_cl0 hH ⟨rfl, rfl⟩ (mr_runV (As := [.ref (q 4), .ref (q 2), .int b1]) (rest := []) X hH (c_X8_changeHues hq (by decide) rfl (by decide) rfl e7) ((oset_at hq (Nat.le_refl _) ohas_N).trans (congrArg some ocell_N)) OX8.1 kM_X8_110 kI_X8_changeHues kS_X8_changeHues kN_X8 kC_X8_changeHues hd_X8_changeHues ⟨Nat.le_of_ble_eq_true rfl, Nat.le_of_ble_eq_true rfl⟩ rfl hl.1 (Nat.le_of_ble_eq_true rfl) (dk DX8_settleHues_0 19 rfl) ⟨Nat.zero_le _, Nat.zero_le _⟩) (fun r h1 H locs hp hH => ?_)
      obtain ⟨hr1, hr2⟩ := hp; rw [hr1]; rw [hr2] at hH; clear hr1 hr2
      obtain ⟨v8, t9⟩ := x6
      try dsimp only at hF hH ⊢
      refine lv_aload_n X.x X.b (dk DX8_settleHues_0 20 rfl) rfl (lv_at hl 0 rfl) ?_
      refine lv_aload_n X.x X.b (dk DX8_settleHues_0 21 rfl) rfl (lv_at hl 0 rfl) ?_
      refine og_getR (t := 1) OX8 X hq hH 5 (by decide) rfl kF_X8_23 (dk DX8_settleHues_0 22 rfl) ?_
      refine lv_aload_n X.x X.b (dk DX8_settleHues_0 23 rfl) rfl (lv_at hl 0 rfl) ?_
      refine og_getR (t := 1) OX8 X hq hH 3 (by decide) rfl kF_X8_17 (dk DX8_settleHues_0 24 rfl) ?_
      refine lv_iload_n X.x X.b (dk DX8_settleHues_0 25 rfl) rfl (lv_at hl 1 rfl) ?_
      obtain ⟨x10, e11, hF⟩ := bd hF
      refine mr_cl0 hH ⟨rfl, rfl⟩ (mr_runV (As := [.ref (q 5), .ref (q 3), .int b1]) (rest := [.long v8]) X hH (c_X8_changeHues hq (by decide) rfl (by decide) rfl e11) ((oset_at hq (Nat.le_refl _) ohas_N).trans (congrArg some ocell_N)) OX8.1 kM_X8_110 kI_X8_changeHues kS_X8_changeHues kN_X8 kC_X8_changeHues hd_X8_changeHues ⟨Nat.le_of_ble_eq_true rfl, Nat.le_of_ble_eq_true rfl⟩ rfl hl.1 (Nat.le_of_ble_eq_true rfl) (dk DX8_settleHues_0 26 rfl) ⟨Nat.zero_le _, Nat.zero_le _⟩) (fun r h1 H locs hp hH => ?_)
      obtain ⟨hr1, hr2⟩ := hp; rw [hr1]; rw [hr2] at hH; clear hr1 hr2
      obtain ⟨v12, t13⟩ := x10
      try dsimp only at hF hH ⊢
      refine W.lcmp X.x X.b (dk DX8_settleHues_0 27 rfl) ?_
      refine lv_if_eq (tgt := 54) X.x X.b (dk DX8_settleHues_0 28 rfl) (by decide) (fun c14 => ?_) (fun c14 => ?_)
      · replace hF := if_t hF c14
        refine lv_aload_n X.x X.b (dk DX8_settleHues_0 31 rfl) rfl (lv_at hl 0 rfl) ?_
        refine lv_iload_n X.x X.b (dk DX8_settleHues_0 32 rfl) rfl (lv_at hl 1 rfl) ?_
        obtain ⟨x15, e16, hF⟩ := bd hF
        refine mr_ci0 hH ⟨rfl, rfl⟩ (mr_runV (As := [.int b1]) (rest := []) X hH (c_X8_kindsIn hq e16) ((oset_at hq (Nat.le_refl _) ohas_N).trans (congrArg some ocell_N)) OX8.1 kM_X8_107 kI_X8_kindsIn kS_X8_kindsIn kN_X8 kC_X8_kindsIn hd_X8_kindsIn ⟨Nat.le_of_ble_eq_true rfl, Nat.le_of_ble_eq_true rfl⟩ rfl hl.1 (Nat.le_of_ble_eq_true rfl) (dk DX8_settleHues_0 33 rfl) ⟨Nat.zero_le _, Nat.zero_le _⟩) (fun r h1 H locs hp hH => ?_)
        obtain ⟨hr1, hr2⟩ := hp; rw [hr1]; rw [hr2] at hH; clear hr1 hr2
        refine lv_istore (lv' := [(4, .int x15), (0, .ref (q 10)), (1, .int b1), (2, .int b2), (3, .int b3)]) X.x X.b (dk DX8_settleHues_0 34 rfl) hl (by decide) rfl (fun ls hl => ?_)
        replace hl : lv_has ls 5 [(0, .ref (q 10)), (1, .int b1), (2, .int b2), (3, .int b3), (4, .int x15)] := lv_sub hl [1, 2, 3, 4, 0] rfl
        refine lv_iload X.x X.b (dk DX8_settleHues_0 35 rfl) (lv_at hl 4 rfl) ?_
        refine lv_iload_n X.x X.b (dk DX8_settleHues_0 36 rfl) rfl (lv_at hl 2 rfl) ?_
        refine lv_icmp_ne (tgt := 69) X.x X.b (dk DX8_settleHues_0 37 rfl) (by decide) (fun c18 => ?_) (fun c18 => ?_)
        · replace hF := if_f hF c18
          refine lv_iload X.x X.b (dk DX8_settleHues_0 40 rfl) (lv_at hl 4 rfl) ?_
          refine lv_istore_n (lv' := [(2, .int x15), (0, .ref (q 10)), (1, .int b1), (3, .int b3), (4, .int x15)]) X.x X.b (dk DX8_settleHues_0 41 rfl) rfl hl (by decide) rfl (fun ls hl => ?_)
          replace hl : lv_has ls 5 [(0, .ref (q 10)), (1, .int b1), (2, .int x15), (3, .int b3)] := lv_sub hl [1, 2, 0, 3] rfl
          obtain ⟨v19, e20⟩ : ∃ y : Int32, y = b3 + 1 := ⟨_, rfl⟩
          replace hF := bnd_e hF e20
          refine lv_iinc (v := v19) (lv' := [(3, .int v19), (0, .ref (q 10)), (1, .int b1), (2, .int x15)]) X.x X.b (dk DX8_settleHues_0 42 rfl) hl (k := 3) rfl (by rw [e20]; rfl) (by decide) rfl (fun ls hl => ?_)
          replace hl : lv_has ls 5 [(0, .ref (q 10)), (1, .int b1), (2, .int x15), (3, .int v19)] := lv_sub hl [1, 2, 3, 0] rfl
          refine lv_goto (tgt := 8) X.x X.b (dk DX8_settleHues_0 43 rfl) (by decide) ?_
          exact (lp_l hF hx) _ _ _ hH (lv_sub hl [0, 1, 2, 3] rfl) K0 K1 K2
        · replace hF := if_t hF c18
          have hr9 := lp_r hF hx
          subst hr9
          exact K1 rfl _ _ _ hH (lv_sub hl [] rfl)
      · replace hF := if_f hF c14
        have hr9 := lp_r hF hx
        subst hr9
        exact K0 rfl _ _ _ hH (lv_sub hl [] rfl)
set_option maxHeartbeats 4000000 in
set_option maxRecDepth 100000 in
theorem c_X8_settleHues {l : Launch} {G : mG} {h : mM} {q : Nat → Nat} (hq : oinj LX8 q) {st : OS} {a0 : Int32} {x : Int32 × OS} (hF : f_X8_settleHues st a0 = some x) : cQ l G yX8_settleHues cX8_settleHues 5 (some FieldType.boolean) rm_X8_settleHues [.ref (q 10), .int a0] (oset LX8 G q st h) (mQi G (fun r h1 => r = x.1 ∧ h1 = oset LX8 G q x.2 h)) := by
  refine mp_of (by decide +kernel) (Nat.le_of_ble_eq_true rfl) ?_
  intro p e s m below meth c X hr hlk hH hname ls hl
  dsimp only [f_X8_settleHues] at hF
  replace hl : lv_has ls 5 [(0, .ref (q 10)), (1, .int a0)] := hl
  refine lv_aload_n X.x X.b (dk DX8_settleHues_0 0 rfl) rfl (lv_at hl 0 rfl) ?_
  refine lv_iload_n X.x X.b (dk DX8_settleHues_0 1 rfl) rfl (lv_at hl 1 rfl) ?_
  obtain ⟨x1, e2, hF⟩ := bd hF
  refine mr_ci0 hH ⟨rfl, rfl⟩ (mr_runV (As := [.int a0]) (rest := []) X hH (c_X8_kindsIn hq e2) ((oset_at hq (Nat.le_refl _) ohas_N).trans (congrArg some ocell_N)) OX8.1 kM_X8_107 kI_X8_kindsIn kS_X8_kindsIn kN_X8 kC_X8_kindsIn hd_X8_kindsIn ⟨Nat.le_of_ble_eq_true rfl, Nat.le_of_ble_eq_true rfl⟩ rfl hl.1 (Nat.le_of_ble_eq_true rfl) (dk DX8_settleHues_0 2 rfl) ⟨Nat.zero_le _, Nat.zero_le _⟩) (fun r h1 H locs hp hH => ?_)
  obtain ⟨hr1, hr2⟩ := hp; rw [hr1]; rw [hr2] at hH; clear hr1 hr2
  refine lv_istore_n (lv' := [(2, .int x1), (0, .ref (q 10)), (1, .int a0)]) X.x X.b (dk DX8_settleHues_0 3 rfl) rfl hl (by decide) rfl (fun ls hl => ?_)
  replace hl : lv_has ls 5 [(0, .ref (q 10)), (1, .int a0), (2, .int x1)] := lv_sub hl [1, 2, 0] rfl
  refine lv_iconst (v := 0) X.x X.b (dk DX8_settleHues_0 4 rfl) (by decide) ?_
  refine lv_istore_n (lv' := [(3, .int 0), (0, .ref (q 10)), (1, .int a0), (2, .int x1)]) X.x X.b (dk DX8_settleHues_0 5 rfl) rfl hl (by decide) rfl (fun ls hl => ?_)
  replace hl : lv_has ls 5 [(0, .ref (q 10)), (1, .int a0), (2, .int x1), (3, .int 0)] := lv_sub hl [1, 2, 3, 0] rfl
  obtain ⟨x21, e22, hF⟩ := bd hF
  replace hl : lv_has ls 5 [(0, .ref (q 10)), (1, .int a0), (2, .int x1), (3, .int 0)] := lv_sub hl [0, 1, 2, 3] rfl
  obtain ⟨k24, t23⟩ := x21
  try dsimp only at hF
  refine w_X8_settleHues_8 hq X a0 _ _ e22 _ _ _ hH hl (fun hk H locs ls hH hl => ?_) (fun hk H locs ls hH hl => ?_) (fun hk H locs ls hH hl => ?_)
  · try dsimp only at hH hl
    try dsimp only at hk
    subst hk
    replace hF := if_t hF rfl
    refine lv_iconst (v := 0) X.x X.b (dk DX8_settleHues_0 29 rfl) (by decide) ?_
    cases sm hF
    exact mr_zret X hr hlk hH rfl ⟨rfl, rfl⟩ (dk DX8_settleHues_0 30 rfl)
  · try dsimp only at hH hl
    try dsimp only at hk
    subst hk
    replace hF := if_f hF (by decide)
    replace hF := if_t hF rfl
    refine lv_iconst (v := 1) X.x X.b (dk DX8_settleHues_0 38 rfl) (by decide) ?_
    cases sm hF
    exact mr_zret X hr hlk hH rfl ⟨rfl, rfl⟩ (dk DX8_settleHues_0 39 rfl)
  · try dsimp only at hH hl
    try dsimp only at hk
    subst hk
    replace hF := if_f hF (by decide)
    replace hF := if_f hF (by decide)
    refine lv_iconst (v := 1) X.x X.b (dk DX8_settleHues_0 44 rfl) (by decide) ?_
    cases sm hF
    exact mr_zret X hr hlk hH rfl ⟨rfl, rfl⟩ (dk DX8_settleHues_0 45 rfl)
-- X8_undecided
abbrev rm_X8_undecided : Room := { frames := 0, cells := 0, slots := 0, locals := 0 }
theorem hd_X8_undecided : mHd yX8_undecided 1 := ⟨by decide +kernel, by decide +kernel, by decide +kernel⟩
theorem DX8_undecided_0 : ∀ t ∈ ([(0, .iconst (-1), 1), (1, .istore_n 2, 1), (2, .bipush 17, 2), (4, .istore_n 3, 1), (5, .iconst 0, 1), (6, .istore 4, 2), (8, .iload 4, 2), (10, .aload_n 0, 1), (11, .getfield 43, 3), (14, .if_icmp .ge 94, 3), (17, .iload 4, 2), (19, .bipush 16, 2), (21, .if_icmp .ge 87, 3), (24, .iconst 0, 1), (25, .istore 5, 2), (27, .iconst 0, 1), (28, .istore 6, 2), (30, .iload 6, 2), (32, .aload_n 0, 1), (33, .getfield 43, 3), (36, .if_icmp .ge 48, 3), (39, .iload 6, 2), (41, .bipush 16, 2), (43, .if_icmp .ge 41, 3), (46, .iload 5, 2), (48, .aload_n 0, 1), (49, .getfield 20, 3), (52, .iload_n 1, 1), (53, .iload 6, 2), (55, .iadd, 1), (56, .laload, 1), (57, .aload_n 0, 1), (58, .getfield 20, 3), (61, .iload_n 1, 1), (62, .iload 4, 2), (64, .iadd, 1), (65, .laload, 1), (66, .lcmp, 1), (67, .ifCond .ne 7, 3), (70, .iconst 1, 1), (71, .goto 4, 3), (74, .iconst 0, 1), (75, .iadd, 1), (76, .istore 5, 2), (78, .iinc 6 1, 3), (81, .goto (-51), 3), (84, .iload 5, 2), (86, .iconst 1, 1), (87, .if_icmp .le 15, 3), (90, .iload 5, 2), (92, .iload_n 3, 1), (93, .if_icmp .ge 9, 3), (96, .iload 5, 2), (98, .istore_n 3, 1), (99, .iload 4, 2), (101, .istore_n 2, 1), (102, .iinc 4 1, 3), (105, .goto (-97), 3), (108, .iload_n 2, 1), (109, .ireturn, 1)] : List (Nat × Instr × Nat)), decode cX8_undecided t.1 = .ok (t.2.1, t.2.2) := by decide +kernel
noncomputable def f_X8_undecided_30 (s_t : OS) (b1 : Int32) (b2 : Int32) (b3 : Int32) (b4 : Int32) : (Int32 × Int32) → Option ((Int32 × Int32) ⊕ (Int32)) := fun z => match z with | (b5, b6) => (if (s_t.1 0) ≤ b6 then some (.inr b5) else (if 16 ≤ b6 then some (.inr b5) else if inb (b1 + b6) 288 = true then if inb (b1 + b4) 288 = true then (if (lg_cmp (s_t.2.2.2 4 (b1 + b6 : Int32).toNatClampNeg) (s_t.2.2.2 4 (b1 + b4 : Int32).toNatClampNeg)) = 0 then bnd (b5 + 1 : Int32) (fun v12 => bnd (b6 + 1 : Int32) (fun v14 => some (.inl ((v12, v14))))) else bnd (b5 + 0 : Int32) (fun v8 => bnd (b6 + 1 : Int32) (fun v10 => some (.inl ((v8, v10)))))) else none else none))
noncomputable def f_X8_undecided_8 (s_t : OS) (b1 : Int32) : (Int32 × Int32 × Int32) → Option ((Int32 × Int32 × Int32) ⊕ (Int32)) := fun z => match z with | (b2, b3, b4) => (if (s_t.1 0) ≤ b4 then some (.inr b2) else (if 16 ≤ b4 then some (.inr b2) else (lpv (f_X8_undecided_30 s_t b1 b2 b3 b4) ((0, 0))).bind (fun x16 => (if x16 ≤ 1 then bnd (b4 + 1 : Int32) (fun v20 => some (.inl ((b2, b3, v20)))) else (if b3 ≤ x16 then bnd (b4 + 1 : Int32) (fun v23 => some (.inl ((b2, b3, v23)))) else bnd (b4 + 1 : Int32) (fun v25 => some (.inl ((b4, x16, v25)))))))))
noncomputable def f_X8_undecided (st : OS) (a0 : Int32) : Option (Int32) := (lpv (f_X8_undecided_8 st a0) (((-1), 17, 0))).bind (fun x27 => some x27)
set_option maxHeartbeats 4000000 in
set_option maxRecDepth 100000 in
theorem w_X8_undecided_30 {p : Program} {l : Launch} {e : Env} {s : State} {m : MethodId} {args : Array Value} {below : List Frame} {meth : Method} {c : Code} {Q : State → Prop} {G : mG} {h : mM} {q : Nat → Nat} (hq : oinj LX8 q) (X : mX G p m c cX8_undecided 7 s args RX8) (s_t : OS) (b1 : Int32) (b2 : Int32) (b3 : Int32) (b4 : Int32) : ∀ (z : Int32 × Int32) (r : Int32), lpv (f_X8_undecided_30 s_t b1 b2 b3 b4) z = some r → ∀ (H : Heap) (locs : List Loc) (ls : Array Slot), mH G (oset LX8 G q s_t h) s.heap H locs → lv_has ls 7 [(0, .ref (q 10)), (1, .int b1), (2, .int b2), (3, .int b3), (4, .int b4), (5, .int z.1), (6, .int z.2)] → (∀ (H : Heap) (locs : List Loc) (ls : Array Slot), mH G (oset LX8 G q s_t h) s.heap H locs → lv_has ls 7 [(0, .ref (q 10)), (1, .int b1), (2, .int b2), (3, .int b3), (4, .int b4), (5, .int r)] → W p l e rm_X8_undecided s m args below meth c H locs 0 0 Q (F0 m 84 ls [])) → W p l e rm_X8_undecided s m args below meth c H locs 0 0 Q (F0 m 30 ls []) := by
  refine lpv_rec ?_
  intro z r x hF hx H locs ls hH hl K0
  obtain ⟨b5, b6⟩ := z
  dsimp only [f_X8_undecided_30] at hF
  try dsimp only at hH hl
  refine lv_iload X.x X.b (dk DX8_undecided_0 17 rfl) (lv_at hl 6 rfl) ?_
  refine lv_aload_n X.x X.b (dk DX8_undecided_0 18 rfl) rfl (lv_at hl 0 rfl) ?_
  refine og_getI OX8 X hq hH 0 (by decide) rfl kF_X8_43 (dk DX8_undecided_0 19 rfl) ?_
  refine lv_icmp_ge (tgt := 84) X.x X.b (dk DX8_undecided_0 20 rfl) (by decide) (fun c3 => ?_) (fun c3 => ?_)
  · replace hF := if_t hF c3
    have hr9 := lp_r hF hx
    subst hr9
    exact K0 _ _ _ hH (lv_sub hl [0, 1, 2, 3, 4, 5] rfl)
  · replace hF := if_f hF c3
    refine lv_iload X.x X.b (dk DX8_undecided_0 21 rfl) (lv_at hl 6 rfl) ?_
    refine lv_bipush (v := 16) X.x X.b (dk DX8_undecided_0 22 rfl) (by decide) ?_
    refine lv_icmp_ge (tgt := 84) X.x X.b (dk DX8_undecided_0 23 rfl) (by decide) (fun c4 => ?_) (fun c4 => ?_)
    · replace hF := if_t hF c4
      have hr9 := lp_r hF hx
      subst hr9
      exact K0 _ _ _ hH (lv_sub hl [0, 1, 2, 3, 4, 5] rfl)
    · replace hF := if_f hF c4
      refine lv_iload X.x X.b (dk DX8_undecided_0 24 rfl) (lv_at hl 5 rfl) ?_
      refine lv_aload_n X.x X.b (dk DX8_undecided_0 25 rfl) rfl (lv_at hl 0 rfl) ?_
      refine og_getR (t := 1) OX8 X hq hH 4 (by decide) rfl kF_X8_20 (dk DX8_undecided_0 26 rfl) ?_
      refine lv_iload_n X.x X.b (dk DX8_undecided_0 27 rfl) rfl (lv_at hl 1 rfl) ?_
      refine lv_iload X.x X.b (dk DX8_undecided_0 28 rfl) (lv_at hl 6 rfl) ?_
      refine lv_iadd X.x X.b (dk DX8_undecided_0 29 rfl) ?_
      obtain ⟨c5, hF⟩ := gd hF
      refine og_lald X hq hH 4 (by decide) rfl (inb_in c5) (dk DX8_undecided_0 30 rfl) ?_
      refine lv_aload_n X.x X.b (dk DX8_undecided_0 31 rfl) rfl (lv_at hl 0 rfl) ?_
      refine og_getR (t := 1) OX8 X hq hH 4 (by decide) rfl kF_X8_20 (dk DX8_undecided_0 32 rfl) ?_
      refine lv_iload_n X.x X.b (dk DX8_undecided_0 33 rfl) rfl (lv_at hl 1 rfl) ?_
      refine lv_iload X.x X.b (dk DX8_undecided_0 34 rfl) (lv_at hl 4 rfl) ?_
      refine lv_iadd X.x X.b (dk DX8_undecided_0 35 rfl) ?_
      obtain ⟨c6, hF⟩ := gd hF
      refine og_lald X hq hH 4 (by decide) rfl (inb_in c6) (dk DX8_undecided_0 36 rfl) ?_
      refine W.lcmp X.x X.b (dk DX8_undecided_0 37 rfl) ?_
      refine lv_if_ne (tgt := 74) X.x X.b (dk DX8_undecided_0 38 rfl) (by decide) (fun c7 => ?_) (fun c7 => ?_)
      · replace hF := if_f hF c7
        refine lv_iconst (v := 0) X.x X.b (dk DX8_undecided_0 41 rfl) (by decide) ?_
        refine lv_iadd X.x X.b (dk DX8_undecided_0 42 rfl) ?_
        refine lv_topi (fun v8 e9 => ?_)
        replace hF := bnd_e hF e9
        refine lv_istore (lv' := [(5, .int v8), (0, .ref (q 10)), (1, .int b1), (2, .int b2), (3, .int b3), (4, .int b4), (6, .int b6)]) X.x X.b (dk DX8_undecided_0 43 rfl) hl (by decide) rfl (fun ls hl => ?_)
        replace hl : lv_has ls 7 [(0, .ref (q 10)), (1, .int b1), (2, .int b2), (3, .int b3), (4, .int b4), (5, .int v8), (6, .int b6)] := lv_sub hl [1, 2, 3, 4, 5, 0, 6] rfl
        obtain ⟨v10, e11⟩ : ∃ y : Int32, y = b6 + 1 := ⟨_, rfl⟩
        replace hF := bnd_e hF e11
        refine lv_iinc (v := v10) (lv' := [(6, .int v10), (0, .ref (q 10)), (1, .int b1), (2, .int b2), (3, .int b3), (4, .int b4), (5, .int v8)]) X.x X.b (dk DX8_undecided_0 44 rfl) hl (k := 6) rfl (by rw [e11]; rfl) (by decide) rfl (fun ls hl => ?_)
        replace hl : lv_has ls 7 [(0, .ref (q 10)), (1, .int b1), (2, .int b2), (3, .int b3), (4, .int b4), (5, .int v8), (6, .int v10)] := lv_sub hl [1, 2, 3, 4, 5, 6, 0] rfl
        refine lv_goto (tgt := 30) X.x X.b (dk DX8_undecided_0 45 rfl) (by decide) ?_
        exact (lp_l hF hx) _ _ _ hH (lv_sub hl [0, 1, 2, 3, 4, 5, 6] rfl) K0
      · replace hF := if_t hF c7
        refine lv_iconst (v := 1) X.x X.b (dk DX8_undecided_0 39 rfl) (by decide) ?_
        refine lv_goto (tgt := 75) X.x X.b (dk DX8_undecided_0 40 rfl) (by decide) ?_
        refine lv_iadd X.x X.b (dk DX8_undecided_0 42 rfl) ?_
        refine lv_topi (fun v12 e13 => ?_)
        replace hF := bnd_e hF e13
        refine lv_istore (lv' := [(5, .int v12), (0, .ref (q 10)), (1, .int b1), (2, .int b2), (3, .int b3), (4, .int b4), (6, .int b6)]) X.x X.b (dk DX8_undecided_0 43 rfl) hl (by decide) rfl (fun ls hl => ?_)
        replace hl : lv_has ls 7 [(0, .ref (q 10)), (1, .int b1), (2, .int b2), (3, .int b3), (4, .int b4), (5, .int v12), (6, .int b6)] := lv_sub hl [1, 2, 3, 4, 5, 0, 6] rfl
        obtain ⟨v14, e15⟩ : ∃ y : Int32, y = b6 + 1 := ⟨_, rfl⟩
        replace hF := bnd_e hF e15
        refine lv_iinc (v := v14) (lv' := [(6, .int v14), (0, .ref (q 10)), (1, .int b1), (2, .int b2), (3, .int b3), (4, .int b4), (5, .int v12)]) X.x X.b (dk DX8_undecided_0 44 rfl) hl (k := 6) rfl (by rw [e15]; rfl) (by decide) rfl (fun ls hl => ?_)
        replace hl : lv_has ls 7 [(0, .ref (q 10)), (1, .int b1), (2, .int b2), (3, .int b3), (4, .int b4), (5, .int v12), (6, .int v14)] := lv_sub hl [1, 2, 3, 4, 5, 6, 0] rfl
        refine lv_goto (tgt := 30) X.x X.b (dk DX8_undecided_0 45 rfl) (by decide) ?_
        exact (lp_l hF hx) _ _ _ hH (lv_sub hl [0, 1, 2, 3, 4, 5, 6] rfl) K0
set_option maxHeartbeats 4000000 in
set_option maxRecDepth 100000 in
theorem w_X8_undecided_8 {p : Program} {l : Launch} {e : Env} {s : State} {m : MethodId} {args : Array Value} {below : List Frame} {meth : Method} {c : Code} {Q : State → Prop} {G : mG} {h : mM} {q : Nat → Nat} (hq : oinj LX8 q) (X : mX G p m c cX8_undecided 7 s args RX8) (s_t : OS) (b1 : Int32) : ∀ (z : Int32 × Int32 × Int32) (r : Int32), lpv (f_X8_undecided_8 s_t b1) z = some r → ∀ (H : Heap) (locs : List Loc) (ls : Array Slot), mH G (oset LX8 G q s_t h) s.heap H locs → lv_has ls 7 [(0, .ref (q 10)), (1, .int b1), (2, .int z.1), (3, .int z.2.1), (4, .int z.2.2)] → (∀ (H : Heap) (locs : List Loc) (ls : Array Slot), mH G (oset LX8 G q s_t h) s.heap H locs → lv_has ls 7 [(2, .int r)] → W p l e rm_X8_undecided s m args below meth c H locs 0 0 Q (F0 m 108 ls [])) → W p l e rm_X8_undecided s m args below meth c H locs 0 0 Q (F0 m 8 ls []) := by
  refine lpv_rec ?_
  intro z r x hF hx H locs ls hH hl K0
  obtain ⟨b2, b3, b4⟩ := z
  dsimp only [f_X8_undecided_8] at hF
  try dsimp only at hH hl
  refine lv_iload X.x X.b (dk DX8_undecided_0 6 rfl) (lv_at hl 4 rfl) ?_
  refine lv_aload_n X.x X.b (dk DX8_undecided_0 7 rfl) rfl (lv_at hl 0 rfl) ?_
  refine og_getI OX8 X hq hH 0 (by decide) rfl kF_X8_43 (dk DX8_undecided_0 8 rfl) ?_
  refine lv_icmp_ge (tgt := 108) X.x X.b (dk DX8_undecided_0 9 rfl) (by decide) (fun c1 => ?_) (fun c1 => ?_)
  · replace hF := if_t hF c1
    have hr9 := lp_r hF hx
    subst hr9
    exact K0 _ _ _ hH (lv_sub hl [2] rfl)
  · replace hF := if_f hF c1
    refine lv_iload X.x X.b (dk DX8_undecided_0 10 rfl) (lv_at hl 4 rfl) ?_
    refine lv_bipush (v := 16) X.x X.b (dk DX8_undecided_0 11 rfl) (by decide) ?_
    refine lv_icmp_ge (tgt := 108) X.x X.b (dk DX8_undecided_0 12 rfl) (by decide) (fun c2 => ?_) (fun c2 => ?_)
    · replace hF := if_t hF c2
      have hr9 := lp_r hF hx
      subst hr9
      exact K0 _ _ _ hH (lv_sub hl [2] rfl)
    · replace hF := if_f hF c2
      refine lv_iconst (v := 0) X.x X.b (dk DX8_undecided_0 13 rfl) (by decide) ?_
      refine lv_istore (lv' := [(5, .int 0), (0, .ref (q 10)), (1, .int b1), (2, .int b2), (3, .int b3), (4, .int b4)]) X.x X.b (dk DX8_undecided_0 14 rfl) hl (by decide) rfl (fun ls hl => ?_)
      replace hl : lv_has ls 7 [(0, .ref (q 10)), (1, .int b1), (2, .int b2), (3, .int b3), (4, .int b4), (5, .int 0)] := lv_sub hl [1, 2, 3, 4, 5, 0] rfl
      refine lv_iconst (v := 0) X.x X.b (dk DX8_undecided_0 15 rfl) (by decide) ?_
      refine lv_istore (lv' := [(6, .int 0), (0, .ref (q 10)), (1, .int b1), (2, .int b2), (3, .int b3), (4, .int b4), (5, .int 0)]) X.x X.b (dk DX8_undecided_0 16 rfl) hl (by decide) rfl (fun ls hl => ?_)
      replace hl : lv_has ls 7 [(0, .ref (q 10)), (1, .int b1), (2, .int b2), (3, .int b3), (4, .int b4), (5, .int 0), (6, .int 0)] := lv_sub hl [1, 2, 3, 4, 5, 6, 0] rfl
      obtain ⟨x16, e17, hF⟩ := bd hF
      replace hl : lv_has ls 7 [(0, .ref (q 10)), (1, .int b1), (2, .int b2), (3, .int b3), (4, .int b4), (5, .int 0), (6, .int 0)] := lv_sub hl [0, 1, 2, 3, 4, 5, 6] rfl
      refine w_X8_undecided_30 hq X s_t b1 b2 b3 b4 _ _ e17 _ _ _ hH hl (fun H locs ls hH hl => ?_)
      refine lv_iload X.x X.b (dk DX8_undecided_0 46 rfl) (lv_at hl 5 rfl) ?_
      refine lv_iconst (v := 1) X.x X.b (dk DX8_undecided_0 47 rfl) (by decide) ?_
      refine lv_icmp_le (tgt := 102) X.x X.b (dk DX8_undecided_0 48 rfl) (by decide) (fun c19 => ?_) (fun c19 => ?_)
      · replace hF := if_t hF c19
        obtain ⟨v20, e21⟩ : ∃ y : Int32, y = b4 + 1 := ⟨_, rfl⟩
        replace hF := bnd_e hF e21
        refine lv_iinc (v := v20) (lv' := [(4, .int v20), (0, .ref (q 10)), (1, .int b1), (2, .int b2), (3, .int b3), (5, .int x16)]) X.x X.b (dk DX8_undecided_0 56 rfl) hl (k := 4) rfl (by rw [e21]; rfl) (by decide) rfl (fun ls hl => ?_)
        replace hl : lv_has ls 7 [(0, .ref (q 10)), (1, .int b1), (2, .int b2), (3, .int b3), (4, .int v20)] := lv_sub hl [1, 2, 3, 4, 0] rfl
        refine lv_goto (tgt := 8) X.x X.b (dk DX8_undecided_0 57 rfl) (by decide) ?_
        exact (lp_l hF hx) _ _ _ hH (lv_sub hl [0, 1, 2, 3, 4] rfl) K0
      · replace hF := if_f hF c19
        refine lv_iload X.x X.b (dk DX8_undecided_0 49 rfl) (lv_at hl 5 rfl) ?_
        refine lv_iload_n X.x X.b (dk DX8_undecided_0 50 rfl) rfl (lv_at hl 3 rfl) ?_
        refine lv_icmp_ge (tgt := 102) X.x X.b (dk DX8_undecided_0 51 rfl) (by decide) (fun c22 => ?_) (fun c22 => ?_)
        · replace hF := if_t hF c22
          obtain ⟨v23, e24⟩ : ∃ y : Int32, y = b4 + 1 := ⟨_, rfl⟩
          replace hF := bnd_e hF e24
          refine lv_iinc (v := v23) (lv' := [(4, .int v23), (0, .ref (q 10)), (1, .int b1), (2, .int b2), (3, .int b3), (5, .int x16)]) X.x X.b (dk DX8_undecided_0 56 rfl) hl (k := 4) rfl (by rw [e24]; rfl) (by decide) rfl (fun ls hl => ?_)
          replace hl : lv_has ls 7 [(0, .ref (q 10)), (1, .int b1), (2, .int b2), (3, .int b3), (4, .int v23)] := lv_sub hl [1, 2, 3, 4, 0] rfl
          refine lv_goto (tgt := 8) X.x X.b (dk DX8_undecided_0 57 rfl) (by decide) ?_
          exact (lp_l hF hx) _ _ _ hH (lv_sub hl [0, 1, 2, 3, 4] rfl) K0
        · replace hF := if_f hF c22
          refine lv_iload X.x X.b (dk DX8_undecided_0 52 rfl) (lv_at hl 5 rfl) ?_
          refine lv_istore_n (lv' := [(3, .int x16), (0, .ref (q 10)), (1, .int b1), (2, .int b2), (4, .int b4), (5, .int x16)]) X.x X.b (dk DX8_undecided_0 53 rfl) rfl hl (by decide) rfl (fun ls hl => ?_)
          replace hl : lv_has ls 7 [(0, .ref (q 10)), (1, .int b1), (3, .int x16), (4, .int b4)] := lv_sub hl [1, 2, 0, 4] rfl
          refine lv_iload X.x X.b (dk DX8_undecided_0 54 rfl) (lv_at hl 3 rfl) ?_
          refine lv_istore_n (lv' := [(2, .int b4), (0, .ref (q 10)), (1, .int b1), (3, .int x16), (4, .int b4)]) X.x X.b (dk DX8_undecided_0 55 rfl) rfl hl (by decide) rfl (fun ls hl => ?_)
          replace hl : lv_has ls 7 [(0, .ref (q 10)), (1, .int b1), (2, .int b4), (3, .int x16), (4, .int b4)] := lv_sub hl [1, 2, 0, 3, 4] rfl
          obtain ⟨v25, e26⟩ : ∃ y : Int32, y = b4 + 1 := ⟨_, rfl⟩
          replace hF := bnd_e hF e26
          refine lv_iinc (v := v25) (lv' := [(4, .int v25), (0, .ref (q 10)), (1, .int b1), (2, .int b4), (3, .int x16)]) X.x X.b (dk DX8_undecided_0 56 rfl) hl (k := 4) rfl (by rw [e26]; rfl) (by decide) rfl (fun ls hl => ?_)
          replace hl : lv_has ls 7 [(0, .ref (q 10)), (1, .int b1), (2, .int b4), (3, .int x16), (4, .int v25)] := lv_sub hl [1, 2, 3, 4, 0] rfl
          refine lv_goto (tgt := 8) X.x X.b (dk DX8_undecided_0 57 rfl) (by decide) ?_
          exact (lp_l hF hx) _ _ _ hH (lv_sub hl [0, 1, 2, 3, 4] rfl) K0
set_option maxHeartbeats 4000000 in
set_option maxRecDepth 100000 in
theorem c_X8_undecided {l : Launch} {G : mG} {h : mM} {q : Nat → Nat} (hq : oinj LX8 q) {st : OS} {a0 : Int32} {x : Int32} (hF : f_X8_undecided st a0 = some x) : cQ l G yX8_undecided cX8_undecided 7 (some FieldType.int) rm_X8_undecided [.ref (q 10), .int a0] (oset LX8 G q st h) (mQi G (fun r h1 => r = x ∧ h1 = oset LX8 G q st h)) := by
  refine mp_of (by decide +kernel) (Nat.le_of_ble_eq_true rfl) ?_
  intro p e s m below meth c X hr hlk hH hname ls hl
  dsimp only [f_X8_undecided] at hF
  replace hl : lv_has ls 7 [(0, .ref (q 10)), (1, .int a0)] := hl
  refine lv_iconst (v := (-1)) X.x X.b (dk DX8_undecided_0 0 rfl) (by decide) ?_
  refine lv_istore_n (lv' := [(2, .int ((-1))), (0, .ref (q 10)), (1, .int a0)]) X.x X.b (dk DX8_undecided_0 1 rfl) rfl hl (by decide) rfl (fun ls hl => ?_)
  replace hl : lv_has ls 7 [(0, .ref (q 10)), (1, .int a0), (2, .int ((-1)))] := lv_sub hl [1, 2, 0] rfl
  refine lv_bipush (v := 17) X.x X.b (dk DX8_undecided_0 2 rfl) (by decide) ?_
  refine lv_istore_n (lv' := [(3, .int 17), (0, .ref (q 10)), (1, .int a0), (2, .int ((-1)))]) X.x X.b (dk DX8_undecided_0 3 rfl) rfl hl (by decide) rfl (fun ls hl => ?_)
  replace hl : lv_has ls 7 [(0, .ref (q 10)), (1, .int a0), (2, .int ((-1))), (3, .int 17)] := lv_sub hl [1, 2, 3, 0] rfl
  refine lv_iconst (v := 0) X.x X.b (dk DX8_undecided_0 4 rfl) (by decide) ?_
  refine lv_istore (lv' := [(4, .int 0), (0, .ref (q 10)), (1, .int a0), (2, .int ((-1))), (3, .int 17)]) X.x X.b (dk DX8_undecided_0 5 rfl) hl (by decide) rfl (fun ls hl => ?_)
  replace hl : lv_has ls 7 [(0, .ref (q 10)), (1, .int a0), (2, .int ((-1))), (3, .int 17), (4, .int 0)] := lv_sub hl [1, 2, 3, 4, 0] rfl
  obtain ⟨x27, e28, hF⟩ := bd hF
  replace hl : lv_has ls 7 [(0, .ref (q 10)), (1, .int a0), (2, .int ((-1))), (3, .int 17), (4, .int 0)] := lv_sub hl [0, 1, 2, 3, 4] rfl
  refine w_X8_undecided_8 hq X st a0 _ _ e28 _ _ _ hH hl (fun H locs ls hH hl => ?_)
  refine lv_iload_n X.x X.b (dk DX8_undecided_0 58 rfl) rfl (lv_at hl 0 rfl) ?_
  cases sm hF
  exact mr_iret X hr hlk hH ⟨rfl, rfl⟩ (dk DX8_undecided_0 59 rfl)
-- X8_carriedSet
abbrev rm_X8_carriedSet : Room := { frames := 1, cells := 0, slots := 0, locals := 22 }
theorem hd_X8_carriedSet : mHd yX8_carriedSet 1 := ⟨by decide +kernel, by decide +kernel, by decide +kernel⟩
theorem DX8_carriedSet_0 : ∀ t ∈ ([(0, .lconst 0, 1), (1, .lstore_n 3, 1), (2, .iconst 0, 1), (3, .istore 5, 2), (5, .iload 5, 2), (7, .aload_n 0, 1), (8, .getfield 43, 3), (11, .if_icmp .ge 41, 3), (14, .iload 5, 2), (16, .bipush 16, 2), (18, .if_icmp .ge 34, 3), (21, .lload_n 3, 1), (22, .lload_n 1, 1), (23, .iload 5, 2), (25, .invokestatic 79, 3), (28, .ifCond .eq 15, 3), (31, .lconst 1, 1), (32, .aload_n 0, 1), (33, .getfield 32, 3), (36, .iload 5, 2), (38, .iaload, 1), (39, .lshl, 1), (40, .goto 4, 3), (43, .lconst 0, 1), (44, .lor, 1), (45, .lstore_n 3, 1), (46, .iinc 5 1, 3), (49, .goto (-44), 3), (52, .lload_n 3, 1), (53, .lreturn, 1)] : List (Nat × Instr × Nat)), decode cX8_carriedSet t.1 = .ok (t.2.1, t.2.2) := by decide +kernel
noncomputable def f_X8_carriedSet_5 (s_t : OS) (b1 : Int64) : (Int64 × Int32) → Option ((Int64 × Int32) ⊕ (Int64)) := fun z => match z with | (b3, b5) => (if (s_t.1 0) ≤ b5 then some (.inr b3) else (if 16 ≤ b5 then some (.inr b3) else (f_X10_has b1 b5).bind (fun x3 => (if x3 = 0 then bnd (b3 ||| 0 : Int64) (fun v7 => bnd (b5 + 1 : Int32) (fun v9 => some (.inl ((v7, v9))))) else if inb b5 16 = true then bnd (b3 ||| (((1 : Int64)) <<< ((s_t.2.2.1 8 (b5 : Int32).toNatClampNeg : Int32).toInt64 &&& 63)) : Int64) (fun v12 => bnd (b5 + 1 : Int32) (fun v14 => some (.inl ((v12, v14))))) else none))))
noncomputable def f_X8_carriedSet (st : OS) (a0 : Int64) : Option (Int64) := (lpv (f_X8_carriedSet_5 st a0) ((0, 0))).bind (fun x16 => some x16)
set_option maxHeartbeats 4000000 in
set_option maxRecDepth 100000 in
theorem w_X8_carriedSet_5 {p : Program} {l : Launch} {e : Env} {s : State} {m : MethodId} {args : Array Value} {below : List Frame} {meth : Method} {c : Code} {Q : State → Prop} {G : mG} {h : mM} {q : Nat → Nat} (hq : oinj LX8 q) (X : mX G p m c cX8_carriedSet 6 s args RX8) (s_t : OS) (b1 : Int64) : ∀ (z : Int64 × Int32) (r : Int64), lpv (f_X8_carriedSet_5 s_t b1) z = some r → ∀ (H : Heap) (locs : List Loc) (ls : Array Slot), mH G (oset LX8 G q s_t h) s.heap H locs → lv_has ls 6 [(0, .ref (q 10)), (1, .long b1), (3, .long z.1), (5, .int z.2)] → (∀ (H : Heap) (locs : List Loc) (ls : Array Slot), mH G (oset LX8 G q s_t h) s.heap H locs → lv_has ls 6 [(3, .long r)] → W p l e rm_X8_carriedSet s m args below meth c H locs 0 0 Q (F0 m 52 ls [])) → W p l e rm_X8_carriedSet s m args below meth c H locs 0 0 Q (F0 m 5 ls []) := by
  refine lpv_rec ?_
  intro z r x hF hx H locs ls hH hl K0
  obtain ⟨b3, b5⟩ := z
  dsimp only [f_X8_carriedSet_5] at hF
  try dsimp only at hH hl
  refine lv_iload X.x X.b (dk DX8_carriedSet_0 4 rfl) (lv_at hl 3 rfl) ?_
  refine lv_aload_n X.x X.b (dk DX8_carriedSet_0 5 rfl) rfl (lv_at hl 0 rfl) ?_
  refine og_getI OX8 X hq hH 0 (by decide) rfl kF_X8_43 (dk DX8_carriedSet_0 6 rfl) ?_
  refine lv_icmp_ge (tgt := 52) X.x X.b (dk DX8_carriedSet_0 7 rfl) (by decide) (fun c1 => ?_) (fun c1 => ?_)
  · replace hF := if_t hF c1
    have hr9 := lp_r hF hx
    subst hr9
    exact K0 _ _ _ hH (lv_sub hl [2] rfl)
  · replace hF := if_f hF c1
    refine lv_iload X.x X.b (dk DX8_carriedSet_0 8 rfl) (lv_at hl 3 rfl) ?_
    refine lv_bipush (v := 16) X.x X.b (dk DX8_carriedSet_0 9 rfl) (by decide) ?_
    refine lv_icmp_ge (tgt := 52) X.x X.b (dk DX8_carriedSet_0 10 rfl) (by decide) (fun c2 => ?_) (fun c2 => ?_)
    · replace hF := if_t hF c2
      have hr9 := lp_r hF hx
      subst hr9
      exact K0 _ _ _ hH (lv_sub hl [2] rfl)
    · replace hF := if_f hF c2
      refine lv_lload_n X.x X.b (dk DX8_carriedSet_0 11 rfl) rfl (lv_at hl 2 rfl) ?_
      refine lv_lload_n X.x X.b (dk DX8_carriedSet_0 12 rfl) rfl (lv_at hl 1 rfl) ?_
      refine lv_iload X.x X.b (dk DX8_carriedSet_0 13 rfl) (lv_at hl 3 rfl) ?_
      obtain ⟨x3, e4, hF⟩ := bd hF
      refine mr_ci0 hH ⟨rfl, rfl⟩ (mr_runS (As := [.long b1, .int b5]) (rest := [.long b3]) X hH (c_X10_has e4) kM_X8_79 kT_X10_has kN_X10 kC_X10_has hd_X10_has ⟨Nat.le_of_ble_eq_true rfl, Nat.le_of_ble_eq_true rfl⟩ rfl hl.1 (Nat.le_of_ble_eq_true rfl) (dk DX8_carriedSet_0 14 rfl) ⟨Nat.zero_le _, Nat.zero_le _⟩) (fun r h1 H locs hp hH => ?_)
      obtain ⟨hr1, hr2⟩ := hp; rw [hr1]; rw [hr2] at hH; clear hr1 hr2
      refine lv_if_eq (tgt := 43) X.x X.b (dk DX8_carriedSet_0 15 rfl) (by decide) (fun c6 => ?_) (fun c6 => ?_)
      · replace hF := if_t hF c6
        refine lv_lconst (v := 0) X.x X.b (dk DX8_carriedSet_0 23 rfl) (by decide) ?_
        refine lv_lor X.x X.b (dk DX8_carriedSet_0 24 rfl) ?_
        refine lv_topl (fun v7 e8 => ?_)
        replace hF := bnd_e hF e8
        refine lv_lstore_n (lv' := [(3, .long v7), (0, .ref (q 10)), (1, .long b1), (5, .int b5)]) X.x X.b (dk DX8_carriedSet_0 25 rfl) rfl hl (by decide) rfl (fun ls hl => ?_)
        replace hl : lv_has ls 6 [(0, .ref (q 10)), (1, .long b1), (3, .long v7), (5, .int b5)] := lv_sub hl [1, 2, 0, 3] rfl
        obtain ⟨v9, e10⟩ : ∃ y : Int32, y = b5 + 1 := ⟨_, rfl⟩
        replace hF := bnd_e hF e10
        refine lv_iinc (v := v9) (lv' := [(5, .int v9), (0, .ref (q 10)), (1, .long b1), (3, .long v7)]) X.x X.b (dk DX8_carriedSet_0 26 rfl) hl (k := 3) rfl (by rw [e10]; rfl) (by decide) rfl (fun ls hl => ?_)
        replace hl : lv_has ls 6 [(0, .ref (q 10)), (1, .long b1), (3, .long v7), (5, .int v9)] := lv_sub hl [1, 2, 3, 0] rfl
        refine lv_goto (tgt := 5) X.x X.b (dk DX8_carriedSet_0 27 rfl) (by decide) ?_
        exact (lp_l hF hx) _ _ _ hH (lv_sub hl [0, 1, 2, 3] rfl) K0
      · replace hF := if_f hF c6
        refine lv_lconst (v := 1) X.x X.b (dk DX8_carriedSet_0 16 rfl) (by decide) ?_
        refine lv_aload_n X.x X.b (dk DX8_carriedSet_0 17 rfl) rfl (lv_at hl 0 rfl) ?_
        refine og_getR (t := 0) OX8 X hq hH 8 (by decide) rfl kF_X8_32 (dk DX8_carriedSet_0 18 rfl) ?_
        refine lv_iload X.x X.b (dk DX8_carriedSet_0 19 rfl) (lv_at hl 3 rfl) ?_
        obtain ⟨c11, hF⟩ := gd hF
        refine og_iald X hq hH 8 (by decide) rfl (inb_in c11) (dk DX8_carriedSet_0 20 rfl) ?_
        refine lv_lshl X.x X.b (dk DX8_carriedSet_0 21 rfl) rfl ?_
        refine lv_goto (tgt := 44) X.x X.b (dk DX8_carriedSet_0 22 rfl) (by decide) ?_
        refine lv_lor X.x X.b (dk DX8_carriedSet_0 24 rfl) ?_
        refine lv_topl (fun v12 e13 => ?_)
        replace hF := bnd_e hF e13
        refine lv_lstore_n (lv' := [(3, .long v12), (0, .ref (q 10)), (1, .long b1), (5, .int b5)]) X.x X.b (dk DX8_carriedSet_0 25 rfl) rfl hl (by decide) rfl (fun ls hl => ?_)
        replace hl : lv_has ls 6 [(0, .ref (q 10)), (1, .long b1), (3, .long v12), (5, .int b5)] := lv_sub hl [1, 2, 0, 3] rfl
        obtain ⟨v14, e15⟩ : ∃ y : Int32, y = b5 + 1 := ⟨_, rfl⟩
        replace hF := bnd_e hF e15
        refine lv_iinc (v := v14) (lv' := [(5, .int v14), (0, .ref (q 10)), (1, .long b1), (3, .long v12)]) X.x X.b (dk DX8_carriedSet_0 26 rfl) hl (k := 3) rfl (by rw [e15]; rfl) (by decide) rfl (fun ls hl => ?_)
        replace hl : lv_has ls 6 [(0, .ref (q 10)), (1, .long b1), (3, .long v12), (5, .int v14)] := lv_sub hl [1, 2, 3, 0] rfl
        refine lv_goto (tgt := 5) X.x X.b (dk DX8_carriedSet_0 27 rfl) (by decide) ?_
        exact (lp_l hF hx) _ _ _ hH (lv_sub hl [0, 1, 2, 3] rfl) K0
set_option maxHeartbeats 4000000 in
set_option maxRecDepth 100000 in
theorem c_X8_carriedSet {l : Launch} {G : mG} {h : mM} {q : Nat → Nat} (hq : oinj LX8 q) {st : OS} {a0 : Int64} {x : Int64} (hF : f_X8_carriedSet st a0 = some x) : cQ l G yX8_carriedSet cX8_carriedSet 6 (some FieldType.long) rm_X8_carriedSet [.ref (q 10), .long a0] (oset LX8 G q st h) (mQl G (fun r h1 => r = x ∧ h1 = oset LX8 G q st h)) := by
  refine mp_of (by decide +kernel) (Nat.le_of_ble_eq_true rfl) ?_
  intro p e s m below meth c X hr hlk hH hname ls hl
  dsimp only [f_X8_carriedSet] at hF
  replace hl : lv_has ls 6 [(0, .ref (q 10)), (1, .long a0)] := hl
  refine lv_lconst (v := 0) X.x X.b (dk DX8_carriedSet_0 0 rfl) (by decide) ?_
  refine lv_lstore_n (lv' := [(3, .long 0), (0, .ref (q 10)), (1, .long a0)]) X.x X.b (dk DX8_carriedSet_0 1 rfl) rfl hl (by decide) rfl (fun ls hl => ?_)
  replace hl : lv_has ls 6 [(0, .ref (q 10)), (1, .long a0), (3, .long 0)] := lv_sub hl [1, 2, 0] rfl
  refine lv_iconst (v := 0) X.x X.b (dk DX8_carriedSet_0 2 rfl) (by decide) ?_
  refine lv_istore (lv' := [(5, .int 0), (0, .ref (q 10)), (1, .long a0), (3, .long 0)]) X.x X.b (dk DX8_carriedSet_0 3 rfl) hl (by decide) rfl (fun ls hl => ?_)
  replace hl : lv_has ls 6 [(0, .ref (q 10)), (1, .long a0), (3, .long 0), (5, .int 0)] := lv_sub hl [1, 2, 3, 0] rfl
  obtain ⟨x16, e17, hF⟩ := bd hF
  replace hl : lv_has ls 6 [(0, .ref (q 10)), (1, .long a0), (3, .long 0), (5, .int 0)] := lv_sub hl [0, 1, 2, 3] rfl
  refine w_X8_carriedSet_5 hq X st a0 _ _ e17 _ _ _ hH hl (fun H locs ls hH hl => ?_)
  refine lv_lload_n X.x X.b (dk DX8_carriedSet_0 28 rfl) rfl (lv_at hl 0 rfl) ?_
  cases sm hF
  exact mr_lret X hr hlk hH ⟨rfl, rfl⟩ (dk DX8_carriedSet_0 29 rfl)
-- X8_unusedLine
abbrev rm_X8_unusedLine : Room := { frames := 1, cells := 0, slots := 0, locals := 22 }
theorem hd_X8_unusedLine : mHd yX8_unusedLine 2 := ⟨by decide +kernel, by decide +kernel, by decide +kernel⟩
theorem DX8_unusedLine_0 : ∀ t ∈ ([(0, .iconst 0, 1), (1, .istore 5, 2), (3, .iload 5, 2), (5, .aload_n 0, 1), (6, .getfield 75, 3), (9, .if_icmp .ge 40, 3), (12, .iload 5, 2), (14, .bipush 64, 2), (16, .if_icmp .ge 33, 3), (19, .aload_n 0, 1), (20, .getfield 17, 3), (23, .iload 5, 2), (25, .laload, 1), (26, .lload_n 1, 1), (27, .lcmp, 1), (28, .ifCond .ne 15, 3), (31, .lload_n 3, 1), (32, .iload 5, 2), (34, .invokestatic 79, 3), (37, .ifCond .ne 6, 3), (40, .iload 5, 2), (42, .ireturn, 1), (43, .iinc 5 1, 3), (46, .goto (-43), 3), (49, .iconst (-1), 1), (50, .ireturn, 1)] : List (Nat × Instr × Nat)), decode cX8_unusedLine t.1 = .ok (t.2.1, t.2.2) := by decide +kernel
noncomputable def f_X8_unusedLine_3 (s_t : OS) (b1 : Int64) (b3 : Int64) : Int32 → Option ((Int32) ⊕ (Nat × Int32)) := fun b5 => (if (s_t.1 1) ≤ b5 then some (.inr ((1, b5))) else (if 64 ≤ b5 then some (.inr ((1, b5))) else if inb b5 64 = true then (if (lg_cmp (s_t.2.2.2 3 (b5 : Int32).toNatClampNeg) b1) = 0 then (f_X10_has b3 b5).bind (fun x7 => (if x7 = 0 then some (.inr ((0, b5))) else bnd (b5 + 1 : Int32) (fun v11 => some (.inl v11)))) else bnd (b5 + 1 : Int32) (fun v5 => some (.inl v5))) else none))
noncomputable def f_X8_unusedLine (st : OS) (a0 : Int64) (a1 : Int64) : Option (Int32) := (lpv (f_X8_unusedLine_3 st a0 a1) 0).bind (fun x13 => match x13 with | (k16, v15) => (if k16 = 0 then some v15 else some ((-1))))
set_option maxHeartbeats 4000000 in
set_option maxRecDepth 100000 in
theorem w_X8_unusedLine_3 {p : Program} {l : Launch} {e : Env} {s : State} {m : MethodId} {args : Array Value} {below : List Frame} {meth : Method} {c : Code} {Q : State → Prop} {G : mG} {h : mM} {q : Nat → Nat} (hq : oinj LX8 q) (X : mX G p m c cX8_unusedLine 6 s args RX8) (s_t : OS) (b1 : Int64) (b3 : Int64) : ∀ (z : Int32) (r : Nat × Int32), lpv (f_X8_unusedLine_3 s_t b1 b3) z = some r → ∀ (H : Heap) (locs : List Loc) (ls : Array Slot), mH G (oset LX8 G q s_t h) s.heap H locs → lv_has ls 6 [(0, .ref (q 10)), (1, .long b1), (3, .long b3), (5, .int z)] → (r.1 = 0 → ∀ (H : Heap) (locs : List Loc) (ls : Array Slot), mH G (oset LX8 G q s_t h) s.heap H locs → lv_has ls 6 [(5, .int r.2)] → W p l e rm_X8_unusedLine s m args below meth c H locs 0 0 Q (F0 m 40 ls [])) → (r.1 = 1 → ∀ (H : Heap) (locs : List Loc) (ls : Array Slot), mH G (oset LX8 G q s_t h) s.heap H locs → lv_has ls 6 [] → W p l e rm_X8_unusedLine s m args below meth c H locs 0 0 Q (F0 m 49 ls [])) → W p l e rm_X8_unusedLine s m args below meth c H locs 0 0 Q (F0 m 3 ls []) := by
  refine lpv_rec ?_
  intro z r x hF hx H locs ls hH hl K0 K1
  obtain ⟨b5, hz⟩ : ∃ y, y = z := ⟨_, rfl⟩
  subst hz
  dsimp only [f_X8_unusedLine_3] at hF
  refine lv_iload X.x X.b (dk DX8_unusedLine_0 2 rfl) (lv_at hl 3 rfl) ?_
  refine lv_aload_n X.x X.b (dk DX8_unusedLine_0 3 rfl) rfl (lv_at hl 0 rfl) ?_
  refine og_getI OX8 X hq hH 1 (by decide) rfl kF_X8_75 (dk DX8_unusedLine_0 4 rfl) ?_
  refine lv_icmp_ge (tgt := 49) X.x X.b (dk DX8_unusedLine_0 5 rfl) (by decide) (fun c1 => ?_) (fun c1 => ?_)
  · replace hF := if_t hF c1
    have hr9 := lp_r hF hx
    subst hr9
    exact K1 rfl _ _ _ hH (lv_sub hl [] rfl)
  · replace hF := if_f hF c1
    refine lv_iload X.x X.b (dk DX8_unusedLine_0 6 rfl) (lv_at hl 3 rfl) ?_
    refine lv_bipush (v := 64) X.x X.b (dk DX8_unusedLine_0 7 rfl) (by decide) ?_
    refine lv_icmp_ge (tgt := 49) X.x X.b (dk DX8_unusedLine_0 8 rfl) (by decide) (fun c2 => ?_) (fun c2 => ?_)
    · replace hF := if_t hF c2
      have hr9 := lp_r hF hx
      subst hr9
      exact K1 rfl _ _ _ hH (lv_sub hl [] rfl)
    · replace hF := if_f hF c2
      refine lv_aload_n X.x X.b (dk DX8_unusedLine_0 9 rfl) rfl (lv_at hl 0 rfl) ?_
      refine og_getR (t := 1) OX8 X hq hH 3 (by decide) rfl kF_X8_17 (dk DX8_unusedLine_0 10 rfl) ?_
      refine lv_iload X.x X.b (dk DX8_unusedLine_0 11 rfl) (lv_at hl 3 rfl) ?_
      obtain ⟨c3, hF⟩ := gd hF
      refine og_lald X hq hH 3 (by decide) rfl (inb_in c3) (dk DX8_unusedLine_0 12 rfl) ?_
      refine lv_lload_n X.x X.b (dk DX8_unusedLine_0 13 rfl) rfl (lv_at hl 1 rfl) ?_
      refine W.lcmp X.x X.b (dk DX8_unusedLine_0 14 rfl) ?_
      refine lv_if_ne (tgt := 43) X.x X.b (dk DX8_unusedLine_0 15 rfl) (by decide) (fun c4 => ?_) (fun c4 => ?_)
      · replace hF := if_f hF c4
        obtain ⟨v5, e6⟩ : ∃ y : Int32, y = b5 + 1 := ⟨_, rfl⟩
        replace hF := bnd_e hF e6
        refine lv_iinc (v := v5) (lv' := [(5, .int v5), (0, .ref (q 10)), (1, .long b1), (3, .long b3)]) X.x X.b (dk DX8_unusedLine_0 22 rfl) hl (k := 3) rfl (by rw [e6]; rfl) (by decide) rfl (fun ls hl => ?_)
        replace hl : lv_has ls 6 [(0, .ref (q 10)), (1, .long b1), (3, .long b3), (5, .int v5)] := lv_sub hl [1, 2, 3, 0] rfl
        refine lv_goto (tgt := 3) X.x X.b (dk DX8_unusedLine_0 23 rfl) (by decide) ?_
        exact (lp_l hF hx) _ _ _ hH (lv_sub hl [0, 1, 2, 3] rfl) K0 K1
      · replace hF := if_t hF c4
        refine lv_lload_n X.x X.b (dk DX8_unusedLine_0 16 rfl) rfl (lv_at hl 2 rfl) ?_
        refine lv_iload X.x X.b (dk DX8_unusedLine_0 17 rfl) (lv_at hl 3 rfl) ?_
        obtain ⟨x7, e8, hF⟩ := bd hF
        refine mr_ci0 hH ⟨rfl, rfl⟩ (mr_runS (As := [.long b3, .int b5]) (rest := []) X hH (c_X10_has e8) kM_X8_79 kT_X10_has kN_X10 kC_X10_has hd_X10_has ⟨Nat.le_of_ble_eq_true rfl, Nat.le_of_ble_eq_true rfl⟩ rfl hl.1 (Nat.le_of_ble_eq_true rfl) (dk DX8_unusedLine_0 18 rfl) ⟨Nat.zero_le _, Nat.zero_le _⟩) (fun r h1 H locs hp hH => ?_)
        obtain ⟨hr1, hr2⟩ := hp; rw [hr1]; rw [hr2] at hH; clear hr1 hr2
        refine lv_if_ne (tgt := 43) X.x X.b (dk DX8_unusedLine_0 19 rfl) (by decide) (fun c10 => ?_) (fun c10 => ?_)
        · replace hF := if_f hF c10
          obtain ⟨v11, e12⟩ : ∃ y : Int32, y = b5 + 1 := ⟨_, rfl⟩
          replace hF := bnd_e hF e12
          refine lv_iinc (v := v11) (lv' := [(5, .int v11), (0, .ref (q 10)), (1, .long b1), (3, .long b3)]) X.x X.b (dk DX8_unusedLine_0 22 rfl) hl (k := 3) rfl (by rw [e12]; rfl) (by decide) rfl (fun ls hl => ?_)
          replace hl : lv_has ls 6 [(0, .ref (q 10)), (1, .long b1), (3, .long b3), (5, .int v11)] := lv_sub hl [1, 2, 3, 0] rfl
          refine lv_goto (tgt := 3) X.x X.b (dk DX8_unusedLine_0 23 rfl) (by decide) ?_
          exact (lp_l hF hx) _ _ _ hH (lv_sub hl [0, 1, 2, 3] rfl) K0 K1
        · replace hF := if_t hF c10
          have hr9 := lp_r hF hx
          subst hr9
          exact K0 rfl _ _ _ hH (lv_sub hl [3] rfl)
set_option maxHeartbeats 4000000 in
set_option maxRecDepth 100000 in
theorem c_X8_unusedLine {l : Launch} {G : mG} {h : mM} {q : Nat → Nat} (hq : oinj LX8 q) {st : OS} {a0 : Int64} {a1 : Int64} {x : Int32} (hF : f_X8_unusedLine st a0 a1 = some x) : cQ l G yX8_unusedLine cX8_unusedLine 6 (some FieldType.int) rm_X8_unusedLine [.ref (q 10), .long a0, .long a1] (oset LX8 G q st h) (mQi G (fun r h1 => r = x ∧ h1 = oset LX8 G q st h)) := by
  refine mp_of (by decide +kernel) (Nat.le_of_ble_eq_true rfl) ?_
  intro p e s m below meth c X hr hlk hH hname ls hl
  dsimp only [f_X8_unusedLine] at hF
  replace hl : lv_has ls 6 [(0, .ref (q 10)), (1, .long a0), (3, .long a1)] := hl
  refine lv_iconst (v := 0) X.x X.b (dk DX8_unusedLine_0 0 rfl) (by decide) ?_
  refine lv_istore (lv' := [(5, .int 0), (0, .ref (q 10)), (1, .long a0), (3, .long a1)]) X.x X.b (dk DX8_unusedLine_0 1 rfl) hl (by decide) rfl (fun ls hl => ?_)
  replace hl : lv_has ls 6 [(0, .ref (q 10)), (1, .long a0), (3, .long a1), (5, .int 0)] := lv_sub hl [1, 2, 3, 0] rfl
  obtain ⟨x13, e14, hF⟩ := bd hF
  replace hl : lv_has ls 6 [(0, .ref (q 10)), (1, .long a0), (3, .long a1), (5, .int 0)] := lv_sub hl [0, 1, 2, 3] rfl
  obtain ⟨k16, v15⟩ := x13
  try dsimp only at hF
  refine w_X8_unusedLine_3 hq X st a0 a1 _ _ e14 _ _ _ hH hl (fun hk H locs ls hH hl => ?_) (fun hk H locs ls hH hl => ?_)
  · try dsimp only at hH hl
    try dsimp only at hk
    subst hk
    replace hF := if_t hF rfl
    refine lv_iload X.x X.b (dk DX8_unusedLine_0 20 rfl) (lv_at hl 0 rfl) ?_
    cases sm hF
    exact mr_iret X hr hlk hH ⟨rfl, rfl⟩ (dk DX8_unusedLine_0 21 rfl)
  · try dsimp only at hH hl
    try dsimp only at hk
    subst hk
    replace hF := if_f hF (by decide)
    refine lv_iconst (v := (-1)) X.x X.b (dk DX8_unusedLine_0 24 rfl) (by decide) ?_
    cases sm hF
    exact mr_iret X hr hlk hH ⟨rfl, rfl⟩ (dk DX8_unusedLine_0 25 rfl)
-- X8_carries
abbrev rm_X8_carries : Room := { frames := 2, cells := 0, slots := 0, locals := 47 }
theorem hd_X8_carries : mHd yX8_carries 1 := ⟨by decide +kernel, by decide +kernel, by decide +kernel⟩
theorem DX8_carries_0 : ∀ t ∈ ([(0, .iconst 0, 1), (1, .istore_n 2, 1), (2, .iload_n 2, 1), (3, .aload_n 0, 1), (4, .getfield 43, 3), (7, .if_icmp .ge 83, 3), (10, .iload_n 2, 1), (11, .bipush 16, 2), (13, .if_icmp .ge 77, 3), (16, .aload_n 0, 1), (17, .getfield 32, 3), (20, .iload_n 2, 1), (21, .iconst (-1), 1), (22, .iastore, 1), (23, .iconst 0, 1), (24, .istore_n 3, 1), (25, .iload_n 3, 1), (26, .aload_n 0, 1), (27, .getfield 43, 3), (30, .if_icmp .ge 42, 3), (33, .iload_n 3, 1), (34, .bipush 16, 2), (36, .if_icmp .ge 36, 3), (39, .aload_n 0, 1), (40, .getfield 23, 3), (43, .iload_n 1, 1), (44, .iload_n 3, 1), (45, .iadd, 1), (46, .laload, 1), (47, .aload_n 0, 1), (48, .getfield 20, 3), (51, .iload_n 1, 1), (52, .iload_n 2, 1), (53, .iadd, 1), (54, .laload, 1), (55, .lcmp, 1), (56, .ifCond .ne 10, 3), (59, .aload_n 0, 1), (60, .getfield 32, 3), (63, .iload_n 2, 1), (64, .iload_n 3, 1), (65, .iastore, 1), (66, .iinc 3 1, 3), (69, .goto (-44), 3), (72, .aload_n 0, 1), (73, .getfield 32, 3), (76, .iload_n 2, 1), (77, .iaload, 1), (78, .iconst (-1), 1), (79, .if_icmp .ne 5, 3), (82, .iconst 0, 1), (83, .ireturn, 1), (84, .iinc 2 1, 3), (87, .goto (-85), 3), (90, .lconst 0, 1), (91, .lstore_n 2, 1), (92, .iconst 0, 1), (93, .istore 4, 2), (95, .iload 4, 2), (97, .aload_n 0, 1)] : List (Nat × Instr × Nat)), decode cX8_carries t.1 = .ok (t.2.1, t.2.2) := by decide +kernel
theorem DX8_carries_1 : ∀ t ∈ ([(98, .getfield 75, 3), (101, .if_icmp .ge 49, 3), (104, .iload 4, 2), (106, .bipush 64, 2), (108, .if_icmp .ge 42, 3), (111, .aload_n 0, 1), (112, .aload_n 0, 1), (113, .aload_n 0, 1), (114, .getfield 13, 3), (117, .iload 4, 2), (119, .laload, 1), (120, .invokevirtual 126, 3), (123, .lload_n 2, 1), (124, .invokevirtual 129, 3), (127, .istore 5, 2), (129, .iload 5, 2), (131, .iconst (-1), 1), (132, .if_icmp .ne 5, 3), (135, .iconst 0, 1), (136, .ireturn, 1), (137, .lload_n 2, 1), (138, .lconst 1, 1), (139, .iload 5, 2), (141, .lshl, 1), (142, .lor, 1), (143, .lstore_n 2, 1), (144, .iinc 4 1, 3), (147, .goto (-52), 3), (150, .iconst 1, 1), (151, .ireturn, 1)] : List (Nat × Instr × Nat)), decode cX8_carries t.1 = .ok (t.2.1, t.2.2) := by decide +kernel
noncomputable def f_X8_carries_25 (b1 : Int32) (b2 : Int32) : (OS × Int32) → Option ((OS × Int32) ⊕ (OS)) := fun z => match z with | (s_t, b3) => (if (s_t.1 0) ≤ b3 then some (.inr s_t) else (if 16 ≤ b3 then some (.inr s_t) else if inb (b1 + b3) 288 = true then if inb (b1 + b2) 288 = true then (if (lg_cmp (s_t.2.2.2 5 (b1 + b3 : Int32).toNatClampNeg) (s_t.2.2.2 4 (b1 + b2 : Int32).toNatClampNeg)) = 0 then if inb b2 16 = true then bnd (oA s_t 8 (upd (s_t.2.2.1 8) (b2 : Int32).toNatClampNeg b3)) (fun t14 => bnd (b3 + 1 : Int32) (fun v16 => some (.inl ((t14, v16))))) else none else bnd (b3 + 1 : Int32) (fun v11 => some (.inl ((s_t, v11))))) else none else none))
noncomputable def f_X8_carries_2 (b1 : Int32) : (OS × Int32) → Option ((OS × Int32) ⊕ (Nat × OS)) := fun z => match z with | (s_t, b2) => (if (s_t.1 0) ≤ b2 then some (.inr ((1, s_t))) else (if 16 ≤ b2 then some (.inr ((1, s_t))) else if inb b2 16 = true then bnd (oA s_t 8 (upd (s_t.2.2.1 8) (b2 : Int32).toNatClampNeg ((-1)))) (fun t4 => (lpv (f_X8_carries_25 b1 b2) ((t4, 0))).bind (fun x18 => (if (x18.2.2.1 8 (b2 : Int32).toNatClampNeg) = ((-1)) then some (.inr ((0, x18))) else bnd (b2 + 1 : Int32) (fun v22 => some (.inl ((x18, v22))))))) else none))
noncomputable def f_X8_carries_95 (s_t : OS) : (Int64 × Int32) → Option ((Int64 × Int32) ⊕ (Nat)) := fun z => match z with | (b2, b4) => (if (s_t.1 1) ≤ b4 then some (.inr 1) else (if 64 ≤ b4 then some (.inr 1) else if inb b4 64 = true then (f_X8_carriedSet s_t (s_t.2.2.2 2 (b4 : Int32).toNatClampNeg)).bind (fun x31 => (f_X8_unusedLine s_t x31 b2).bind (fun x34 => (if x34 = ((-1)) then some (.inr 0) else bnd (b2 ||| (((1 : Int64)) <<< ((x34 : Int32).toInt64 &&& 63)) : Int64) (fun v38 => bnd (b4 + 1 : Int32) (fun v40 => some (.inl ((v38, v40)))))))) else none))
noncomputable def f_X8_carries (st : OS) (a0 : Int32) : Option (Int32 × OS) := (lpv (f_X8_carries_2 a0) ((st, 0))).bind (fun x24 => match x24 with | (k27, t26) => (if k27 = 0 then some ((0, t26)) else (lpv (f_X8_carries_95 t26) ((0, 0))).bind (fun x42 => (if x42 = 0 then some ((0, t26)) else some ((1, t26))))))
set_option maxHeartbeats 4000000 in
set_option maxRecDepth 100000 in
theorem w_X8_carries_25 {p : Program} {l : Launch} {e : Env} {s : State} {m : MethodId} {args : Array Value} {below : List Frame} {meth : Method} {c : Code} {Q : State → Prop} {G : mG} {h : mM} {q : Nat → Nat} (hq : oinj LX8 q) (X : mX G p m c cX8_carries 6 s args RX8) (b1 : Int32) (b2 : Int32) : ∀ (z : OS × Int32) (r : OS), lpv (f_X8_carries_25 b1 b2) z = some r → ∀ (H : Heap) (locs : List Loc) (ls : Array Slot), mH G (oset LX8 G q z.1 h) s.heap H locs → lv_has ls 6 [(0, .ref (q 10)), (1, .int b1), (2, .int b2), (3, .int z.2)] → (∀ (H : Heap) (locs : List Loc) (ls : Array Slot), mH G (oset LX8 G q r h) s.heap H locs → lv_has ls 6 [(0, .ref (q 10)), (1, .int b1), (2, .int b2)] → W p l e rm_X8_carries s m args below meth c H locs 0 0 Q (F0 m 72 ls [])) → W p l e rm_X8_carries s m args below meth c H locs 0 0 Q (F0 m 25 ls []) := by
  refine lpv_rec ?_
  intro z r x hF hx H locs ls hH hl K0
  obtain ⟨s_t, b3⟩ := z
  dsimp only [f_X8_carries_25] at hF
  try dsimp only at hH hl
  refine lv_iload_n X.x X.b (dk DX8_carries_0 16 rfl) rfl (lv_at hl 3 rfl) ?_
  refine lv_aload_n X.x X.b (dk DX8_carries_0 17 rfl) rfl (lv_at hl 0 rfl) ?_
  refine og_getI OX8 X hq hH 0 (by decide) rfl kF_X8_43 (dk DX8_carries_0 18 rfl) ?_
  refine lv_icmp_ge (tgt := 72) X.x X.b (dk DX8_carries_0 19 rfl) (by decide) (fun c6 => ?_) (fun c6 => ?_)
  · replace hF := if_t hF c6
    have hr9 := lp_r hF hx
    subst hr9
    exact K0 _ _ _ hH (lv_sub hl [0, 1, 2] rfl)
  · replace hF := if_f hF c6
    refine lv_iload_n X.x X.b (dk DX8_carries_0 20 rfl) rfl (lv_at hl 3 rfl) ?_
    refine lv_bipush (v := 16) X.x X.b (dk DX8_carries_0 21 rfl) (by decide) ?_
    refine lv_icmp_ge (tgt := 72) X.x X.b (dk DX8_carries_0 22 rfl) (by decide) (fun c7 => ?_) (fun c7 => ?_)
    · replace hF := if_t hF c7
      have hr9 := lp_r hF hx
      subst hr9
      exact K0 _ _ _ hH (lv_sub hl [0, 1, 2] rfl)
    · replace hF := if_f hF c7
      refine lv_aload_n X.x X.b (dk DX8_carries_0 23 rfl) rfl (lv_at hl 0 rfl) ?_
      refine og_getR (t := 1) OX8 X hq hH 5 (by decide) rfl kF_X8_23 (dk DX8_carries_0 24 rfl) ?_
      refine lv_iload_n X.x X.b (dk DX8_carries_0 25 rfl) rfl (lv_at hl 1 rfl) ?_
      refine lv_iload_n X.x X.b (dk DX8_carries_0 26 rfl) rfl (lv_at hl 3 rfl) ?_
      refine lv_iadd X.x X.b (dk DX8_carries_0 27 rfl) ?_
      obtain ⟨c8, hF⟩ := gd hF
      refine og_lald X hq hH 5 (by decide) rfl (inb_in c8) (dk DX8_carries_0 28 rfl) ?_
      refine lv_aload_n X.x X.b (dk DX8_carries_0 29 rfl) rfl (lv_at hl 0 rfl) ?_
      refine og_getR (t := 1) OX8 X hq hH 4 (by decide) rfl kF_X8_20 (dk DX8_carries_0 30 rfl) ?_
      refine lv_iload_n X.x X.b (dk DX8_carries_0 31 rfl) rfl (lv_at hl 1 rfl) ?_
      refine lv_iload_n X.x X.b (dk DX8_carries_0 32 rfl) rfl (lv_at hl 2 rfl) ?_
      refine lv_iadd X.x X.b (dk DX8_carries_0 33 rfl) ?_
      obtain ⟨c9, hF⟩ := gd hF
      refine og_lald X hq hH 4 (by decide) rfl (inb_in c9) (dk DX8_carries_0 34 rfl) ?_
      refine W.lcmp X.x X.b (dk DX8_carries_0 35 rfl) ?_
      refine lv_if_ne (tgt := 66) X.x X.b (dk DX8_carries_0 36 rfl) (by decide) (fun c10 => ?_) (fun c10 => ?_)
      · replace hF := if_f hF c10
        obtain ⟨v11, e12⟩ : ∃ y : Int32, y = b3 + 1 := ⟨_, rfl⟩
        replace hF := bnd_e hF e12
        refine lv_iinc (v := v11) (lv' := [(3, .int v11), (0, .ref (q 10)), (1, .int b1), (2, .int b2)]) X.x X.b (dk DX8_carries_0 42 rfl) hl (k := 3) rfl (by rw [e12]; rfl) (by decide) rfl (fun ls hl => ?_)
        replace hl : lv_has ls 6 [(0, .ref (q 10)), (1, .int b1), (2, .int b2), (3, .int v11)] := lv_sub hl [1, 2, 3, 0] rfl
        refine lv_goto (tgt := 25) X.x X.b (dk DX8_carries_0 43 rfl) (by decide) ?_
        exact (lp_l hF hx) _ _ _ hH (lv_sub hl [0, 1, 2, 3] rfl) K0
      · replace hF := if_t hF c10
        refine lv_aload_n X.x X.b (dk DX8_carries_0 37 rfl) rfl (lv_at hl 0 rfl) ?_
        refine og_getR (t := 0) OX8 X hq hH 8 (by decide) rfl kF_X8_32 (dk DX8_carries_0 38 rfl) ?_
        refine lv_iload_n X.x X.b (dk DX8_carries_0 39 rfl) rfl (lv_at hl 2 rfl) ?_
        refine lv_iload_n X.x X.b (dk DX8_carries_0 40 rfl) rfl (lv_at hl 3 rfl) ?_
        obtain ⟨c13, hF⟩ := gd hF
        refine og_iast X hq hH 8 (by decide) rfl (inb_in c13) (dk DX8_carries_0 41 rfl) (fun H locs hH => ?_)
        obtain ⟨t14, e15⟩ : ∃ y, y = oA s_t 8 (upd (s_t.2.2.1 8) (b2 : Int32).toNatClampNeg b3) := ⟨_, rfl⟩
        rw [← e15] at hH
        replace hF := bnd_e hF e15
        obtain ⟨v16, e17⟩ : ∃ y : Int32, y = b3 + 1 := ⟨_, rfl⟩
        replace hF := bnd_e hF e17
        refine lv_iinc (v := v16) (lv' := [(3, .int v16), (0, .ref (q 10)), (1, .int b1), (2, .int b2)]) X.x X.b (dk DX8_carries_0 42 rfl) hl (k := 3) rfl (by rw [e17]; rfl) (by decide) rfl (fun ls hl => ?_)
        replace hl : lv_has ls 6 [(0, .ref (q 10)), (1, .int b1), (2, .int b2), (3, .int v16)] := lv_sub hl [1, 2, 3, 0] rfl
        refine lv_goto (tgt := 25) X.x X.b (dk DX8_carries_0 43 rfl) (by decide) ?_
        exact (lp_l hF hx) _ _ _ hH (lv_sub hl [0, 1, 2, 3] rfl) K0
set_option maxHeartbeats 4000000 in
set_option maxRecDepth 100000 in
theorem w_X8_carries_2 {p : Program} {l : Launch} {e : Env} {s : State} {m : MethodId} {args : Array Value} {below : List Frame} {meth : Method} {c : Code} {Q : State → Prop} {G : mG} {h : mM} {q : Nat → Nat} (hq : oinj LX8 q) (X : mX G p m c cX8_carries 6 s args RX8) (b1 : Int32) : ∀ (z : OS × Int32) (r : Nat × OS), lpv (f_X8_carries_2 b1) z = some r → ∀ (H : Heap) (locs : List Loc) (ls : Array Slot), mH G (oset LX8 G q z.1 h) s.heap H locs → lv_has ls 6 [(0, .ref (q 10)), (1, .int b1), (2, .int z.2)] → (r.1 = 0 → ∀ (H : Heap) (locs : List Loc) (ls : Array Slot), mH G (oset LX8 G q r.2 h) s.heap H locs → lv_has ls 6 [] → W p l e rm_X8_carries s m args below meth c H locs 0 0 Q (F0 m 82 ls [])) → (r.1 = 1 → ∀ (H : Heap) (locs : List Loc) (ls : Array Slot), mH G (oset LX8 G q r.2 h) s.heap H locs → lv_has ls 6 [(0, .ref (q 10))] → W p l e rm_X8_carries s m args below meth c H locs 0 0 Q (F0 m 90 ls [])) → W p l e rm_X8_carries s m args below meth c H locs 0 0 Q (F0 m 2 ls []) := by
  refine lpv_rec ?_
  intro z r x hF hx H locs ls hH hl K0 K1
  obtain ⟨s_t, b2⟩ := z
  dsimp only [f_X8_carries_2] at hF
  try dsimp only at hH hl
  refine lv_iload_n X.x X.b (dk DX8_carries_0 2 rfl) rfl (lv_at hl 2 rfl) ?_
  refine lv_aload_n X.x X.b (dk DX8_carries_0 3 rfl) rfl (lv_at hl 0 rfl) ?_
  refine og_getI OX8 X hq hH 0 (by decide) rfl kF_X8_43 (dk DX8_carries_0 4 rfl) ?_
  refine lv_icmp_ge (tgt := 90) X.x X.b (dk DX8_carries_0 5 rfl) (by decide) (fun c1 => ?_) (fun c1 => ?_)
  · replace hF := if_t hF c1
    have hr9 := lp_r hF hx
    subst hr9
    exact K1 rfl _ _ _ hH (lv_sub hl [0] rfl)
  · replace hF := if_f hF c1
    refine lv_iload_n X.x X.b (dk DX8_carries_0 6 rfl) rfl (lv_at hl 2 rfl) ?_
    refine lv_bipush (v := 16) X.x X.b (dk DX8_carries_0 7 rfl) (by decide) ?_
    refine lv_icmp_ge (tgt := 90) X.x X.b (dk DX8_carries_0 8 rfl) (by decide) (fun c2 => ?_) (fun c2 => ?_)
    · replace hF := if_t hF c2
      have hr9 := lp_r hF hx
      subst hr9
      exact K1 rfl _ _ _ hH (lv_sub hl [0] rfl)
    · replace hF := if_f hF c2
      refine lv_aload_n X.x X.b (dk DX8_carries_0 9 rfl) rfl (lv_at hl 0 rfl) ?_
      refine og_getR (t := 0) OX8 X hq hH 8 (by decide) rfl kF_X8_32 (dk DX8_carries_0 10 rfl) ?_
      refine lv_iload_n X.x X.b (dk DX8_carries_0 11 rfl) rfl (lv_at hl 2 rfl) ?_
      refine lv_iconst (v := (-1)) X.x X.b (dk DX8_carries_0 12 rfl) (by decide) ?_
      obtain ⟨c3, hF⟩ := gd hF
      refine og_iast X hq hH 8 (by decide) rfl (inb_in c3) (dk DX8_carries_0 13 rfl) (fun H locs hH => ?_)
      obtain ⟨t4, e5⟩ : ∃ y, y = oA s_t 8 (upd (s_t.2.2.1 8) (b2 : Int32).toNatClampNeg ((-1))) := ⟨_, rfl⟩
      rw [← e5] at hH
      replace hF := bnd_e hF e5
      refine lv_iconst (v := 0) X.x X.b (dk DX8_carries_0 14 rfl) (by decide) ?_
      refine lv_istore_n (lv' := [(3, .int 0), (0, .ref (q 10)), (1, .int b1), (2, .int b2)]) X.x X.b (dk DX8_carries_0 15 rfl) rfl hl (by decide) rfl (fun ls hl => ?_)
      replace hl : lv_has ls 6 [(0, .ref (q 10)), (1, .int b1), (2, .int b2), (3, .int 0)] := lv_sub hl [1, 2, 3, 0] rfl
      obtain ⟨x18, e19, hF⟩ := bd hF
      replace hl : lv_has ls 6 [(0, .ref (q 10)), (1, .int b1), (2, .int b2), (3, .int 0)] := lv_sub hl [0, 1, 2, 3] rfl
      refine w_X8_carries_25 hq X b1 b2 _ _ e19 _ _ _ hH hl (fun H locs ls hH hl => ?_)
      refine lv_aload_n X.x X.b (dk DX8_carries_0 44 rfl) rfl (lv_at hl 0 rfl) ?_
      refine og_getR (t := 0) OX8 X hq hH 8 (by decide) rfl kF_X8_32 (dk DX8_carries_0 45 rfl) ?_
      refine lv_iload_n X.x X.b (dk DX8_carries_0 46 rfl) rfl (lv_at hl 2 rfl) ?_
      refine og_iald X hq hH 8 (by decide) rfl (inb_in c3) (dk DX8_carries_0 47 rfl) ?_
      refine lv_iconst (v := (-1)) X.x X.b (dk DX8_carries_0 48 rfl) (by decide) ?_
      refine lv_icmp_ne (tgt := 84) X.x X.b (dk DX8_carries_0 49 rfl) (by decide) (fun c21 => ?_) (fun c21 => ?_)
      · replace hF := if_f hF c21
        obtain ⟨v22, e23⟩ : ∃ y : Int32, y = b2 + 1 := ⟨_, rfl⟩
        replace hF := bnd_e hF e23
        refine lv_iinc (v := v22) (lv' := [(2, .int v22), (0, .ref (q 10)), (1, .int b1)]) X.x X.b (dk DX8_carries_0 52 rfl) hl (k := 2) rfl (by rw [e23]; rfl) (by decide) rfl (fun ls hl => ?_)
        replace hl : lv_has ls 6 [(0, .ref (q 10)), (1, .int b1), (2, .int v22)] := lv_sub hl [1, 2, 0] rfl
        refine lv_goto (tgt := 2) X.x X.b (dk DX8_carries_0 53 rfl) (by decide) ?_
        exact (lp_l hF hx) _ _ _ hH (lv_sub hl [0, 1, 2] rfl) K0 K1
      · replace hF := if_t hF c21
        have hr9 := lp_r hF hx
        subst hr9
        exact K0 rfl _ _ _ hH (lv_sub hl [] rfl)
set_option maxHeartbeats 4000000 in
set_option maxRecDepth 100000 in
theorem w_X8_carries_95 {p : Program} {l : Launch} {e : Env} {s : State} {m : MethodId} {args : Array Value} {below : List Frame} {meth : Method} {c : Code} {Q : State → Prop} {G : mG} {h : mM} {q : Nat → Nat} (hq : oinj LX8 q) (X : mX G p m c cX8_carries 6 s args RX8) (s_t : OS) : ∀ (z : Int64 × Int32) (r : Nat), lpv (f_X8_carries_95 s_t) z = some r → ∀ (H : Heap) (locs : List Loc) (ls : Array Slot), mH G (oset LX8 G q s_t h) s.heap H locs → lv_has ls 6 [(0, .ref (q 10)), (2, .long z.1), (4, .int z.2)] → (r = 0 → ∀ (H : Heap) (locs : List Loc) (ls : Array Slot), mH G (oset LX8 G q s_t h) s.heap H locs → lv_has ls 6 [] → W p l e rm_X8_carries s m args below meth c H locs 0 0 Q (F0 m 135 ls [])) → (r = 1 → ∀ (H : Heap) (locs : List Loc) (ls : Array Slot), mH G (oset LX8 G q s_t h) s.heap H locs → lv_has ls 6 [] → W p l e rm_X8_carries s m args below meth c H locs 0 0 Q (F0 m 150 ls [])) → W p l e rm_X8_carries s m args below meth c H locs 0 0 Q (F0 m 95 ls []) := by
  refine lpv_rec ?_
  intro z r x hF hx H locs ls hH hl K0 K1
  obtain ⟨b2, b4⟩ := z
  dsimp only [f_X8_carries_95] at hF
  try dsimp only at hH hl
  refine lv_iload X.x X.b (dk DX8_carries_0 58 rfl) (lv_at hl 2 rfl) ?_
  refine lv_aload_n X.x X.b (dk DX8_carries_0 59 rfl) rfl (lv_at hl 0 rfl) ?_
  refine og_getI OX8 X hq hH 1 (by decide) rfl kF_X8_75 (dk DX8_carries_1 0 rfl) ?_
  refine lv_icmp_ge (tgt := 150) X.x X.b (dk DX8_carries_1 1 rfl) (by decide) (fun c28 => ?_) (fun c28 => ?_)
  · replace hF := if_t hF c28
    have hr9 := lp_r hF hx
    subst hr9
    exact K1 rfl _ _ _ hH (lv_sub hl [] rfl)
  · replace hF := if_f hF c28
    refine lv_iload X.x X.b (dk DX8_carries_1 2 rfl) (lv_at hl 2 rfl) ?_
    refine lv_bipush (v := 64) X.x X.b (dk DX8_carries_1 3 rfl) (by decide) ?_
    refine lv_icmp_ge (tgt := 150) X.x X.b (dk DX8_carries_1 4 rfl) (by decide) (fun c29 => ?_) (fun c29 => ?_)
    · replace hF := if_t hF c29
      have hr9 := lp_r hF hx
      subst hr9
      exact K1 rfl _ _ _ hH (lv_sub hl [] rfl)
    · replace hF := if_f hF c29
      refine lv_aload_n X.x X.b (dk DX8_carries_1 5 rfl) rfl (lv_at hl 0 rfl) ?_
      refine lv_aload_n X.x X.b (dk DX8_carries_1 6 rfl) rfl (lv_at hl 0 rfl) ?_
      refine lv_aload_n X.x X.b (dk DX8_carries_1 7 rfl) rfl (lv_at hl 0 rfl) ?_
      refine og_getR (t := 1) OX8 X hq hH 2 (by decide) rfl kF_X8_13 (dk DX8_carries_1 8 rfl) ?_
      refine lv_iload X.x X.b (dk DX8_carries_1 9 rfl) (lv_at hl 2 rfl) ?_
      obtain ⟨c30, hF⟩ := gd hF
      refine og_lald X hq hH 2 (by decide) rfl (inb_in c30) (dk DX8_carries_1 10 rfl) ?_
      obtain ⟨x31, e32, hF⟩ := bd hF
      refine mr_cl0 hH ⟨rfl, rfl⟩ (mr_runV (As := [.long (s_t.2.2.2 2 (b4 : Int32).toNatClampNeg)]) (rest := [.ref (q 10)]) X hH (c_X8_carriedSet hq e32) ((oset_at hq (Nat.le_refl _) ohas_N).trans (congrArg some ocell_N)) OX8.1 kM_X8_126 kI_X8_carriedSet kS_X8_carriedSet kN_X8 kC_X8_carriedSet hd_X8_carriedSet ⟨Nat.le_of_ble_eq_true rfl, Nat.le_of_ble_eq_true rfl⟩ rfl hl.1 (Nat.le_of_ble_eq_true rfl) (dk DX8_carries_1 11 rfl) ⟨Nat.zero_le _, Nat.zero_le _⟩) (fun r h1 H locs hp hH => ?_)
      obtain ⟨hr1, hr2⟩ := hp; rw [hr1]; rw [hr2] at hH; clear hr1 hr2
      refine lv_lload_n X.x X.b (dk DX8_carries_1 12 rfl) rfl (lv_at hl 1 rfl) ?_
      obtain ⟨x34, e35, hF⟩ := bd hF
      refine mr_ci0 hH ⟨rfl, rfl⟩ (mr_runV (As := [.long x31, .long b2]) (rest := []) X hH (c_X8_unusedLine hq e35) ((oset_at hq (Nat.le_refl _) ohas_N).trans (congrArg some ocell_N)) OX8.1 kM_X8_129 kI_X8_unusedLine kS_X8_unusedLine kN_X8 kC_X8_unusedLine hd_X8_unusedLine ⟨Nat.le_of_ble_eq_true rfl, Nat.le_of_ble_eq_true rfl⟩ rfl hl.1 (Nat.le_of_ble_eq_true rfl) (dk DX8_carries_1 13 rfl) ⟨Nat.zero_le _, Nat.zero_le _⟩) (fun r h1 H locs hp hH => ?_)
      obtain ⟨hr1, hr2⟩ := hp; rw [hr1]; rw [hr2] at hH; clear hr1 hr2
      refine lv_istore (lv' := [(5, .int x34), (0, .ref (q 10)), (2, .long b2), (4, .int b4)]) X.x X.b (dk DX8_carries_1 14 rfl) hl (by decide) rfl (fun ls hl => ?_)
      replace hl : lv_has ls 6 [(0, .ref (q 10)), (2, .long b2), (4, .int b4), (5, .int x34)] := lv_sub hl [1, 2, 3, 0] rfl
      refine lv_iload X.x X.b (dk DX8_carries_1 15 rfl) (lv_at hl 3 rfl) ?_
      refine lv_iconst (v := (-1)) X.x X.b (dk DX8_carries_1 16 rfl) (by decide) ?_
      refine lv_icmp_ne (tgt := 137) X.x X.b (dk DX8_carries_1 17 rfl) (by decide) (fun c37 => ?_) (fun c37 => ?_)
      · replace hF := if_f hF c37
        refine lv_lload_n X.x X.b (dk DX8_carries_1 20 rfl) rfl (lv_at hl 1 rfl) ?_
        refine lv_lconst (v := 1) X.x X.b (dk DX8_carries_1 21 rfl) (by decide) ?_
        refine lv_iload X.x X.b (dk DX8_carries_1 22 rfl) (lv_at hl 3 rfl) ?_
        refine lv_lshl X.x X.b (dk DX8_carries_1 23 rfl) rfl ?_
        refine lv_lor X.x X.b (dk DX8_carries_1 24 rfl) ?_
        refine lv_topl (fun v38 e39 => ?_)
        replace hF := bnd_e hF e39
        refine lv_lstore_n (lv' := [(2, .long v38), (0, .ref (q 10)), (4, .int b4), (5, .int x34)]) X.x X.b (dk DX8_carries_1 25 rfl) rfl hl (by decide) rfl (fun ls hl => ?_)
        replace hl : lv_has ls 6 [(0, .ref (q 10)), (2, .long v38), (4, .int b4)] := lv_sub hl [1, 0, 2] rfl
        obtain ⟨v40, e41⟩ : ∃ y : Int32, y = b4 + 1 := ⟨_, rfl⟩
        replace hF := bnd_e hF e41
        refine lv_iinc (v := v40) (lv' := [(4, .int v40), (0, .ref (q 10)), (2, .long v38)]) X.x X.b (dk DX8_carries_1 26 rfl) hl (k := 2) rfl (by rw [e41]; rfl) (by decide) rfl (fun ls hl => ?_)
        replace hl : lv_has ls 6 [(0, .ref (q 10)), (2, .long v38), (4, .int v40)] := lv_sub hl [1, 2, 0] rfl
        refine lv_goto (tgt := 95) X.x X.b (dk DX8_carries_1 27 rfl) (by decide) ?_
        exact (lp_l hF hx) _ _ _ hH (lv_sub hl [0, 1, 2] rfl) K0 K1
      · replace hF := if_t hF c37
        have hr9 := lp_r hF hx
        subst hr9
        exact K0 rfl _ _ _ hH (lv_sub hl [] rfl)
set_option maxHeartbeats 4000000 in
set_option maxRecDepth 100000 in
theorem c_X8_carries {l : Launch} {G : mG} {h : mM} {q : Nat → Nat} (hq : oinj LX8 q) {st : OS} {a0 : Int32} {x : Int32 × OS} (hF : f_X8_carries st a0 = some x) : cQ l G yX8_carries cX8_carries 6 (some FieldType.boolean) rm_X8_carries [.ref (q 10), .int a0] (oset LX8 G q st h) (mQi G (fun r h1 => r = x.1 ∧ h1 = oset LX8 G q x.2 h)) := by
  refine mp_of (by decide +kernel) (Nat.le_of_ble_eq_true rfl) ?_
  intro p e s m below meth c X hr hlk hH hname ls hl
  dsimp only [f_X8_carries] at hF
  replace hl : lv_has ls 6 [(0, .ref (q 10)), (1, .int a0)] := hl
  refine lv_iconst (v := 0) X.x X.b (dk DX8_carries_0 0 rfl) (by decide) ?_
  refine lv_istore_n (lv' := [(2, .int 0), (0, .ref (q 10)), (1, .int a0)]) X.x X.b (dk DX8_carries_0 1 rfl) rfl hl (by decide) rfl (fun ls hl => ?_)
  replace hl : lv_has ls 6 [(0, .ref (q 10)), (1, .int a0), (2, .int 0)] := lv_sub hl [1, 2, 0] rfl
  obtain ⟨x24, e25, hF⟩ := bd hF
  replace hl : lv_has ls 6 [(0, .ref (q 10)), (1, .int a0), (2, .int 0)] := lv_sub hl [0, 1, 2] rfl
  obtain ⟨k27, t26⟩ := x24
  try dsimp only at hF
  refine w_X8_carries_2 hq X a0 _ _ e25 _ _ _ hH hl (fun hk H locs ls hH hl => ?_) (fun hk H locs ls hH hl => ?_)
  · try dsimp only at hH hl
    try dsimp only at hk
    subst hk
    replace hF := if_t hF rfl
    refine lv_iconst (v := 0) X.x X.b (dk DX8_carries_0 50 rfl) (by decide) ?_
    cases sm hF
    exact mr_zret X hr hlk hH rfl ⟨rfl, rfl⟩ (dk DX8_carries_0 51 rfl)
  · try dsimp only at hH hl
    try dsimp only at hk
    subst hk
    replace hF := if_f hF (by decide)
    refine lv_lconst (v := 0) X.x X.b (dk DX8_carries_0 54 rfl) (by decide) ?_
    refine lv_lstore_n (lv' := [(2, .long 0), (0, .ref (q 10))]) X.x X.b (dk DX8_carries_0 55 rfl) rfl hl (by decide) rfl (fun ls hl => ?_)
    replace hl : lv_has ls 6 [(0, .ref (q 10)), (2, .long 0)] := lv_sub hl [1, 0] rfl
    refine lv_iconst (v := 0) X.x X.b (dk DX8_carries_0 56 rfl) (by decide) ?_
    refine lv_istore (lv' := [(4, .int 0), (0, .ref (q 10)), (2, .long 0)]) X.x X.b (dk DX8_carries_0 57 rfl) hl (by decide) rfl (fun ls hl => ?_)
    replace hl : lv_has ls 6 [(0, .ref (q 10)), (2, .long 0), (4, .int 0)] := lv_sub hl [1, 2, 0] rfl
    obtain ⟨x42, e43, hF⟩ := bd hF
    replace hl : lv_has ls 6 [(0, .ref (q 10)), (2, .long 0), (4, .int 0)] := lv_sub hl [0, 1, 2] rfl
    refine w_X8_carries_95 hq X t26 _ _ e43 _ _ _ hH hl (fun hk H locs ls hH hl => ?_) (fun hk H locs ls hH hl => ?_)
    · subst hk
      replace hF := if_t hF rfl
      refine lv_iconst (v := 0) X.x X.b (dk DX8_carries_1 18 rfl) (by decide) ?_
      cases sm hF
      exact mr_zret X hr hlk hH rfl ⟨rfl, rfl⟩ (dk DX8_carries_1 19 rfl)
    · subst hk
      replace hF := if_f hF (by decide)
      refine lv_iconst (v := 1) X.x X.b (dk DX8_carries_1 28 rfl) (by decide) ?_
      cases sm hF
      exact mr_zret X hr hlk hH rfl ⟨rfl, rfl⟩ (dk DX8_carries_1 29 rfl)
-- X8_tellApart
abbrev rm_X8_tellApart : Room := { frames := 0, cells := 0, slots := 0, locals := 0 }
theorem hd_X8_tellApart : mHd yX8_tellApart 3 := ⟨by decide +kernel, by decide +kernel, by decide +kernel⟩
theorem DX8_tellApart_0 : ∀ t ∈ ([(0, .iconst 0, 1), (1, .istore 4, 2), (3, .iload 4, 2), (5, .bipush 16, 2), (7, .if_icmp .ge 79, 3), (10, .aload_n 0, 1), (11, .getfield 20, 3), (14, .iload_n 1, 1), (15, .bipush 16, 2), (17, .iadd, 1), (18, .iload 4, 2), (20, .iadd, 1), (21, .aload_n 0, 1), (22, .getfield 20, 3), (25, .iload_n 1, 1), (26, .iload 4, 2), (28, .iadd, 1), (29, .laload, 1), (30, .iload 4, 2), (32, .iload_n 2, 1), (33, .if_icmp .ne 9, 3), (36, .ldc2_w 90, 3), (39, .goto 4, 3), (42, .lconst 0, 1), (43, .ladd, 1), (44, .lastore, 1), (45, .aload_n 0, 1), (46, .getfield 23, 3), (49, .iload_n 1, 1), (50, .bipush 16, 2), (52, .iadd, 1), (53, .iload 4, 2), (55, .iadd, 1), (56, .aload_n 0, 1), (57, .getfield 23, 3), (60, .iload_n 1, 1), (61, .iload 4, 2), (63, .iadd, 1), (64, .laload, 1), (65, .iload 4, 2), (67, .iload_n 3, 1), (68, .if_icmp .ne 9, 3), (71, .ldc2_w 90, 3), (74, .goto 4, 3), (77, .lconst 0, 1), (78, .ladd, 1), (79, .lastore, 1), (80, .iinc 4 1, 3), (83, .goto (-80), 3), (86, .return_, 1)] : List (Nat × Instr × Nat)), decode cX8_tellApart t.1 = .ok (t.2.1, t.2.2) := by decide +kernel
noncomputable def f_X8_tellApart_3 (b1 : Int32) (b2 : Int32) (b3 : Int32) : (OS × Int32) → Option ((OS × Int32) ⊕ (OS)) := fun z => match z with | (s_t, b4) => (if 16 ≤ b4 then some (.inr s_t) else if inb (b1 + b4) 288 = true then (if b4 = b2 then if inb ((b1 + 16) + b4) 288 = true then bnd (oB s_t 4 (vp_updL (s_t.2.2.2 4) ((b1 + 16) + b4 : Int32).toNatClampNeg ((s_t.2.2.2 4 (b1 + b4 : Int32).toNatClampNeg) + 99))) (fun t17 => (if b4 = b3 then bnd (oB t17 5 (vp_updL (t17.2.2.2 5) ((b1 + 16) + b4 : Int32).toNatClampNeg ((t17.2.2.2 5 (b1 + b4 : Int32).toNatClampNeg) + 99))) (fun t24 => bnd (b4 + 1 : Int32) (fun v26 => some (.inl ((t24, v26))))) else bnd (oB t17 5 (vp_updL (t17.2.2.2 5) ((b1 + 16) + b4 : Int32).toNatClampNeg ((t17.2.2.2 5 (b1 + b4 : Int32).toNatClampNeg) + 0))) (fun t20 => bnd (b4 + 1 : Int32) (fun v22 => some (.inl ((t20, v22))))))) else none else if inb ((b1 + 16) + b4) 288 = true then bnd (oB s_t 4 (vp_updL (s_t.2.2.2 4) ((b1 + 16) + b4 : Int32).toNatClampNeg ((s_t.2.2.2 4 (b1 + b4 : Int32).toNatClampNeg) + 0))) (fun t5 => (if b4 = b3 then bnd (oB t5 5 (vp_updL (t5.2.2.2 5) ((b1 + 16) + b4 : Int32).toNatClampNeg ((t5.2.2.2 5 (b1 + b4 : Int32).toNatClampNeg) + 99))) (fun t12 => bnd (b4 + 1 : Int32) (fun v14 => some (.inl ((t12, v14))))) else bnd (oB t5 5 (vp_updL (t5.2.2.2 5) ((b1 + 16) + b4 : Int32).toNatClampNeg ((t5.2.2.2 5 (b1 + b4 : Int32).toNatClampNeg) + 0))) (fun t8 => bnd (b4 + 1 : Int32) (fun v10 => some (.inl ((t8, v10))))))) else none) else none)
noncomputable def f_X8_tellApart (st : OS) (a0 : Int32) (a1 : Int32) (a2 : Int32) : Option (OS) := (lpv (f_X8_tellApart_3 a0 a1 a2) ((st, 0))).bind (fun x28 => some x28)
set_option maxHeartbeats 4000000 in
set_option maxRecDepth 100000 in
theorem w_X8_tellApart_3 {p : Program} {l : Launch} {e : Env} {s : State} {m : MethodId} {args : Array Value} {below : List Frame} {meth : Method} {c : Code} {Q : State → Prop} {G : mG} {h : mM} {q : Nat → Nat} (hq : oinj LX8 q) (X : mX G p m c cX8_tellApart 5 s args RX8) (b1 : Int32) (b2 : Int32) (b3 : Int32) : ∀ (z : OS × Int32) (r : OS), lpv (f_X8_tellApart_3 b1 b2 b3) z = some r → ∀ (H : Heap) (locs : List Loc) (ls : Array Slot), mH G (oset LX8 G q z.1 h) s.heap H locs → lv_has ls 5 [(0, .ref (q 10)), (1, .int b1), (2, .int b2), (3, .int b3), (4, .int z.2)] → (∀ (H : Heap) (locs : List Loc) (ls : Array Slot), mH G (oset LX8 G q r h) s.heap H locs → lv_has ls 5 [] → W p l e rm_X8_tellApart s m args below meth c H locs 0 0 Q (F0 m 86 ls [])) → W p l e rm_X8_tellApart s m args below meth c H locs 0 0 Q (F0 m 3 ls []) := by
  refine lpv_rec ?_
  intro z r x hF hx H locs ls hH hl K0
  obtain ⟨s_t, b4⟩ := z
  dsimp only [f_X8_tellApart_3] at hF
  try dsimp only at hH hl
  refine lv_iload X.x X.b (dk DX8_tellApart_0 2 rfl) (lv_at hl 4 rfl) ?_
  refine lv_bipush (v := 16) X.x X.b (dk DX8_tellApart_0 3 rfl) (by decide) ?_
  refine lv_icmp_ge (tgt := 86) X.x X.b (dk DX8_tellApart_0 4 rfl) (by decide) (fun c1 => ?_) (fun c1 => ?_)
  · replace hF := if_t hF c1
    have hr9 := lp_r hF hx
    subst hr9
    exact K0 _ _ _ hH (lv_sub hl [] rfl)
  · replace hF := if_f hF c1
    refine lv_aload_n X.x X.b (dk DX8_tellApart_0 5 rfl) rfl (lv_at hl 0 rfl) ?_
    refine og_getR (t := 1) OX8 X hq hH 4 (by decide) rfl kF_X8_20 (dk DX8_tellApart_0 6 rfl) ?_
    refine lv_iload_n X.x X.b (dk DX8_tellApart_0 7 rfl) rfl (lv_at hl 1 rfl) ?_
    refine lv_bipush (v := 16) X.x X.b (dk DX8_tellApart_0 8 rfl) (by decide) ?_
    refine lv_iadd X.x X.b (dk DX8_tellApart_0 9 rfl) ?_
    refine lv_iload X.x X.b (dk DX8_tellApart_0 10 rfl) (lv_at hl 4 rfl) ?_
    refine lv_iadd X.x X.b (dk DX8_tellApart_0 11 rfl) ?_
    refine lv_aload_n X.x X.b (dk DX8_tellApart_0 12 rfl) rfl (lv_at hl 0 rfl) ?_
    refine og_getR (t := 1) OX8 X hq hH 4 (by decide) rfl kF_X8_20 (dk DX8_tellApart_0 13 rfl) ?_
    refine lv_iload_n X.x X.b (dk DX8_tellApart_0 14 rfl) rfl (lv_at hl 1 rfl) ?_
    refine lv_iload X.x X.b (dk DX8_tellApart_0 15 rfl) (lv_at hl 4 rfl) ?_
    refine lv_iadd X.x X.b (dk DX8_tellApart_0 16 rfl) ?_
    obtain ⟨c2, hF⟩ := gd hF
    refine og_lald X hq hH 4 (by decide) rfl (inb_in c2) (dk DX8_tellApart_0 17 rfl) ?_
    refine lv_iload X.x X.b (dk DX8_tellApart_0 18 rfl) (lv_at hl 4 rfl) ?_
    refine lv_iload_n X.x X.b (dk DX8_tellApart_0 19 rfl) rfl (lv_at hl 2 rfl) ?_
    refine lv_icmp_ne (tgt := 42) X.x X.b (dk DX8_tellApart_0 20 rfl) (by decide) (fun c3 => ?_) (fun c3 => ?_)
    · replace hF := if_f hF c3
      refine lv_lconst (v := 0) X.x X.b (dk DX8_tellApart_0 23 rfl) (by decide) ?_
      refine lv_ladd X.x X.b (dk DX8_tellApart_0 24 rfl) ?_
      obtain ⟨c4, hF⟩ := gd hF
      refine og_last X hq hH 4 (by decide) rfl (inb_in c4) (dk DX8_tellApart_0 25 rfl) (fun H locs hH => ?_)
      obtain ⟨t5, e6⟩ : ∃ y, y = oB s_t 4 (vp_updL (s_t.2.2.2 4) ((b1 + 16) + b4 : Int32).toNatClampNeg ((s_t.2.2.2 4 (b1 + b4 : Int32).toNatClampNeg) + 0)) := ⟨_, rfl⟩
      rw [← e6] at hH
      replace hF := bnd_e hF e6
      refine lv_aload_n X.x X.b (dk DX8_tellApart_0 26 rfl) rfl (lv_at hl 0 rfl) ?_
      refine og_getR (t := 1) OX8 X hq hH 5 (by decide) rfl kF_X8_23 (dk DX8_tellApart_0 27 rfl) ?_
      refine lv_iload_n X.x X.b (dk DX8_tellApart_0 28 rfl) rfl (lv_at hl 1 rfl) ?_
      refine lv_bipush (v := 16) X.x X.b (dk DX8_tellApart_0 29 rfl) (by decide) ?_
      refine lv_iadd X.x X.b (dk DX8_tellApart_0 30 rfl) ?_
      refine lv_iload X.x X.b (dk DX8_tellApart_0 31 rfl) (lv_at hl 4 rfl) ?_
      refine lv_iadd X.x X.b (dk DX8_tellApart_0 32 rfl) ?_
      refine lv_aload_n X.x X.b (dk DX8_tellApart_0 33 rfl) rfl (lv_at hl 0 rfl) ?_
      refine og_getR (t := 1) OX8 X hq hH 5 (by decide) rfl kF_X8_23 (dk DX8_tellApart_0 34 rfl) ?_
      refine lv_iload_n X.x X.b (dk DX8_tellApart_0 35 rfl) rfl (lv_at hl 1 rfl) ?_
      refine lv_iload X.x X.b (dk DX8_tellApart_0 36 rfl) (lv_at hl 4 rfl) ?_
      refine lv_iadd X.x X.b (dk DX8_tellApart_0 37 rfl) ?_
      refine og_lald X hq hH 5 (by decide) rfl (inb_in c2) (dk DX8_tellApart_0 38 rfl) ?_
      refine lv_iload X.x X.b (dk DX8_tellApart_0 39 rfl) (lv_at hl 4 rfl) ?_
      refine lv_iload_n X.x X.b (dk DX8_tellApart_0 40 rfl) rfl (lv_at hl 3 rfl) ?_
      refine lv_icmp_ne (tgt := 77) X.x X.b (dk DX8_tellApart_0 41 rfl) (by decide) (fun c7 => ?_) (fun c7 => ?_)
      · replace hF := if_f hF c7
        refine lv_lconst (v := 0) X.x X.b (dk DX8_tellApart_0 44 rfl) (by decide) ?_
        refine lv_ladd X.x X.b (dk DX8_tellApart_0 45 rfl) ?_
        refine og_last X hq hH 5 (by decide) rfl (inb_in c4) (dk DX8_tellApart_0 46 rfl) (fun H locs hH => ?_)
        obtain ⟨t8, e9⟩ : ∃ y, y = oB t5 5 (vp_updL (t5.2.2.2 5) ((b1 + 16) + b4 : Int32).toNatClampNeg ((t5.2.2.2 5 (b1 + b4 : Int32).toNatClampNeg) + 0)) := ⟨_, rfl⟩
        rw [← e9] at hH
        replace hF := bnd_e hF e9
        obtain ⟨v10, e11⟩ : ∃ y : Int32, y = b4 + 1 := ⟨_, rfl⟩
        replace hF := bnd_e hF e11
        refine lv_iinc (v := v10) (lv' := [(4, .int v10), (0, .ref (q 10)), (1, .int b1), (2, .int b2), (3, .int b3)]) X.x X.b (dk DX8_tellApart_0 47 rfl) hl (k := 4) rfl (by rw [e11]; rfl) (by decide) rfl (fun ls hl => ?_)
        replace hl : lv_has ls 5 [(0, .ref (q 10)), (1, .int b1), (2, .int b2), (3, .int b3), (4, .int v10)] := lv_sub hl [1, 2, 3, 4, 0] rfl
        refine lv_goto (tgt := 3) X.x X.b (dk DX8_tellApart_0 48 rfl) (by decide) ?_
        exact (lp_l hF hx) _ _ _ hH (lv_sub hl [0, 1, 2, 3, 4] rfl) K0
      · replace hF := if_t hF c7
        refine lv_ldc2 (v := 99) X.x X.b X.ow (X.ts _ kK_X8_90) (dk DX8_tellApart_0 42 rfl) ?_
        refine lv_goto (tgt := 78) X.x X.b (dk DX8_tellApart_0 43 rfl) (by decide) ?_
        refine lv_ladd X.x X.b (dk DX8_tellApart_0 45 rfl) ?_
        refine og_last X hq hH 5 (by decide) rfl (inb_in c4) (dk DX8_tellApart_0 46 rfl) (fun H locs hH => ?_)
        obtain ⟨t12, e13⟩ : ∃ y, y = oB t5 5 (vp_updL (t5.2.2.2 5) ((b1 + 16) + b4 : Int32).toNatClampNeg ((t5.2.2.2 5 (b1 + b4 : Int32).toNatClampNeg) + 99)) := ⟨_, rfl⟩
        rw [← e13] at hH
        replace hF := bnd_e hF e13
        obtain ⟨v14, e15⟩ : ∃ y : Int32, y = b4 + 1 := ⟨_, rfl⟩
        replace hF := bnd_e hF e15
        refine lv_iinc (v := v14) (lv' := [(4, .int v14), (0, .ref (q 10)), (1, .int b1), (2, .int b2), (3, .int b3)]) X.x X.b (dk DX8_tellApart_0 47 rfl) hl (k := 4) rfl (by rw [e15]; rfl) (by decide) rfl (fun ls hl => ?_)
        replace hl : lv_has ls 5 [(0, .ref (q 10)), (1, .int b1), (2, .int b2), (3, .int b3), (4, .int v14)] := lv_sub hl [1, 2, 3, 4, 0] rfl
        refine lv_goto (tgt := 3) X.x X.b (dk DX8_tellApart_0 48 rfl) (by decide) ?_
        exact (lp_l hF hx) _ _ _ hH (lv_sub hl [0, 1, 2, 3, 4] rfl) K0
    · replace hF := if_t hF c3
      refine lv_ldc2 (v := 99) X.x X.b X.ow (X.ts _ kK_X8_90) (dk DX8_tellApart_0 21 rfl) ?_
      refine lv_goto (tgt := 43) X.x X.b (dk DX8_tellApart_0 22 rfl) (by decide) ?_
      refine lv_ladd X.x X.b (dk DX8_tellApart_0 24 rfl) ?_
      obtain ⟨c16, hF⟩ := gd hF
      refine og_last X hq hH 4 (by decide) rfl (inb_in c16) (dk DX8_tellApart_0 25 rfl) (fun H locs hH => ?_)
      obtain ⟨t17, e18⟩ : ∃ y, y = oB s_t 4 (vp_updL (s_t.2.2.2 4) ((b1 + 16) + b4 : Int32).toNatClampNeg ((s_t.2.2.2 4 (b1 + b4 : Int32).toNatClampNeg) + 99)) := ⟨_, rfl⟩
      rw [← e18] at hH
      replace hF := bnd_e hF e18
      refine lv_aload_n X.x X.b (dk DX8_tellApart_0 26 rfl) rfl (lv_at hl 0 rfl) ?_
      refine og_getR (t := 1) OX8 X hq hH 5 (by decide) rfl kF_X8_23 (dk DX8_tellApart_0 27 rfl) ?_
      refine lv_iload_n X.x X.b (dk DX8_tellApart_0 28 rfl) rfl (lv_at hl 1 rfl) ?_
      refine lv_bipush (v := 16) X.x X.b (dk DX8_tellApart_0 29 rfl) (by decide) ?_
      refine lv_iadd X.x X.b (dk DX8_tellApart_0 30 rfl) ?_
      refine lv_iload X.x X.b (dk DX8_tellApart_0 31 rfl) (lv_at hl 4 rfl) ?_
      refine lv_iadd X.x X.b (dk DX8_tellApart_0 32 rfl) ?_
      refine lv_aload_n X.x X.b (dk DX8_tellApart_0 33 rfl) rfl (lv_at hl 0 rfl) ?_
      refine og_getR (t := 1) OX8 X hq hH 5 (by decide) rfl kF_X8_23 (dk DX8_tellApart_0 34 rfl) ?_
      refine lv_iload_n X.x X.b (dk DX8_tellApart_0 35 rfl) rfl (lv_at hl 1 rfl) ?_
      refine lv_iload X.x X.b (dk DX8_tellApart_0 36 rfl) (lv_at hl 4 rfl) ?_
      refine lv_iadd X.x X.b (dk DX8_tellApart_0 37 rfl) ?_
      refine og_lald X hq hH 5 (by decide) rfl (inb_in c2) (dk DX8_tellApart_0 38 rfl) ?_
      refine lv_iload X.x X.b (dk DX8_tellApart_0 39 rfl) (lv_at hl 4 rfl) ?_
      refine lv_iload_n X.x X.b (dk DX8_tellApart_0 40 rfl) rfl (lv_at hl 3 rfl) ?_
      refine lv_icmp_ne (tgt := 77) X.x X.b (dk DX8_tellApart_0 41 rfl) (by decide) (fun c19 => ?_) (fun c19 => ?_)
      · replace hF := if_f hF c19
        refine lv_lconst (v := 0) X.x X.b (dk DX8_tellApart_0 44 rfl) (by decide) ?_
        refine lv_ladd X.x X.b (dk DX8_tellApart_0 45 rfl) ?_
        refine og_last X hq hH 5 (by decide) rfl (inb_in c16) (dk DX8_tellApart_0 46 rfl) (fun H locs hH => ?_)
        obtain ⟨t20, e21⟩ : ∃ y, y = oB t17 5 (vp_updL (t17.2.2.2 5) ((b1 + 16) + b4 : Int32).toNatClampNeg ((t17.2.2.2 5 (b1 + b4 : Int32).toNatClampNeg) + 0)) := ⟨_, rfl⟩
        rw [← e21] at hH
        replace hF := bnd_e hF e21
        obtain ⟨v22, e23⟩ : ∃ y : Int32, y = b4 + 1 := ⟨_, rfl⟩
        replace hF := bnd_e hF e23
        refine lv_iinc (v := v22) (lv' := [(4, .int v22), (0, .ref (q 10)), (1, .int b1), (2, .int b2), (3, .int b3)]) X.x X.b (dk DX8_tellApart_0 47 rfl) hl (k := 4) rfl (by rw [e23]; rfl) (by decide) rfl (fun ls hl => ?_)
        replace hl : lv_has ls 5 [(0, .ref (q 10)), (1, .int b1), (2, .int b2), (3, .int b3), (4, .int v22)] := lv_sub hl [1, 2, 3, 4, 0] rfl
        refine lv_goto (tgt := 3) X.x X.b (dk DX8_tellApart_0 48 rfl) (by decide) ?_
        exact (lp_l hF hx) _ _ _ hH (lv_sub hl [0, 1, 2, 3, 4] rfl) K0
      · replace hF := if_t hF c19
        refine lv_ldc2 (v := 99) X.x X.b X.ow (X.ts _ kK_X8_90) (dk DX8_tellApart_0 42 rfl) ?_
        refine lv_goto (tgt := 78) X.x X.b (dk DX8_tellApart_0 43 rfl) (by decide) ?_
        refine lv_ladd X.x X.b (dk DX8_tellApart_0 45 rfl) ?_
        refine og_last X hq hH 5 (by decide) rfl (inb_in c16) (dk DX8_tellApart_0 46 rfl) (fun H locs hH => ?_)
        obtain ⟨t24, e25⟩ : ∃ y, y = oB t17 5 (vp_updL (t17.2.2.2 5) ((b1 + 16) + b4 : Int32).toNatClampNeg ((t17.2.2.2 5 (b1 + b4 : Int32).toNatClampNeg) + 99)) := ⟨_, rfl⟩
        rw [← e25] at hH
        replace hF := bnd_e hF e25
        obtain ⟨v26, e27⟩ : ∃ y : Int32, y = b4 + 1 := ⟨_, rfl⟩
        replace hF := bnd_e hF e27
        refine lv_iinc (v := v26) (lv' := [(4, .int v26), (0, .ref (q 10)), (1, .int b1), (2, .int b2), (3, .int b3)]) X.x X.b (dk DX8_tellApart_0 47 rfl) hl (k := 4) rfl (by rw [e27]; rfl) (by decide) rfl (fun ls hl => ?_)
        replace hl : lv_has ls 5 [(0, .ref (q 10)), (1, .int b1), (2, .int b2), (3, .int b3), (4, .int v26)] := lv_sub hl [1, 2, 3, 4, 0] rfl
        refine lv_goto (tgt := 3) X.x X.b (dk DX8_tellApart_0 48 rfl) (by decide) ?_
        exact (lp_l hF hx) _ _ _ hH (lv_sub hl [0, 1, 2, 3, 4] rfl) K0
set_option maxHeartbeats 4000000 in
set_option maxRecDepth 100000 in
theorem c_X8_tellApart {l : Launch} {G : mG} {h : mM} {q : Nat → Nat} (hq : oinj LX8 q) {st : OS} {a0 : Int32} {a1 : Int32} {a2 : Int32} {x : OS} (hF : f_X8_tellApart st a0 a1 a2 = some x) : cQ l G yX8_tellApart cX8_tellApart 5 none rm_X8_tellApart [.ref (q 10), .int a0, .int a1, .int a2] (oset LX8 G q st h) (mQv G (fun h1 => h1 = oset LX8 G q x h)) := by
  refine mp_of (by decide +kernel) (Nat.le_of_ble_eq_true rfl) ?_
  intro p e s m below meth c X hr hlk hH hname ls hl
  dsimp only [f_X8_tellApart] at hF
  replace hl : lv_has ls 5 [(0, .ref (q 10)), (1, .int a0), (2, .int a1), (3, .int a2)] := hl
  refine lv_iconst (v := 0) X.x X.b (dk DX8_tellApart_0 0 rfl) (by decide) ?_
  refine lv_istore (lv' := [(4, .int 0), (0, .ref (q 10)), (1, .int a0), (2, .int a1), (3, .int a2)]) X.x X.b (dk DX8_tellApart_0 1 rfl) hl (by decide) rfl (fun ls hl => ?_)
  replace hl : lv_has ls 5 [(0, .ref (q 10)), (1, .int a0), (2, .int a1), (3, .int a2), (4, .int 0)] := lv_sub hl [1, 2, 3, 4, 0] rfl
  obtain ⟨x28, e29, hF⟩ := bd hF
  replace hl : lv_has ls 5 [(0, .ref (q 10)), (1, .int a0), (2, .int a1), (3, .int a2), (4, .int 0)] := lv_sub hl [0, 1, 2, 3, 4] rfl
  refine w_X8_tellApart_3 hq X a0 a1 a2 _ _ e29 _ _ _ hH hl (fun H locs ls hH hl => ?_)
  cases sm hF
  exact mr_vret X hr hlk hH rfl (dk DX8_tellApart_0 49 rfl)
