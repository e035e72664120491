-- X3_appendDuads
abbrev rm_X3_appendDuads : Room := { frames := 1, cells := 0, slots := 0, locals := 22 }
theorem hd_X3_appendDuads : mHd yX3_appendDuads 2 := ⟨by decide +kernel, by decide +kernel, by decide +kernel⟩
theorem DX3_appendDuads_0 : ∀ t ∈ ([(0, .iconst 0, 1), (1, .istore_n 3, 1), (2, .iload_n 3, 1), (3, .bipush 15, 2), (5, .if_icmp .ge 113, 3), (8, .iload_n 3, 1), (9, .iconst 1, 1), (10, .iadd, 1), (11, .istore 4, 2), (13, .iload 4, 2), (15, .bipush 15, 2), (17, .if_icmp .ge 95, 3), (20, .iload 4, 2), (22, .iconst 1, 1), (23, .iadd, 1), (24, .istore 5, 2), (26, .iload 5, 2), (28, .bipush 15, 2), (30, .if_icmp .ge 76, 3), (33, .aload_n 0, 1), (34, .getfield 11, 3), (37, .iload_n 3, 1), (38, .iaload, 1), (39, .aload_n 0, 1), (40, .getfield 11, 3), (43, .iload 4, 2), (45, .iaload, 1), (46, .iand, 1), (47, .ifCond .ne 53, 3), (50, .aload_n 0, 1), (51, .getfield 11, 3), (54, .iload_n 3, 1), (55, .iaload, 1), (56, .aload_n 0, 1), (57, .getfield 11, 3), (60, .iload 4, 2), (62, .iaload, 1), (63, .ior, 1), (64, .aload_n 0, 1), (65, .getfield 11, 3), (68, .iload 5, 2), (70, .iaload, 1), (71, .ior, 1), (72, .bipush 63, 2), (74, .if_icmp .ne 26, 3), (77, .aload_n 1, 1), (78, .lconst 1, 1), (79, .iload_n 2, 1), (80, .iload_n 3, 1), (81, .iadd, 1), (82, .lshl, 1), (83, .lconst 1, 1), (84, .iload_n 2, 1), (85, .iload 4, 2), (87, .iadd, 1), (88, .lshl, 1), (89, .lor, 1), (90, .lconst 1, 1), (91, .iload_n 2, 1), (92, .iload 5, 2)] : List (Nat × Instr × Nat)), decode cX3_appendDuads t.1 = .ok (t.2.1, t.2.2) := by decide +kernel
theorem DX3_appendDuads_1 : ∀ t ∈ ([(94, .iadd, 1), (95, .lshl, 1), (96, .lor, 1), (97, .invokevirtual 31, 3), (100, .iinc 5 1, 3), (103, .goto (-77), 3), (106, .iinc 4 1, 3), (109, .goto (-96), 3), (112, .iinc 3 1, 3), (115, .goto (-113), 3), (118, .return_, 1)] : List (Nat × Instr × Nat)), decode cX3_appendDuads t.1 = .ok (t.2.1, t.2.2) := by decide +kernel
noncomputable def f_X3_appendDuads_26 (s_t : OS) (b2 : Int32) (b3 : Int32) (b4 : Int32) : (OS × Int32) → Option ((OS × Int32) ⊕ (OS)) := fun z => match z with | (s_o1, b5) => (if 15 ≤ b5 then some (.inr s_o1) else if inb b3 15 = true then if inb b4 15 = true then (if (s_t.2.2.1 0 (b3 : Int32).toNatClampNeg) &&& (s_t.2.2.1 0 (b4 : Int32).toNatClampNeg) = 0 then if inb b5 15 = true then (if ((s_t.2.2.1 0 (b3 : Int32).toNatClampNeg) ||| (s_t.2.2.1 0 (b4 : Int32).toNatClampNeg)) ||| (s_t.2.2.1 0 (b5 : Int32).toNatClampNeg) = 63 then (f_X10_append s_o1 (((((1 : Int64)) <<< ((b2 + b3 : Int32).toInt64 &&& 63)) ||| (((1 : Int64)) <<< ((b2 + b4 : Int32).toInt64 &&& 63))) ||| (((1 : Int64)) <<< ((b2 + b5 : Int32).toInt64 &&& 63)))).bind (fun x17 => bnd (b5 + 1 : Int32) (fun v20 => some (.inl ((x17, v20))))) else bnd (b5 + 1 : Int32) (fun v15 => some (.inl ((s_o1, v15))))) else none else bnd (b5 + 1 : Int32) (fun v11 => some (.inl ((s_o1, v11))))) else none else none)
noncomputable def f_X3_appendDuads_13 (s_t : OS) (b2 : Int32) (b3 : Int32) : (OS × Int32) → Option ((OS × Int32) ⊕ (OS)) := fun z => match z with | (s_o1, b4) => (if 15 ≤ b4 then some (.inr s_o1) else bnd (b4 + 1 : Int32) (fun v5 => (lpv (f_X3_appendDuads_26 s_t b2 b3 b4) ((s_o1, v5))).bind (fun x22 => bnd (b4 + 1 : Int32) (fun v25 => some (.inl ((x22, v25)))))))
noncomputable def f_X3_appendDuads_2 (s_t : OS) (b2 : Int32) : (OS × Int32) → Option ((OS × Int32) ⊕ (OS)) := fun z => match z with | (s_o1, b3) => (if 15 ≤ b3 then some (.inr s_o1) else bnd (b3 + 1 : Int32) (fun v2 => (lpv (f_X3_appendDuads_13 s_t b2 b3) ((s_o1, v2))).bind (fun x27 => bnd (b3 + 1 : Int32) (fun v30 => some (.inl ((x27, v30)))))))
noncomputable def f_X3_appendDuads (st : OS) (st1 : OS) (a1 : Int32) : Option (OS) := (lpv (f_X3_appendDuads_2 st a1) ((st1, 0))).bind (fun x32 => some x32)
set_option maxHeartbeats 4000000 in
set_option maxRecDepth 100000 in
theorem w_X3_appendDuads_26 {p : Program} {l : Launch} {e : Env} {s : State} {m : MethodId} {args : Array Value} {below : List Frame} {meth : Method} {c : Code} {Q : State → Prop} {G : mG} {h : mM} {q : Nat → Nat} {q1 : Nat → Nat} (hq : oinj LX3 q) (hq1 : oinj LX10 q1) (ha : oap [(LX3, q), (LX10, q1)]) (X : mX G p m c cX3_appendDuads 6 s args RX3) (s_t : OS) (b2 : Int32) (b3 : Int32) (b4 : Int32) : ∀ (z : OS × Int32) (r : OS), lpv (f_X3_appendDuads_26 s_t b2 b3 b4) z = some r → ∀ (H : Heap) (locs : List Loc) (ls : Array Slot), mH G (oset LX3 G q s_t (oset LX10 G q1 z.1 h)) s.heap H locs → lv_has ls 6 [(0, .ref (q 3)), (1, .ref (q1 5)), (2, .int b2), (3, .int b3), (4, .int b4), (5, .int z.2)] → (∀ (H : Heap) (locs : List Loc) (ls : Array Slot), mH G (oset LX3 G q s_t (oset LX10 G q1 r h)) s.heap H locs → lv_has ls 6 [(0, .ref (q 3)), (1, .ref (q1 5)), (2, .int b2), (3, .int b3), (4, .int b4)] → W p l e rm_X3_appendDuads s m args below meth c H locs 0 0 Q (F0 m 106 ls [])) → W p l e rm_X3_appendDuads s m args below meth c H locs 0 0 Q (F0 m 26 ls []) := by
  refine lpv_rec ?_
  intro z r x hF hx H locs ls hH hl K0
  obtain ⟨s_o1, b5⟩ := z
  dsimp only [f_X3_appendDuads_26] at hF
  try dsimp only at hH hl
  refine lv_iload X.x X.b (dk DX3_appendDuads_0 16 rfl) (lv_at hl 5 rfl) ?_
  refine lv_bipush (v := 15) X.x X.b (dk DX3_appendDuads_0 17 rfl) (by decide) ?_
  refine lv_icmp_ge (tgt := 106) X.x X.b (dk DX3_appendDuads_0 18 rfl) (by decide) (fun c7 => ?_) (fun c7 => ?_)
  · replace hF := if_t hF c7
    have hr9 := lp_r hF hx
    subst hr9
    exact K0 _ _ _ hH (lv_sub hl [0, 1, 2, 3, 4] rfl)
  · replace hF := if_f hF c7
    refine lv_aload_n X.x X.b (dk DX3_appendDuads_0 19 rfl) rfl (lv_at hl 0 rfl) ?_
    refine og_getR (t := 0) OX3 X hq hH 0 (by decide) rfl kF_X3_11 (dk DX3_appendDuads_0 20 rfl) ?_
    refine lv_iload_n X.x X.b (dk DX3_appendDuads_0 21 rfl) rfl (lv_at hl 3 rfl) ?_
    obtain ⟨c8, hF⟩ := gd hF
    refine og_iald X hq hH 0 (by decide) rfl (inb_in c8) (dk DX3_appendDuads_0 22 rfl) ?_
    refine lv_aload_n X.x X.b (dk DX3_appendDuads_0 23 rfl) rfl (lv_at hl 0 rfl) ?_
    refine og_getR (t := 0) OX3 X hq hH 0 (by decide) rfl kF_X3_11 (dk DX3_appendDuads_0 24 rfl) ?_
    refine lv_iload X.x X.b (dk DX3_appendDuads_0 25 rfl) (lv_at hl 4 rfl) ?_
    obtain ⟨c9, hF⟩ := gd hF
    refine og_iald X hq hH 0 (by decide) rfl (inb_in c9) (dk DX3_appendDuads_0 26 rfl) ?_
    refine lv_iand X.x X.b (dk DX3_appendDuads_0 27 rfl) ?_
    refine lv_if_ne (tgt := 100) X.x X.b (dk DX3_appendDuads_0 28 rfl) (by decide) (fun c10 => ?_) (fun c10 => ?_)
    · replace hF := if_f hF c10
      obtain ⟨v11, e12⟩ : ∃ y : Int32, y = b5 + 1 := ⟨_, rfl⟩
      replace hF := bnd_e hF e12
      refine lv_iinc (v := v11) (lv' := [(5, .int v11), (0, .ref (q 3)), (1, .ref (q1 5)), (2, .int b2), (3, .int b3), (4, .int b4)]) X.x X.b (dk DX3_appendDuads_1 4 rfl) hl (k := 5) rfl (by rw [e12]; rfl) (by decide) rfl (fun ls hl => ?_)
      replace hl : lv_has ls 6 [(0, .ref (q 3)), (1, .ref (q1 5)), (2, .int b2), (3, .int b3), (4, .int b4), (5, .int v11)] := lv_sub hl [1, 2, 3, 4, 5, 0] rfl
      refine lv_goto (tgt := 26) X.x X.b (dk DX3_appendDuads_1 5 rfl) (by decide) ?_
      exact (lp_l hF hx) _ _ _ hH (lv_sub hl [0, 1, 2, 3, 4, 5] rfl) K0
    · replace hF := if_t hF c10
      refine lv_aload_n X.x X.b (dk DX3_appendDuads_0 29 rfl) rfl (lv_at hl 0 rfl) ?_
      refine og_getR (t := 0) OX3 X hq hH 0 (by decide) rfl kF_X3_11 (dk DX3_appendDuads_0 30 rfl) ?_
      refine lv_iload_n X.x X.b (dk DX3_appendDuads_0 31 rfl) rfl (lv_at hl 3 rfl) ?_
      refine og_iald X hq hH 0 (by decide) rfl (inb_in c8) (dk DX3_appendDuads_0 32 rfl) ?_
      refine lv_aload_n X.x X.b (dk DX3_appendDuads_0 33 rfl) rfl (lv_at hl 0 rfl) ?_
      refine og_getR (t := 0) OX3 X hq hH 0 (by decide) rfl kF_X3_11 (dk DX3_appendDuads_0 34 rfl) ?_
      refine lv_iload X.x X.b (dk DX3_appendDuads_0 35 rfl) (lv_at hl 4 rfl) ?_
      refine og_iald X hq hH 0 (by decide) rfl (inb_in c9) (dk DX3_appendDuads_0 36 rfl) ?_
      refine lv_ior X.x X.b (dk DX3_appendDuads_0 37 rfl) ?_
      refine lv_aload_n X.x X.b (dk DX3_appendDuads_0 38 rfl) rfl (lv_at hl 0 rfl) ?_
      refine og_getR (t := 0) OX3 X hq hH 0 (by decide) rfl kF_X3_11 (dk DX3_appendDuads_0 39 rfl) ?_
      refine lv_iload X.x X.b (dk DX3_appendDuads_0 40 rfl) (lv_at hl 5 rfl) ?_
      obtain ⟨c13, hF⟩ := gd hF
      refine og_iald X hq hH 0 (by decide) rfl (inb_in c13) (dk DX3_appendDuads_0 41 rfl) ?_
      refine lv_ior X.x X.b (dk DX3_appendDuads_0 42 rfl) ?_
      refine lv_bipush (v := 63) X.x X.b (dk DX3_appendDuads_0 43 rfl) (by decide) ?_
      refine lv_icmp_ne (tgt := 100) X.x X.b (dk DX3_appendDuads_0 44 rfl) (by decide) (fun c14 => ?_) (fun c14 => ?_)
      · replace hF := if_f hF c14
        obtain ⟨v15, e16⟩ : ∃ y : Int32, y = b5 + 1 := ⟨_, rfl⟩
        replace hF := bnd_e hF e16
        refine lv_iinc (v := v15) (lv' := [(5, .int v15), (0, .ref (q 3)), (1, .ref (q1 5)), (2, .int b2), (3, .int b3), (4, .int b4)]) X.x X.b (dk DX3_appendDuads_1 4 rfl) hl (k := 5) rfl (by rw [e16]; rfl) (by decide) rfl (fun ls hl => ?_)
        replace hl : lv_has ls 6 [(0, .ref (q 3)), (1, .ref (q1 5)), (2, .int b2), (3, .int b3), (4, .int b4), (5, .int v15)] := lv_sub hl [1, 2, 3, 4, 5, 0] rfl
        refine lv_goto (tgt := 26) X.x X.b (dk DX3_appendDuads_1 5 rfl) (by decide) ?_
        exact (lp_l hF hx) _ _ _ hH (lv_sub hl [0, 1, 2, 3, 4, 5] rfl) K0
      · replace hF := if_t hF c14
        refine lv_aload_n X.x X.b (dk DX3_appendDuads_0 45 rfl) rfl (lv_at hl 1 rfl) ?_
        refine lv_lconst (v := 1) X.x X.b (dk DX3_appendDuads_0 46 rfl) (by decide) ?_
        refine lv_iload_n X.x X.b (dk DX3_appendDuads_0 47 rfl) rfl (lv_at hl 2 rfl) ?_
        refine lv_iload_n X.x X.b (dk DX3_appendDuads_0 48 rfl) rfl (lv_at hl 3 rfl) ?_
        refine lv_iadd X.x X.b (dk DX3_appendDuads_0 49 rfl) ?_
        refine lv_lshl X.x X.b (dk DX3_appendDuads_0 50 rfl) rfl ?_
        refine lv_lconst (v := 1) X.x X.b (dk DX3_appendDuads_0 51 rfl) (by decide) ?_
        refine lv_iload_n X.x X.b (dk DX3_appendDuads_0 52 rfl) rfl (lv_at hl 2 rfl) ?_
        refine lv_iload X.x X.b (dk DX3_appendDuads_0 53 rfl) (lv_at hl 4 rfl) ?_
        refine lv_iadd X.x X.b (dk DX3_appendDuads_0 54 rfl) ?_
        refine lv_lshl X.x X.b (dk DX3_appendDuads_0 55 rfl) rfl ?_
        refine lv_lor X.x X.b (dk DX3_appendDuads_0 56 rfl) ?_
        refine lv_lconst (v := 1) X.x X.b (dk DX3_appendDuads_0 57 rfl) (by decide) ?_
        refine lv_iload_n X.x X.b (dk DX3_appendDuads_0 58 rfl) rfl (lv_at hl 2 rfl) ?_
        refine lv_iload X.x X.b (dk DX3_appendDuads_0 59 rfl) (lv_at hl 5 rfl) ?_
        refine lv_iadd X.x X.b (dk DX3_appendDuads_1 0 rfl) ?_
        refine lv_lshl X.x X.b (dk DX3_appendDuads_1 1 rfl) rfl ?_
        refine lv_lor X.x X.b (dk DX3_appendDuads_1 2 rfl) ?_
        obtain ⟨x17, e18, hF⟩ := bd hF
        refine mr_cv0 (mH_perm (l1 := [(LX3, q, s_t), (LX10, q1, s_o1)]) (l2 := [(LX10, q1, s_o1), (LX3, q, s_t)]) ha [1, 0] [1, 0] rfl rfl rfl hH) ⟨rfl, rfl⟩ (mr_runV (As := [.long (((((1 : Int64)) <<< ((b2 + b3 : Int32).toInt64 &&& 63)) ||| (((1 : Int64)) <<< ((b2 + b4 : Int32).toInt64 &&& 63))) ||| (((1 : Int64)) <<< ((b2 + b5 : Int32).toInt64 &&& 63)))]) (rest := []) X (mH_perm (l1 := [(LX3, q, s_t), (LX10, q1, s_o1)]) (l2 := [(LX10, q1, s_o1), (LX3, q, s_t)]) ha [1, 0] [1, 0] rfl rfl rfl hH) (c_X10_append hq1 e18) ((oset_at hq1 (Nat.le_refl _) ohas_N).trans (congrArg some ocell_N)) OX10.1 kM_X3_31 kI_X10_append kS_X10_append kN_X10 kC_X10_append hd_X10_append ⟨Nat.le_of_ble_eq_true rfl, Nat.le_of_ble_eq_true rfl⟩ rfl hl.1 (Nat.le_of_ble_eq_true rfl) (dk DX3_appendDuads_1 3 rfl) ⟨Nat.zero_le _, Nat.zero_le _⟩) (fun h1 H locs hp hH => ?_)
        rw [hp] at hH; clear hp
        replace hH : mH G (oset LX3 G q s_t (oset LX10 G q1 x17 h)) s.heap H locs := mH_unperm (l1 := [(LX3, q, s_t), (LX10, q1, x17)]) (l2 := [(LX10, q1, x17), (LX3, q, s_t)]) ha [1, 0] [1, 0] rfl rfl rfl hH
        obtain ⟨v20, e21⟩ : ∃ y : Int32, y = b5 + 1 := ⟨_, rfl⟩
        replace hF := bnd_e hF e21
        refine lv_iinc (v := v20) (lv' := [(5, .int v20), (0, .ref (q 3)), (1, .ref (q1 5)), (2, .int b2), (3, .int b3), (4, .int b4)]) X.x X.b (dk DX3_appendDuads_1 4 rfl) hl (k := 5) rfl (by rw [e21]; rfl) (by decide) rfl (fun ls hl => ?_)
        replace hl : lv_has ls 6 [(0, .ref (q 3)), (1, .ref (q1 5)), (2, .int b2), (3, .int b3), (4, .int b4), (5, .int v20)] := lv_sub hl [1, 2, 3, 4, 5, 0] rfl
        refine lv_goto (tgt := 26) X.x X.b (dk DX3_appendDuads_1 5 rfl) (by decide) ?_
        exact (lp_l hF hx) _ _ _ hH (lv_sub hl [0, 1, 2, 3, 4, 5] rfl) K0
set_option maxHeartbeats 4000000 in
set_option maxRecDepth 100000 in
theorem w_X3_appendDuads_13 {p : Program} {l : Launch} {e : Env} {s : State} {m : MethodId} {args : Array Value} {below : List Frame} {meth : Method} {c : Code} {Q : State → Prop} {G : mG} {h : mM} {q : Nat → Nat} {q1 : Nat → Nat} (hq : oinj LX3 q) (hq1 : oinj LX10 q1) (ha : oap [(LX3, q), (LX10, q1)]) (X : mX G p m c cX3_appendDuads 6 s args RX3) (s_t : OS) (b2 : Int32) (b3 : Int32) : ∀ (z : OS × Int32) (r : OS), lpv (f_X3_appendDuads_13 s_t b2 b3) z = some r → ∀ (H : Heap) (locs : List Loc) (ls : Array Slot), mH G (oset LX3 G q s_t (oset LX10 G q1 z.1 h)) s.heap H locs → lv_has ls 6 [(0, .ref (q 3)), (1, .ref (q1 5)), (2, .int b2), (3, .int b3), (4, .int z.2)] → (∀ (H : Heap) (locs : List Loc) (ls : Array Slot), mH G (oset LX3 G q s_t (oset LX10 G q1 r h)) s.heap H locs → lv_has ls 6 [(0, .ref (q 3)), (1, .ref (q1 5)), (2, .int b2), (3, .int b3)] → W p l e rm_X3_appendDuads s m args below meth c H locs 0 0 Q (F0 m 112 ls [])) → W p l e rm_X3_appendDuads s m args below meth c H locs 0 0 Q (F0 m 13 ls []) := by
  refine lpv_rec ?_
  intro z r x hF hx H locs ls hH hl K0
  obtain ⟨s_o1, b4⟩ := z
  dsimp only [f_X3_appendDuads_13] at hF
  try dsimp only at hH hl
  refine lv_iload X.x X.b (dk DX3_appendDuads_0 9 rfl) (lv_at hl 4 rfl) ?_
  refine lv_bipush (v := 15) X.x X.b (dk DX3_appendDuads_0 10 rfl) (by decide) ?_
  refine lv_icmp_ge (tgt := 112) X.x X.b (dk DX3_appendDuads_0 11 rfl) (by decide) (fun c4 => ?_) (fun c4 => ?_)
  · replace hF := if_t hF c4
    have hr9 := lp_r hF hx
    subst hr9
    exact K0 _ _ _ hH (lv_sub hl [0, 1, 2, 3] rfl)
  · replace hF := if_f hF c4
    refine lv_iload X.x X.b (dk DX3_appendDuads_0 12 rfl) (lv_at hl 4 rfl) ?_
    refine lv_iconst (v := 1) X.x X.b (dk DX3_appendDuads_0 13 rfl) (by decide) ?_
    refine lv_iadd X.x X.b (dk DX3_appendDuads_0 14 rfl) ?_
    refine lv_topi (fun v5 e6 => ?_)
    replace hF := bnd_e hF e6
    refine lv_istore (lv' := [(5, .int v5), (0, .ref (q 3)), (1, .ref (q1 5)), (2, .int b2), (3, .int b3), (4, .int b4)]) X.x X.b (dk DX3_appendDuads_0 15 rfl) hl (by decide) rfl (fun ls hl => ?_)
    replace hl : lv_has ls 6 [(0, .ref (q 3)), (1, .ref (q1 5)), (2, .int b2), (3, .int b3), (4, .int b4), (5, .int v5)] := lv_sub hl [1, 2, 3, 4, 5, 0] rfl
    obtain ⟨x22, e23, hF⟩ := bd hF
    replace hl : lv_has ls 6 [(0, .ref (q 3)), (1, .ref (q1 5)), (2, .int b2), (3, .int b3), (4, .int b4), (5, .int v5)] := lv_sub hl [0, 1, 2, 3, 4, 5] rfl
    refine w_X3_appendDuads_26 hq hq1 ha X s_t b2 b3 b4 _ _ e23 _ _ _ hH hl (fun H locs ls hH hl => ?_)
    obtain ⟨v25, e26⟩ : ∃ y : Int32, y = b4 + 1 := ⟨_, rfl⟩
    replace hF := bnd_e hF e26
    refine lv_iinc (v := v25) (lv' := [(4, .int v25), (0, .ref (q 3)), (1, .ref (q1 5)), (2, .int b2), (3, .int b3)]) X.x X.b (dk DX3_appendDuads_1 6 rfl) hl (k := 4) rfl (by rw [e26]; rfl) (by decide) rfl (fun ls hl => ?_)
    replace hl : lv_has ls 6 [(0, .ref (q 3)), (1, .ref (q1 5)), (2, .int b2), (3, .int b3), (4, .int v25)] := lv_sub hl [1, 2, 3, 4, 0] rfl
    refine lv_goto (tgt := 13) X.x X.b (dk DX3_appendDuads_1 7 rfl) (by decide) ?_
    exact (lp_l hF hx) _ _ _ hH (lv_sub hl [0, 1, 2, 3, 4] rfl) K0
set_option maxHeartbeats 4000000 in
set_option maxRecDepth 100000 in
theorem w_X3_appendDuads_2 {p : Program} {l : Launch} {e : Env} {s : State} {m : MethodId} {args : Array Value} {below : List Frame} {meth : Method} {c : Code} {Q : State → Prop} {G : mG} {h : mM} {q : Nat → Nat} {q1 : Nat → Nat} (hq : oinj LX3 q) (hq1 : oinj LX10 q1) (ha : oap [(LX3, q), (LX10, q1)]) (X : mX G p m c cX3_appendDuads 6 s args RX3) (s_t : OS) (b2 : Int32) : ∀ (z : OS × Int32) (r : OS), lpv (f_X3_appendDuads_2 s_t b2) z = some r → ∀ (H : Heap) (locs : List Loc) (ls : Array Slot), mH G (oset LX3 G q s_t (oset LX10 G q1 z.1 h)) s.heap H locs → lv_has ls 6 [(0, .ref (q 3)), (1, .ref (q1 5)), (2, .int b2), (3, .int z.2)] → (∀ (H : Heap) (locs : List Loc) (ls : Array Slot), mH G (oset LX3 G q s_t (oset LX10 G q1 r h)) s.heap H locs → lv_has ls 6 [] → W p l e rm_X3_appendDuads s m args below meth c H locs 0 0 Q (F0 m 118 ls [])) → W p l e rm_X3_appendDuads s m args below meth c H locs 0 0 Q (F0 m 2 ls []) := by
  refine lpv_rec ?_
  intro z r x hF hx H locs ls hH hl K0
  obtain ⟨s_o1, b3⟩ := z
  dsimp only [f_X3_appendDuads_2] at hF
  try dsimp only at hH hl
  refine lv_iload_n X.x X.b (dk DX3_appendDuads_0 2 rfl) rfl (lv_at hl 3 rfl) ?_
  refine lv_bipush (v := 15) X.x X.b (dk DX3_appendDuads_0 3 rfl) (by decide) ?_
  refine lv_icmp_ge (tgt := 118) X.x X.b (dk DX3_appendDuads_0 4 rfl) (by decide) (fun c1 => ?_) (fun c1 => ?_)
  · replace hF := if_t hF c1
    have hr9 := lp_r hF hx
    subst hr9
    exact K0 _ _ _ hH (lv_sub hl [] rfl)
  · replace hF := if_f hF c1
    refine lv_iload_n X.x X.b (dk DX3_appendDuads_0 5 rfl) rfl (lv_at hl 3 rfl) ?_
    refine lv_iconst (v := 1) X.x X.b (dk DX3_appendDuads_0 6 rfl) (by decide) ?_
    refine lv_iadd X.x X.b (dk DX3_appendDuads_0 7 rfl) ?_
    refine lv_topi (fun v2 e3 => ?_)
    replace hF := bnd_e hF e3
    refine lv_istore (lv' := [(4, .int v2), (0, .ref (q 3)), (1, .ref (q1 5)), (2, .int b2), (3, .int b3)]) X.x X.b (dk DX3_appendDuads_0 8 rfl) hl (by decide) rfl (fun ls hl => ?_)
    replace hl : lv_has ls 6 [(0, .ref (q 3)), (1, .ref (q1 5)), (2, .int b2), (3, .int b3), (4, .int v2)] := lv_sub hl [1, 2, 3, 4, 0] rfl
    obtain ⟨x27, e28, hF⟩ := bd hF
    replace hl : lv_has ls 6 [(0, .ref (q 3)), (1, .ref (q1 5)), (2, .int b2), (3, .int b3), (4, .int v2)] := lv_sub hl [0, 1, 2, 3, 4] rfl
    refine w_X3_appendDuads_13 hq hq1 ha X s_t b2 b3 _ _ e28 _ _ _ hH hl (fun H locs ls hH hl => ?_)
    obtain ⟨v30, e31⟩ : ∃ y : Int32, y = b3 + 1 := ⟨_, rfl⟩
    replace hF := bnd_e hF e31
    refine lv_iinc (v := v30) (lv' := [(3, .int v30), (0, .ref (q 3)), (1, .ref (q1 5)), (2, .int b2)]) X.x X.b (dk DX3_appendDuads_1 8 rfl) hl (k := 3) rfl (by rw [e31]; rfl) (by decide) rfl (fun ls hl => ?_)
    replace hl : lv_has ls 6 [(0, .ref (q 3)), (1, .ref (q1 5)), (2, .int b2), (3, .int v30)] := lv_sub hl [1, 2, 3, 0] rfl
    refine lv_goto (tgt := 2) X.x X.b (dk DX3_appendDuads_1 9 rfl) (by decide) ?_
    exact (lp_l hF hx) _ _ _ hH (lv_sub hl [0, 1, 2, 3] rfl) K0
set_option maxHeartbeats 4000000 in
set_option maxRecDepth 100000 in
theorem c_X3_appendDuads {l : Launch} {G : mG} {h : mM} {q : Nat → Nat} {q1 : Nat → Nat} (hq : oinj LX3 q) (hq1 : oinj LX10 q1) (ha : oap [(LX3, q), (LX10, q1)]) {st : OS} {st1 : OS} {a1 : Int32} {x : OS} (hF : f_X3_appendDuads st st1 a1 = some x) : cQ l G yX3_appendDuads cX3_appendDuads 6 none rm_X3_appendDuads [.ref (q 3), .ref (q1 5), .int a1] (oset LX3 G q st (oset LX10 G q1 st1 h)) (mQv G (fun h1 => h1 = oset LX3 G q st (oset LX10 G q1 x h))) := by
  refine mp_of (by decide +kernel) (Nat.le_of_ble_eq_true rfl) ?_
  intro p e s m below meth c X hr hlk hH hname ls hl
  dsimp only [f_X3_appendDuads] at hF
  replace hl : lv_has ls 6 [(0, .ref (q 3)), (1, .ref (q1 5)), (2, .int a1)] := hl
  refine lv_iconst (v := 0) X.x X.b (dk DX3_appendDuads_0 0 rfl) (by decide) ?_
  refine lv_istore_n (lv' := [(3, .int 0), (0, .ref (q 3)), (1, .ref (q1 5)), (2, .int a1)]) X.x X.b (dk DX3_appendDuads_0 1 rfl) rfl hl (by decide) rfl (fun ls hl => ?_)
  replace hl : lv_has ls 6 [(0, .ref (q 3)), (1, .ref (q1 5)), (2, .int a1), (3, .int 0)] := lv_sub hl [1, 2, 3, 0] rfl
  obtain ⟨x32, e33, hF⟩ := bd hF
  replace hl : lv_has ls 6 [(0, .ref (q 3)), (1, .ref (q1 5)), (2, .int a1), (3, .int 0)] := lv_sub hl [0, 1, 2, 3] rfl
  refine w_X3_appendDuads_2 hq hq1 ha X st a1 _ _ e33 _ _ _ hH hl (fun H locs ls hH hl => ?_)
  cases sm hF
  exact mr_vret X hr hlk hH rfl (dk DX3_appendDuads_1 10 rfl)
-- X3_makeDuads
abbrev rm_X3_makeDuads : Room := { frames := 2, cells := 0, slots := 0, locals := 47 }
theorem hd_X3_makeDuads : mHd yX3_makeDuads 1 := ⟨by decide +kernel, by decide +kernel, by decide +kernel⟩
theorem DX3_makeDuads_0 : ∀ t ∈ ([(0, .aload_n 1, 1), (1, .bipush 15, 2), (3, .invokevirtual 21, 3), (6, .aload_n 0, 1), (7, .aload_n 1, 1), (8, .iconst 0, 1), (9, .invokevirtual 35, 3), (12, .return_, 1)] : List (Nat × Instr × Nat)), decode cX3_makeDuads t.1 = .ok (t.2.1, t.2.2) := by decide +kernel
noncomputable def f_X3_makeDuads (st : OS) (st1 : OS) : Option (OS) := (f_X10_clear st1 15).bind (fun x1 => (f_X3_appendDuads st x1 0).bind (fun x4 => some x4))
set_option maxHeartbeats 4000000 in
set_option maxRecDepth 100000 in
theorem c_X3_makeDuads {l : Launch} {G : mG} {h : mM} {q : Nat → Nat} {q1 : Nat → Nat} (hq : oinj LX3 q) (hq1 : oinj LX10 q1) (ha : oap [(LX3, q), (LX10, q1)]) {st : OS} {st1 : OS} {x : OS} (hF : f_X3_makeDuads st st1 = some x) : cQ l G yX3_makeDuads cX3_makeDuads 2 none rm_X3_makeDuads [.ref (q 3), .ref (q1 5)] (oset LX3 G q st (oset LX10 G q1 st1 h)) (mQv G (fun h1 => h1 = oset LX3 G q st (oset LX10 G q1 x h))) := by
  refine mp_of (by decide +kernel) (Nat.le_of_ble_eq_true rfl) ?_
  intro p e s m below meth c X hr hlk hH hname ls hl
  dsimp only [f_X3_makeDuads] at hF
  replace hl : lv_has ls 2 [(0, .ref (q 3)), (1, .ref (q1 5))] := hl
  refine lv_aload_n X.x X.b (dk DX3_makeDuads_0 0 rfl) rfl (lv_at hl 1 rfl) ?_
  refine lv_bipush (v := 15) X.x X.b (dk DX3_makeDuads_0 1 rfl) (by decide) ?_
  obtain ⟨x1, e2, hF⟩ := bd hF
  refine mr_cv0 (mH_perm (l1 := [(LX3, q, st), (LX10, q1, st1)]) (l2 := [(LX10, q1, st1), (LX3, q, st)]) ha [1, 0] [1, 0] rfl rfl rfl hH) ⟨rfl, rfl⟩ (mr_runV (As := [.int 15]) (rest := []) X (mH_perm (l1 := [(LX3, q, st), (LX10, q1, st1)]) (l2 := [(LX10, q1, st1), (LX3, q, st)]) ha [1, 0] [1, 0] rfl rfl rfl hH) (c_X10_clear hq1 e2) ((oset_at hq1 (Nat.le_refl _) ohas_N).trans (congrArg some ocell_N)) OX10.1 kM_X3_21 kI_X10_clear kS_X10_clear kN_X10 kC_X10_clear hd_X10_clear ⟨Nat.le_of_ble_eq_true rfl, Nat.le_of_ble_eq_true rfl⟩ rfl hl.1 (Nat.le_of_ble_eq_true rfl) (dk DX3_makeDuads_0 2 rfl) ⟨Nat.zero_le _, Nat.zero_le _⟩) (fun h1 H locs hp hH => ?_)
  rw [hp] at hH; clear hp
  replace hH : mH G (oset LX3 G q st (oset LX10 G q1 x1 h)) s.heap H locs := mH_unperm (l1 := [(LX3, q, st), (LX10, q1, x1)]) (l2 := [(LX10, q1, x1), (LX3, q, st)]) ha [1, 0] [1, 0] rfl rfl rfl hH
  refine lv_aload_n X.x X.b (dk DX3_makeDuads_0 3 rfl) rfl (lv_at hl 0 rfl) ?_
  refine lv_aload_n X.x X.b (dk DX3_makeDuads_0 4 rfl) rfl (lv_at hl 1 rfl) ?_
  refine lv_iconst (v := 0) X.x X.b (dk DX3_makeDuads_0 5 rfl) (by decide) ?_
  obtain ⟨x4, e5, hF⟩ := bd hF
  refine mr_cv0 hH ⟨rfl, rfl⟩ (mr_runV (As := [.ref (q1 5), .int 0]) (rest := []) X hH (c_X3_appendDuads hq hq1 ha e5) ((oset_at hq (Nat.le_refl _) ohas_N).trans (congrArg some ocell_N)) OX3.1 kM_X3_35 kI_X3_appendDuads kS_X3_appendDuads kN_X3 kC_X3_appendDuads hd_X3_appendDuads ⟨Nat.le_of_ble_eq_true rfl, Nat.le_of_ble_eq_true rfl⟩ rfl hl.1 (Nat.le_of_ble_eq_true rfl) (dk DX3_makeDuads_0 6 rfl) ⟨Nat.zero_le _, Nat.zero_le _⟩) (fun h1 H locs hp hH => ?_)
  rw [hp] at hH; clear hp
  cases sm hF
  exact mr_vret X hr hlk hH rfl (dk DX3_makeDuads_0 7 rfl)
-- X3_pairOf
abbrev rm_X3_pairOf : Room := { frames := 0, cells := 0, slots := 0, locals := 0 }
theorem hd_X3_pairOf : mHd yX3_pairOf 2 := ⟨by decide +kernel, by decide +kernel, by decide +kernel⟩
theorem DX3_pairOf_0 : ∀ t ∈ ([(0, .iconst 1, 1), (1, .iload_n 1, 1), (2, .ishl, 1), (3, .iconst 1, 1), (4, .iload_n 2, 1), (5, .ishl, 1), (6, .ior, 1), (7, .istore_n 3, 1), (8, .iconst 0, 1), (9, .istore 4, 2), (11, .iload 4, 2), (13, .bipush 15, 2), (15, .if_icmp .ge 23, 3), (18, .aload_n 0, 1), (19, .getfield 11, 3), (22, .iload 4, 2), (24, .iaload, 1), (25, .iload_n 3, 1), (26, .if_icmp .ne 6, 3), (29, .iload 4, 2), (31, .ireturn, 1), (32, .iinc 4 1, 3), (35, .goto (-24), 3), (38, .iconst 0, 1), (39, .ireturn, 1)] : List (Nat × Instr × Nat)), decode cX3_pairOf t.1 = .ok (t.2.1, t.2.2) := by decide +kernel
noncomputable def f_X3_pairOf_11 (s_t : OS) (b3 : Int32) : Int32 → Option ((Int32) ⊕ (Nat × Int32)) := fun b4 => (if 15 ≤ b4 then some (.inr ((1, b4))) else if inb b4 15 = true then (if (s_t.2.2.1 0 (b4 : Int32).toNatClampNeg) = b3 then some (.inr ((0, b4))) else bnd (b4 + 1 : Int32) (fun v6 => some (.inl v6))) else none)
noncomputable def f_X3_pairOf (st : OS) (a0 : Int32) (a1 : Int32) : Option (Int32) := bnd (((1 : Int32) <<< (a0 &&& 31)) ||| ((1 : Int32) <<< (a1 &&& 31)) : Int32) (fun v1 => (lpv (f_X3_pairOf_11 st v1) 0).bind (fun x8 => match x8 with | (k11, v10) => (if k11 = 0 then some v10 else some 0)))
set_option maxHeartbeats 4000000 in
set_option maxRecDepth 100000 in
theorem w_X3_pairOf_11 {p : Program} {l : Launch} {e : Env} {s : State} {m : MethodId} {args : Array Value} {below : List Frame} {meth : Method} {c : Code} {Q : State → Prop} {G : mG} {h : mM} {q : Nat → Nat} (hq : oinj LX3 q) (X : mX G p m c cX3_pairOf 5 s args RX3) (s_t : OS) (b3 : Int32) : ∀ (z : Int32) (r : Nat × Int32), lpv (f_X3_pairOf_11 s_t b3) z = some r → ∀ (H : Heap) (locs : List Loc) (ls : Array Slot), mH G (oset LX3 G q s_t h) s.heap H locs → lv_has ls 5 [(0, .ref (q 3)), (3, .int b3), (4, .int z)] → (r.1 = 0 → ∀ (H : Heap) (locs : List Loc) (ls : Array Slot), mH G (oset LX3 G q s_t h) s.heap H locs → lv_has ls 5 [(4, .int r.2)] → W p l e rm_X3_pairOf s m args below meth c H locs 0 0 Q (F0 m 29 ls [])) → (r.1 = 1 → ∀ (H : Heap) (locs : List Loc) (ls : Array Slot), mH G (oset LX3 G q s_t h) s.heap H locs → lv_has ls 5 [] → W p l e rm_X3_pairOf s m args below meth c H locs 0 0 Q (F0 m 38 ls [])) → W p l e rm_X3_pairOf s m args below meth c H locs 0 0 Q (F0 m 11 ls []) := by
  refine lpv_rec ?_
  intro z r x hF hx H locs ls hH hl K0 K1
  obtain ⟨b4, hz⟩ : ∃ y, y = z := ⟨_, rfl⟩
  subst hz
  dsimp only [f_X3_pairOf_11] at hF
  refine lv_iload X.x X.b (dk DX3_pairOf_0 10 rfl) (lv_at hl 2 rfl) ?_
  refine lv_bipush (v := 15) X.x X.b (dk DX3_pairOf_0 11 rfl) (by decide) ?_
  refine lv_icmp_ge (tgt := 38) X.x X.b (dk DX3_pairOf_0 12 rfl) (by decide) (fun c3 => ?_) (fun c3 => ?_)
  · replace hF := if_t hF c3
    have hr9 := lp_r hF hx
    subst hr9
    exact K1 rfl _ _ _ hH (lv_sub hl [] rfl)
  · replace hF := if_f hF c3
    refine lv_aload_n X.x X.b (dk DX3_pairOf_0 13 rfl) rfl (lv_at hl 0 rfl) ?_
    refine og_getR (t := 0) OX3 X hq hH 0 (by decide) rfl kF_X3_11 (dk DX3_pairOf_0 14 rfl) ?_
    refine lv_iload X.x X.b (dk DX3_pairOf_0 15 rfl) (lv_at hl 2 rfl) ?_
    obtain ⟨c4, hF⟩ := gd hF
    refine og_iald X hq hH 0 (by decide) rfl (inb_in c4) (dk DX3_pairOf_0 16 rfl) ?_
    refine lv_iload_n X.x X.b (dk DX3_pairOf_0 17 rfl) rfl (lv_at hl 1 rfl) ?_
    refine lv_icmp_ne (tgt := 32) X.x X.b (dk DX3_pairOf_0 18 rfl) (by decide) (fun c5 => ?_) (fun c5 => ?_)
    · replace hF := if_f hF c5
      obtain ⟨v6, e7⟩ : ∃ y : Int32, y = b4 + 1 := ⟨_, rfl⟩
      replace hF := bnd_e hF e7
      refine lv_iinc (v := v6) (lv' := [(4, .int v6), (0, .ref (q 3)), (3, .int b3)]) X.x X.b (dk DX3_pairOf_0 21 rfl) hl (k := 2) rfl (by rw [e7]; rfl) (by decide) rfl (fun ls hl => ?_)
      replace hl : lv_has ls 5 [(0, .ref (q 3)), (3, .int b3), (4, .int v6)] := lv_sub hl [1, 2, 0] rfl
      refine lv_goto (tgt := 11) X.x X.b (dk DX3_pairOf_0 22 rfl) (by decide) ?_
      exact (lp_l hF hx) _ _ _ hH (lv_sub hl [0, 1, 2] rfl) K0 K1
    · replace hF := if_t hF c5
      have hr9 := lp_r hF hx
      subst hr9
      exact K0 rfl _ _ _ hH (lv_sub hl [2] rfl)
set_option maxHeartbeats 4000000 in
set_option maxRecDepth 100000 in
theorem c_X3_pairOf {l : Launch} {G : mG} {h : mM} {q : Nat → Nat} (hq : oinj LX3 q) {st : OS} {a0 : Int32} {a1 : Int32} {x : Int32} (hF : f_X3_pairOf st a0 a1 = some x) : cQ l G yX3_pairOf cX3_pairOf 5 (some FieldType.int) rm_X3_pairOf [.ref (q 3), .int a0, .int a1] (oset LX3 G q st h) (mQi G (fun r h1 => r = x ∧ h1 = oset LX3 G q st h)) := by
  refine mp_of (by decide +kernel) (Nat.le_of_ble_eq_true rfl) ?_
  intro p e s m below meth c X hr hlk hH hname ls hl
  dsimp only [f_X3_pairOf] at hF
  replace hl : lv_has ls 5 [(0, .ref (q 3)), (1, .int a0), (2, .int a1)] := hl
  refine lv_iconst (v := 1) X.x X.b (dk DX3_pairOf_0 0 rfl) (by decide) ?_
  refine lv_iload_n X.x X.b (dk DX3_pairOf_0 1 rfl) rfl (lv_at hl 1 rfl) ?_
  refine lv_ishl X.x X.b (dk DX3_pairOf_0 2 rfl) ?_
  refine lv_iconst (v := 1) X.x X.b (dk DX3_pairOf_0 3 rfl) (by decide) ?_
  refine lv_iload_n X.x X.b (dk DX3_pairOf_0 4 rfl) rfl (lv_at hl 2 rfl) ?_
  refine lv_ishl X.x X.b (dk DX3_pairOf_0 5 rfl) ?_
  refine lv_ior X.x X.b (dk DX3_pairOf_0 6 rfl) ?_
  refine lv_topi (fun v1 e2 => ?_)
  replace hF := bnd_e hF e2
  refine lv_istore_n (lv' := [(3, .int v1), (0, .ref (q 3)), (1, .int a0), (2, .int a1)]) X.x X.b (dk DX3_pairOf_0 7 rfl) rfl hl (by decide) rfl (fun ls hl => ?_)
  replace hl : lv_has ls 5 [(0, .ref (q 3)), (3, .int v1)] := lv_sub hl [1, 0] rfl
  refine lv_iconst (v := 0) X.x X.b (dk DX3_pairOf_0 8 rfl) (by decide) ?_
  refine lv_istore (lv' := [(4, .int 0), (0, .ref (q 3)), (3, .int v1)]) X.x X.b (dk DX3_pairOf_0 9 rfl) hl (by decide) rfl (fun ls hl => ?_)
  replace hl : lv_has ls 5 [(0, .ref (q 3)), (3, .int v1), (4, .int 0)] := lv_sub hl [1, 2, 0] rfl
  obtain ⟨x8, e9, hF⟩ := bd hF
  replace hl : lv_has ls 5 [(0, .ref (q 3)), (3, .int v1), (4, .int 0)] := lv_sub hl [0, 1, 2] rfl
  obtain ⟨k11, v10⟩ := x8
  try dsimp only at hF
  refine w_X3_pairOf_11 hq X st v1 _ _ e9 _ _ _ hH hl (fun hk H locs ls hH hl => ?_) (fun hk H locs ls hH hl => ?_)
  · try dsimp only at hH hl
    try dsimp only at hk
    subst hk
    replace hF := if_t hF rfl
    refine lv_iload X.x X.b (dk DX3_pairOf_0 19 rfl) (lv_at hl 0 rfl) ?_
    cases sm hF
    exact mr_iret X hr hlk hH ⟨rfl, rfl⟩ (dk DX3_pairOf_0 20 rfl)
  · try dsimp only at hH hl
    try dsimp only at hk
    subst hk
    replace hF := if_f hF (by decide)
    refine lv_iconst (v := 0) X.x X.b (dk DX3_pairOf_0 23 rfl) (by decide) ?_
    cases sm hF
    exact mr_iret X hr hlk hH ⟨rfl, rfl⟩ (dk DX3_pairOf_0 24 rfl)
-- X3_makeSixes
abbrev rm_X3_makeSixes : Room := { frames := 2, cells := 0, slots := 0, locals := 47 }
theorem hd_X3_makeSixes : mHd yX3_makeSixes 1 := ⟨by decide +kernel, by decide +kernel, by decide +kernel⟩
theorem DX3_makeSixes_0 : ∀ t ∈ ([(0, .aload_n 1, 1), (1, .bipush 27, 2), (3, .invokevirtual 21, 3), (6, .iconst 0, 1), (7, .istore_n 2, 1), (8, .iload_n 2, 1), (9, .bipush 6, 2), (11, .if_icmp .ge 54, 3), (14, .iconst 0, 1), (15, .istore_n 3, 1), (16, .iload_n 3, 1), (17, .bipush 6, 2), (19, .if_icmp .ge 40, 3), (22, .iload_n 3, 1), (23, .iload_n 2, 1), (24, .if_icmp .eq 29, 3), (27, .aload_n 1, 1), (28, .lconst 1, 1), (29, .iload_n 2, 1), (30, .lshl, 1), (31, .lconst 1, 1), (32, .bipush 6, 2), (34, .iload_n 3, 1), (35, .iadd, 1), (36, .lshl, 1), (37, .lor, 1), (38, .lconst 1, 1), (39, .bipush 12, 2), (41, .aload_n 0, 1), (42, .iload_n 2, 1), (43, .iload_n 3, 1), (44, .invokevirtual 39, 3), (47, .iadd, 1), (48, .lshl, 1), (49, .lor, 1), (50, .invokevirtual 31, 3), (53, .iinc 3 1, 3), (56, .goto (-40), 3), (59, .iinc 2 1, 3), (62, .goto (-54), 3), (65, .aload_n 0, 1), (66, .aload_n 1, 1), (67, .bipush 12, 2), (69, .invokevirtual 35, 3), (72, .return_, 1)] : List (Nat × Instr × Nat)), decode cX3_makeSixes t.1 = .ok (t.2.1, t.2.2) := by decide +kernel
noncomputable def f_X3_makeSixes_16 (s_t : OS) (b2 : Int32) : (OS × Int32) → Option ((OS × Int32) ⊕ (OS)) := fun z => match z with | (s_o1, b3) => (if 6 ≤ b3 then some (.inr s_o1) else (if b3 = b2 then bnd (b3 + 1 : Int32) (fun v7 => some (.inl ((s_o1, v7)))) else (f_X3_pairOf s_t b2 b3).bind (fun x9 => (f_X10_append s_o1 (((((1 : Int64)) <<< ((b2 : Int32).toInt64 &&& 63)) ||| (((1 : Int64)) <<< (((6 : Int32) + b3 : Int32).toInt64 &&& 63))) ||| (((1 : Int64)) <<< (((12 : Int32) + x9 : Int32).toInt64 &&& 63)))).bind (fun x12 => bnd (b3 + 1 : Int32) (fun v15 => some (.inl ((x12, v15))))))))
noncomputable def f_X3_makeSixes_8 (s_t : OS) : (OS × Int32) → Option ((OS × Int32) ⊕ (OS)) := fun z => match z with | (s_o1, b2) => (if 6 ≤ b2 then some (.inr s_o1) else (lpv (f_X3_makeSixes_16 s_t b2) ((s_o1, 0))).bind (fun x17 => bnd (b2 + 1 : Int32) (fun v20 => some (.inl ((x17, v20))))))
noncomputable def f_X3_makeSixes (st : OS) (st1 : OS) : Option (OS) := (f_X10_clear st1 27).bind (fun x1 => (lpv (f_X3_makeSixes_8 st) ((x1, 0))).bind (fun x22 => (f_X3_appendDuads st x22 12).bind (fun x25 => some x25)))
set_option maxHeartbeats 4000000 in
set_option maxRecDepth 100000 in
theorem w_X3_makeSixes_16 {p : Program} {l : Launch} {e : Env} {s : State} {m : MethodId} {args : Array Value} {below : List Frame} {meth : Method} {c : Code} {Q : State → Prop} {G : mG} {h : mM} {q : Nat → Nat} {q1 : Nat → Nat} (hq : oinj LX3 q) (hq1 : oinj LX10 q1) (ha : oap [(LX3, q), (LX10, q1)]) (X : mX G p m c cX3_makeSixes 4 s args RX3) (s_t : OS) (b2 : Int32) : ∀ (z : OS × Int32) (r : OS), lpv (f_X3_makeSixes_16 s_t b2) z = some r → ∀ (H : Heap) (locs : List Loc) (ls : Array Slot), mH G (oset LX3 G q s_t (oset LX10 G q1 z.1 h)) s.heap H locs → lv_has ls 4 [(0, .ref (q 3)), (1, .ref (q1 5)), (2, .int b2), (3, .int z.2)] → (∀ (H : Heap) (locs : List Loc) (ls : Array Slot), mH G (oset LX3 G q s_t (oset LX10 G q1 r h)) s.heap H locs → lv_has ls 4 [(0, .ref (q 3)), (1, .ref (q1 5)), (2, .int b2)] → W p l e rm_X3_makeSixes s m args below meth c H locs 0 0 Q (F0 m 59 ls [])) → W p l e rm_X3_makeSixes s m args below meth c H locs 0 0 Q (F0 m 16 ls []) := by
  refine lpv_rec ?_
  intro z r x hF hx H locs ls hH hl K0
  obtain ⟨s_o1, b3⟩ := z
  dsimp only [f_X3_makeSixes_16] at hF
  try dsimp only at hH hl
  refine lv_iload_n X.x X.b (dk DX3_makeSixes_0 10 rfl) rfl (lv_at hl 3 rfl) ?_
  refine lv_bipush (v := 6) X.x X.b (dk DX3_makeSixes_0 11 rfl) (by decide) ?_
  refine lv_icmp_ge (tgt := 59) X.x X.b (dk DX3_makeSixes_0 12 rfl) (by decide) (fun c5 => ?_) (fun c5 => ?_)
  · replace hF := if_t hF c5
    have hr9 := lp_r hF hx
    subst hr9
    exact K0 _ _ _ hH (lv_sub hl [0, 1, 2] rfl)
  · replace hF := if_f hF c5
    refine lv_iload_n X.x X.b (dk DX3_makeSixes_0 13 rfl) rfl (lv_at hl 3 rfl) ?_
    refine lv_iload_n X.x X.b (dk DX3_makeSixes_0 14 rfl) rfl (lv_at hl 2 rfl) ?_
    refine lv_icmp_eq (tgt := 53) X.x X.b (dk DX3_makeSixes_0 15 rfl) (by decide) (fun c6 => ?_) (fun c6 => ?_)
    · replace hF := if_t hF c6
      obtain ⟨v7, e8⟩ : ∃ y : Int32, y = b3 + 1 := ⟨_, rfl⟩
      replace hF := bnd_e hF e8
      refine lv_iinc (v := v7) (lv' := [(3, .int v7), (0, .ref (q 3)), (1, .ref (q1 5)), (2, .int b2)]) X.x X.b (dk DX3_makeSixes_0 36 rfl) hl (k := 3) rfl (by rw [e8]; rfl) (by decide) rfl (fun ls hl => ?_)
      replace hl : lv_has ls 4 [(0, .ref (q 3)), (1, .ref (q1 5)), (2, .int b2), (3, .int v7)] := lv_sub hl [1, 2, 3, 0] rfl
      refine lv_goto (tgt := 16) X.x X.b (dk DX3_makeSixes_0 37 rfl) (by decide) ?_
      exact (lp_l hF hx) _ _ _ hH (lv_sub hl [0, 1, 2, 3] rfl) K0
    · replace hF := if_f hF c6
      refine lv_aload_n X.x X.b (dk DX3_makeSixes_0 16 rfl) rfl (lv_at hl 1 rfl) ?_
      refine lv_lconst (v := 1) X.x X.b (dk DX3_makeSixes_0 17 rfl) (by decide) ?_
      refine lv_iload_n X.x X.b (dk DX3_makeSixes_0 18 rfl) rfl (lv_at hl 2 rfl) ?_
      refine lv_lshl X.x X.b (dk DX3_makeSixes_0 19 rfl) rfl ?_
      refine lv_lconst (v := 1) X.x X.b (dk DX3_makeSixes_0 20 rfl) (by decide) ?_
      refine lv_bipush (v := 6) X.x X.b (dk DX3_makeSixes_0 21 rfl) (by decide) ?_
      refine lv_iload_n X.x X.b (dk DX3_makeSixes_0 22 rfl) rfl (lv_at hl 3 rfl) ?_
      refine lv_iadd X.x X.b (dk DX3_makeSixes_0 23 rfl) ?_
      refine lv_lshl X.x X.b (dk DX3_makeSixes_0 24 rfl) rfl ?_
      refine lv_lor X.x X.b (dk DX3_makeSixes_0 25 rfl) ?_
      refine lv_lconst (v := 1) X.x X.b (dk DX3_makeSixes_0 26 rfl) (by decide) ?_
      refine lv_bipush (v := 12) X.x X.b (dk DX3_makeSixes_0 27 rfl) (by decide) ?_
      refine lv_aload_n X.x X.b (dk DX3_makeSixes_0 28 rfl) rfl (lv_at hl 0 rfl) ?_
      refine lv_iload_n X.x X.b (dk DX3_makeSixes_0 29 rfl) rfl (lv_at hl 2 rfl) ?_
      refine lv_iload_n X.x X.b (dk DX3_makeSixes_0 30 rfl) rfl (lv_at hl 3 rfl) ?_
      obtain ⟨x9, e10, hF⟩ := bd hF
      refine mr_ci0 hH ⟨rfl, rfl⟩ (mr_runV (As := [.int b2, .int b3]) (rest := [.int 12, .long 1, .long ((((1 : Int64)) <<< ((b2 : Int32).toInt64 &&& 63)) ||| (((1 : Int64)) <<< (((6 : Int32) + b3 : Int32).toInt64 &&& 63))), .ref (q1 5)]) X hH (c_X3_pairOf hq e10) ((oset_at hq (Nat.le_refl _) ohas_N).trans (congrArg some ocell_N)) OX3.1 kM_X3_39 kI_X3_pairOf kS_X3_pairOf kN_X3 kC_X3_pairOf hd_X3_pairOf ⟨Nat.le_of_ble_eq_true rfl, Nat.le_of_ble_eq_true rfl⟩ rfl hl.1 (Nat.le_of_ble_eq_true rfl) (dk DX3_makeSixes_0 31 rfl) ⟨Nat.zero_le _, Nat.zero_le _⟩) (fun r h1 H locs hp hH => ?_)
      obtain ⟨hr1, hr2⟩ := hp; rw [hr1]; rw [hr2] at hH; clear hr1 hr2
      refine lv_iadd X.x X.b (dk DX3_makeSixes_0 32 rfl) ?_
      refine lv_lshl X.x X.b (dk DX3_makeSixes_0 33 rfl) rfl ?_
      refine lv_lor X.x X.b (dk DX3_makeSixes_0 34 rfl) ?_
      obtain ⟨x12, e13, hF⟩ := bd hF
      refine mr_cv0 (mH_perm (l1 := [(LX3, q, s_t), (LX10, q1, s_o1)]) (l2 := [(LX10, q1, s_o1), (LX3, q, s_t)]) ha [1, 0] [1, 0] rfl rfl rfl hH) ⟨rfl, rfl⟩ (mr_runV (As := [.long (((((1 : Int64)) <<< ((b2 : Int32).toInt64 &&& 63)) ||| (((1 : Int64)) <<< (((6 : Int32) + b3 : Int32).toInt64 &&& 63))) ||| (((1 : Int64)) <<< (((12 : Int32) + x9 : Int32).toInt64 &&& 63)))]) (rest := []) X (mH_perm (l1 := [(LX3, q, s_t), (LX10, q1, s_o1)]) (l2 := [(LX10, q1, s_o1), (LX3, q, s_t)]) ha [1, 0] [1, 0] rfl rfl rfl hH) (c_X10_append hq1 e13) ((oset_at hq1 (Nat.le_refl _) ohas_N).trans (congrArg some ocell_N)) OX10.1 kM_X3_31 kI_X10_append kS_X10_append kN_X10 kC_X10_append hd_X10_append ⟨Nat.le_of_ble_eq_true rfl, Nat.le_of_ble_eq_true rfl⟩ rfl hl.1 (Nat.le_of_ble_eq_true rfl) (dk DX3_makeSixes_0 35 rfl) ⟨Nat.zero_le _, Nat.zero_le _⟩) (fun h1 H locs hp hH => ?_)
      rw [hp] at hH; clear hp
      replace hH : mH G (oset LX3 G q s_t (oset LX10 G q1 x12 h)) s.heap H locs := mH_unperm (l1 := [(LX3, q, s_t), (LX10, q1, x12)]) (l2 := [(LX10, q1, x12), (LX3, q, s_t)]) ha [1, 0] [1, 0] rfl rfl rfl hH
      obtain ⟨v15, e16⟩ : ∃ y : Int32, y = b3 + 1 := ⟨_, rfl⟩
      replace hF := bnd_e hF e16
      refine lv_iinc (v := v15) (lv' := [(3, .int v15), (0, .ref (q 3)), (1, .ref (q1 5)), (2, .int b2)]) X.x X.b (dk DX3_makeSixes_0 36 rfl) hl (k := 3) rfl (by rw [e16]; rfl) (by decide) rfl (fun ls hl => ?_)
      replace hl : lv_has ls 4 [(0, .ref (q 3)), (1, .ref (q1 5)), (2, .int b2), (3, .int v15)] := lv_sub hl [1, 2, 3, 0] rfl
      refine lv_goto (tgt := 16) X.x X.b (dk DX3_makeSixes_0 37 rfl) (by decide) ?_
      exact (lp_l hF hx) _ _ _ hH (lv_sub hl [0, 1, 2, 3] rfl) K0
set_option maxHeartbeats 4000000 in
set_option maxRecDepth 100000 in
theorem w_X3_makeSixes_8 {p : Program} {l : Launch} {e : Env} {s : State} {m : MethodId} {args : Array Value} {below : List Frame} {meth : Method} {c : Code} {Q : State → Prop} {G : mG} {h : mM} {q : Nat → Nat} {q1 : Nat → Nat} (hq : oinj LX3 q) (hq1 : oinj LX10 q1) (ha : oap [(LX3, q), (LX10, q1)]) (X : mX G p m c cX3_makeSixes 4 s args RX3) (s_t : OS) : ∀ (z : OS × Int32) (r : OS), lpv (f_X3_makeSixes_8 s_t) z = some r → ∀ (H : Heap) (locs : List Loc) (ls : Array Slot), mH G (oset LX3 G q s_t (oset LX10 G q1 z.1 h)) s.heap H locs → lv_has ls 4 [(0, .ref (q 3)), (1, .ref (q1 5)), (2, .int z.2)] → (∀ (H : Heap) (locs : List Loc) (ls : Array Slot), mH G (oset LX3 G q s_t (oset LX10 G q1 r h)) s.heap H locs → lv_has ls 4 [(0, .ref (q 3)), (1, .ref (q1 5))] → W p l e rm_X3_makeSixes s m args below meth c H locs 0 0 Q (F0 m 65 ls [])) → W p l e rm_X3_makeSixes s m args below meth c H locs 0 0 Q (F0 m 8 ls []) := by
  refine lpv_rec ?_
  intro z r x hF hx H locs ls hH hl K0
  obtain ⟨s_o1, b2⟩ := z
  dsimp only [f_X3_makeSixes_8] at hF
  try dsimp only at hH hl
  refine lv_iload_n X.x X.b (dk DX3_makeSixes_0 5 rfl) rfl (lv_at hl 2 rfl) ?_
  refine lv_bipush (v := 6) X.x X.b (dk DX3_makeSixes_0 6 rfl) (by decide) ?_
  refine lv_icmp_ge (tgt := 65) X.x X.b (dk DX3_makeSixes_0 7 rfl) (by decide) (fun c4 => ?_) (fun c4 => ?_)
  · replace hF := if_t hF c4
    have hr9 := lp_r hF hx
    subst hr9
    exact K0 _ _ _ hH (lv_sub hl [0, 1] rfl)
  · replace hF := if_f hF c4
    refine lv_iconst (v := 0) X.x X.b (dk DX3_makeSixes_0 8 rfl) (by decide) ?_
    refine lv_istore_n (lv' := [(3, .int 0), (0, .ref (q 3)), (1, .ref (q1 5)), (2, .int b2)]) X.x X.b (dk DX3_makeSixes_0 9 rfl) rfl hl (by decide) rfl (fun ls hl => ?_)
    replace hl : lv_has ls 4 [(0, .ref (q 3)), (1, .ref (q1 5)), (2, .int b2), (3, .int 0)] := lv_sub hl [1, 2, 3, 0] rfl
    obtain ⟨x17, e18, hF⟩ := bd hF
    replace hl : lv_has ls 4 [(0, .ref (q 3)), (1, .ref (q1 5)), (2, .int b2), (3, .int 0)] := lv_sub hl [0, 1, 2, 3] rfl
    refine w_X3_makeSixes_16 hq hq1 ha X s_t b2 _ _ e18 _ _ _ hH hl (fun H locs ls hH hl => ?_)
    obtain ⟨v20, e21⟩ : ∃ y : Int32, y = b2 + 1 := ⟨_, rfl⟩
    replace hF := bnd_e hF e21
    refine lv_iinc (v := v20) (lv' := [(2, .int v20), (0, .ref (q 3)), (1, .ref (q1 5))]) X.x X.b (dk DX3_makeSixes_0 38 rfl) hl (k := 2) rfl (by rw [e21]; rfl) (by decide) rfl (fun ls hl => ?_)
    replace hl : lv_has ls 4 [(0, .ref (q 3)), (1, .ref (q1 5)), (2, .int v20)] := lv_sub hl [1, 2, 0] rfl
    refine lv_goto (tgt := 8) X.x X.b (dk DX3_makeSixes_0 39 rfl) (by decide) ?_
    exact (lp_l hF hx) _ _ _ hH (lv_sub hl [0, 1, 2] rfl) K0
set_option maxHeartbeats 4000000 in
set_option maxRecDepth 100000 in
theorem c_X3_makeSixes {l : Launch} {G : mG} {h : mM} {q : Nat → Nat} {q1 : Nat → Nat} (hq : oinj LX3 q) (hq1 : oinj LX10 q1) (ha : oap [(LX3, q), (LX10, q1)]) {st : OS} {st1 : OS} {x : OS} (hF : f_X3_makeSixes st st1 = some x) : cQ l G yX3_makeSixes cX3_makeSixes 4 none rm_X3_makeSixes [.ref (q 3), .ref (q1 5)] (oset LX3 G q st (oset LX10 G q1 st1 h)) (mQv G (fun h1 => h1 = oset LX3 G q st (oset LX10 G q1 x h))) := by
  refine mp_of (by decide +kernel) (Nat.le_of_ble_eq_true rfl) ?_
  intro p e s m below meth c X hr hlk hH hname ls hl
  dsimp only [f_X3_makeSixes] at hF
  replace hl : lv_has ls 4 [(0, .ref (q 3)), (1, .ref (q1 5))] := hl
  refine lv_aload_n X.x X.b (dk DX3_makeSixes_0 0 rfl) rfl (lv_at hl 1 rfl) ?_
  refine lv_bipush (v := 27) X.x X.b (dk DX3_makeSixes_0 1 rfl) (by decide) ?_
  obtain ⟨x1, e2, hF⟩ := bd hF
  refine mr_cv0 (mH_perm (l1 := [(LX3, q, st), (LX10, q1, st1)]) (l2 := [(LX10, q1, st1), (LX3, q, st)]) ha [1, 0] [1, 0] rfl rfl rfl hH) ⟨rfl, rfl⟩ (mr_runV (As := [.int 27]) (rest := []) X (mH_perm (l1 := [(LX3, q, st), (LX10, q1, st1)]) (l2 := [(LX10, q1, st1), (LX3, q, st)]) ha [1, 0] [1, 0] rfl rfl rfl hH) (c_X10_clear hq1 e2) ((oset_at hq1 (Nat.le_refl _) ohas_N).trans (congrArg some ocell_N)) OX10.1 kM_X3_21 kI_X10_clear kS_X10_clear kN_X10 kC_X10_clear hd_X10_clear ⟨Nat.le_of_ble_eq_true rfl, Nat.le_of_ble_eq_true rfl⟩ rfl hl.1 (Nat.le_of_ble_eq_true rfl) (dk DX3_makeSixes_0 2 rfl) ⟨Nat.zero_le _, Nat.zero_le _⟩) (fun h1 H locs hp hH => ?_)
  rw [hp] at hH; clear hp
  replace hH : mH G (oset LX3 G q st (oset LX10 G q1 x1 h)) s.heap H locs := mH_unperm (l1 := [(LX3, q, st), (LX10, q1, x1)]) (l2 := [(LX10, q1, x1), (LX3, q, st)]) ha [1, 0] [1, 0] rfl rfl rfl hH
  refine lv_iconst (v := 0) X.x X.b (dk DX3_makeSixes_0 3 rfl) (by decide) ?_
  refine lv_istore_n (lv' := [(2, .int 0), (0, .ref (q 3)), (1, .ref (q1 5))]) X.x X.b (dk DX3_makeSixes_0 4 rfl) rfl hl (by decide) rfl (fun ls hl => ?_)
  replace hl : lv_has ls 4 [(0, .ref (q 3)), (1, .ref (q1 5)), (2, .int 0)] := lv_sub hl [1, 2, 0] rfl
  obtain ⟨x22, e23, hF⟩ := bd hF
  replace hl : lv_has ls 4 [(0, .ref (q 3)), (1, .ref (q1 5)), (2, .int 0)] := lv_sub hl [0, 1, 2] rfl
  refine w_X3_makeSixes_8 hq hq1 ha X st _ _ e23 _ _ _ hH hl (fun H locs ls hH hl => ?_)
  refine lv_aload_n X.x X.b (dk DX3_makeSixes_0 40 rfl) rfl (lv_at hl 0 rfl) ?_
  refine lv_aload_n X.x X.b (dk DX3_makeSixes_0 41 rfl) rfl (lv_at hl 1 rfl) ?_
  refine lv_bipush (v := 12) X.x X.b (dk DX3_makeSixes_0 42 rfl) (by decide) ?_
  obtain ⟨x25, e26, hF⟩ := bd hF
  refine mr_cv0 hH ⟨rfl, rfl⟩ (mr_runV (As := [.ref (q1 5), .int 12]) (rest := []) X hH (c_X3_appendDuads hq hq1 ha e26) ((oset_at hq (Nat.le_refl _) ohas_N).trans (congrArg some ocell_N)) OX3.1 kM_X3_35 kI_X3_appendDuads kS_X3_appendDuads kN_X3 kC_X3_appendDuads hd_X3_appendDuads ⟨Nat.le_of_ble_eq_true rfl, Nat.le_of_ble_eq_true rfl⟩ rfl hl.1 (Nat.le_of_ble_eq_true rfl) (dk DX3_makeSixes_0 43 rfl) ⟨Nat.zero_le _, Nat.zero_le _⟩) (fun h1 H locs hp hH => ?_)
  rw [hp] at hH; clear hp
  cases sm hF
  exact mr_vret X hr hlk hH rfl (dk DX3_makeSixes_0 44 rfl)
-- X3_areJoined
abbrev rm_X3_areJoined : Room := { frames := 0, cells := 0, slots := 0, locals := 0 }
theorem hd_X3_areJoined : mHd yX3_areJoined 2 := ⟨by decide +kernel, by decide +kernel, by decide +kernel⟩
theorem DX3_areJoined_0 : ∀ t ∈ ([(0, .iload_n 0, 1), (1, .bipush 27, 2), (3, .idiv, 1), (4, .iload_n 1, 1), (5, .bipush 9, 2), (7, .idiv, 1), (8, .iconst 3, 1), (9, .irem, 1), (10, .imul, 1), (11, .iload_n 0, 1), (12, .bipush 9, 2), (14, .idiv, 1), (15, .iconst 3, 1), (16, .irem, 1), (17, .iload_n 1, 1), (18, .bipush 27, 2), (20, .idiv, 1), (21, .imul, 1), (22, .isub, 1), (23, .iload_n 0, 1), (24, .iconst 3, 1), (25, .idiv, 1), (26, .iconst 3, 1), (27, .irem, 1), (28, .iload_n 1, 1), (29, .iconst 3, 1), (30, .irem, 1), (31, .imul, 1), (32, .iadd, 1), (33, .iload_n 0, 1), (34, .iconst 3, 1), (35, .irem, 1), (36, .iload_n 1, 1), (37, .iconst 3, 1), (38, .idiv, 1), (39, .iconst 3, 1), (40, .irem, 1), (41, .imul, 1), (42, .isub, 1), (43, .istore_n 2, 1), (44, .iload_n 2, 1), (45, .iconst 3, 1), (46, .irem, 1), (47, .ifCond .ne 7, 3), (50, .iconst 1, 1), (51, .goto 4, 3), (54, .iconst 0, 1), (55, .ireturn, 1)] : List (Nat × Instr × Nat)), decode cX3_areJoined t.1 = .ok (t.2.1, t.2.2) := by decide +kernel
noncomputable def f_X3_areJoined (a0 : Int32) (a1 : Int32) : Option (Int32) := bnd (((((a0 / 27) * ((a1 / 9) - (a1 / 9) / 3 * 3)) - (((a0 / 9) - (a0 / 9) / 3 * 3) * (a1 / 27))) + (((a0 / 3) - (a0 / 3) / 3 * 3) * (a1 - a1 / 3 * 3))) - ((a0 - a0 / 3 * 3) * ((a1 / 3) - (a1 / 3) / 3 * 3)) : Int32) (fun v1 => (if (v1 - v1 / 3 * 3) = 0 then some 1 else some 0))
set_option maxHeartbeats 4000000 in
set_option maxRecDepth 100000 in
theorem c_X3_areJoined {l : Launch} {G : mG} {h : mM}  {a0 : Int32} {a1 : Int32} {x : Int32} (hF : f_X3_areJoined a0 a1 = some x) : cQ l G yX3_areJoined cX3_areJoined 3 (some FieldType.boolean) rm_X3_areJoined [.int a0, .int a1] (h) (mQi G (fun r h1 => r = x ∧ h1 = h)) := by
  refine mp_of (by decide +kernel) (Nat.le_of_ble_eq_true rfl) ?_
  intro p e s m below meth c X hr hlk hH hname ls hl
  dsimp only [f_X3_areJoined] at hF
  replace hl : lv_has ls 3 [(0, .int a0), (1, .int a1)] := hl
  refine lv_iload_n X.x X.b (dk DX3_areJoined_0 0 rfl) rfl (lv_at hl 0 rfl) ?_
  refine lv_bipush (v := 27) X.x X.b (dk DX3_areJoined_0 1 rfl) (by decide) ?_
  refine lv_idiv X.x X.b (dk DX3_areJoined_0 2 rfl) (by decide) ?_
  refine lv_iload_n X.x X.b (dk DX3_areJoined_0 3 rfl) rfl (lv_at hl 1 rfl) ?_
  refine lv_bipush (v := 9) X.x X.b (dk DX3_areJoined_0 4 rfl) (by decide) ?_
  refine lv_idiv X.x X.b (dk DX3_areJoined_0 5 rfl) (by decide) ?_
  refine lv_iconst (v := 3) X.x X.b (dk DX3_areJoined_0 6 rfl) (by decide) ?_
  refine lv_irem X.x X.b (dk DX3_areJoined_0 7 rfl) (by decide) ?_
  refine lv_imul X.x X.b (dk DX3_areJoined_0 8 rfl) ?_
  refine lv_iload_n X.x X.b (dk DX3_areJoined_0 9 rfl) rfl (lv_at hl 0 rfl) ?_
  refine lv_bipush (v := 9) X.x X.b (dk DX3_areJoined_0 10 rfl) (by decide) ?_
  refine lv_idiv X.x X.b (dk DX3_areJoined_0 11 rfl) (by decide) ?_
  refine lv_iconst (v := 3) X.x X.b (dk DX3_areJoined_0 12 rfl) (by decide) ?_
  refine lv_irem X.x X.b (dk DX3_areJoined_0 13 rfl) (by decide) ?_
  refine lv_iload_n X.x X.b (dk DX3_areJoined_0 14 rfl) rfl (lv_at hl 1 rfl) ?_
  refine lv_bipush (v := 27) X.x X.b (dk DX3_areJoined_0 15 rfl) (by decide) ?_
  refine lv_idiv X.x X.b (dk DX3_areJoined_0 16 rfl) (by decide) ?_
  refine lv_imul X.x X.b (dk DX3_areJoined_0 17 rfl) ?_
  refine lv_isub X.x X.b (dk DX3_areJoined_0 18 rfl) ?_
  refine lv_iload_n X.x X.b (dk DX3_areJoined_0 19 rfl) rfl (lv_at hl 0 rfl) ?_
  refine lv_iconst (v := 3) X.x X.b (dk DX3_areJoined_0 20 rfl) (by decide) ?_
  refine lv_idiv X.x X.b (dk DX3_areJoined_0 21 rfl) (by decide) ?_
  refine lv_iconst (v := 3) X.x X.b (dk DX3_areJoined_0 22 rfl) (by decide) ?_
  refine lv_irem X.x X.b (dk DX3_areJoined_0 23 rfl) (by decide) ?_
  refine lv_iload_n X.x X.b (dk DX3_areJoined_0 24 rfl) rfl (lv_at hl 1 rfl) ?_
  refine lv_iconst (v := 3) X.x X.b (dk DX3_areJoined_0 25 rfl) (by decide) ?_
  refine lv_irem X.x X.b (dk DX3_areJoined_0 26 rfl) (by decide) ?_
  refine lv_imul X.x X.b (dk DX3_areJoined_0 27 rfl) ?_
  refine lv_iadd X.x X.b (dk DX3_areJoined_0 28 rfl) ?_
  refine lv_iload_n X.x X.b (dk DX3_areJoined_0 29 rfl) rfl (lv_at hl 0 rfl) ?_
  refine lv_iconst (v := 3) X.x X.b (dk DX3_areJoined_0 30 rfl) (by decide) ?_
  refine lv_irem X.x X.b (dk DX3_areJoined_0 31 rfl) (by decide) ?_
  refine lv_iload_n X.x X.b (dk DX3_areJoined_0 32 rfl) rfl (lv_at hl 1 rfl) ?_
  refine lv_iconst (v := 3) X.x X.b (dk DX3_areJoined_0 33 rfl) (by decide) ?_
  refine lv_idiv X.x X.b (dk DX3_areJoined_0 34 rfl) (by decide) ?_
  refine lv_iconst (v := 3) X.x X.b (dk DX3_areJoined_0 35 rfl) (by decide) ?_
  refine lv_irem X.x X.b (dk DX3_areJoined_0 36 rfl) (by decide) ?_
  refine lv_imul X.x X.b (dk DX3_areJoined_0 37 rfl) ?_
  refine lv_isub X.x X.b (dk DX3_areJoined_0 38 rfl) ?_
  refine lv_topi (fun v1 e2 => ?_)
  replace hF := bnd_e hF e2
  refine lv_istore_n (lv' := [(2, .int v1), (0, .int a0), (1, .int a1)]) X.x X.b (dk DX3_areJoined_0 39 rfl) rfl hl (by decide) rfl (fun ls hl => ?_)
  replace hl : lv_has ls 3 [(2, .int v1)] := lv_sub hl [0] rfl
  refine lv_iload_n X.x X.b (dk DX3_areJoined_0 40 rfl) rfl (lv_at hl 0 rfl) ?_
  refine lv_iconst (v := 3) X.x X.b (dk DX3_areJoined_0 41 rfl) (by decide) ?_
  refine lv_irem X.x X.b (dk DX3_areJoined_0 42 rfl) (by decide) ?_
  refine lv_if_ne (tgt := 54) X.x X.b (dk DX3_areJoined_0 43 rfl) (by decide) (fun c3 => ?_) (fun c3 => ?_)
  · replace hF := if_f hF c3
    refine lv_iconst (v := 0) X.x X.b (dk DX3_areJoined_0 46 rfl) (by decide) ?_
    cases sm hF
    exact mr_zret X hr hlk hH rfl ⟨rfl, rfl⟩ (dk DX3_areJoined_0 47 rfl)
  · replace hF := if_t hF c3
    refine lv_iconst (v := 1) X.x X.b (dk DX3_areJoined_0 44 rfl) (by decide) ?_
    refine lv_goto (tgt := 55) X.x X.b (dk DX3_areJoined_0 45 rfl) (by decide) ?_
    cases sm hF
    exact mr_zret X hr hlk hH rfl ⟨rfl, rfl⟩ (dk DX3_areJoined_0 47 rfl)
-- X3_pointOf
abbrev rm_X3_pointOf : Room := { frames := 0, cells := 0, slots := 0, locals := 0 }
theorem hd_X3_pointOf : mHd yX3_pointOf 3 := ⟨by decide +kernel, by decide +kernel, by decide +kernel⟩
theorem DX3_pointOf_0 : ∀ t ∈ ([(0, .iconst 0, 1), (1, .istore 4, 2), (3, .iconst 0, 1), (4, .istore 5, 2), (6, .iconst 1, 1), (7, .istore 6, 2), (9, .iload 6, 2), (11, .bipush 27, 2), (13, .if_icmp .gt 55, 3), (16, .iload_n 1, 1), (17, .iload 6, 2), (19, .idiv, 1), (20, .iconst 3, 1), (21, .irem, 1), (22, .iload_n 3, 1), (23, .iload_n 2, 1), (24, .iload 6, 2), (26, .idiv, 1), (27, .iconst 3, 1), (28, .irem, 1), (29, .imul, 1), (30, .iadd, 1), (31, .iconst 3, 1), (32, .irem, 1), (33, .istore 7, 2), (35, .iload 4, 2), (37, .iload 6, 2), (39, .iload 7, 2), (41, .imul, 1), (42, .iadd, 1), (43, .istore 4, 2), (45, .iload 5, 2), (47, .iload 6, 2), (49, .iconst 2, 1), (50, .iload 7, 2), (52, .imul, 1), (53, .iconst 3, 1), (54, .irem, 1), (55, .imul, 1), (56, .iadd, 1), (57, .istore 5, 2), (59, .iload 6, 2), (61, .iconst 3, 1), (62, .imul, 1), (63, .istore 6, 2), (65, .goto (-56), 3), (68, .iload 4, 2), (70, .ifCond .lt 20, 3), (73, .iload 4, 2), (75, .bipush 81, 2), (77, .if_icmp .ge 13, 3), (80, .aload_n 0, 1), (81, .getfield 18, 3), (84, .iload 4, 2), (86, .iaload, 1), (87, .goto 4, 3), (90, .iconst (-1), 1), (91, .istore 6, 2), (93, .iload 6, 2), (95, .iconst (-1), 1)] : List (Nat × Instr × Nat)), decode cX3_pointOf t.1 = .ok (t.2.1, t.2.2) := by decide +kernel
theorem DX3_pointOf_1 : ∀ t ∈ ([(96, .if_icmp .ne 24, 3), (99, .iload 5, 2), (101, .ifCond .lt 19, 3), (104, .iload 5, 2), (106, .bipush 81, 2), (108, .if_icmp .ge 12, 3), (111, .aload_n 0, 1), (112, .getfield 18, 3), (115, .iload 5, 2), (117, .iaload, 1), (118, .istore 6, 2), (120, .iload 6, 2), (122, .ireturn, 1)] : List (Nat × Instr × Nat)), decode cX3_pointOf t.1 = .ok (t.2.1, t.2.2) := by decide +kernel
noncomputable def f_X3_pointOf_9 (s_t : OS) (b1 : Int32) (b2 : Int32) (b3 : Int32) : (Int32 × Int32 × Int32) → Option ((Int32 × Int32 × Int32) ⊕ (Int32 × Int32)) := fun z => match z with | (b4, b5, b6) => (if 27 < b6 then some (.inr ((b4, b5))) else if b6 = 0 then none else if b6 = 0 then none else bnd ((((b1 / b6) - (b1 / b6) / 3 * 3) + (b3 * ((b2 / b6) - (b2 / b6) / 3 * 3))) - (((b1 / b6) - (b1 / b6) / 3 * 3) + (b3 * ((b2 / b6) - (b2 / b6) / 3 * 3))) / 3 * 3 : Int32) (fun v4 => bnd (b4 + (b6 * v4) : Int32) (fun v6 => bnd (b5 + (b6 * (((2 : Int32) * v4) - ((2 : Int32) * v4) / 3 * 3)) : Int32) (fun v8 => bnd (b6 * 3 : Int32) (fun v10 => some (.inl ((v6, v8, v10))))))))
noncomputable def f_X3_pointOf (st : OS) (a0 : Int32) (a1 : Int32) (a2 : Int32) : Option (Int32) := (lpv (f_X3_pointOf_9 st a0 a1 a2) ((0, 0, 1))).bind (fun x12 => match x12 with | (v14, v15) => (if v14 < 0 then (if ((-1) : Int32) = ((-1)) then (if v15 < 0 then some ((-1)) else (if 81 ≤ v15 then some ((-1)) else if inb v15 81 = true then bnd (st.2.2.1 2 (v15 : Int32).toNatClampNeg : Int32) (fun v21 => some v21) else none)) else some ((-1))) else (if 81 ≤ v14 then (if ((-1) : Int32) = ((-1)) then (if v15 < 0 then some ((-1)) else (if 81 ≤ v15 then some ((-1)) else if inb v15 81 = true then bnd (st.2.2.1 2 (v15 : Int32).toNatClampNeg : Int32) (fun v28 => some v28) else none)) else some ((-1))) else if inb v14 81 = true then bnd (st.2.2.1 2 (v14 : Int32).toNatClampNeg : Int32) (fun v31 => (if v31 = ((-1)) then (if v15 < 0 then some v31 else (if 81 ≤ v15 then some v31 else if inb v15 81 = true then bnd (st.2.2.1 2 (v15 : Int32).toNatClampNeg : Int32) (fun v37 => some v37) else none)) else some v31)) else none)))
set_option maxHeartbeats 4000000 in
set_option maxRecDepth 100000 in
theorem w_X3_pointOf_9 {p : Program} {l : Launch} {e : Env} {s : State} {m : MethodId} {args : Array Value} {below : List Frame} {meth : Method} {c : Code} {Q : State → Prop} {G : mG} {h : mM} {q : Nat → Nat} (hq : oinj LX3 q) (X : mX G p m c cX3_pointOf 8 s args RX3) (s_t : OS) (b1 : Int32) (b2 : Int32) (b3 : Int32) : ∀ (z : Int32 × Int32 × Int32) (r : Int32 × Int32), lpv (f_X3_pointOf_9 s_t b1 b2 b3) z = some r → ∀ (H : Heap) (locs : List Loc) (ls : Array Slot), mH G (oset LX3 G q s_t h) s.heap H locs → lv_has ls 8 [(0, .ref (q 3)), (1, .int b1), (2, .int b2), (3, .int b3), (4, .int z.1), (5, .int z.2.1), (6, .int z.2.2)] → (∀ (H : Heap) (locs : List Loc) (ls : Array Slot), mH G (oset LX3 G q s_t h) s.heap H locs → lv_has ls 8 [(0, .ref (q 3)), (4, .int r.1), (5, .int r.2)] → W p l e rm_X3_pointOf s m args below meth c H locs 0 0 Q (F0 m 68 ls [])) → W p l e rm_X3_pointOf s m args below meth c H locs 0 0 Q (F0 m 9 ls []) := by
  refine lpv_rec ?_
  intro z r x hF hx H locs ls hH hl K0
  obtain ⟨b4, b5, b6⟩ := z
  dsimp only [f_X3_pointOf_9] at hF
  try dsimp only at hH hl
  refine lv_iload X.x X.b (dk DX3_pointOf_0 6 rfl) (lv_at hl 6 rfl) ?_
  refine lv_bipush (v := 27) X.x X.b (dk DX3_pointOf_0 7 rfl) (by decide) ?_
  refine lv_icmp_gt (tgt := 68) X.x X.b (dk DX3_pointOf_0 8 rfl) (by decide) (fun c1 => ?_) (fun c1 => ?_)
  · replace hF := if_t hF c1
    have hr9 := lp_r hF hx
    subst hr9
    exact K0 _ _ _ hH (lv_sub hl [0, 4, 5] rfl)
  · replace hF := if_f hF c1
    refine lv_iload_n X.x X.b (dk DX3_pointOf_0 9 rfl) rfl (lv_at hl 1 rfl) ?_
    refine lv_iload X.x X.b (dk DX3_pointOf_0 10 rfl) (lv_at hl 6 rfl) ?_
    obtain ⟨c2, hF⟩ := gn hF
    refine lv_idiv X.x X.b (dk DX3_pointOf_0 11 rfl) c2 ?_
    refine lv_iconst (v := 3) X.x X.b (dk DX3_pointOf_0 12 rfl) (by decide) ?_
    refine lv_irem X.x X.b (dk DX3_pointOf_0 13 rfl) (by decide) ?_
    refine lv_iload_n X.x X.b (dk DX3_pointOf_0 14 rfl) rfl (lv_at hl 3 rfl) ?_
    refine lv_iload_n X.x X.b (dk DX3_pointOf_0 15 rfl) rfl (lv_at hl 2 rfl) ?_
    refine lv_iload X.x X.b (dk DX3_pointOf_0 16 rfl) (lv_at hl 6 rfl) ?_
    obtain ⟨c3, hF⟩ := gn hF
    refine lv_idiv X.x X.b (dk DX3_pointOf_0 17 rfl) c3 ?_
    refine lv_iconst (v := 3) X.x X.b (dk DX3_pointOf_0 18 rfl) (by decide) ?_
    refine lv_irem X.x X.b (dk DX3_pointOf_0 19 rfl) (by decide) ?_
    refine lv_imul X.x X.b (dk DX3_pointOf_0 20 rfl) ?_
    refine lv_iadd X.x X.b (dk DX3_pointOf_0 21 rfl) ?_
    refine lv_iconst (v := 3) X.x X.b (dk DX3_pointOf_0 22 rfl) (by decide) ?_
    refine lv_irem X.x X.b (dk DX3_pointOf_0 23 rfl) (by decide) ?_
    refine lv_topi (fun v4 e5 => ?_)
    replace hF := bnd_e hF e5
    refine lv_istore (lv' := [(7, .int v4), (0, .ref (q 3)), (1, .int b1), (2, .int b2), (3, .int b3), (4, .int b4), (5, .int b5), (6, .int b6)]) X.x X.b (dk DX3_pointOf_0 24 rfl) hl (by decide) rfl (fun ls hl => ?_)
    replace hl : lv_has ls 8 [(0, .ref (q 3)), (1, .int b1), (2, .int b2), (3, .int b3), (4, .int b4), (5, .int b5), (6, .int b6), (7, .int v4)] := lv_sub hl [1, 2, 3, 4, 5, 6, 7, 0] rfl
    refine lv_iload X.x X.b (dk DX3_pointOf_0 25 rfl) (lv_at hl 4 rfl) ?_
    refine lv_iload X.x X.b (dk DX3_pointOf_0 26 rfl) (lv_at hl 6 rfl) ?_
    refine lv_iload X.x X.b (dk DX3_pointOf_0 27 rfl) (lv_at hl 7 rfl) ?_
    refine lv_imul X.x X.b (dk DX3_pointOf_0 28 rfl) ?_
    refine lv_iadd X.x X.b (dk DX3_pointOf_0 29 rfl) ?_
    refine lv_topi (fun v6 e7 => ?_)
    replace hF := bnd_e hF e7
    refine lv_istore (lv' := [(4, .int v6), (0, .ref (q 3)), (1, .int b1), (2, .int b2), (3, .int b3), (5, .int b5), (6, .int b6), (7, .int v4)]) X.x X.b (dk DX3_pointOf_0 30 rfl) hl (by decide) rfl (fun ls hl => ?_)
    replace hl : lv_has ls 8 [(0, .ref (q 3)), (1, .int b1), (2, .int b2), (3, .int b3), (4, .int v6), (5, .int b5), (6, .int b6), (7, .int v4)] := lv_sub hl [1, 2, 3, 4, 0, 5, 6, 7] rfl
    refine lv_iload X.x X.b (dk DX3_pointOf_0 31 rfl) (lv_at hl 5 rfl) ?_
    refine lv_iload X.x X.b (dk DX3_pointOf_0 32 rfl) (lv_at hl 6 rfl) ?_
    refine lv_iconst (v := 2) X.x X.b (dk DX3_pointOf_0 33 rfl) (by decide) ?_
    refine lv_iload X.x X.b (dk DX3_pointOf_0 34 rfl) (lv_at hl 7 rfl) ?_
    refine lv_imul X.x X.b (dk DX3_pointOf_0 35 rfl) ?_
    refine lv_iconst (v := 3) X.x X.b (dk DX3_pointOf_0 36 rfl) (by decide) ?_
    refine lv_irem X.x X.b (dk DX3_pointOf_0 37 rfl) (by decide) ?_
    refine lv_imul X.x X.b (dk DX3_pointOf_0 38 rfl) ?_
    refine lv_iadd X.x X.b (dk DX3_pointOf_0 39 rfl) ?_
    refine lv_topi (fun v8 e9 => ?_)
    replace hF := bnd_e hF e9
    refine lv_istore (lv' := [(5, .int v8), (0, .ref (q 3)), (1, .int b1), (2, .int b2), (3, .int b3), (4, .int v6), (6, .int b6), (7, .int v4)]) X.x X.b (dk DX3_pointOf_0 40 rfl) hl (by decide) rfl (fun ls hl => ?_)
    replace hl : lv_has ls 8 [(0, .ref (q 3)), (1, .int b1), (2, .int b2), (3, .int b3), (4, .int v6), (5, .int v8), (6, .int b6)] := lv_sub hl [1, 2, 3, 4, 5, 0, 6] rfl
    refine lv_iload X.x X.b (dk DX3_pointOf_0 41 rfl) (lv_at hl 6 rfl) ?_
    refine lv_iconst (v := 3) X.x X.b (dk DX3_pointOf_0 42 rfl) (by decide) ?_
    refine lv_imul X.x X.b (dk DX3_pointOf_0 43 rfl) ?_
    refine lv_topi (fun v10 e11 => ?_)
    replace hF := bnd_e hF e11
    refine lv_istore (lv' := [(6, .int v10), (0, .ref (q 3)), (1, .int b1), (2, .int b2), (3, .int b3), (4, .int v6), (5, .int v8)]) X.x X.b (dk DX3_pointOf_0 44 rfl) hl (by decide) rfl (fun ls hl => ?_)
    replace hl : lv_has ls 8 [(0, .ref (q 3)), (1, .int b1), (2, .int b2), (3, .int b3), (4, .int v6), (5, .int v8), (6, .int v10)] := lv_sub hl [1, 2, 3, 4, 5, 6, 0] rfl
    refine lv_goto (tgt := 9) X.x X.b (dk DX3_pointOf_0 45 rfl) (by decide) ?_
    exact (lp_l hF hx) _ _ _ hH (lv_sub hl [0, 1, 2, 3, 4, 5, 6] rfl) K0
set_option maxHeartbeats 4000000 in
set_option maxRecDepth 100000 in
theorem c_X3_pointOf {l : Launch} {G : mG} {h : mM} {q : Nat → Nat} (hq : oinj LX3 q) {st : OS} {a0 : Int32} {a1 : Int32} {a2 : Int32} {x : Int32} (hF : f_X3_pointOf st a0 a1 a2 = some x) : cQ l G yX3_pointOf cX3_pointOf 8 (some FieldType.int) rm_X3_pointOf [.ref (q 3), .int a0, .int a1, .int a2] (oset LX3 G q st h) (mQi G (fun r h1 => r = x ∧ h1 = oset LX3 G q st h)) := by
  refine mp_of (by decide +kernel) (Nat.le_of_ble_eq_true rfl) ?_
  intro p e s m below meth c X hr hlk hH hname ls hl
  dsimp only [f_X3_pointOf] at hF
  replace hl : lv_has ls 8 [(0, .ref (q 3)), (1, .int a0), (2, .int a1), (3, .int a2)] := hl
  refine lv_iconst (v := 0) X.x X.b (dk DX3_pointOf_0 0 rfl) (by decide) ?_
  refine lv_istore (lv' := [(4, .int 0), (0, .ref (q 3)), (1, .int a0), (2, .int a1), (3, .int a2)]) X.x X.b (dk DX3_pointOf_0 1 rfl) hl (by decide) rfl (fun ls hl => ?_)
  replace hl : lv_has ls 8 [(0, .ref (q 3)), (1, .int a0), (2, .int a1), (3, .int a2), (4, .int 0)] := lv_sub hl [1, 2, 3, 4, 0] rfl
  refine lv_iconst (v := 0) X.x X.b (dk DX3_pointOf_0 2 rfl) (by decide) ?_
  refine lv_istore (lv' := [(5, .int 0), (0, .ref (q 3)), (1, .int a0), (2, .int a1), (3, .int a2), (4, .int 0)]) X.x X.b (dk DX3_pointOf_0 3 rfl) hl (by decide) rfl (fun ls hl => ?_)
  replace hl : lv_has ls 8 [(0, .ref (q 3)), (1, .int a0), (2, .int a1), (3, .int a2), (4, .int 0), (5, .int 0)] := lv_sub hl [1, 2, 3, 4, 5, 0] rfl
  refine lv_iconst (v := 1) X.x X.b (dk DX3_pointOf_0 4 rfl) (by decide) ?_
  refine lv_istore (lv' := [(6, .int 1), (0, .ref (q 3)), (1, .int a0), (2, .int a1), (3, .int a2), (4, .int 0), (5, .int 0)]) X.x X.b (dk DX3_pointOf_0 5 rfl) hl (by decide) rfl (fun ls hl => ?_)
  replace hl : lv_has ls 8 [(0, .ref (q 3)), (1, .int a0), (2, .int a1), (3, .int a2), (4, .int 0), (5, .int 0), (6, .int 1)] := lv_sub hl [1, 2, 3, 4, 5, 6, 0] rfl
  obtain ⟨x12, e13, hF⟩ := bd hF
  replace hl : lv_has ls 8 [(0, .ref (q 3)), (1, .int a0), (2, .int a1), (3, .int a2), (4, .int 0), (5, .int 0), (6, .int 1)] := lv_sub hl [0, 1, 2, 3, 4, 5, 6] rfl
  obtain ⟨v14, v15⟩ := x12
  try dsimp only at hF
  refine w_X3_pointOf_9 hq X st a0 a1 a2 _ _ e13 _ _ _ hH hl (fun H locs ls hH hl => ?_)
  try dsimp only at hH hl
  refine lv_iload X.x X.b (dk DX3_pointOf_0 46 rfl) (lv_at hl 1 rfl) ?_
  refine lv_if_lt (tgt := 90) X.x X.b (dk DX3_pointOf_0 47 rfl) (by decide) (fun c16 => ?_) (fun c16 => ?_)
  · replace hF := if_t hF c16
    refine lv_iconst (v := (-1)) X.x X.b (dk DX3_pointOf_0 56 rfl) (by decide) ?_
    refine lv_istore (lv' := [(6, .int ((-1))), (0, .ref (q 3)), (4, .int v14), (5, .int v15)]) X.x X.b (dk DX3_pointOf_0 57 rfl) hl (by decide) rfl (fun ls hl => ?_)
    replace hl : lv_has ls 8 [(0, .ref (q 3)), (5, .int v15), (6, .int ((-1)))] := lv_sub hl [1, 3, 0] rfl
    refine lv_iload X.x X.b (dk DX3_pointOf_0 58 rfl) (lv_at hl 2 rfl) ?_
    refine lv_iconst (v := (-1)) X.x X.b (dk DX3_pointOf_0 59 rfl) (by decide) ?_
    refine lv_icmp_ne (tgt := 120) X.x X.b (dk DX3_pointOf_1 0 rfl) (by decide) (fun c17 => ?_) (fun c17 => ?_)
    · replace hF := if_f hF c17
      refine lv_iload X.x X.b (dk DX3_pointOf_1 11 rfl) (lv_at hl 2 rfl) ?_
      cases sm hF
      exact mr_iret X hr hlk hH ⟨rfl, rfl⟩ (dk DX3_pointOf_1 12 rfl)
    · replace hF := if_t hF c17
      refine lv_iload X.x X.b (dk DX3_pointOf_1 1 rfl) (lv_at hl 1 rfl) ?_
      refine lv_if_lt (tgt := 120) X.x X.b (dk DX3_pointOf_1 2 rfl) (by decide) (fun c18 => ?_) (fun c18 => ?_)
      · replace hF := if_t hF c18
        refine lv_iload X.x X.b (dk DX3_pointOf_1 11 rfl) (lv_at hl 2 rfl) ?_
        cases sm hF
        exact mr_iret X hr hlk hH ⟨rfl, rfl⟩ (dk DX3_pointOf_1 12 rfl)
      · replace hF := if_f hF c18
        refine lv_iload X.x X.b (dk DX3_pointOf_1 3 rfl) (lv_at hl 1 rfl) ?_
        refine lv_bipush (v := 81) X.x X.b (dk DX3_pointOf_1 4 rfl) (by decide) ?_
        refine lv_icmp_ge (tgt := 120) X.x X.b (dk DX3_pointOf_1 5 rfl) (by decide) (fun c19 => ?_) (fun c19 => ?_)
        · replace hF := if_t hF c19
          refine lv_iload X.x X.b (dk DX3_pointOf_1 11 rfl) (lv_at hl 2 rfl) ?_
          cases sm hF
          exact mr_iret X hr hlk hH ⟨rfl, rfl⟩ (dk DX3_pointOf_1 12 rfl)
        · replace hF := if_f hF c19
          refine lv_aload_n X.x X.b (dk DX3_pointOf_1 6 rfl) rfl (lv_at hl 0 rfl) ?_
          refine og_getR (t := 0) OX3 X hq hH 2 (by decide) rfl kF_X3_18 (dk DX3_pointOf_1 7 rfl) ?_
          refine lv_iload X.x X.b (dk DX3_pointOf_1 8 rfl) (lv_at hl 1 rfl) ?_
          obtain ⟨c20, hF⟩ := gd hF
          refine og_iald X hq hH 2 (by decide) rfl (inb_in c20) (dk DX3_pointOf_1 9 rfl) ?_
          refine lv_topi (fun v21 e22 => ?_)
          replace hF := bnd_e hF e22
          refine lv_istore (lv' := [(6, .int v21), (0, .ref (q 3)), (5, .int v15)]) X.x X.b (dk DX3_pointOf_1 10 rfl) hl (by decide) rfl (fun ls hl => ?_)
          replace hl : lv_has ls 8 [(6, .int v21)] := lv_sub hl [0] rfl
          refine lv_iload X.x X.b (dk DX3_pointOf_1 11 rfl) (lv_at hl 0 rfl) ?_
          cases sm hF
          exact mr_iret X hr hlk hH ⟨rfl, rfl⟩ (dk DX3_pointOf_1 12 rfl)
  · replace hF := if_f hF c16
    refine lv_iload X.x X.b (dk DX3_pointOf_0 48 rfl) (lv_at hl 1 rfl) ?_
    refine lv_bipush (v := 81) X.x X.b (dk DX3_pointOf_0 49 rfl) (by decide) ?_
    refine lv_icmp_ge (tgt := 90) X.x X.b (dk DX3_pointOf_0 50 rfl) (by decide) (fun c23 => ?_) (fun c23 => ?_)
    · replace hF := if_t hF c23
      refine lv_iconst (v := (-1)) X.x X.b (dk DX3_pointOf_0 56 rfl) (by decide) ?_
      refine lv_istore (lv' := [(6, .int ((-1))), (0, .ref (q 3)), (4, .int v14), (5, .int v15)]) X.x X.b (dk DX3_pointOf_0 57 rfl) hl (by decide) rfl (fun ls hl => ?_)
      replace hl : lv_has ls 8 [(0, .ref (q 3)), (5, .int v15), (6, .int ((-1)))] := lv_sub hl [1, 3, 0] rfl
      refine lv_iload X.x X.b (dk DX3_pointOf_0 58 rfl) (lv_at hl 2 rfl) ?_
      refine lv_iconst (v := (-1)) X.x X.b (dk DX3_pointOf_0 59 rfl) (by decide) ?_
      refine lv_icmp_ne (tgt := 120) X.x X.b (dk DX3_pointOf_1 0 rfl) (by decide) (fun c24 => ?_) (fun c24 => ?_)
      · replace hF := if_f hF c24
        refine lv_iload X.x X.b (dk DX3_pointOf_1 11 rfl) (lv_at hl 2 rfl) ?_
        cases sm hF
        exact mr_iret X hr hlk hH ⟨rfl, rfl⟩ (dk DX3_pointOf_1 12 rfl)
      · replace hF := if_t hF c24
        refine lv_iload X.x X.b (dk DX3_pointOf_1 1 rfl) (lv_at hl 1 rfl) ?_
        refine lv_if_lt (tgt := 120) X.x X.b (dk DX3_pointOf_1 2 rfl) (by decide) (fun c25 => ?_) (fun c25 => ?_)
        · replace hF := if_t hF c25
          refine lv_iload X.x X.b (dk DX3_pointOf_1 11 rfl) (lv_at hl 2 rfl) ?_
          cases sm hF
          exact mr_iret X hr hlk hH ⟨rfl, rfl⟩ (dk DX3_pointOf_1 12 rfl)
        · replace hF := if_f hF c25
          refine lv_iload X.x X.b (dk DX3_pointOf_1 3 rfl) (lv_at hl 1 rfl) ?_
          refine lv_bipush (v := 81) X.x X.b (dk DX3_pointOf_1 4 rfl) (by decide) ?_
          refine lv_icmp_ge (tgt := 120) X.x X.b (dk DX3_pointOf_1 5 rfl) (by decide) (fun c26 => ?_) (fun c26 => ?_)
          · replace hF := if_t hF c26
            refine lv_iload X.x X.b (dk DX3_pointOf_1 11 rfl) (lv_at hl 2 rfl) ?_
            cases sm hF
            exact mr_iret X hr hlk hH ⟨rfl, rfl⟩ (dk DX3_pointOf_1 12 rfl)
          · replace hF := if_f hF c26
            refine lv_aload_n X.x X.b (dk DX3_pointOf_1 6 rfl) rfl (lv_at hl 0 rfl) ?_
            refine og_getR (t := 0) OX3 X hq hH 2 (by decide) rfl kF_X3_18 (dk DX3_pointOf_1 7 rfl) ?_
            refine lv_iload X.x X.b (dk DX3_pointOf_1 8 rfl) (lv_at hl 1 rfl) ?_
            obtain ⟨c27, hF⟩ := gd hF
            refine og_iald X hq hH 2 (by decide) rfl (inb_in c27) (dk DX3_pointOf_1 9 rfl) ?_
            refine lv_topi (fun v28 e29 => ?_)
            replace hF := bnd_e hF e29
            refine lv_istore (lv' := [(6, .int v28), (0, .ref (q 3)), (5, .int v15)]) X.x X.b (dk DX3_pointOf_1 10 rfl) hl (by decide) rfl (fun ls hl => ?_)
            replace hl : lv_has ls 8 [(6, .int v28)] := lv_sub hl [0] rfl
            refine lv_iload X.x X.b (dk DX3_pointOf_1 11 rfl) (lv_at hl 0 rfl) ?_
            cases sm hF
            exact mr_iret X hr hlk hH ⟨rfl, rfl⟩ (dk DX3_pointOf_1 12 rfl)
    · replace hF := if_f hF c23
      refine lv_aload_n X.x X.b (dk DX3_pointOf_0 51 rfl) rfl (lv_at hl 0 rfl) ?_
      refine og_getR (t := 0) OX3 X hq hH 2 (by decide) rfl kF_X3_18 (dk DX3_pointOf_0 52 rfl) ?_
      refine lv_iload X.x X.b (dk DX3_pointOf_0 53 rfl) (lv_at hl 1 rfl) ?_
      obtain ⟨c30, hF⟩ := gd hF
      refine og_iald X hq hH 2 (by decide) rfl (inb_in c30) (dk DX3_pointOf_0 54 rfl) ?_
      refine lv_goto (tgt := 91) X.x X.b (dk DX3_pointOf_0 55 rfl) (by decide) ?_
      refine lv_topi (fun v31 e32 => ?_)
      replace hF := bnd_e hF e32
      refine lv_istore (lv' := [(6, .int v31), (0, .ref (q 3)), (4, .int v14), (5, .int v15)]) X.x X.b (dk DX3_pointOf_0 57 rfl) hl (by decide) rfl (fun ls hl => ?_)
      replace hl : lv_has ls 8 [(0, .ref (q 3)), (5, .int v15), (6, .int v31)] := lv_sub hl [1, 3, 0] rfl
      refine lv_iload X.x X.b (dk DX3_pointOf_0 58 rfl) (lv_at hl 2 rfl) ?_
      refine lv_iconst (v := (-1)) X.x X.b (dk DX3_pointOf_0 59 rfl) (by decide) ?_
      refine lv_icmp_ne (tgt := 120) X.x X.b (dk DX3_pointOf_1 0 rfl) (by decide) (fun c33 => ?_) (fun c33 => ?_)
      · replace hF := if_f hF c33
        refine lv_iload X.x X.b (dk DX3_pointOf_1 11 rfl) (lv_at hl 2 rfl) ?_
        cases sm hF
        exact mr_iret X hr hlk hH ⟨rfl, rfl⟩ (dk DX3_pointOf_1 12 rfl)
      · replace hF := if_t hF c33
        refine lv_iload X.x X.b (dk DX3_pointOf_1 1 rfl) (lv_at hl 1 rfl) ?_
        refine lv_if_lt (tgt := 120) X.x X.b (dk DX3_pointOf_1 2 rfl) (by decide) (fun c34 => ?_) (fun c34 => ?_)
        · replace hF := if_t hF c34
          refine lv_iload X.x X.b (dk DX3_pointOf_1 11 rfl) (lv_at hl 2 rfl) ?_
          cases sm hF
          exact mr_iret X hr hlk hH ⟨rfl, rfl⟩ (dk DX3_pointOf_1 12 rfl)
        · replace hF := if_f hF c34
          refine lv_iload X.x X.b (dk DX3_pointOf_1 3 rfl) (lv_at hl 1 rfl) ?_
          refine lv_bipush (v := 81) X.x X.b (dk DX3_pointOf_1 4 rfl) (by decide) ?_
          refine lv_icmp_ge (tgt := 120) X.x X.b (dk DX3_pointOf_1 5 rfl) (by decide) (fun c35 => ?_) (fun c35 => ?_)
          · replace hF := if_t hF c35
            refine lv_iload X.x X.b (dk DX3_pointOf_1 11 rfl) (lv_at hl 2 rfl) ?_
            cases sm hF
            exact mr_iret X hr hlk hH ⟨rfl, rfl⟩ (dk DX3_pointOf_1 12 rfl)
          · replace hF := if_f hF c35
            refine lv_aload_n X.x X.b (dk DX3_pointOf_1 6 rfl) rfl (lv_at hl 0 rfl) ?_
            refine og_getR (t := 0) OX3 X hq hH 2 (by decide) rfl kF_X3_18 (dk DX3_pointOf_1 7 rfl) ?_
            refine lv_iload X.x X.b (dk DX3_pointOf_1 8 rfl) (lv_at hl 1 rfl) ?_
            obtain ⟨c36, hF⟩ := gd hF
            refine og_iald X hq hH 2 (by decide) rfl (inb_in c36) (dk DX3_pointOf_1 9 rfl) ?_
            refine lv_topi (fun v37 e38 => ?_)
            replace hF := bnd_e hF e38
            refine lv_istore (lv' := [(6, .int v37), (0, .ref (q 3)), (5, .int v15)]) X.x X.b (dk DX3_pointOf_1 10 rfl) hl (by decide) rfl (fun ls hl => ?_)
            replace hl : lv_has ls 8 [(6, .int v37)] := lv_sub hl [0] rfl
            refine lv_iload X.x X.b (dk DX3_pointOf_1 11 rfl) (lv_at hl 0 rfl) ?_
            cases sm hF
            exact mr_iret X hr hlk hH ⟨rfl, rfl⟩ (dk DX3_pointOf_1 12 rfl)
-- X3_makeThrees
abbrev rm_X3_makeThrees : Room := { frames := 2, cells := 0, slots := 0, locals := 42 }
theorem hd_X3_makeThrees : mHd yX3_makeThrees 1 := ⟨by decide +kernel, by decide +kernel, by decide +kernel⟩
theorem DX3_makeThrees_0 : ∀ t ∈ ([(0, .aload_n 1, 1), (1, .bipush 40, 2), (3, .invokevirtual 21, 3), (6, .iconst 0, 1), (7, .istore_n 2, 1), (8, .iload_n 2, 1), (9, .bipush 40, 2), (11, .if_icmp .ge 114, 3), (14, .iload_n 2, 1), (15, .iconst 1, 1), (16, .iadd, 1), (17, .istore_n 3, 1), (18, .iload_n 3, 1), (19, .bipush 40, 2), (21, .if_icmp .ge 98, 3), (24, .aload_n 0, 1), (25, .getfield 15, 3), (28, .iload_n 2, 1), (29, .iaload, 1), (30, .aload_n 0, 1), (31, .getfield 15, 3), (34, .iload_n 3, 1), (35, .iaload, 1), (36, .invokestatic 43, 3), (39, .ifCond .eq 74, 3), (42, .aload_n 0, 1), (43, .aload_n 0, 1), (44, .getfield 15, 3), (47, .iload_n 2, 1), (48, .iaload, 1), (49, .aload_n 0, 1), (50, .getfield 15, 3), (53, .iload_n 3, 1), (54, .iaload, 1), (55, .iconst 1, 1), (56, .invokevirtual 47, 3), (59, .istore 4, 2), (61, .aload_n 0, 1), (62, .aload_n 0, 1), (63, .getfield 15, 3), (66, .iload_n 2, 1), (67, .iaload, 1), (68, .aload_n 0, 1), (69, .getfield 15, 3), (72, .iload_n 3, 1), (73, .iaload, 1), (74, .iconst 2, 1), (75, .invokevirtual 47, 3), (78, .istore 5, 2), (80, .iload 4, 2), (82, .iload_n 3, 1), (83, .if_icmp .le 30, 3), (86, .iload 5, 2), (88, .iload_n 3, 1), (89, .if_icmp .le 24, 3), (92, .aload_n 1, 1), (93, .lconst 1, 1), (94, .iload_n 2, 1), (95, .lshl, 1), (96, .lconst 1, 1)] : List (Nat × Instr × Nat)), decode cX3_makeThrees t.1 = .ok (t.2.1, t.2.2) := by decide +kernel
theorem DX3_makeThrees_1 : ∀ t ∈ ([(97, .iload_n 3, 1), (98, .lshl, 1), (99, .lor, 1), (100, .lconst 1, 1), (101, .iload 4, 2), (103, .lshl, 1), (104, .lor, 1), (105, .lconst 1, 1), (106, .iload 5, 2), (108, .lshl, 1), (109, .lor, 1), (110, .invokevirtual 31, 3), (113, .iinc 3 1, 3), (116, .goto (-98), 3), (119, .iinc 2 1, 3), (122, .goto (-114), 3), (125, .return_, 1)] : List (Nat × Instr × Nat)), decode cX3_makeThrees t.1 = .ok (t.2.1, t.2.2) := by decide +kernel
noncomputable def f_X3_makeThrees_18 (s_t : OS) (b2 : Int32) : (OS × Int32) → Option ((OS × Int32) ⊕ (OS)) := fun z => match z with | (s_o1, b3) => (if 40 ≤ b3 then some (.inr s_o1) else if inb b2 40 = true then if inb b3 40 = true then (f_X3_areJoined (s_t.2.2.1 1 (b2 : Int32).toNatClampNeg) (s_t.2.2.1 1 (b3 : Int32).toNatClampNeg)).bind (fun x10 => (if x10 = 0 then bnd (b3 + 1 : Int32) (fun v14 => some (.inl ((s_o1, v14)))) else (f_X3_pointOf s_t (s_t.2.2.1 1 (b2 : Int32).toNatClampNeg) (s_t.2.2.1 1 (b3 : Int32).toNatClampNeg) 1).bind (fun x16 => (f_X3_pointOf s_t (s_t.2.2.1 1 (b2 : Int32).toNatClampNeg) (s_t.2.2.1 1 (b3 : Int32).toNatClampNeg) 2).bind (fun x19 => (if x16 ≤ b3 then bnd (b3 + 1 : Int32) (fun v23 => some (.inl ((s_o1, v23)))) else (if x19 ≤ b3 then bnd (b3 + 1 : Int32) (fun v26 => some (.inl ((s_o1, v26)))) else (f_X10_append s_o1 ((((((1 : Int64)) <<< ((b2 : Int32).toInt64 &&& 63)) ||| (((1 : Int64)) <<< ((b3 : Int32).toInt64 &&& 63))) ||| (((1 : Int64)) <<< ((x16 : Int32).toInt64 &&& 63))) ||| (((1 : Int64)) <<< ((x19 : Int32).toInt64 &&& 63)))).bind (fun x28 => bnd (b3 + 1 : Int32) (fun v31 => some (.inl ((x28, v31))))))))))) else none else none)
noncomputable def f_X3_makeThrees_8 (s_t : OS) : (OS × Int32) → Option ((OS × Int32) ⊕ (OS)) := fun z => match z with | (s_o1, b2) => (if 40 ≤ b2 then some (.inr s_o1) else bnd (b2 + 1 : Int32) (fun v5 => (lpv (f_X3_makeThrees_18 s_t b2) ((s_o1, v5))).bind (fun x33 => bnd (b2 + 1 : Int32) (fun v36 => some (.inl ((x33, v36)))))))
noncomputable def f_X3_makeThrees (st : OS) (st1 : OS) : Option (OS) := (f_X10_clear st1 40).bind (fun x1 => (lpv (f_X3_makeThrees_8 st) ((x1, 0))).bind (fun x38 => some x38))
set_option maxHeartbeats 4000000 in
set_option maxRecDepth 100000 in
theorem w_X3_makeThrees_18 {p : Program} {l : Launch} {e : Env} {s : State} {m : MethodId} {args : Array Value} {below : List Frame} {meth : Method} {c : Code} {Q : State → Prop} {G : mG} {h : mM} {q : Nat → Nat} {q1 : Nat → Nat} (hq : oinj LX3 q) (hq1 : oinj LX10 q1) (ha : oap [(LX3, q), (LX10, q1)]) (X : mX G p m c cX3_makeThrees 6 s args RX3) (s_t : OS) (b2 : Int32) : ∀ (z : OS × Int32) (r : OS), lpv (f_X3_makeThrees_18 s_t b2) z = some r → ∀ (H : Heap) (locs : List Loc) (ls : Array Slot), mH G (oset LX3 G q s_t (oset LX10 G q1 z.1 h)) s.heap H locs → lv_has ls 6 [(0, .ref (q 3)), (1, .ref (q1 5)), (2, .int b2), (3, .int z.2)] → (∀ (H : Heap) (locs : List Loc) (ls : Array Slot), mH G (oset LX3 G q s_t (oset LX10 G q1 r h)) s.heap H locs → lv_has ls 6 [(0, .ref (q 3)), (1, .ref (q1 5)), (2, .int b2)] → W p l e rm_X3_makeThrees s m args below meth c H locs 0 0 Q (F0 m 119 ls [])) → W p l e rm_X3_makeThrees s m args below meth c H locs 0 0 Q (F0 m 18 ls []) := by
  refine lpv_rec ?_
  intro z r x hF hx H locs ls hH hl K0
  obtain ⟨s_o1, b3⟩ := z
  dsimp only [f_X3_makeThrees_18] at hF
  try dsimp only at hH hl
  refine lv_iload_n X.x X.b (dk DX3_makeThrees_0 12 rfl) rfl (lv_at hl 3 rfl) ?_
  refine lv_bipush (v := 40) X.x X.b (dk DX3_makeThrees_0 13 rfl) (by decide) ?_
  refine lv_icmp_ge (tgt := 119) X.x X.b (dk DX3_makeThrees_0 14 rfl) (by decide) (fun c7 => ?_) (fun c7 => ?_)
  · replace hF := if_t hF c7
    have hr9 := lp_r hF hx
    subst hr9
    exact K0 _ _ _ hH (lv_sub hl [0, 1, 2] rfl)
  · replace hF := if_f hF c7
    refine lv_aload_n X.x X.b (dk DX3_makeThrees_0 15 rfl) rfl (lv_at hl 0 rfl) ?_
    refine og_getR (t := 0) OX3 X hq hH 1 (by decide) rfl kF_X3_15 (dk DX3_makeThrees_0 16 rfl) ?_
    refine lv_iload_n X.x X.b (dk DX3_makeThrees_0 17 rfl) rfl (lv_at hl 2 rfl) ?_
    obtain ⟨c8, hF⟩ := gd hF
    refine og_iald X hq hH 1 (by decide) rfl (inb_in c8) (dk DX3_makeThrees_0 18 rfl) ?_
    refine lv_aload_n X.x X.b (dk DX3_makeThrees_0 19 rfl) rfl (lv_at hl 0 rfl) ?_
    refine og_getR (t := 0) OX3 X hq hH 1 (by decide) rfl kF_X3_15 (dk DX3_makeThrees_0 20 rfl) ?_
    refine lv_iload_n X.x X.b (dk DX3_makeThrees_0 21 rfl) rfl (lv_at hl 3 rfl) ?_
    obtain ⟨c9, hF⟩ := gd hF
    refine og_iald X hq hH 1 (by decide) rfl (inb_in c9) (dk DX3_makeThrees_0 22 rfl) ?_
    obtain ⟨x10, e11, hF⟩ := bd hF
    refine mr_ci0 hH ⟨rfl, rfl⟩ (mr_runS (As := [.int (s_t.2.2.1 1 (b2 : Int32).toNatClampNeg), .int (s_t.2.2.1 1 (b3 : Int32).toNatClampNeg)]) (rest := []) X hH (c_X3_areJoined e11) kM_X3_43 kT_X3_areJoined kN_X3 kC_X3_areJoined hd_X3_areJoined ⟨Nat.le_of_ble_eq_true rfl, Nat.le_of_ble_eq_true rfl⟩ rfl hl.1 (Nat.le_of_ble_eq_true rfl) (dk DX3_makeThrees_0 23 rfl) ⟨Nat.zero_le _, Nat.zero_le _⟩) (fun r h1 H locs hp hH => ?_)
    obtain ⟨hr1, hr2⟩ := hp; rw [hr1]; rw [hr2] at hH; clear hr1 hr2
    refine lv_if_eq (tgt := 113) X.x X.b (dk DX3_makeThrees_0 24 rfl) (by decide) (fun c13 => ?_) (fun c13 => ?_)
    · replace hF := if_t hF c13
      obtain ⟨v14, e15⟩ : ∃ y : Int32, y = b3 + 1 := ⟨_, rfl⟩
      replace hF := bnd_e hF e15
      refine lv_iinc (v := v14) (lv' := [(3, .int v14), (0, .ref (q 3)), (1, .ref (q1 5)), (2, .int b2)]) X.x X.b (dk DX3_makeThrees_1 12 rfl) hl (k := 3) rfl (by rw [e15]; rfl) (by decide) rfl (fun ls hl => ?_)
      replace hl : lv_has ls 6 [(0, .ref (q 3)), (1, .ref (q1 5)), (2, .int b2), (3, .int v14)] := lv_sub hl [1, 2, 3, 0] rfl
      refine lv_goto (tgt := 18) X.x X.b (dk DX3_makeThrees_1 13 rfl) (by decide) ?_
      exact (lp_l hF hx) _ _ _ hH (lv_sub hl [0, 1, 2, 3] rfl) K0
    · replace hF := if_f hF c13
      refine lv_aload_n X.x X.b (dk DX3_makeThrees_0 25 rfl) rfl (lv_at hl 0 rfl) ?_
      refine lv_aload_n X.x X.b (dk DX3_makeThrees_0 26 rfl) rfl (lv_at hl 0 rfl) ?_
      refine og_getR (t := 0) OX3 X hq hH 1 (by decide) rfl kF_X3_15 (dk DX3_makeThrees_0 27 rfl) ?_
      refine lv_iload_n X.x X.b (dk DX3_makeThrees_0 28 rfl) rfl (lv_at hl 2 rfl) ?_
      refine og_iald X hq hH 1 (by decide) rfl (inb_in c8) (dk DX3_makeThrees_0 29 rfl) ?_
      refine lv_aload_n X.x X.b (dk DX3_makeThrees_0 30 rfl) rfl (lv_at hl 0 rfl) ?_
      refine og_getR (t := 0) OX3 X hq hH 1 (by decide) rfl kF_X3_15 (dk DX3_makeThrees_0 31 rfl) ?_
      refine lv_iload_n X.x X.b (dk DX3_makeThrees_0 32 rfl) rfl (lv_at hl 3 rfl) ?_
      refine og_iald X hq hH 1 (by decide) rfl (inb_in c9) (dk DX3_makeThrees_0 33 rfl) ?_
      refine lv_iconst (v := 1) X.x X.b (dk DX3_makeThrees_0 34 rfl) (by decide) ?_
      obtain ⟨x16, e17, hF⟩ := bd hF
      refine mr_ci0 hH ⟨rfl, rfl⟩ (mr_runV (As := [.int (s_t.2.2.1 1 (b2 : Int32).toNatClampNeg), .int (s_t.2.2.1 1 (b3 : Int32).toNatClampNeg), .int 1]) (rest := []) X hH (c_X3_pointOf hq e17) ((oset_at hq (Nat.le_refl _) ohas_N).trans (congrArg some ocell_N)) OX3.1 kM_X3_47 kI_X3_pointOf kS_X3_pointOf kN_X3 kC_X3_pointOf hd_X3_pointOf ⟨Nat.le_of_ble_eq_true rfl, Nat.le_of_ble_eq_true rfl⟩ rfl hl.1 (Nat.le_of_ble_eq_true rfl) (dk DX3_makeThrees_0 35 rfl) ⟨Nat.zero_le _, Nat.zero_le _⟩) (fun r h1 H locs hp hH => ?_)
      obtain ⟨hr1, hr2⟩ := hp; rw [hr1]; rw [hr2] at hH; clear hr1 hr2
      refine lv_istore (lv' := [(4, .int x16), (0, .ref (q 3)), (1, .ref (q1 5)), (2, .int b2), (3, .int b3)]) X.x X.b (dk DX3_makeThrees_0 36 rfl) hl (by decide) rfl (fun ls hl => ?_)
      replace hl : lv_has ls 6 [(0, .ref (q 3)), (1, .ref (q1 5)), (2, .int b2), (3, .int b3), (4, .int x16)] := lv_sub hl [1, 2, 3, 4, 0] rfl
      refine lv_aload_n X.x X.b (dk DX3_makeThrees_0 37 rfl) rfl (lv_at hl 0 rfl) ?_
      refine lv_aload_n X.x X.b (dk DX3_makeThrees_0 38 rfl) rfl (lv_at hl 0 rfl) ?_
      refine og_getR (t := 0) OX3 X hq hH 1 (by decide) rfl kF_X3_15 (dk DX3_makeThrees_0 39 rfl) ?_
      refine lv_iload_n X.x X.b (dk DX3_makeThrees_0 40 rfl) rfl (lv_at hl 2 rfl) ?_
      refine og_iald X hq hH 1 (by decide) rfl (inb_in c8) (dk DX3_makeThrees_0 41 rfl) ?_
      refine lv_aload_n X.x X.b (dk DX3_makeThrees_0 42 rfl) rfl (lv_at hl 0 rfl) ?_
      refine og_getR (t := 0) OX3 X hq hH 1 (by decide) rfl kF_X3_15 (dk DX3_makeThrees_0 43 rfl) ?_
      refine lv_iload_n X.x X.b (dk DX3_makeThrees_0 44 rfl) rfl (lv_at hl 3 rfl) ?_
      refine og_iald X hq hH 1 (by decide) rfl (inb_in c9) (dk DX3_makeThrees_0 45 rfl) ?_
      refine lv_iconst (v := 2) X.x X.b (dk DX3_makeThrees_0 46 rfl) (by decide) ?_
      obtain ⟨x19, e20, hF⟩ := bd hF
      refine mr_ci0 hH ⟨rfl, rfl⟩ (mr_runV (As := [.int (s_t.2.2.1 1 (b2 : Int32).toNatClampNeg), .int (s_t.2.2.1 1 (b3 : Int32).toNatClampNeg), .int 2]) (rest := []) X hH (c_X3_pointOf hq e20) ((oset_at hq (Nat.le_refl _) ohas_N).trans (congrArg some ocell_N)) OX3.1 kM_X3_47 kI_X3_pointOf kS_X3_pointOf kN_X3 kC_X3_pointOf hd_X3_pointOf ⟨Nat.le_of_ble_eq_true rfl, Nat.le_of_ble_eq_true rfl⟩ rfl hl.1 (Nat.le_of_ble_eq_true rfl) (dk DX3_makeThrees_0 47 rfl) ⟨Nat.zero_le _, Nat.zero_le _⟩) (fun r h1 H locs hp hH => ?_)
      obtain ⟨hr1, hr2⟩ := hp; rw [hr1]; rw [hr2] at hH; clear hr1 hr2
      refine lv_istore (lv' := [(5, .int x19), (0, .ref (q 3)), (1, .ref (q1 5)), (2, .int b2), (3, .int b3), (4, .int x16)]) X.x X.b (dk DX3_makeThrees_0 48 rfl) hl (by decide) rfl (fun ls hl => ?_)
      replace hl : lv_has ls 6 [(0, .ref (q 3)), (1, .ref (q1 5)), (2, .int b2), (3, .int b3), (4, .int x16), (5, .int x19)] := lv_sub hl [1, 2, 3, 4, 5, 0] rfl
      refine lv_iload X.x X.b (dk DX3_makeThrees_0 49 rfl) (lv_at hl 4 rfl) ?_
      refine lv_iload_n X.x X.b (dk DX3_makeThrees_0 50 rfl) rfl (lv_at hl 3 rfl) ?_
      refine lv_icmp_le (tgt := 113) X.x X.b (dk DX3_makeThrees_0 51 rfl) (by decide) (fun c22 => ?_) (fun c22 => ?_)
      · replace hF := if_t hF c22
        obtain ⟨v23, e24⟩ : ∃ y : Int32, y = b3 + 1 := ⟨_, rfl⟩
        replace hF := bnd_e hF e24
        refine lv_iinc (v := v23) (lv' := [(3, .int v23), (0, .ref (q 3)), (1, .ref (q1 5)), (2, .int b2), (4, .int x16), (5, .int x19)]) X.x X.b (dk DX3_makeThrees_1 12 rfl) hl (k := 3) rfl (by rw [e24]; rfl) (by decide) rfl (fun ls hl => ?_)
        replace hl : lv_has ls 6 [(0, .ref (q 3)), (1, .ref (q1 5)), (2, .int b2), (3, .int v23)] := lv_sub hl [1, 2, 3, 0] rfl
        refine lv_goto (tgt := 18) X.x X.b (dk DX3_makeThrees_1 13 rfl) (by decide) ?_
        exact (lp_l hF hx) _ _ _ hH (lv_sub hl [0, 1, 2, 3] rfl) K0
      · replace hF := if_f hF c22
        refine lv_iload X.x X.b (dk DX3_makeThrees_0 52 rfl) (lv_at hl 5 rfl) ?_
        refine lv_iload_n X.x X.b (dk DX3_makeThrees_0 53 rfl) rfl (lv_at hl 3 rfl) ?_
        refine lv_icmp_le (tgt := 113) X.x X.b (dk DX3_makeThrees_0 54 rfl) (by decide) (fun c25 => ?_) (fun c25 => ?_)
        · replace hF := if_t hF c25
          obtain ⟨v26, e27⟩ : ∃ y : Int32, y = b3 + 1 := ⟨_, rfl⟩
          replace hF := bnd_e hF e27
          refine lv_iinc (v := v26) (lv' := [(3, .int v26), (0, .ref (q 3)), (1, .ref (q1 5)), (2, .int b2), (4, .int x16), (5, .int x19)]) X.x X.b (dk DX3_makeThrees_1 12 rfl) hl (k := 3) rfl (by rw [e27]; rfl) (by decide) rfl (fun ls hl => ?_)
          replace hl : lv_has ls 6 [(0, .ref (q 3)), (1, .ref (q1 5)), (2, .int b2), (3, .int v26)] := lv_sub hl [1, 2, 3, 0] rfl
          refine lv_goto (tgt := 18) X.x X.b (dk DX3_makeThrees_1 13 rfl) (by decide) ?_
          exact (lp_l hF hx) _ _ _ hH (lv_sub hl [0, 1, 2, 3] rfl) K0
        · replace hF := if_f hF c25
          refine lv_aload_n X.x X.b (dk DX3_makeThrees_0 55 rfl) rfl (lv_at hl 1 rfl) ?_
          refine lv_lconst (v := 1) X.x X.b (dk DX3_makeThrees_0 56 rfl) (by decide) ?_
          refine lv_iload_n X.x X.b (dk DX3_makeThrees_0 57 rfl) rfl (lv_at hl 2 rfl) ?_
          refine lv_lshl X.x X.b (dk DX3_makeThrees_0 58 rfl) rfl ?_
          refine lv_lconst (v := 1) X.x X.b (dk DX3_makeThrees_0 59 rfl) (by decide) ?_
          refine lv_iload_n X.x X.b (dk DX3_makeThrees_1 0 rfl) rfl (lv_at hl 3 rfl) ?_
          refine lv_lshl X.x X.b (dk DX3_makeThrees_1 1 rfl) rfl ?_
          refine lv_lor X.x X.b (dk DX3_makeThrees_1 2 rfl) ?_
          refine lv_lconst (v := 1) X.x X.b (dk DX3_makeThrees_1 3 rfl) (by decide) ?_
          refine lv_iload X.x X.b (dk DX3_makeThrees_1 4 rfl) (lv_at hl 4 rfl) ?_
          refine lv_lshl X.x X.b (dk DX3_makeThrees_1 5 rfl) rfl ?_
          refine lv_lor X.x X.b (dk DX3_makeThrees_1 6 rfl) ?_
          refine lv_lconst (v := 1) X.x X.b (dk DX3_makeThrees_1 7 rfl) (by decide) ?_
          refine lv_iload X.x X.b (dk DX3_makeThrees_1 8 rfl) (lv_at hl 5 rfl) ?_
          refine lv_lshl X.x X.b (dk DX3_makeThrees_1 9 rfl) rfl ?_
          refine lv_lor X.x X.b (dk DX3_makeThrees_1 10 rfl) ?_
          obtain ⟨x28, e29, hF⟩ := bd hF
          refine mr_cv0 (mH_perm (l1 := [(LX3, q, s_t), (LX10, q1, s_o1)]) (l2 := [(LX10, q1, s_o1), (LX3, q, s_t)]) ha [1, 0] [1, 0] rfl rfl rfl hH) ⟨rfl, rfl⟩ (mr_runV (As := [.long ((((((1 : Int64)) <<< ((b2 : Int32).toInt64 &&& 63)) ||| (((1 : Int64)) <<< ((b3 : Int32).toInt64 &&& 63))) ||| (((1 : Int64)) <<< ((x16 : Int32).toInt64 &&& 63))) ||| (((1 : Int64)) <<< ((x19 : Int32).toInt64 &&& 63)))]) (rest := []) X (mH_perm (l1 := [(LX3, q, s_t), (LX10, q1, s_o1)]) (l2 := [(LX10, q1, s_o1), (LX3, q, s_t)]) ha [1, 0] [1, 0] rfl rfl rfl hH) (c_X10_append hq1 e29) ((oset_at hq1 (Nat.le_refl _) ohas_N).trans (congrArg some ocell_N)) OX10.1 kM_X3_31 kI_X10_append kS_X10_append kN_X10 kC_X10_append hd_X10_append ⟨Nat.le_of_ble_eq_true rfl, Nat.le_of_ble_eq_true rfl⟩ rfl hl.1 (Nat.le_of_ble_eq_true rfl) (dk DX3_makeThrees_1 11 rfl) ⟨Nat.zero_le _, Nat.zero_le _⟩) (fun h1 H locs hp hH => ?_)
          rw [hp] at hH; clear hp
          replace hH : mH G (oset LX3 G q s_t (oset LX10 G q1 x28 h)) s.heap H locs := mH_unperm (l1 := [(LX3, q, s_t), (LX10, q1, x28)]) (l2 := [(LX10, q1, x28), (LX3, q, s_t)]) ha [1, 0] [1, 0] rfl rfl rfl hH
          obtain ⟨v31, e32⟩ : ∃ y : Int32, y = b3 + 1 := ⟨_, rfl⟩
          replace hF := bnd_e hF e32
          refine lv_iinc (v := v31) (lv' := [(3, .int v31), (0, .ref (q 3)), (1, .ref (q1 5)), (2, .int b2), (4, .int x16), (5, .int x19)]) X.x X.b (dk DX3_makeThrees_1 12 rfl) hl (k := 3) rfl (by rw [e32]; rfl) (by decide) rfl (fun ls hl => ?_)
          replace hl : lv_has ls 6 [(0, .ref (q 3)), (1, .ref (q1 5)), (2, .int b2), (3, .int v31)] := lv_sub hl [1, 2, 3, 0] rfl
          refine lv_goto (tgt := 18) X.x X.b (dk DX3_makeThrees_1 13 rfl) (by decide) ?_
          exact (lp_l hF hx) _ _ _ hH (lv_sub hl [0, 1, 2, 3] rfl) K0
set_option maxHeartbeats 4000000 in
set_option maxRecDepth 100000 in
theorem w_X3_makeThrees_8 {p : Program} {l : Launch} {e : Env} {s : State} {m : MethodId} {args : Array Value} {below : List Frame} {meth : Method} {c : Code} {Q : State → Prop} {G : mG} {h : mM} {q : Nat → Nat} {q1 : Nat → Nat} (hq : oinj LX3 q) (hq1 : oinj LX10 q1) (ha : oap [(LX3, q), (LX10, q1)]) (X : mX G p m c cX3_makeThrees 6 s args RX3) (s_t : OS) : ∀ (z : OS × Int32) (r : OS), lpv (f_X3_makeThrees_8 s_t) z = some r → ∀ (H : Heap) (locs : List Loc) (ls : Array Slot), mH G (oset LX3 G q s_t (oset LX10 G q1 z.1 h)) s.heap H locs → lv_has ls 6 [(0, .ref (q 3)), (1, .ref (q1 5)), (2, .int z.2)] → (∀ (H : Heap) (locs : List Loc) (ls : Array Slot), mH G (oset LX3 G q s_t (oset LX10 G q1 r h)) s.heap H locs → lv_has ls 6 [] → W p l e rm_X3_makeThrees s m args below meth c H locs 0 0 Q (F0 m 125 ls [])) → W p l e rm_X3_makeThrees s m args below meth c H locs 0 0 Q (F0 m 8 ls []) := by
  refine lpv_rec ?_
  intro z r x hF hx H locs ls hH hl K0
  obtain ⟨s_o1, b2⟩ := z
  dsimp only [f_X3_makeThrees_8] at hF
  try dsimp only at hH hl
  refine lv_iload_n X.x X.b (dk DX3_makeThrees_0 5 rfl) rfl (lv_at hl 2 rfl) ?_
  refine lv_bipush (v := 40) X.x X.b (dk DX3_makeThrees_0 6 rfl) (by decide) ?_
  refine lv_icmp_ge (tgt := 125) X.x X.b (dk DX3_makeThrees_0 7 rfl) (by decide) (fun c4 => ?_) (fun c4 => ?_)
  · replace hF := if_t hF c4
    have hr9 := lp_r hF hx
    subst hr9
    exact K0 _ _ _ hH (lv_sub hl [] rfl)
  · replace hF := if_f hF c4
    refine lv_iload_n X.x X.b (dk DX3_makeThrees_0 8 rfl) rfl (lv_at hl 2 rfl) ?_
    refine lv_iconst (v := 1) X.x X.b (dk DX3_makeThrees_0 9 rfl) (by decide) ?_
    refine lv_iadd X.x X.b (dk DX3_makeThrees_0 10 rfl) ?_
    refine lv_topi (fun v5 e6 => ?_)
    replace hF := bnd_e hF e6
    refine lv_istore_n (lv' := [(3, .int v5), (0, .ref (q 3)), (1, .ref (q1 5)), (2, .int b2)]) X.x X.b (dk DX3_makeThrees_0 11 rfl) rfl hl (by decide) rfl (fun ls hl => ?_)
    replace hl : lv_has ls 6 [(0, .ref (q 3)), (1, .ref (q1 5)), (2, .int b2), (3, .int v5)] := lv_sub hl [1, 2, 3, 0] rfl
    obtain ⟨x33, e34, hF⟩ := bd hF
    replace hl : lv_has ls 6 [(0, .ref (q 3)), (1, .ref (q1 5)), (2, .int b2), (3, .int v5)] := lv_sub hl [0, 1, 2, 3] rfl
    refine w_X3_makeThrees_18 hq hq1 ha X s_t b2 _ _ e34 _ _ _ hH hl (fun H locs ls hH hl => ?_)
    obtain ⟨v36, e37⟩ : ∃ y : Int32, y = b2 + 1 := ⟨_, rfl⟩
    replace hF := bnd_e hF e37
    refine lv_iinc (v := v36) (lv' := [(2, .int v36), (0, .ref (q 3)), (1, .ref (q1 5))]) X.x X.b (dk DX3_makeThrees_1 14 rfl) hl (k := 2) rfl (by rw [e37]; rfl) (by decide) rfl (fun ls hl => ?_)
    replace hl : lv_has ls 6 [(0, .ref (q 3)), (1, .ref (q1 5)), (2, .int v36)] := lv_sub hl [1, 2, 0] rfl
    refine lv_goto (tgt := 8) X.x X.b (dk DX3_makeThrees_1 15 rfl) (by decide) ?_
    exact (lp_l hF hx) _ _ _ hH (lv_sub hl [0, 1, 2] rfl) K0
set_option maxHeartbeats 4000000 in
set_option maxRecDepth 100000 in
theorem c_X3_makeThrees {l : Launch} {G : mG} {h : mM} {q : Nat → Nat} {q1 : Nat → Nat} (hq : oinj LX3 q) (hq1 : oinj LX10 q1) (ha : oap [(LX3, q), (LX10, q1)]) {st : OS} {st1 : OS} {x : OS} (hF : f_X3_makeThrees st st1 = some x) : cQ l G yX3_makeThrees cX3_makeThrees 6 none rm_X3_makeThrees [.ref (q 3), .ref (q1 5)] (oset LX3 G q st (oset LX10 G q1 st1 h)) (mQv G (fun h1 => h1 = oset LX3 G q st (oset LX10 G q1 x h))) := by
  refine mp_of (by decide +kernel) (Nat.le_of_ble_eq_true rfl) ?_
  intro p e s m below meth c X hr hlk hH hname ls hl
  dsimp only [f_X3_makeThrees] at hF
  replace hl : lv_has ls 6 [(0, .ref (q 3)), (1, .ref (q1 5))] := hl
  refine lv_aload_n X.x X.b (dk DX3_makeThrees_0 0 rfl) rfl (lv_at hl 1 rfl) ?_
  refine lv_bipush (v := 40) X.x X.b (dk DX3_makeThrees_0 1 rfl) (by decide) ?_
  obtain ⟨x1, e2, hF⟩ := bd hF
  refine mr_cv0 (mH_perm (l1 := [(LX3, q, st), (LX10, q1, st1)]) (l2 := [(LX10, q1, st1), (LX3, q, st)]) ha [1, 0] [1, 0] rfl rfl rfl hH) ⟨rfl, rfl⟩ (mr_runV (As := [.int 40]) (rest := []) X (mH_perm (l1 := [(LX3, q, st), (LX10, q1, st1)]) (l2 := [(LX10, q1, st1), (LX3, q, st)]) ha [1, 0] [1, 0] rfl rfl rfl hH) (c_X10_clear hq1 e2) ((oset_at hq1 (Nat.le_refl _) ohas_N).trans (congrArg some ocell_N)) OX10.1 kM_X3_21 kI_X10_clear kS_X10_clear kN_X10 kC_X10_clear hd_X10_clear ⟨Nat.le_of_ble_eq_true rfl, Nat.le_of_ble_eq_true rfl⟩ rfl hl.1 (Nat.le_of_ble_eq_true rfl) (dk DX3_makeThrees_0 2 rfl) ⟨Nat.zero_le _, Nat.zero_le _⟩) (fun h1 H locs hp hH => ?_)
  rw [hp] at hH; clear hp
  replace hH : mH G (oset LX3 G q st (oset LX10 G q1 x1 h)) s.heap H locs := mH_unperm (l1 := [(LX3, q, st), (LX10, q1, x1)]) (l2 := [(LX10, q1, x1), (LX3, q, st)]) ha [1, 0] [1, 0] rfl rfl rfl hH
  refine lv_iconst (v := 0) X.x X.b (dk DX3_makeThrees_0 3 rfl) (by decide) ?_
  refine lv_istore_n (lv' := [(2, .int 0), (0, .ref (q 3)), (1, .ref (q1 5))]) X.x X.b (dk DX3_makeThrees_0 4 rfl) rfl hl (by decide) rfl (fun ls hl => ?_)
  replace hl : lv_has ls 6 [(0, .ref (q 3)), (1, .ref (q1 5)), (2, .int 0)] := lv_sub hl [1, 2, 0] rfl
  obtain ⟨x38, e39, hF⟩ := bd hF
  replace hl : lv_has ls 6 [(0, .ref (q 3)), (1, .ref (q1 5)), (2, .int 0)] := lv_sub hl [0, 1, 2] rfl
  refine w_X3_makeThrees_8 hq hq1 ha X st _ _ e39 _ _ _ hH hl (fun H locs ls hH hl => ?_)
  cases sm hF
  exact mr_vret X hr hlk hH rfl (dk DX3_makeThrees_1 16 rfl)
-- X4_reduce
abbrev rm_X4_reduce : Room := { frames := 3, cells := 0, slots := 0, locals := 64 }
theorem hd_X4_reduce : mHd yX4_reduce 1 := ⟨by decide +kernel, by decide +kernel, by decide +kernel⟩
theorem DX4_reduce_0 : ∀ t ∈ ([(0, .aload_n 0, 1), (1, .getfield 17, 3), (4, .lconst 0, 1), (5, .invokestatic 57, 3), (8, .iconst 0, 1), (9, .istore_n 2, 1), (10, .iconst 0, 1), (11, .istore_n 3, 1), (12, .iload_n 3, 1), (13, .aload_n 1, 1), (14, .getfield 48, 3), (17, .if_icmp .ge 148, 3), (20, .aload_n 1, 1), (21, .iload_n 3, 1), (22, .invokevirtual 28, 3), (25, .lstore 4, 2), (27, .iconst 0, 1), (28, .istore 6, 2), (30, .iload 6, 2), (32, .bipush 64, 2), (34, .if_icmp .ge 36, 3), (37, .lload 4, 2), (39, .iload 6, 2), (41, .invokestatic 32, 3), (44, .ifCond .eq 16, 3), (47, .lload 4, 2), (49, .aload_n 0, 1), (50, .getfield 17, 3), (53, .iload 6, 2), (55, .laload, 1), (56, .lxor, 1), (57, .goto 5, 3), (60, .lload 4, 2), (62, .lstore 4, 2), (64, .iinc 6 1, 3), (67, .goto (-37), 3), (70, .lload 4, 2), (72, .invokestatic 63, 3), (75, .istore 6, 2), (77, .iload 6, 2), (79, .ifCond .lt 80, 3), (82, .iload 6, 2), (84, .bipush 64, 2), (86, .if_icmp .ge 73, 3), (89, .iconst 0, 1), (90, .istore 7, 2), (92, .iload 7, 2), (94, .bipush 64, 2), (96, .if_icmp .ge 51, 3), (99, .aload_n 0, 1), (100, .getfield 17, 3), (103, .iload 7, 2), (105, .aload_n 0, 1), (106, .getfield 17, 3), (109, .iload 7, 2), (111, .laload, 1), (112, .iload 6, 2), (114, .invokestatic 32, 3), (117, .ifCond .eq 16, 3), (120, .aload_n 0, 1)] : List (Nat × Instr × Nat)), decode cX4_reduce t.1 = .ok (t.2.1, t.2.2) := by decide +kernel
theorem DX4_reduce_1 : ∀ t ∈ ([(121, .getfield 17, 3), (124, .iload 7, 2), (126, .laload, 1), (127, .lload 4, 2), (129, .lxor, 1), (130, .goto 10, 3), (133, .aload_n 0, 1), (134, .getfield 17, 3), (137, .iload 7, 2), (139, .laload, 1), (140, .lastore, 1), (141, .iinc 7 1, 3), (144, .goto (-52), 3), (147, .aload_n 0, 1), (148, .getfield 17, 3), (151, .iload 6, 2), (153, .lload 4, 2), (155, .lastore, 1), (156, .iinc 2 1, 3), (159, .iinc 3 1, 3), (162, .goto (-150), 3), (165, .iload_n 2, 1), (166, .ireturn, 1)] : List (Nat × Instr × Nat)), decode cX4_reduce t.1 = .ok (t.2.1, t.2.2) := by decide +kernel
noncomputable def f_X4_reduce_30 (s_t : OS) (s_o1 : OS) (b2 : Int32) (b3 : Int32) : (Int64 × Int32) → Option ((Int64 × Int32) ⊕ (Int64)) := fun z => match z with | (b4, b6) => (if 64 ≤ b6 then some (.inr b4) else (f_X10_has b4 b6).bind (fun x8 => (if x8 = 0 then bnd (b6 + 1 : Int32) (fun v12 => some (.inl ((b4, v12)))) else if inb b6 64 = true then bnd (b4 ^^^ (s_t.2.2.2 1 (b6 : Int32).toNatClampNeg) : Int64) (fun v15 => bnd (b6 + 1 : Int32) (fun v17 => some (.inl ((v15, v17))))) else none)))
noncomputable def f_X4_reduce_92 (s_o1 : OS) (b2 : Int32) (b3 : Int32) (b4 : Int64) (b6 : Int32) : (OS × Int32) → Option ((OS × Int32) ⊕ (OS)) := fun z => match z with | (s_t, b7) => (if 64 ≤ b7 then some (.inr s_t) else if inb b7 64 = true then (f_X10_has (s_t.2.2.2 1 (b7 : Int32).toNatClampNeg) b6).bind (fun x33 => (if x33 = 0 then bnd (oB s_t 1 (vp_updL (s_t.2.2.2 1) (b7 : Int32).toNatClampNeg (s_t.2.2.2 1 (b7 : Int32).toNatClampNeg))) (fun t37 => bnd (b7 + 1 : Int32) (fun v39 => some (.inl ((t37, v39))))) else bnd (oB s_t 1 (vp_updL (s_t.2.2.2 1) (b7 : Int32).toNatClampNeg ((s_t.2.2.2 1 (b7 : Int32).toNatClampNeg) ^^^ b4))) (fun t41 => bnd (b7 + 1 : Int32) (fun v43 => some (.inl ((t41, v43))))))) else none)
noncomputable def f_X4_reduce_12 (s_o1 : OS) : (OS × Int32 × Int32) → Option ((OS × Int32 × Int32) ⊕ (OS × Int32)) := fun z => match z with | (s_t, b2, b3) => (if (s_o1.1 1) ≤ b3 then some (.inr ((s_t, b2))) else (f_X10_setAt s_o1 b3).bind (fun x4 => (lpv (f_X4_reduce_30 s_t s_o1 b2 b3) ((x4, 0))).bind (fun x19 => (f_X10_lowest x19).bind (fun x22 => (if x22 < 0 then bnd (b3 + 1 : Int32) (fun v26 => some (.inl ((s_t, b2, v26)))) else (if 64 ≤ x22 then bnd (b3 + 1 : Int32) (fun v29 => some (.inl ((s_t, b2, v29)))) else (lpv (f_X4_reduce_92 s_o1 b2 b3 x19 x22) ((s_t, 0))).bind (fun x45 => if inb x22 64 = true then bnd (oB x45 1 (vp_updL (x45.2.2.2 1) (x22 : Int32).toNatClampNeg x19)) (fun t49 => bnd (b2 + 1 : Int32) (fun v51 => bnd (b3 + 1 : Int32) (fun v53 => some (.inl ((t49, v51, v53)))))) else none)))))))
noncomputable def f_X4_reduce (st : OS) (st1 : OS) : Option (Int32 × OS) := bnd (oB st 1 (fillF 64 0 (st.2.2.2 1))) (fun t1 => (lpv (f_X4_reduce_12 st1) ((t1, 0, 0))).bind (fun x55 => match x55 with | (t57, v58) => some ((v58, t57))))
set_option maxHeartbeats 4000000 in
set_option maxRecDepth 100000 in
theorem w_X4_reduce_30 {p : Program} {l : Launch} {e : Env} {s : State} {m : MethodId} {args : Array Value} {below : List Frame} {meth : Method} {c : Code} {Q : State → Prop} {G : mG} {h : mM} {q : Nat → Nat} {q1 : Nat → Nat} (hq : oinj LX4 q) (hq1 : oinj LX10 q1) (ha : oap [(LX4, q), (LX10, q1)]) (X : mX G p m c cX4_reduce 8 s args RX4) (s_t : OS) (s_o1 : OS) (b2 : Int32) (b3 : Int32) : ∀ (z : Int64 × Int32) (r : Int64), lpv (f_X4_reduce_30 s_t s_o1 b2 b3) z = some r → ∀ (H : Heap) (locs : List Loc) (ls : Array Slot), mH G (oset LX4 G q s_t (oset LX10 G q1 s_o1 h)) s.heap H locs → lv_has ls 8 [(0, .ref (q 3)), (1, .ref (q1 5)), (2, .int b2), (3, .int b3), (4, .long z.1), (6, .int z.2)] → (∀ (H : Heap) (locs : List Loc) (ls : Array Slot), mH G (oset LX4 G q s_t (oset LX10 G q1 s_o1 h)) s.heap H locs → lv_has ls 8 [(0, .ref (q 3)), (1, .ref (q1 5)), (2, .int b2), (3, .int b3), (4, .long r)] → W p l e rm_X4_reduce s m args below meth c H locs 0 0 Q (F0 m 70 ls [])) → W p l e rm_X4_reduce s m args below meth c H locs 0 0 Q (F0 m 30 ls []) := by
  refine lpv_rec ?_
  intro z r x hF hx H locs ls hH hl K0
  obtain ⟨b4, b6⟩ := z
  dsimp only [f_X4_reduce_30] at hF
  try dsimp only at hH hl
  refine lv_iload X.x X.b (dk DX4_reduce_0 18 rfl) (lv_at hl 5 rfl) ?_
  refine lv_bipush (v := 64) X.x X.b (dk DX4_reduce_0 19 rfl) (by decide) ?_
  refine lv_icmp_ge (tgt := 70) X.x X.b (dk DX4_reduce_0 20 rfl) (by decide) (fun c7 => ?_) (fun c7 => ?_)
  · replace hF := if_t hF c7
    have hr9 := lp_r hF hx
    subst hr9
    exact K0 _ _ _ hH (lv_sub hl [0, 1, 2, 3, 4] rfl)
  · replace hF := if_f hF c7
    refine lv_lload X.x X.b (dk DX4_reduce_0 21 rfl) (lv_at hl 4 rfl) ?_
    refine lv_iload X.x X.b (dk DX4_reduce_0 22 rfl) (lv_at hl 5 rfl) ?_
    obtain ⟨x8, e9, hF⟩ := bd hF
    refine mr_ci0 hH ⟨rfl, rfl⟩ (mr_runS (As := [.long b4, .int b6]) (rest := []) X hH (c_X10_has e9) kM_X4_32 kT_X10_has kN_X10 kC_X10_has hd_X10_has ⟨Nat.le_of_ble_eq_true rfl, Nat.le_of_ble_eq_true rfl⟩ rfl hl.1 (Nat.le_of_ble_eq_true rfl) (dk DX4_reduce_0 23 rfl) ⟨Nat.zero_le _, Nat.zero_le _⟩) (fun r h1 H locs hp hH => ?_)
    obtain ⟨hr1, hr2⟩ := hp; rw [hr1]; rw [hr2] at hH; clear hr1 hr2
    refine lv_if_eq (tgt := 60) X.x X.b (dk DX4_reduce_0 24 rfl) (by decide) (fun c11 => ?_) (fun c11 => ?_)
    · replace hF := if_t hF c11
      refine lv_lload X.x X.b (dk DX4_reduce_0 32 rfl) (lv_at hl 4 rfl) ?_
      refine lv_lstore (lv' := [(4, .long b4), (0, .ref (q 3)), (1, .ref (q1 5)), (2, .int b2), (3, .int b3), (6, .int b6)]) X.x X.b (dk DX4_reduce_0 33 rfl) hl (by decide) rfl (fun ls hl => ?_)
      replace hl : lv_has ls 8 [(0, .ref (q 3)), (1, .ref (q1 5)), (2, .int b2), (3, .int b3), (4, .long b4), (6, .int b6)] := lv_sub hl [1, 2, 3, 4, 0, 5] rfl
      obtain ⟨v12, e13⟩ : ∃ y : Int32, y = b6 + 1 := ⟨_, rfl⟩
      replace hF := bnd_e hF e13
      refine lv_iinc (v := v12) (lv' := [(6, .int v12), (0, .ref (q 3)), (1, .ref (q1 5)), (2, .int b2), (3, .int b3), (4, .long b4)]) X.x X.b (dk DX4_reduce_0 34 rfl) hl (k := 5) rfl (by rw [e13]; rfl) (by decide) rfl (fun ls hl => ?_)
      replace hl : lv_has ls 8 [(0, .ref (q 3)), (1, .ref (q1 5)), (2, .int b2), (3, .int b3), (4, .long b4), (6, .int v12)] := lv_sub hl [1, 2, 3, 4, 5, 0] rfl
      refine lv_goto (tgt := 30) X.x X.b (dk DX4_reduce_0 35 rfl) (by decide) ?_
      exact (lp_l hF hx) _ _ _ hH (lv_sub hl [0, 1, 2, 3, 4, 5] rfl) K0
    · replace hF := if_f hF c11
      refine lv_lload X.x X.b (dk DX4_reduce_0 25 rfl) (lv_at hl 4 rfl) ?_
      refine lv_aload_n X.x X.b (dk DX4_reduce_0 26 rfl) rfl (lv_at hl 0 rfl) ?_
      refine og_getR (t := 1) OX4 X hq hH 1 (by decide) rfl kF_X4_17 (dk DX4_reduce_0 27 rfl) ?_
      refine lv_iload X.x X.b (dk DX4_reduce_0 28 rfl) (lv_at hl 5 rfl) ?_
      obtain ⟨c14, hF⟩ := gd hF
      refine og_lald X hq hH 1 (by decide) rfl (inb_in c14) (dk DX4_reduce_0 29 rfl) ?_
      refine lv_lxor X.x X.b (dk DX4_reduce_0 30 rfl) ?_
      refine lv_goto (tgt := 62) X.x X.b (dk DX4_reduce_0 31 rfl) (by decide) ?_
      refine lv_topl (fun v15 e16 => ?_)
      replace hF := bnd_e hF e16
      refine lv_lstore (lv' := [(4, .long v15), (0, .ref (q 3)), (1, .ref (q1 5)), (2, .int b2), (3, .int b3), (6, .int b6)]) X.x X.b (dk DX4_reduce_0 33 rfl) hl (by decide) rfl (fun ls hl => ?_)
      replace hl : lv_has ls 8 [(0, .ref (q 3)), (1, .ref (q1 5)), (2, .int b2), (3, .int b3), (4, .long v15), (6, .int b6)] := lv_sub hl [1, 2, 3, 4, 0, 5] rfl
      obtain ⟨v17, e18⟩ : ∃ y : Int32, y = b6 + 1 := ⟨_, rfl⟩
      replace hF := bnd_e hF e18
      refine lv_iinc (v := v17) (lv' := [(6, .int v17), (0, .ref (q 3)), (1, .ref (q1 5)), (2, .int b2), (3, .int b3), (4, .long v15)]) X.x X.b (dk DX4_reduce_0 34 rfl) hl (k := 5) rfl (by rw [e18]; rfl) (by decide) rfl (fun ls hl => ?_)
      replace hl : lv_has ls 8 [(0, .ref (q 3)), (1, .ref (q1 5)), (2, .int b2), (3, .int b3), (4, .long v15), (6, .int v17)] := lv_sub hl [1, 2, 3, 4, 5, 0] rfl
      refine lv_goto (tgt := 30) X.x X.b (dk DX4_reduce_0 35 rfl) (by decide) ?_
      exact (lp_l hF hx) _ _ _ hH (lv_sub hl [0, 1, 2, 3, 4, 5] rfl) K0
set_option maxHeartbeats 4000000 in
set_option maxRecDepth 100000 in
theorem w_X4_reduce_92 {p : Program} {l : Launch} {e : Env} {s : State} {m : MethodId} {args : Array Value} {below : List Frame} {meth : Method} {c : Code} {Q : State → Prop} {G : mG} {h : mM} {q : Nat → Nat} {q1 : Nat → Nat} (hq : oinj LX4 q) (hq1 : oinj LX10 q1) (ha : oap [(LX4, q), (LX10, q1)]) (X : mX G p m c cX4_reduce 8 s args RX4) (s_o1 : OS) (b2 : Int32) (b3 : Int32) (b4 : Int64) (b6 : Int32) : ∀ (z : OS × Int32) (r : OS), lpv (f_X4_reduce_92 s_o1 b2 b3 b4 b6) z = some r → ∀ (H : Heap) (locs : List Loc) (ls : Array Slot), mH G (oset LX4 G q z.1 (oset LX10 G q1 s_o1 h)) s.heap H locs → lv_has ls 8 [(0, .ref (q 3)), (1, .ref (q1 5)), (2, .int b2), (3, .int b3), (4, .long b4), (6, .int b6), (7, .int z.2)] → (∀ (H : Heap) (locs : List Loc) (ls : Array Slot), mH G (oset LX4 G q r (oset LX10 G q1 s_o1 h)) s.heap H locs → lv_has ls 8 [(0, .ref (q 3)), (1, .ref (q1 5)), (2, .int b2), (3, .int b3), (4, .long b4), (6, .int b6)] → W p l e rm_X4_reduce s m args below meth c H locs 0 0 Q (F0 m 147 ls [])) → W p l e rm_X4_reduce s m args below meth c H locs 0 0 Q (F0 m 92 ls []) := by
  refine lpv_rec ?_
  intro z r x hF hx H locs ls hH hl K0
  obtain ⟨s_t, b7⟩ := z
  dsimp only [f_X4_reduce_92] at hF
  try dsimp only at hH hl
  refine lv_iload X.x X.b (dk DX4_reduce_0 46 rfl) (lv_at hl 6 rfl) ?_
  refine lv_bipush (v := 64) X.x X.b (dk DX4_reduce_0 47 rfl) (by decide) ?_
  refine lv_icmp_ge (tgt := 147) X.x X.b (dk DX4_reduce_0 48 rfl) (by decide) (fun c31 => ?_) (fun c31 => ?_)
  · replace hF := if_t hF c31
    have hr9 := lp_r hF hx
    subst hr9
    exact K0 _ _ _ hH (lv_sub hl [0, 1, 2, 3, 4, 5] rfl)
  · replace hF := if_f hF c31
    refine lv_aload_n X.x X.b (dk DX4_reduce_0 49 rfl) rfl (lv_at hl 0 rfl) ?_
    refine og_getR (t := 1) OX4 X hq hH 1 (by decide) rfl kF_X4_17 (dk DX4_reduce_0 50 rfl) ?_
    refine lv_iload X.x X.b (dk DX4_reduce_0 51 rfl) (lv_at hl 6 rfl) ?_
    refine lv_aload_n X.x X.b (dk DX4_reduce_0 52 rfl) rfl (lv_at hl 0 rfl) ?_
    refine og_getR (t := 1) OX4 X hq hH 1 (by decide) rfl kF_X4_17 (dk DX4_reduce_0 53 rfl) ?_
    refine lv_iload X.x X.b (dk DX4_reduce_0 54 rfl) (lv_at hl 6 rfl) ?_
    obtain ⟨c32, hF⟩ := gd hF
    refine og_lald X hq hH 1 (by decide) rfl (inb_in c32) (dk DX4_reduce_0 55 rfl) ?_
    refine lv_iload X.x X.b (dk DX4_reduce_0 56 rfl) (lv_at hl 5 rfl) ?_
    obtain ⟨x33, e34, hF⟩ := bd hF
    refine mr_ci0 hH ⟨rfl, rfl⟩ (mr_runS (As := [.long (s_t.2.2.2 1 (b7 : Int32).toNatClampNeg), .int b6]) (rest := [.int b7, .ref (q 1)]) X hH (c_X10_has e34) kM_X4_32 kT_X10_has kN_X10 kC_X10_has hd_X10_has ⟨Nat.le_of_ble_eq_true rfl, Nat.le_of_ble_eq_true rfl⟩ rfl hl.1 (Nat.le_of_ble_eq_true rfl) (dk DX4_reduce_0 57 rfl) ⟨Nat.zero_le _, Nat.zero_le _⟩) (fun r h1 H locs hp hH => ?_)
    obtain ⟨hr1, hr2⟩ := hp; rw [hr1]; rw [hr2] at hH; clear hr1 hr2
    refine lv_if_eq (tgt := 133) X.x X.b (dk DX4_reduce_0 58 rfl) (by decide) (fun c36 => ?_) (fun c36 => ?_)
    · replace hF := if_t hF c36
      refine lv_aload_n X.x X.b (dk DX4_reduce_1 6 rfl) rfl (lv_at hl 0 rfl) ?_
      refine og_getR (t := 1) OX4 X hq hH 1 (by decide) rfl kF_X4_17 (dk DX4_reduce_1 7 rfl) ?_
      refine lv_iload X.x X.b (dk DX4_reduce_1 8 rfl) (lv_at hl 6 rfl) ?_
      refine og_lald X hq hH 1 (by decide) rfl (inb_in c32) (dk DX4_reduce_1 9 rfl) ?_
      refine og_last X hq hH 1 (by decide) rfl (inb_in c32) (dk DX4_reduce_1 10 rfl) (fun H locs hH => ?_)
      obtain ⟨t37, e38⟩ : ∃ y, y = oB s_t 1 (vp_updL (s_t.2.2.2 1) (b7 : Int32).toNatClampNeg (s_t.2.2.2 1 (b7 : Int32).toNatClampNeg)) := ⟨_, rfl⟩
      rw [← e38] at hH
      replace hF := bnd_e hF e38
      obtain ⟨v39, e40⟩ : ∃ y : Int32, y = b7 + 1 := ⟨_, rfl⟩
      replace hF := bnd_e hF e40
      refine lv_iinc (v := v39) (lv' := [(7, .int v39), (0, .ref (q 3)), (1, .ref (q1 5)), (2, .int b2), (3, .int b3), (4, .long b4), (6, .int b6)]) X.x X.b (dk DX4_reduce_1 11 rfl) hl (k := 6) rfl (by rw [e40]; rfl) (by decide) rfl (fun ls hl => ?_)
      replace hl : lv_has ls 8 [(0, .ref (q 3)), (1, .ref (q1 5)), (2, .int b2), (3, .int b3), (4, .long b4), (6, .int b6), (7, .int v39)] := lv_sub hl [1, 2, 3, 4, 5, 6, 0] rfl
      refine lv_goto (tgt := 92) X.x X.b (dk DX4_reduce_1 12 rfl) (by decide) ?_
      exact (lp_l hF hx) _ _ _ hH (lv_sub hl [0, 1, 2, 3, 4, 5, 6] rfl) K0
    · replace hF := if_f hF c36
      refine lv_aload_n X.x X.b (dk DX4_reduce_0 59 rfl) rfl (lv_at hl 0 rfl) ?_
      refine og_getR (t := 1) OX4 X hq hH 1 (by decide) rfl kF_X4_17 (dk DX4_reduce_1 0 rfl) ?_
      refine lv_iload X.x X.b (dk DX4_reduce_1 1 rfl) (lv_at hl 6 rfl) ?_
      refine og_lald X hq hH 1 (by decide) rfl (inb_in c32) (dk DX4_reduce_1 2 rfl) ?_
      refine lv_lload X.x X.b (dk DX4_reduce_1 3 rfl) (lv_at hl 4 rfl) ?_
      refine lv_lxor X.x X.b (dk DX4_reduce_1 4 rfl) ?_
      refine lv_goto (tgt := 140) X.x X.b (dk DX4_reduce_1 5 rfl) (by decide) ?_
      refine og_last X hq hH 1 (by decide) rfl (inb_in c32) (dk DX4_reduce_1 10 rfl) (fun H locs hH => ?_)
      obtain ⟨t41, e42⟩ : ∃ y, y = oB s_t 1 (vp_updL (s_t.2.2.2 1) (b7 : Int32).toNatClampNeg ((s_t.2.2.2 1 (b7 : Int32).toNatClampNeg) ^^^ b4)) := ⟨_, rfl⟩
      rw [← e42] at hH
      replace hF := bnd_e hF e42
      obtain ⟨v43, e44⟩ : ∃ y : Int32, y = b7 + 1 := ⟨_, rfl⟩
      replace hF := bnd_e hF e44
      refine lv_iinc (v := v43) (lv' := [(7, .int v43), (0, .ref (q 3)), (1, .ref (q1 5)), (2, .int b2), (3, .int b3), (4, .long b4), (6, .int b6)]) X.x X.b (dk DX4_reduce_1 11 rfl) hl (k := 6) rfl (by rw [e44]; rfl) (by decide) rfl (fun ls hl => ?_)
      replace hl : lv_has ls 8 [(0, .ref (q 3)), (1, .ref (q1 5)), (2, .int b2), (3, .int b3), (4, .long b4), (6, .int b6), (7, .int v43)] := lv_sub hl [1, 2, 3, 4, 5, 6, 0] rfl
      refine lv_goto (tgt := 92) X.x X.b (dk DX4_reduce_1 12 rfl) (by decide) ?_
      exact (lp_l hF hx) _ _ _ hH (lv_sub hl [0, 1, 2, 3, 4, 5, 6] rfl) K0
set_option maxHeartbeats 4000000 in
set_option maxRecDepth 100000 in
theorem w_X4_reduce_12 {p : Program} {l : Launch} {e : Env} {s : State} {m : MethodId} {args : Array Value} {below : List Frame} {meth : Method} {c : Code} {Q : State → Prop} {G : mG} {h : mM} {q : Nat → Nat} {q1 : Nat → Nat} (hq : oinj LX4 q) (hq1 : oinj LX10 q1) (ha : oap [(LX4, q), (LX10, q1)]) (X : mX G p m c cX4_reduce 8 s args RX4) (s_o1 : OS) : ∀ (z : OS × Int32 × Int32) (r : OS × Int32), lpv (f_X4_reduce_12 s_o1) z = some r → ∀ (H : Heap) (locs : List Loc) (ls : Array Slot), mH G (oset LX4 G q z.1 (oset LX10 G q1 s_o1 h)) s.heap H locs → lv_has ls 8 [(0, .ref (q 3)), (1, .ref (q1 5)), (2, .int z.2.1), (3, .int z.2.2)] → (∀ (H : Heap) (locs : List Loc) (ls : Array Slot), mH G (oset LX4 G q r.1 (oset LX10 G q1 s_o1 h)) s.heap H locs → lv_has ls 8 [(2, .int r.2)] → W p l e rm_X4_reduce s m args below meth c H locs 0 0 Q (F0 m 165 ls [])) → W p l e rm_X4_reduce s m args below meth c H locs 0 0 Q (F0 m 12 ls []) := by
  refine lpv_rec ?_
  intro z r x hF hx H locs ls hH hl K0
  obtain ⟨s_t, b2, b3⟩ := z
  dsimp only [f_X4_reduce_12] at hF
  try dsimp only at hH hl
  refine lv_iload_n X.x X.b (dk DX4_reduce_0 8 rfl) rfl (lv_at hl 3 rfl) ?_
  refine lv_aload_n X.x X.b (dk DX4_reduce_0 9 rfl) rfl (lv_at hl 1 rfl) ?_
  refine og_getIN OX10 X hq1 (mH_perm (l1 := [(LX4, q, s_t), (LX10, q1, s_o1)]) (l2 := [(LX10, q1, s_o1), (LX4, q, s_t)]) ha [1, 0] [1, 0] rfl rfl rfl hH) 1 (by decide) rfl kFN_X4_48 (dk DX4_reduce_0 10 rfl) ?_
  refine lv_icmp_ge (tgt := 165) X.x X.b (dk DX4_reduce_0 11 rfl) (by decide) (fun c3 => ?_) (fun c3 => ?_)
  · replace hF := if_t hF c3
    have hr9 := lp_r hF hx
    subst hr9
    exact K0 _ _ _ hH (lv_sub hl [2] rfl)
  · replace hF := if_f hF c3
    refine lv_aload_n X.x X.b (dk DX4_reduce_0 12 rfl) rfl (lv_at hl 1 rfl) ?_
    refine lv_iload_n X.x X.b (dk DX4_reduce_0 13 rfl) rfl (lv_at hl 3 rfl) ?_
    obtain ⟨x4, e5, hF⟩ := bd hF
    refine mr_cl0 (mH_perm (l1 := [(LX4, q, s_t), (LX10, q1, s_o1)]) (l2 := [(LX10, q1, s_o1), (LX4, q, s_t)]) ha [1, 0] [1, 0] rfl rfl rfl hH) ⟨rfl, rfl⟩ (mr_runV (As := [.int b3]) (rest := []) X (mH_perm (l1 := [(LX4, q, s_t), (LX10, q1, s_o1)]) (l2 := [(LX10, q1, s_o1), (LX4, q, s_t)]) ha [1, 0] [1, 0] rfl rfl rfl hH) (c_X10_setAt hq1 e5) ((oset_at hq1 (Nat.le_refl _) ohas_N).trans (congrArg some ocell_N)) OX10.1 kM_X4_28 kI_X10_setAt kS_X10_setAt kN_X10 kC_X10_setAt hd_X10_setAt ⟨Nat.le_of_ble_eq_true rfl, Nat.le_of_ble_eq_true rfl⟩ rfl hl.1 (Nat.le_of_ble_eq_true rfl) (dk DX4_reduce_0 14 rfl) ⟨Nat.zero_le _, Nat.zero_le _⟩) (fun r h1 H locs hp hH => ?_)
    obtain ⟨hr1, hr2⟩ := hp; rw [hr1]; rw [hr2] at hH; clear hr1 hr2
    replace hH : mH G (oset LX4 G q s_t (oset LX10 G q1 s_o1 h)) s.heap H locs := mH_unperm (l1 := [(LX4, q, s_t), (LX10, q1, s_o1)]) (l2 := [(LX10, q1, s_o1), (LX4, q, s_t)]) ha [1, 0] [1, 0] rfl rfl rfl hH
    refine lv_lstore (lv' := [(4, .long x4), (0, .ref (q 3)), (1, .ref (q1 5)), (2, .int b2), (3, .int b3)]) X.x X.b (dk DX4_reduce_0 15 rfl) hl (by decide) rfl (fun ls hl => ?_)
    replace hl : lv_has ls 8 [(0, .ref (q 3)), (1, .ref (q1 5)), (2, .int b2), (3, .int b3), (4, .long x4)] := lv_sub hl [1, 2, 3, 4, 0] rfl
    refine lv_iconst (v := 0) X.x X.b (dk DX4_reduce_0 16 rfl) (by decide) ?_
    refine lv_istore (lv' := [(6, .int 0), (0, .ref (q 3)), (1, .ref (q1 5)), (2, .int b2), (3, .int b3), (4, .long x4)]) X.x X.b (dk DX4_reduce_0 17 rfl) hl (by decide) rfl (fun ls hl => ?_)
    replace hl : lv_has ls 8 [(0, .ref (q 3)), (1, .ref (q1 5)), (2, .int b2), (3, .int b3), (4, .long x4), (6, .int 0)] := lv_sub hl [1, 2, 3, 4, 5, 0] rfl
    obtain ⟨x19, e20, hF⟩ := bd hF
    replace hl : lv_has ls 8 [(0, .ref (q 3)), (1, .ref (q1 5)), (2, .int b2), (3, .int b3), (4, .long x4), (6, .int 0)] := lv_sub hl [0, 1, 2, 3, 4, 5] rfl
    refine w_X4_reduce_30 hq hq1 ha X s_t s_o1 b2 b3 _ _ e20 _ _ _ hH hl (fun H locs ls hH hl => ?_)
    refine lv_lload X.x X.b (dk DX4_reduce_0 36 rfl) (lv_at hl 4 rfl) ?_
    obtain ⟨x22, e23, hF⟩ := bd hF
    refine mr_ci0 hH ⟨rfl, rfl⟩ (mr_runS (As := [.long x19]) (rest := []) X hH (c_X10_lowest e23) kM_X4_63 kT_X10_lowest kN_X10 kC_X10_lowest hd_X10_lowest ⟨Nat.le_of_ble_eq_true rfl, Nat.le_of_ble_eq_true rfl⟩ rfl hl.1 (Nat.le_of_ble_eq_true rfl) (dk DX4_reduce_0 37 rfl) ⟨Nat.zero_le _, Nat.zero_le _⟩) (fun r h1 H locs hp hH => ?_)
    obtain ⟨hr1, hr2⟩ := hp; rw [hr1]; rw [hr2] at hH; clear hr1 hr2
    refine lv_istore (lv' := [(6, .int x22), (0, .ref (q 3)), (1, .ref (q1 5)), (2, .int b2), (3, .int b3), (4, .long x19)]) X.x X.b (dk DX4_reduce_0 38 rfl) hl (by decide) rfl (fun ls hl => ?_)
    replace hl : lv_has ls 8 [(0, .ref (q 3)), (1, .ref (q1 5)), (2, .int b2), (3, .int b3), (4, .long x19), (6, .int x22)] := lv_sub hl [1, 2, 3, 4, 5, 0] rfl
    refine lv_iload X.x X.b (dk DX4_reduce_0 39 rfl) (lv_at hl 5 rfl) ?_
    refine lv_if_lt (tgt := 159) X.x X.b (dk DX4_reduce_0 40 rfl) (by decide) (fun c25 => ?_) (fun c25 => ?_)
    · replace hF := if_t hF c25
      obtain ⟨v26, e27⟩ : ∃ y : Int32, y = b3 + 1 := ⟨_, rfl⟩
      replace hF := bnd_e hF e27
      refine lv_iinc (v := v26) (lv' := [(3, .int v26), (0, .ref (q 3)), (1, .ref (q1 5)), (2, .int b2), (4, .long x19), (6, .int x22)]) X.x X.b (dk DX4_reduce_1 19 rfl) hl (k := 3) rfl (by rw [e27]; rfl) (by decide) rfl (fun ls hl => ?_)
      replace hl : lv_has ls 8 [(0, .ref (q 3)), (1, .ref (q1 5)), (2, .int b2), (3, .int v26)] := lv_sub hl [1, 2, 3, 0] rfl
      refine lv_goto (tgt := 12) X.x X.b (dk DX4_reduce_1 20 rfl) (by decide) ?_
      exact (lp_l hF hx) _ _ _ hH (lv_sub hl [0, 1, 2, 3] rfl) K0
    · replace hF := if_f hF c25
      refine lv_iload X.x X.b (dk DX4_reduce_0 41 rfl) (lv_at hl 5 rfl) ?_
      refine lv_bipush (v := 64) X.x X.b (dk DX4_reduce_0 42 rfl) (by decide) ?_
      refine lv_icmp_ge (tgt := 159) X.x X.b (dk DX4_reduce_0 43 rfl) (by decide) (fun c28 => ?_) (fun c28 => ?_)
      · replace hF := if_t hF c28
        obtain ⟨v29, e30⟩ : ∃ y : Int32, y = b3 + 1 := ⟨_, rfl⟩
        replace hF := bnd_e hF e30
        refine lv_iinc (v := v29) (lv' := [(3, .int v29), (0, .ref (q 3)), (1, .ref (q1 5)), (2, .int b2), (4, .long x19), (6, .int x22)]) X.x X.b (dk DX4_reduce_1 19 rfl) hl (k := 3) rfl (by rw [e30]; rfl) (by decide) rfl (fun ls hl => ?_)
        replace hl : lv_has ls 8 [(0, .ref (q 3)), (1, .ref (q1 5)), (2, .int b2), (3, .int v29)] := lv_sub hl [1, 2, 3, 0] rfl
        refine lv_goto (tgt := 12) X.x X.b (dk DX4_reduce_1 20 rfl) (by decide) ?_
        exact (lp_l hF hx) _ _ _ hH (lv_sub hl [0, 1, 2, 3] rfl) K0
      · replace hF := if_f hF c28
        refine lv_iconst (v := 0) X.x X.b (dk DX4_reduce_0 44 rfl) (by decide) ?_
        refine lv_istore (lv' := [(7, .int 0), (0, .ref (q 3)), (1, .ref (q1 5)), (2, .int b2), (3, .int b3), (4, .long x19), (6, .int x22)]) X.x X.b (dk DX4_reduce_0 45 rfl) hl (by decide) rfl (fun ls hl => ?_)
        replace hl : lv_has ls 8 [(0, .ref (q 3)), (1, .ref (q1 5)), (2, .int b2), (3, .int b3), (4, .long x19), (6, .int x22), (7, .int 0)] := lv_sub hl [1, 2, 3, 4, 5, 6, 0] rfl
        obtain ⟨x45, e46, hF⟩ := bd hF
        replace hl : lv_has ls 8 [(0, .ref (q 3)), (1, .ref (q1 5)), (2, .int b2), (3, .int b3), (4, .long x19), (6, .int x22), (7, .int 0)] := lv_sub hl [0, 1, 2, 3, 4, 5, 6] rfl
        refine w_X4_reduce_92 hq hq1 ha X s_o1 b2 b3 x19 x22 _ _ e46 _ _ _ hH hl (fun H locs ls hH hl => ?_)
        refine lv_aload_n X.x X.b (dk DX4_reduce_1 13 rfl) rfl (lv_at hl 0 rfl) ?_
        refine og_getR (t := 1) OX4 X hq hH 1 (by decide) rfl kF_X4_17 (dk DX4_reduce_1 14 rfl) ?_
        refine lv_iload X.x X.b (dk DX4_reduce_1 15 rfl) (lv_at hl 5 rfl) ?_
        refine lv_lload X.x X.b (dk DX4_reduce_1 16 rfl) (lv_at hl 4 rfl) ?_
        obtain ⟨c48, hF⟩ := gd hF
        refine og_last X hq hH 1 (by decide) rfl (inb_in c48) (dk DX4_reduce_1 17 rfl) (fun H locs hH => ?_)
        obtain ⟨t49, e50⟩ : ∃ y, y = oB x45 1 (vp_updL (x45.2.2.2 1) (x22 : Int32).toNatClampNeg x19) := ⟨_, rfl⟩
        rw [← e50] at hH
        replace hF := bnd_e hF e50
        obtain ⟨v51, e52⟩ : ∃ y : Int32, y = b2 + 1 := ⟨_, rfl⟩
        replace hF := bnd_e hF e52
        refine lv_iinc (v := v51) (lv' := [(2, .int v51), (0, .ref (q 3)), (1, .ref (q1 5)), (3, .int b3), (4, .long x19), (6, .int x22)]) X.x X.b (dk DX4_reduce_1 18 rfl) hl (k := 2) rfl (by rw [e52]; rfl) (by decide) rfl (fun ls hl => ?_)
        replace hl : lv_has ls 8 [(0, .ref (q 3)), (1, .ref (q1 5)), (2, .int v51), (3, .int b3)] := lv_sub hl [1, 2, 0, 3] rfl
        obtain ⟨v53, e54⟩ : ∃ y : Int32, y = b3 + 1 := ⟨_, rfl⟩
        replace hF := bnd_e hF e54
        refine lv_iinc (v := v53) (lv' := [(3, .int v53), (0, .ref (q 3)), (1, .ref (q1 5)), (2, .int v51)]) X.x X.b (dk DX4_reduce_1 19 rfl) hl (k := 3) rfl (by rw [e54]; rfl) (by decide) rfl (fun ls hl => ?_)
        replace hl : lv_has ls 8 [(0, .ref (q 3)), (1, .ref (q1 5)), (2, .int v51), (3, .int v53)] := lv_sub hl [1, 2, 3, 0] rfl
        refine lv_goto (tgt := 12) X.x X.b (dk DX4_reduce_1 20 rfl) (by decide) ?_
        exact (lp_l hF hx) _ _ _ hH (lv_sub hl [0, 1, 2, 3] rfl) K0
set_option maxHeartbeats 4000000 in
set_option maxRecDepth 100000 in
theorem c_X4_reduce {l : Launch} {G : mG} {h : mM} {q : Nat → Nat} {q1 : Nat → Nat} (hq : oinj LX4 q) (hq1 : oinj LX10 q1) (ha : oap [(LX4, q), (LX10, q1)]) {st : OS} {st1 : OS} {x : Int32 × OS} (hF : f_X4_reduce st st1 = some x) : cQ l G yX4_reduce cX4_reduce 8 (some FieldType.int) rm_X4_reduce [.ref (q 3), .ref (q1 5)] (oset LX4 G q st (oset LX10 G q1 st1 h)) (mQi G (fun r h1 => r = x.1 ∧ h1 = oset LX4 G q x.2 (oset LX10 G q1 st1 h))) := by
  refine mp_of (by decide +kernel) (Nat.le_of_ble_eq_true rfl) ?_
  intro p e s m below meth c X hr hlk hH hname ls hl
  dsimp only [f_X4_reduce] at hF
  replace hl : lv_has ls 8 [(0, .ref (q 3)), (1, .ref (q1 5))] := hl
  refine lv_aload_n X.x X.b (dk DX4_reduce_0 0 rfl) rfl (lv_at hl 0 rfl) ?_
  refine og_getR (t := 1) OX4 X hq hH 1 (by decide) rfl kF_X4_17 (dk DX4_reduce_0 1 rfl) ?_
  refine lv_lconst (v := 0) X.x X.b (dk DX4_reduce_0 2 rfl) (by decide) ?_
  refine mr_cv0 hH ⟨rfl, rfl⟩ (mr_runS (As := [.ref (q 1), .long 0]) (rest := []) X hH (c_J7_fill_d0a16 ((oset_at hq (k := 1) (by decide) rfl).trans (congrArg some (oc_k (t := 3) (n := 64) (by decide) rfl))) (by decide) 0) kM_X4_57 kT_J7_fill_d0a16 kN_J7 kC_J7_fill_d0a16 hd_J7_fill_d0a16 ⟨Nat.le_of_ble_eq_true rfl, Nat.le_of_ble_eq_true rfl⟩ rfl hl.1 (Nat.le_of_ble_eq_true rfl) (dk DX4_reduce_0 3 rfl) ⟨Nat.zero_le _, Nat.zero_le _⟩) (fun h1 H locs hp hH => ?_)
  rw [hp, oup_B hq 1 (by decide) rfl] at hH; clear hp
  obtain ⟨t1, e2⟩ : ∃ y, y = oB st 1 (fillF 64 0 (st.2.2.2 1)) := ⟨_, rfl⟩
  rw [← e2] at hH
  replace hF := bnd_e hF e2
  refine lv_iconst (v := 0) X.x X.b (dk DX4_reduce_0 4 rfl) (by decide) ?_
  refine lv_istore_n (lv' := [(2, .int 0), (0, .ref (q 3)), (1, .ref (q1 5))]) X.x X.b (dk DX4_reduce_0 5 rfl) rfl hl (by decide) rfl (fun ls hl => ?_)
  replace hl : lv_has ls 8 [(0, .ref (q 3)), (1, .ref (q1 5)), (2, .int 0)] := lv_sub hl [1, 2, 0] rfl
  refine lv_iconst (v := 0) X.x X.b (dk DX4_reduce_0 6 rfl) (by decide) ?_
  refine lv_istore_n (lv' := [(3, .int 0), (0, .ref (q 3)), (1, .ref (q1 5)), (2, .int 0)]) X.x X.b (dk DX4_reduce_0 7 rfl) rfl hl (by decide) rfl (fun ls hl => ?_)
  replace hl : lv_has ls 8 [(0, .ref (q 3)), (1, .ref (q1 5)), (2, .int 0), (3, .int 0)] := lv_sub hl [1, 2, 3, 0] rfl
  obtain ⟨x55, e56, hF⟩ := bd hF
  replace hl : lv_has ls 8 [(0, .ref (q 3)), (1, .ref (q1 5)), (2, .int 0), (3, .int 0)] := lv_sub hl [0, 1, 2, 3] rfl
  obtain ⟨t57, v58⟩ := x55
  try dsimp only at hF
  refine w_X4_reduce_12 hq hq1 ha X st1 _ _ e56 _ _ _ hH hl (fun H locs ls hH hl => ?_)
  try dsimp only at hH hl
  refine lv_iload_n X.x X.b (dk DX4_reduce_1 21 rfl) rfl (lv_at hl 0 rfl) ?_
  cases sm hF
  exact mr_iret X hr hlk hH ⟨rfl, rfl⟩ (dk DX4_reduce_1 22 rfl)
