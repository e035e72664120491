-- X10_settle
abbrev rm_X10_settle : Room := { frames := 1, cells := 0, slots := 0, locals := 22 }
theorem hd_X10_settle : mHd yX10_settle 0 := ⟨by decide +kernel, by decide +kernel, by decide +kernel⟩
theorem DX10_settle_0 : ∀ t ∈ ([(0, .iconst 0, 1), (1, .istore_n 1, 1), (2, .iload_n 1, 1), (3, .bipush 64, 2), (5, .if_icmp .ge 95, 3), (8, .lconst 0, 1), (9, .lstore_n 2, 1), (10, .lconst 0, 1), (11, .lstore 4, 2), (13, .iconst 0, 1), (14, .istore 6, 2), (16, .iload 6, 2), (18, .aload_n 0, 1), (19, .getfield 37, 3), (22, .if_icmp .ge 49, 3), (25, .iload 6, 2), (27, .bipush 64, 2), (29, .if_icmp .ge 42, 3), (32, .aload_n 0, 1), (33, .getfield 11, 3), (36, .iload 6, 2), (38, .laload, 1), (39, .iload_n 1, 1), (40, .invokestatic 50, 3), (43, .ifCond .eq 22, 3), (46, .lload_n 2, 1), (47, .aload_n 0, 1), (48, .getfield 11, 3), (51, .iload 6, 2), (53, .laload, 1), (54, .lor, 1), (55, .lstore_n 2, 1), (56, .lload 4, 2), (58, .lconst 1, 1), (59, .iload 6, 2), (61, .lshl, 1), (62, .lor, 1), (63, .lstore 4, 2), (65, .iinc 6 1, 3), (68, .goto (-52), 3), (71, .aload_n 0, 1), (72, .getfield 15, 3), (75, .iload_n 1, 1), (76, .lload_n 2, 1), (77, .lconst 1, 1), (78, .iload_n 1, 1), (79, .lshl, 1), (80, .ldc2_w 21, 3), (83, .lxor, 1), (84, .land, 1), (85, .lastore, 1), (86, .aload_n 0, 1), (87, .getfield 18, 3), (90, .iload_n 1, 1), (91, .lload 4, 2), (93, .lastore, 1), (94, .iinc 1 1, 3), (97, .goto (-95), 3), (100, .return_, 1)] : List (Nat × Instr × Nat)), decode cX10_settle t.1 = .ok (t.2.1, t.2.2) := by decide +kernel
noncomputable def f_X10_settle_16 (s_t : OS) (b1 : Int32) : (Int64 × Int64 × Int32) → Option ((Int64 × Int64 × Int32) ⊕ (Int64 × Int64)) := fun z => match z with | (b2, b4, b6) => (if (s_t.1 1) ≤ b6 then some (.inr ((b2, b4))) else (if 64 ≤ b6 then some (.inr ((b2, b4))) else if inb b6 64 = true then (f_X10_has (s_t.2.2.2 2 (b6 : Int32).toNatClampNeg) b1).bind (fun x5 => (if x5 = 0 then bnd (b6 + 1 : Int32) (fun v9 => some (.inl ((b2, b4, v9)))) else bnd (b2 ||| (s_t.2.2.2 2 (b6 : Int32).toNatClampNeg) : Int64) (fun v11 => bnd (b4 ||| (((1 : Int64)) <<< ((b6 : Int32).toInt64 &&& 63)) : Int64) (fun v13 => bnd (b6 + 1 : Int32) (fun v15 => some (.inl ((v11, v13, v15)))))))) else none))
noncomputable def f_X10_settle_2 : (OS × Int32) → Option ((OS × Int32) ⊕ (OS)) := fun z => match z with | (s_t, b1) => (if 64 ≤ b1 then some (.inr s_t) else (lpv (f_X10_settle_16 s_t b1) ((0, 0, 0))).bind (fun x17 => match x17 with | (v19, v20) => if inb b1 64 = true then bnd (oB s_t 3 (vp_updL (s_t.2.2.2 3) (b1 : Int32).toNatClampNeg (v19 &&& ((((1 : Int64)) <<< ((b1 : Int32).toInt64 &&& 63)) ^^^ ((-1)))))) (fun t22 => bnd (oB t22 4 (vp_updL (t22.2.2.2 4) (b1 : Int32).toNatClampNeg v20)) (fun t24 => bnd (b1 + 1 : Int32) (fun v26 => some (.inl ((t24, v26)))))) else none))
noncomputable def f_X10_settle (st : OS) : Option (OS) := (lpv (f_X10_settle_2) ((st, 0))).bind (fun x28 => some x28)
set_option maxHeartbeats 4000000 in
set_option maxRecDepth 100000 in
theorem w_X10_settle_16 {p : Program} {l : Launch} {e : Env} {s : State} {m : MethodId} {args : Array Value} {below : List Frame} {meth : Method} {c : Code} {Q : State → Prop} {G : mG} {h : mM} {q : Nat → Nat} (hq : oinj LX10 q) (X : mX G p m c cX10_settle 7 s args RX10) (s_t : OS) (b1 : Int32) : ∀ (z : Int64 × Int64 × Int32) (r : Int64 × Int64), lpv (f_X10_settle_16 s_t b1) z = some r → ∀ (H : Heap) (locs : List Loc) (ls : Array Slot), mH G (oset LX10 G q s_t h) s.heap H locs → lv_has ls 7 [(0, .ref (q 5)), (1, .int b1), (2, .long z.1), (4, .long z.2.1), (6, .int z.2.2)] → (∀ (H : Heap) (locs : List Loc) (ls : Array Slot), mH G (oset LX10 G q s_t h) s.heap H locs → lv_has ls 7 [(0, .ref (q 5)), (1, .int b1), (2, .long r.1), (4, .long r.2)] → W p l e rm_X10_settle s m args below meth c H locs 0 0 Q (F0 m 71 ls [])) → W p l e rm_X10_settle s m args below meth c H locs 0 0 Q (F0 m 16 ls []) := by
  refine lpv_rec ?_
  intro z r x hF hx H locs ls hH hl K0
  obtain ⟨b2, b4, b6⟩ := z
  dsimp only [f_X10_settle_16] at hF
  try dsimp only at hH hl
  refine lv_iload X.x X.b (dk DX10_settle_0 11 rfl) (lv_at hl 4 rfl) ?_
  refine lv_aload_n X.x X.b (dk DX10_settle_0 12 rfl) rfl (lv_at hl 0 rfl) ?_
  refine og_getI OX10 X hq hH 1 (by decide) rfl kF_X10_37 (dk DX10_settle_0 13 rfl) ?_
  refine lv_icmp_ge (tgt := 71) X.x X.b (dk DX10_settle_0 14 rfl) (by decide) (fun c2 => ?_) (fun c2 => ?_)
  · replace hF := if_t hF c2
    have hr9 := lp_r hF hx
    subst hr9
    exact K0 _ _ _ hH (lv_sub hl [0, 1, 2, 3] rfl)
  · replace hF := if_f hF c2
    refine lv_iload X.x X.b (dk DX10_settle_0 15 rfl) (lv_at hl 4 rfl) ?_
    refine lv_bipush (v := 64) X.x X.b (dk DX10_settle_0 16 rfl) (by decide) ?_
    refine lv_icmp_ge (tgt := 71) X.x X.b (dk DX10_settle_0 17 rfl) (by decide) (fun c3 => ?_) (fun c3 => ?_)
    · replace hF := if_t hF c3
      have hr9 := lp_r hF hx
      subst hr9
      exact K0 _ _ _ hH (lv_sub hl [0, 1, 2, 3] rfl)
    · replace hF := if_f hF c3
      refine lv_aload_n X.x X.b (dk DX10_settle_0 18 rfl) rfl (lv_at hl 0 rfl) ?_
      refine og_getR (t := 1) OX10 X hq hH 2 (by decide) rfl kF_X10_11 (dk DX10_settle_0 19 rfl) ?_
      refine lv_iload X.x X.b (dk DX10_settle_0 20 rfl) (lv_at hl 4 rfl) ?_
      obtain ⟨c4, hF⟩ := gd hF
      refine og_lald X hq hH 2 (by decide) rfl (inb_in c4) (dk DX10_settle_0 21 rfl) ?_
      refine lv_iload_n X.x X.b (dk DX10_settle_0 22 rfl) rfl (lv_at hl 1 rfl) ?_
      obtain ⟨x5, e6, hF⟩ := bd hF
      refine mr_ci0 hH ⟨rfl, rfl⟩ (mr_runS (As := [.long (s_t.2.2.2 2 (b6 : Int32).toNatClampNeg), .int b1]) (rest := []) X hH (c_X10_has e6) kM_X10_50 kT_X10_has kN_X10 kC_X10_has hd_X10_has ⟨Nat.le_of_ble_eq_true rfl, Nat.le_of_ble_eq_true rfl⟩ rfl hl.1 (Nat.le_of_ble_eq_true rfl) (dk DX10_settle_0 23 rfl) ⟨Nat.zero_le _, Nat.zero_le _⟩) (fun r h1 H locs hp hH => ?_)
      obtain ⟨hr1, hr2⟩ := hp; rw [hr1]; rw [hr2] at hH; clear hr1 hr2
      refine lv_if_eq (tgt := 65) X.x X.b (dk DX10_settle_0 24 rfl) (by decide) (fun c8 => ?_) (fun c8 => ?_)
      · replace hF := if_t hF c8
        obtain ⟨v9, e10⟩ : ∃ y : Int32, y = b6 + 1 := ⟨_, rfl⟩
        replace hF := bnd_e hF e10
        refine lv_iinc (v := v9) (lv' := [(6, .int v9), (0, .ref (q 5)), (1, .int b1), (2, .long b2), (4, .long b4)]) X.x X.b (dk DX10_settle_0 38 rfl) hl (k := 4) rfl (by rw [e10]; rfl) (by decide) rfl (fun ls hl => ?_)
        replace hl : lv_has ls 7 [(0, .ref (q 5)), (1, .int b1), (2, .long b2), (4, .long b4), (6, .int v9)] := lv_sub hl [1, 2, 3, 4, 0] rfl
        refine lv_goto (tgt := 16) X.x X.b (dk DX10_settle_0 39 rfl) (by decide) ?_
        exact (lp_l hF hx) _ _ _ hH (lv_sub hl [0, 1, 2, 3, 4] rfl) K0
      · replace hF := if_f hF c8
        refine lv_lload_n X.x X.b (dk DX10_settle_0 25 rfl) rfl (lv_at hl 2 rfl) ?_
        refine lv_aload_n X.x X.b (dk DX10_settle_0 26 rfl) rfl (lv_at hl 0 rfl) ?_
        refine og_getR (t := 1) OX10 X hq hH 2 (by decide) rfl kF_X10_11 (dk DX10_settle_0 27 rfl) ?_
        refine lv_iload X.x X.b (dk DX10_settle_0 28 rfl) (lv_at hl 4 rfl) ?_
        refine og_lald X hq hH 2 (by decide) rfl (inb_in c4) (dk DX10_settle_0 29 rfl) ?_
        refine lv_lor X.x X.b (dk DX10_settle_0 30 rfl) ?_
        refine lv_topl (fun v11 e12 => ?_)
        replace hF := bnd_e hF e12
        refine lv_lstore_n (lv' := [(2, .long v11), (0, .ref (q 5)), (1, .int b1), (4, .long b4), (6, .int b6)]) X.x X.b (dk DX10_settle_0 31 rfl) rfl hl (by decide) rfl (fun ls hl => ?_)
        replace hl : lv_has ls 7 [(0, .ref (q 5)), (1, .int b1), (2, .long v11), (4, .long b4), (6, .int b6)] := lv_sub hl [1, 2, 0, 3, 4] rfl
        refine lv_lload X.x X.b (dk DX10_settle_0 32 rfl) (lv_at hl 3 rfl) ?_
        refine lv_lconst (v := 1) X.x X.b (dk DX10_settle_0 33 rfl) (by decide) ?_
        refine lv_iload X.x X.b (dk DX10_settle_0 34 rfl) (lv_at hl 4 rfl) ?_
        refine lv_lshl X.x X.b (dk DX10_settle_0 35 rfl) rfl ?_
        refine lv_lor X.x X.b (dk DX10_settle_0 36 rfl) ?_
        refine lv_topl (fun v13 e14 => ?_)
        replace hF := bnd_e hF e14
        refine lv_lstore (lv' := [(4, .long v13), (0, .ref (q 5)), (1, .int b1), (2, .long v11), (6, .int b6)]) X.x X.b (dk DX10_settle_0 37 rfl) hl (by decide) rfl (fun ls hl => ?_)
        replace hl : lv_has ls 7 [(0, .ref (q 5)), (1, .int b1), (2, .long v11), (4, .long v13), (6, .int b6)] := lv_sub hl [1, 2, 3, 0, 4] rfl
        obtain ⟨v15, e16⟩ : ∃ y : Int32, y = b6 + 1 := ⟨_, rfl⟩
        replace hF := bnd_e hF e16
        refine lv_iinc (v := v15) (lv' := [(6, .int v15), (0, .ref (q 5)), (1, .int b1), (2, .long v11), (4, .long v13)]) X.x X.b (dk DX10_settle_0 38 rfl) hl (k := 4) rfl (by rw [e16]; rfl) (by decide) rfl (fun ls hl => ?_)
        replace hl : lv_has ls 7 [(0, .ref (q 5)), (1, .int b1), (2, .long v11), (4, .long v13), (6, .int v15)] := lv_sub hl [1, 2, 3, 4, 0] rfl
        refine lv_goto (tgt := 16) X.x X.b (dk DX10_settle_0 39 rfl) (by decide) ?_
        exact (lp_l hF hx) _ _ _ hH (lv_sub hl [0, 1, 2, 3, 4] rfl) K0
set_option maxHeartbeats 4000000 in
set_option maxRecDepth 100000 in
theorem w_X10_settle_2 {p : Program} {l : Launch} {e : Env} {s : State} {m : MethodId} {args : Array Value} {below : List Frame} {meth : Method} {c : Code} {Q : State → Prop} {G : mG} {h : mM} {q : Nat → Nat} (hq : oinj LX10 q) (X : mX G p m c cX10_settle 7 s args RX10) : ∀ (z : OS × Int32) (r : OS), lpv (f_X10_settle_2) z = some r → ∀ (H : Heap) (locs : List Loc) (ls : Array Slot), mH G (oset LX10 G q z.1 h) s.heap H locs → lv_has ls 7 [(0, .ref (q 5)), (1, .int z.2)] → (∀ (H : Heap) (locs : List Loc) (ls : Array Slot), mH G (oset LX10 G q r h) s.heap H locs → lv_has ls 7 [] → W p l e rm_X10_settle s m args below meth c H locs 0 0 Q (F0 m 100 ls [])) → W p l e rm_X10_settle s m args below meth c H locs 0 0 Q (F0 m 2 ls []) := by
  refine lpv_rec ?_
  intro z r x hF hx H locs ls hH hl K0
  obtain ⟨s_t, b1⟩ := z
  dsimp only [f_X10_settle_2] at hF
  try dsimp only at hH hl
  refine lv_iload_n X.x X.b (dk DX10_settle_0 2 rfl) rfl (lv_at hl 1 rfl) ?_
  refine lv_bipush (v := 64) X.x X.b (dk DX10_settle_0 3 rfl) (by decide) ?_
  refine lv_icmp_ge (tgt := 100) X.x X.b (dk DX10_settle_0 4 rfl) (by decide) (fun c1 => ?_) (fun c1 => ?_)
  · replace hF := if_t hF c1
    have hr9 := lp_r hF hx
    subst hr9
    exact K0 _ _ _ hH (lv_sub hl [] rfl)
  · replace hF := if_f hF c1
    refine lv_lconst (v := 0) X.x X.b (dk DX10_settle_0 5 rfl) (by decide) ?_
    refine lv_lstore_n (lv' := [(2, .long 0), (0, .ref (q 5)), (1, .int b1)]) X.x X.b (dk DX10_settle_0 6 rfl) rfl hl (by decide) rfl (fun ls hl => ?_)
    replace hl : lv_has ls 7 [(0, .ref (q 5)), (1, .int b1), (2, .long 0)] := lv_sub hl [1, 2, 0] rfl
    refine lv_lconst (v := 0) X.x X.b (dk DX10_settle_0 7 rfl) (by decide) ?_
    refine lv_lstore (lv' := [(4, .long 0), (0, .ref (q 5)), (1, .int b1), (2, .long 0)]) X.x X.b (dk DX10_settle_0 8 rfl) hl (by decide) rfl (fun ls hl => ?_)
    replace hl : lv_has ls 7 [(0, .ref (q 5)), (1, .int b1), (2, .long 0), (4, .long 0)] := lv_sub hl [1, 2, 3, 0] rfl
    refine lv_iconst (v := 0) X.x X.b (dk DX10_settle_0 9 rfl) (by decide) ?_
    refine lv_istore (lv' := [(6, .int 0), (0, .ref (q 5)), (1, .int b1), (2, .long 0), (4, .long 0)]) X.x X.b (dk DX10_settle_0 10 rfl) hl (by decide) rfl (fun ls hl => ?_)
    replace hl : lv_has ls 7 [(0, .ref (q 5)), (1, .int b1), (2, .long 0), (4, .long 0), (6, .int 0)] := lv_sub hl [1, 2, 3, 4, 0] rfl
    obtain ⟨x17, e18, hF⟩ := bd hF
    replace hl : lv_has ls 7 [(0, .ref (q 5)), (1, .int b1), (2, .long 0), (4, .long 0), (6, .int 0)] := lv_sub hl [0, 1, 2, 3, 4] rfl
    obtain ⟨v19, v20⟩ := x17
    try dsimp only at hF
    refine w_X10_settle_16 hq X s_t b1 _ _ e18 _ _ _ hH hl (fun H locs ls hH hl => ?_)
    try dsimp only at hH hl
    refine lv_aload_n X.x X.b (dk DX10_settle_0 40 rfl) rfl (lv_at hl 0 rfl) ?_
    refine og_getR (t := 1) OX10 X hq hH 3 (by decide) rfl kF_X10_15 (dk DX10_settle_0 41 rfl) ?_
    refine lv_iload_n X.x X.b (dk DX10_settle_0 42 rfl) rfl (lv_at hl 1 rfl) ?_
    refine lv_lload_n X.x X.b (dk DX10_settle_0 43 rfl) rfl (lv_at hl 2 rfl) ?_
    refine lv_lconst (v := 1) X.x X.b (dk DX10_settle_0 44 rfl) (by decide) ?_
    refine lv_iload_n X.x X.b (dk DX10_settle_0 45 rfl) rfl (lv_at hl 1 rfl) ?_
    refine lv_lshl X.x X.b (dk DX10_settle_0 46 rfl) rfl ?_
    refine lv_ldc2 (v := (-1)) X.x X.b X.ow (X.ts _ kK_X10_21) (dk DX10_settle_0 47 rfl) ?_
    refine lv_lxor X.x X.b (dk DX10_settle_0 48 rfl) ?_
    refine lv_land X.x X.b (dk DX10_settle_0 49 rfl) ?_
    obtain ⟨c21, hF⟩ := gd hF
    refine og_last X hq hH 3 (by decide) rfl (inb_in c21) (dk DX10_settle_0 50 rfl) (fun H locs hH => ?_)
    obtain ⟨t22, e23⟩ : ∃ y, y = oB s_t 3 (vp_updL (s_t.2.2.2 3) (b1 : Int32).toNatClampNeg (v19 &&& ((((1 : Int64)) <<< ((b1 : Int32).toInt64 &&& 63)) ^^^ ((-1))))) := ⟨_, rfl⟩
    rw [← e23] at hH
    replace hF := bnd_e hF e23
    refine lv_aload_n X.x X.b (dk DX10_settle_0 51 rfl) rfl (lv_at hl 0 rfl) ?_
    refine og_getR (t := 1) OX10 X hq hH 4 (by decide) rfl kF_X10_18 (dk DX10_settle_0 52 rfl) ?_
    refine lv_iload_n X.x X.b (dk DX10_settle_0 53 rfl) rfl (lv_at hl 1 rfl) ?_
    refine lv_lload X.x X.b (dk DX10_settle_0 54 rfl) (lv_at hl 3 rfl) ?_
    refine og_last X hq hH 4 (by decide) rfl (inb_in c21) (dk DX10_settle_0 55 rfl) (fun H locs hH => ?_)
    obtain ⟨t24, e25⟩ : ∃ y, y = oB t22 4 (vp_updL (t22.2.2.2 4) (b1 : Int32).toNatClampNeg v20) := ⟨_, rfl⟩
    rw [← e25] at hH
    replace hF := bnd_e hF e25
    obtain ⟨v26, e27⟩ : ∃ y : Int32, y = b1 + 1 := ⟨_, rfl⟩
    replace hF := bnd_e hF e27
    refine lv_iinc (v := v26) (lv' := [(1, .int v26), (0, .ref (q 5)), (2, .long v19), (4, .long v20)]) X.x X.b (dk DX10_settle_0 56 rfl) hl (k := 1) rfl (by rw [e27]; rfl) (by decide) rfl (fun ls hl => ?_)
    replace hl : lv_has ls 7 [(0, .ref (q 5)), (1, .int v26)] := lv_sub hl [1, 0] rfl
    refine lv_goto (tgt := 2) X.x X.b (dk DX10_settle_0 57 rfl) (by decide) ?_
    exact (lp_l hF hx) _ _ _ hH (lv_sub hl [0, 1] rfl) K0
set_option maxHeartbeats 4000000 in
set_option maxRecDepth 100000 in
theorem c_X10_settle {l : Launch} {G : mG} {h : mM} {q : Nat → Nat} (hq : oinj LX10 q) {st : OS} {x : OS} (hF : f_X10_settle st = some x) : cQ l G yX10_settle cX10_settle 7 none rm_X10_settle [.ref (q 5)] (oset LX10 G q st h) (mQv G (fun h1 => h1 = oset LX10 G q x h)) := by
  refine mp_of (by decide +kernel) (Nat.le_of_ble_eq_true rfl) ?_
  intro p e s m below meth c X hr hlk hH hname ls hl
  dsimp only [f_X10_settle] at hF
  replace hl : lv_has ls 7 [(0, .ref (q 5))] := hl
  refine lv_iconst (v := 0) X.x X.b (dk DX10_settle_0 0 rfl) (by decide) ?_
  refine lv_istore_n (lv' := [(1, .int 0), (0, .ref (q 5))]) X.x X.b (dk DX10_settle_0 1 rfl) rfl hl (by decide) rfl (fun ls hl => ?_)
  replace hl : lv_has ls 7 [(0, .ref (q 5)), (1, .int 0)] := lv_sub hl [1, 0] rfl
  obtain ⟨x28, e29, hF⟩ := bd hF
  replace hl : lv_has ls 7 [(0, .ref (q 5)), (1, .int 0)] := lv_sub hl [0, 1] rfl
  refine w_X10_settle_2 hq X _ _ e29 _ _ _ hH hl (fun H locs ls hH hl => ?_)
  cases sm hF
  exact mr_vret X hr hlk hH rfl (dk DX10_settle_0 58 rfl)
-- X5_read
abbrev rm_X5_read : Room := { frames := 9, cells := 0, slots := 0, locals := 193 }
theorem hd_X5_read : mHd yX5_read 2 := ⟨by decide +kernel, by decide +kernel, by decide +kernel⟩
theorem DX5_read_0 : ∀ t ∈ ([(0, .aload_n 0, 1), (1, .iload_n 1, 1), (2, .sipush 700, 3), (5, .invokestatic 29, 3), (8, .putfield 35, 3), (11, .aload_n 0, 1), (12, .iconst 0, 1), (13, .putfield 38, 3), (16, .aload_n 0, 1), (17, .iconst 0, 1), (18, .putfield 41, 3), (21, .aload_n 0, 1), (22, .iconst (-1), 1), (23, .putfield 22, 3), (26, .aload_n 2, 1), (27, .iconst 0, 1), (28, .invokevirtual 44, 3), (31, .aload_n 0, 1), (32, .invokevirtual 50, 3), (35, .aload_n 0, 1), (36, .getfield 53, 3), (39, .ifCond .eq 8, 3), (42, .aload_n 0, 1), (43, .aload_n 2, 1), (44, .invokevirtual 56, 3), (47, .iconst 0, 1), (48, .istore_n 3, 1), (49, .iload_n 3, 1), (50, .sipush 700, 3), (53, .if_icmp .ge 28, 3), (56, .aload_n 0, 1), (57, .getfield 41, 3), (60, .ifCond .ne 21, 3), (63, .aload_n 0, 1), (64, .getfield 53, 3), (67, .ifCond .eq 14, 3), (70, .aload_n 0, 1), (71, .aload_n 2, 1), (72, .invokevirtual 60, 3), (75, .iinc 3 1, 3), (78, .goto (-29), 3), (81, .aload_n 2, 1), (82, .invokevirtual 63, 3), (85, .aload_n 0, 1), (86, .iconst 0, 1), (87, .putfield 26, 3), (90, .aload_n 0, 1), (91, .getfield 41, 3), (94, .ifCond .ne 7, 3), (97, .iconst 1, 1), (98, .goto 4, 3), (101, .iconst 0, 1), (102, .ireturn, 1)] : List (Nat × Instr × Nat)), decode cX5_read t.1 = .ok (t.2.1, t.2.2) := by decide +kernel
noncomputable def f_X5_read_49 (s_mk : OS) : (OS × OS × Int32) → Option ((OS × OS × Int32) ⊕ (OS × OS)) := fun z => match z with | (s_t, s_o2, b3) => (if 700 ≤ b3 then some (.inr ((s_t, s_o2))) else (if (s_t.1 8) = 0 then (if (s_t.1 4) = 0 then some (.inr ((s_t, s_o2))) else (f_X5_readLine s_t s_mk s_o2).bind (fun x22 => match x22 with | (t24, t25) => bnd (b3 + 1 : Int32) (fun v26 => some (.inl ((t24, t25, v26)))))) else some (.inr ((s_t, s_o2)))))
noncomputable def f_X5_read (st : OS) (st_mk : OS) (st2 : OS) (a0 : Int32) : Option (Int32 × OS × OS) := (f_J9_min_7cf53 a0 700).bind (fun x1 => bnd (oI st 3 x1) (fun t4 => bnd (oI t4 7 0) (fun t6 => bnd (oI t6 8 0) (fun t8 => bnd (oI t8 9 ((-1))) (fun t10 => (f_X10_clear st2 0).bind (fun x12 => (f_X5_step t10 st_mk).bind (fun x15 => (if (x15.1 4) = 0 then (lpv (f_X5_read_49 st_mk) ((x15, x12, 0))).bind (fun x28 => match x28 with | (t30, t31) => (f_X10_settle t31).bind (fun x32 => bnd (oI t30 2 0) (fun t35 => (if (t35.1 8) = 0 then some ((1, t35, x32)) else some ((0, t35, x32)))))) else (f_X5_readFirst x15 st_mk x12).bind (fun x38 => match x38 with | (t40, t41) => (lpv (f_X5_read_49 st_mk) ((t40, t41, 0))).bind (fun x42 => match x42 with | (t44, t45) => (f_X10_settle t45).bind (fun x46 => bnd (oI t44 2 0) (fun t49 => (if (t49.1 8) = 0 then some ((1, t49, x46)) else some ((0, t49, x46)))))))))))))))
set_option maxHeartbeats 4000000 in
set_option maxRecDepth 100000 in
theorem w_X5_read_49 {p : Program} {l : Launch} {e : Env} {s : State} {m : MethodId} {args : Array Value} {below : List Frame} {meth : Method} {c : Code} {Q : State → Prop} {G : mG} {h : mM} {q : Nat → Nat} {q_mk : Nat → Nat} {q2 : Nat → Nat} (hq : oinj LX5 q) (hq_mk : oinj LX3 q_mk) (hq2 : oinj LX10 q2) (ha : oap [(LX5, q), (LX3, q_mk), (LX10, q2)]) (lk_mk : q 0 = q_mk 3) (X : mX G p m c cX5_read 4 s args RX5) (s_mk : OS) : ∀ (z : OS × OS × Int32) (r : OS × OS), lpv (f_X5_read_49 s_mk) z = some r → ∀ (H : Heap) (locs : List Loc) (ls : Array Slot), mH G (oset LX5 G q z.1 (oset LX3 G q_mk s_mk (oset LX10 G q2 z.2.1 h))) s.heap H locs → lv_has ls 4 [(0, .ref (q 10)), (2, .ref (q2 5)), (3, .int z.2.2)] → (∀ (H : Heap) (locs : List Loc) (ls : Array Slot), mH G (oset LX5 G q r.1 (oset LX3 G q_mk s_mk (oset LX10 G q2 r.2 h))) s.heap H locs → lv_has ls 4 [(0, .ref (q 10)), (2, .ref (q2 5))] → W p l e rm_X5_read s m args below meth c H locs 0 0 Q (F0 m 81 ls [])) → W p l e rm_X5_read s m args below meth c H locs 0 0 Q (F0 m 49 ls []) := by
  refine lpv_rec ?_
  intro z r x hF hx H locs ls hH hl K0
  obtain ⟨s_t, s_o2, b3⟩ := z
  dsimp only [f_X5_read_49] at hF
  try dsimp only at hH hl
  refine lv_iload_n X.x X.b (dk DX5_read_0 27 rfl) rfl (lv_at hl 2 rfl) ?_
  refine lv_sipush (v := 700) X.x X.b (dk DX5_read_0 28 rfl) (by decide) ?_
  refine lv_icmp_ge (tgt := 81) X.x X.b (dk DX5_read_0 29 rfl) (by decide) (fun c19 => ?_) (fun c19 => ?_)
  · replace hF := if_t hF c19
    have hr9 := lp_r hF hx
    subst hr9
    exact K0 _ _ _ hH (lv_sub hl [0, 1] rfl)
  · replace hF := if_f hF c19
    refine lv_aload_n X.x X.b (dk DX5_read_0 30 rfl) rfl (lv_at hl 0 rfl) ?_
    refine og_getI OX5 X hq hH 8 (by decide) rfl kF_X5_41 (dk DX5_read_0 31 rfl) ?_
    refine lv_if_ne (tgt := 81) X.x X.b (dk DX5_read_0 32 rfl) (by decide) (fun c20 => ?_) (fun c20 => ?_)
    · replace hF := if_f hF c20
      have hr9 := lp_r hF hx
      subst hr9
      exact K0 _ _ _ hH (lv_sub hl [0, 1] rfl)
    · replace hF := if_t hF c20
      refine lv_aload_n X.x X.b (dk DX5_read_0 33 rfl) rfl (lv_at hl 0 rfl) ?_
      refine og_getI OX5 X hq hH 4 (by decide) rfl kF_X5_53 (dk DX5_read_0 34 rfl) ?_
      refine lv_if_eq (tgt := 81) X.x X.b (dk DX5_read_0 35 rfl) (by decide) (fun c21 => ?_) (fun c21 => ?_)
      · replace hF := if_t hF c21
        have hr9 := lp_r hF hx
        subst hr9
        exact K0 _ _ _ hH (lv_sub hl [0, 1] rfl)
      · replace hF := if_f hF c21
        refine lv_aload_n X.x X.b (dk DX5_read_0 36 rfl) rfl (lv_at hl 0 rfl) ?_
        refine lv_aload_n X.x X.b (dk DX5_read_0 37 rfl) rfl (lv_at hl 1 rfl) ?_
        obtain ⟨x22, e23, hF⟩ := bd hF
        refine mr_cv0 hH ⟨rfl, rfl⟩ (mr_runV (As := [.ref (q2 5)]) (rest := []) X hH (c_X5_readLine hq hq_mk hq2 ha lk_mk e23) ((oset_at hq (Nat.le_refl _) ohas_N).trans (congrArg some ocell_N)) OX5.1 kM_X5_60 kI_X5_readLine kS_X5_readLine kN_X5 kC_X5_readLine hd_X5_readLine ⟨Nat.le_of_ble_eq_true rfl, Nat.le_of_ble_eq_true rfl⟩ rfl hl.1 (Nat.le_of_ble_eq_true rfl) (dk DX5_read_0 38 rfl) ⟨Nat.zero_le _, Nat.zero_le _⟩) (fun h1 H locs hp hH => ?_)
        rw [hp] at hH; clear hp
        obtain ⟨t24, t25⟩ := x22
        try dsimp only at hF hH ⊢
        obtain ⟨v26, e27⟩ : ∃ y : Int32, y = b3 + 1 := ⟨_, rfl⟩
        replace hF := bnd_e hF e27
        refine lv_iinc (v := v26) (lv' := [(3, .int v26), (0, .ref (q 10)), (2, .ref (q2 5))]) X.x X.b (dk DX5_read_0 39 rfl) hl (k := 2) rfl (by rw [e27]; rfl) (by decide) rfl (fun ls hl => ?_)
        replace hl : lv_has ls 4 [(0, .ref (q 10)), (2, .ref (q2 5)), (3, .int v26)] := lv_sub hl [1, 2, 0] rfl
        refine lv_goto (tgt := 49) X.x X.b (dk DX5_read_0 40 rfl) (by decide) ?_
        exact (lp_l hF hx) _ _ _ hH (lv_sub hl [0, 1, 2] rfl) K0
set_option maxHeartbeats 4000000 in
set_option maxRecDepth 100000 in
theorem c_X5_read {l : Launch} {G : mG} {h : mM} {q : Nat → Nat} {q_mk : Nat → Nat} {q2 : Nat → Nat} (hq : oinj LX5 q) (hq_mk : oinj LX3 q_mk) (hq2 : oinj LX10 q2) (ha : oap [(LX5, q), (LX3, q_mk), (LX10, q2)]) (lk_mk : q 0 = q_mk 3) {st : OS} {st_mk : OS} {st2 : OS} {a0 : Int32} {x : Int32 × OS × OS} (hF : f_X5_read st st_mk st2 a0 = some x) : cQ l G yX5_read cX5_read 4 (some FieldType.boolean) rm_X5_read [.ref (q 10), .int a0, .ref (q2 5)] (oset LX5 G q st (oset LX3 G q_mk st_mk (oset LX10 G q2 st2 h))) (mQi G (fun r h1 => r = x.1 ∧ h1 = oset LX5 G q x.2.1 (oset LX3 G q_mk st_mk (oset LX10 G q2 x.2.2 h)))) := by
  refine mp_of (by decide +kernel) (Nat.le_of_ble_eq_true rfl) ?_
  intro p e s m below meth c X hr hlk hH hname ls hl
  dsimp only [f_X5_read] at hF
  replace hl : lv_has ls 4 [(0, .ref (q 10)), (1, .int a0), (2, .ref (q2 5))] := hl
  refine lv_aload_n X.x X.b (dk DX5_read_0 0 rfl) rfl (lv_at hl 0 rfl) ?_
  refine lv_iload_n X.x X.b (dk DX5_read_0 1 rfl) rfl (lv_at hl 1 rfl) ?_
  refine lv_sipush (v := 700) X.x X.b (dk DX5_read_0 2 rfl) (by decide) ?_
  obtain ⟨x1, e2, hF⟩ := bd hF
  refine mr_ci0 hH ⟨rfl, rfl⟩ (mr_runS (As := [.int a0, .int 700]) (rest := [.ref (q 10)]) X hH (c_J9_min_7cf53 e2) kM_X5_29 kT_J9_min_7cf53 kN_J9 kC_J9_min_7cf53 hd_J9_min_7cf53 ⟨Nat.le_of_ble_eq_true rfl, Nat.le_of_ble_eq_true rfl⟩ rfl hl.1 (Nat.le_of_ble_eq_true rfl) (dk DX5_read_0 3 rfl) ⟨Nat.zero_le _, Nat.zero_le _⟩) (fun r h1 H locs hp hH => ?_)
  obtain ⟨hr1, hr2⟩ := hp; rw [hr1]; rw [hr2] at hH; clear hr1 hr2
  refine og_putI OX5 X hq hH 3 (by decide) rfl kF_X5_35 rfl rfl rfl (dk DX5_read_0 4 rfl) (fun H locs hH => ?_)
  obtain ⟨t4, e5⟩ : ∃ y, y = oI st 3 x1 := ⟨_, rfl⟩
  rw [← e5] at hH
  replace hF := bnd_e hF e5
  refine lv_aload_n X.x X.b (dk DX5_read_0 5 rfl) rfl (lv_at hl 0 rfl) ?_
  refine lv_iconst (v := 0) X.x X.b (dk DX5_read_0 6 rfl) (by decide) ?_
  refine og_putI OX5 X hq hH 7 (by decide) rfl kF_X5_38 rfl rfl rfl (dk DX5_read_0 7 rfl) (fun H locs hH => ?_)
  obtain ⟨t6, e7⟩ : ∃ y, y = oI t4 7 0 := ⟨_, rfl⟩
  rw [← e7] at hH
  replace hF := bnd_e hF e7
  refine lv_aload_n X.x X.b (dk DX5_read_0 8 rfl) rfl (lv_at hl 0 rfl) ?_
  refine lv_iconst (v := 0) X.x X.b (dk DX5_read_0 9 rfl) (by decide) ?_
  refine og_putI OX5 X hq hH 8 (by decide) rfl kF_X5_41 rfl rfl rfl (dk DX5_read_0 10 rfl) (fun H locs hH => ?_)
  obtain ⟨t8, e9⟩ : ∃ y, y = oI t6 8 0 := ⟨_, rfl⟩
  rw [← e9] at hH
  replace hF := bnd_e hF e9
  refine lv_aload_n X.x X.b (dk DX5_read_0 11 rfl) rfl (lv_at hl 0 rfl) ?_
  refine lv_iconst (v := (-1)) X.x X.b (dk DX5_read_0 12 rfl) (by decide) ?_
  refine og_putI OX5 X hq hH 9 (by decide) rfl kF_X5_22 rfl rfl rfl (dk DX5_read_0 13 rfl) (fun H locs hH => ?_)
  obtain ⟨t10, e11⟩ : ∃ y, y = oI t8 9 ((-1)) := ⟨_, rfl⟩
  rw [← e11] at hH
  replace hF := bnd_e hF e11
  refine lv_aload_n X.x X.b (dk DX5_read_0 14 rfl) rfl (lv_at hl 2 rfl) ?_
  refine lv_iconst (v := 0) X.x X.b (dk DX5_read_0 15 rfl) (by decide) ?_
  obtain ⟨x12, e13, hF⟩ := bd hF
  refine mr_cv0 (mH_perm (l1 := [(LX5, q, t10), (LX3, q_mk, st_mk), (LX10, q2, st2)]) (l2 := [(LX10, q2, st2), (LX5, q, t10), (LX3, q_mk, st_mk)]) ha [2, 0, 1] [1, 2, 0] rfl rfl rfl hH) ⟨rfl, rfl⟩ (mr_runV (As := [.int 0]) (rest := []) X (mH_perm (l1 := [(LX5, q, t10), (LX3, q_mk, st_mk), (LX10, q2, st2)]) (l2 := [(LX10, q2, st2), (LX5, q, t10), (LX3, q_mk, st_mk)]) ha [2, 0, 1] [1, 2, 0] rfl rfl rfl hH) (c_X10_clear hq2 e13) ((oset_at hq2 (Nat.le_refl _) ohas_N).trans (congrArg some ocell_N)) OX10.1 kM_X5_44 kI_X10_clear kS_X10_clear kN_X10 kC_X10_clear hd_X10_clear ⟨Nat.le_of_ble_eq_true rfl, Nat.le_of_ble_eq_true rfl⟩ rfl hl.1 (Nat.le_of_ble_eq_true rfl) (dk DX5_read_0 16 rfl) ⟨Nat.zero_le _, Nat.zero_le _⟩) (fun h1 H locs hp hH => ?_)
  rw [hp] at hH; clear hp
  replace hH : mH G (oset LX5 G q t10 (oset LX3 G q_mk st_mk (oset LX10 G q2 x12 h))) s.heap H locs := mH_unperm (l1 := [(LX5, q, t10), (LX3, q_mk, st_mk), (LX10, q2, x12)]) (l2 := [(LX10, q2, x12), (LX5, q, t10), (LX3, q_mk, st_mk)]) ha [2, 0, 1] [1, 2, 0] rfl rfl rfl hH
  refine lv_aload_n X.x X.b (dk DX5_read_0 17 rfl) rfl (lv_at hl 0 rfl) ?_
  obtain ⟨x15, e16, hF⟩ := bd hF
  refine mr_cv0 hH ⟨rfl, rfl⟩ (mr_runV (As := []) (rest := []) X hH (c_X5_step hq hq_mk (oap_sub ha [0, 1] rfl rfl) lk_mk e16) ((oset_at hq (Nat.le_refl _) ohas_N).trans (congrArg some ocell_N)) OX5.1 kM_X5_50 kI_X5_step kS_X5_step kN_X5 kC_X5_step hd_X5_step ⟨Nat.le_of_ble_eq_true rfl, Nat.le_of_ble_eq_true rfl⟩ rfl hl.1 (Nat.le_of_ble_eq_true rfl) (dk DX5_read_0 18 rfl) ⟨Nat.zero_le _, Nat.zero_le _⟩) (fun h1 H locs hp hH => ?_)
  rw [hp] at hH; clear hp
  refine lv_aload_n X.x X.b (dk DX5_read_0 19 rfl) rfl (lv_at hl 0 rfl) ?_
  refine og_getI OX5 X hq hH 4 (by decide) rfl kF_X5_53 (dk DX5_read_0 20 rfl) ?_
  refine lv_if_eq (tgt := 47) X.x X.b (dk DX5_read_0 21 rfl) (by decide) (fun c18 => ?_) (fun c18 => ?_)
  · replace hF := if_t hF c18
    refine lv_iconst (v := 0) X.x X.b (dk DX5_read_0 25 rfl) (by decide) ?_
    refine lv_istore_n (lv' := [(3, .int 0), (0, .ref (q 10)), (1, .int a0), (2, .ref (q2 5))]) X.x X.b (dk DX5_read_0 26 rfl) rfl hl (by decide) rfl (fun ls hl => ?_)
    replace hl : lv_has ls 4 [(0, .ref (q 10)), (2, .ref (q2 5)), (3, .int 0)] := lv_sub hl [1, 3, 0] rfl
    obtain ⟨x28, e29, hF⟩ := bd hF
    replace hl : lv_has ls 4 [(0, .ref (q 10)), (2, .ref (q2 5)), (3, .int 0)] := lv_sub hl [0, 1, 2] rfl
    obtain ⟨t30, t31⟩ := x28
    try dsimp only at hF
    refine w_X5_read_49 hq hq_mk hq2 ha lk_mk X st_mk _ _ e29 _ _ _ hH hl (fun H locs ls hH hl => ?_)
    try dsimp only at hH hl
    refine lv_aload_n X.x X.b (dk DX5_read_0 41 rfl) rfl (lv_at hl 1 rfl) ?_
    obtain ⟨x32, e33, hF⟩ := bd hF
    refine mr_cv0 (mH_perm (l1 := [(LX5, q, t30), (LX3, q_mk, st_mk), (LX10, q2, t31)]) (l2 := [(LX10, q2, t31), (LX5, q, t30), (LX3, q_mk, st_mk)]) ha [2, 0, 1] [1, 2, 0] rfl rfl rfl hH) ⟨rfl, rfl⟩ (mr_runV (As := []) (rest := []) X (mH_perm (l1 := [(LX5, q, t30), (LX3, q_mk, st_mk), (LX10, q2, t31)]) (l2 := [(LX10, q2, t31), (LX5, q, t30), (LX3, q_mk, st_mk)]) ha [2, 0, 1] [1, 2, 0] rfl rfl rfl hH) (c_X10_settle hq2 e33) ((oset_at hq2 (Nat.le_refl _) ohas_N).trans (congrArg some ocell_N)) OX10.1 kM_X5_63 kI_X10_settle kS_X10_settle kN_X10 kC_X10_settle hd_X10_settle ⟨Nat.le_of_ble_eq_true rfl, Nat.le_of_ble_eq_true rfl⟩ rfl hl.1 (Nat.le_of_ble_eq_true rfl) (dk DX5_read_0 42 rfl) ⟨Nat.zero_le _, Nat.zero_le _⟩) (fun h1 H locs hp hH => ?_)
    rw [hp] at hH; clear hp
    replace hH : mH G (oset LX5 G q t30 (oset LX3 G q_mk st_mk (oset LX10 G q2 x32 h))) s.heap H locs := mH_unperm (l1 := [(LX5, q, t30), (LX3, q_mk, st_mk), (LX10, q2, x32)]) (l2 := [(LX10, q2, x32), (LX5, q, t30), (LX3, q_mk, st_mk)]) ha [2, 0, 1] [1, 2, 0] rfl rfl rfl hH
    refine lv_aload_n X.x X.b (dk DX5_read_0 43 rfl) rfl (lv_at hl 0 rfl) ?_
    refine lv_iconst (v := 0) X.x X.b (dk DX5_read_0 44 rfl) (by decide) ?_
    refine og_putI OX5 X hq hH 2 (by decide) rfl kF_X5_26 rfl rfl rfl (dk DX5_read_0 45 rfl) (fun H locs hH => ?_)
    obtain ⟨t35, e36⟩ : ∃ y, y = oI t30 2 0 := ⟨_, rfl⟩
    rw [← e36] at hH
    replace hF := bnd_e hF e36
    refine lv_aload_n X.x X.b (dk DX5_read_0 46 rfl) rfl (lv_at hl 0 rfl) ?_
    refine og_getI OX5 X hq hH 8 (by decide) rfl kF_X5_41 (dk DX5_read_0 47 rfl) ?_
    refine lv_if_ne (tgt := 101) X.x X.b (dk DX5_read_0 48 rfl) (by decide) (fun c37 => ?_) (fun c37 => ?_)
    · replace hF := if_f hF c37
      refine lv_iconst (v := 0) X.x X.b (dk DX5_read_0 51 rfl) (by decide) ?_
      cases sm hF
      exact mr_zret X hr hlk hH rfl ⟨rfl, rfl⟩ (dk DX5_read_0 52 rfl)
    · replace hF := if_t hF c37
      refine lv_iconst (v := 1) X.x X.b (dk DX5_read_0 49 rfl) (by decide) ?_
      refine lv_goto (tgt := 102) X.x X.b (dk DX5_read_0 50 rfl) (by decide) ?_
      cases sm hF
      exact mr_zret X hr hlk hH rfl ⟨rfl, rfl⟩ (dk DX5_read_0 52 rfl)
  · replace hF := if_f hF c18
    refine lv_aload_n X.x X.b (dk DX5_read_0 22 rfl) rfl (lv_at hl 0 rfl) ?_
    refine lv_aload_n X.x X.b (dk DX5_read_0 23 rfl) rfl (lv_at hl 2 rfl) ?_
    obtain ⟨x38, e39, hF⟩ := bd hF
    refine mr_cv0 hH ⟨rfl, rfl⟩ (mr_runV (As := [.ref (q2 5)]) (rest := []) X hH (c_X5_readFirst hq hq_mk hq2 ha lk_mk e39) ((oset_at hq (Nat.le_refl _) ohas_N).trans (congrArg some ocell_N)) OX5.1 kM_X5_56 kI_X5_readFirst kS_X5_readFirst kN_X5 kC_X5_readFirst hd_X5_readFirst ⟨Nat.le_of_ble_eq_true rfl, Nat.le_of_ble_eq_true rfl⟩ rfl hl.1 (Nat.le_of_ble_eq_true rfl) (dk DX5_read_0 24 rfl) ⟨Nat.zero_le _, Nat.zero_le _⟩) (fun h1 H locs hp hH => ?_)
    rw [hp] at hH; clear hp
    obtain ⟨t40, t41⟩ := x38
    try dsimp only at hF hH ⊢
    refine lv_iconst (v := 0) X.x X.b (dk DX5_read_0 25 rfl) (by decide) ?_
    refine lv_istore_n (lv' := [(3, .int 0), (0, .ref (q 10)), (1, .int a0), (2, .ref (q2 5))]) X.x X.b (dk DX5_read_0 26 rfl) rfl hl (by decide) rfl (fun ls hl => ?_)
    replace hl : lv_has ls 4 [(0, .ref (q 10)), (2, .ref (q2 5)), (3, .int 0)] := lv_sub hl [1, 3, 0] rfl
    obtain ⟨x42, e43, hF⟩ := bd hF
    replace hl : lv_has ls 4 [(0, .ref (q 10)), (2, .ref (q2 5)), (3, .int 0)] := lv_sub hl [0, 1, 2] rfl
    obtain ⟨t44, t45⟩ := x42
    try dsimp only at hF
    refine w_X5_read_49 hq hq_mk hq2 ha lk_mk X st_mk _ _ e43 _ _ _ hH hl (fun H locs ls hH hl => ?_)
    try dsimp only at hH hl
    refine lv_aload_n X.x X.b (dk DX5_read_0 41 rfl) rfl (lv_at hl 1 rfl) ?_
    obtain ⟨x46, e47, hF⟩ := bd hF
    refine mr_cv0 (mH_perm (l1 := [(LX5, q, t44), (LX3, q_mk, st_mk), (LX10, q2, t45)]) (l2 := [(LX10, q2, t45), (LX5, q, t44), (LX3, q_mk, st_mk)]) ha [2, 0, 1] [1, 2, 0] rfl rfl rfl hH) ⟨rfl, rfl⟩ (mr_runV (As := []) (rest := []) X (mH_perm (l1 := [(LX5, q, t44), (LX3, q_mk, st_mk), (LX10, q2, t45)]) (l2 := [(LX10, q2, t45), (LX5, q, t44), (LX3, q_mk, st_mk)]) ha [2, 0, 1] [1, 2, 0] rfl rfl rfl hH) (c_X10_settle hq2 e47) ((oset_at hq2 (Nat.le_refl _) ohas_N).trans (congrArg some ocell_N)) OX10.1 kM_X5_63 kI_X10_settle kS_X10_settle kN_X10 kC_X10_settle hd_X10_settle ⟨Nat.le_of_ble_eq_true rfl, Nat.le_of_ble_eq_true rfl⟩ rfl hl.1 (Nat.le_of_ble_eq_true rfl) (dk DX5_read_0 42 rfl) ⟨Nat.zero_le _, Nat.zero_le _⟩) (fun h1 H locs hp hH => ?_)
    rw [hp] at hH; clear hp
    replace hH : mH G (oset LX5 G q t44 (oset LX3 G q_mk st_mk (oset LX10 G q2 x46 h))) s.heap H locs := mH_unperm (l1 := [(LX5, q, t44), (LX3, q_mk, st_mk), (LX10, q2, x46)]) (l2 := [(LX10, q2, x46), (LX5, q, t44), (LX3, q_mk, st_mk)]) ha [2, 0, 1] [1, 2, 0] rfl rfl rfl hH
    refine lv_aload_n X.x X.b (dk DX5_read_0 43 rfl) rfl (lv_at hl 0 rfl) ?_
    refine lv_iconst (v := 0) X.x X.b (dk DX5_read_0 44 rfl) (by decide) ?_
    refine og_putI OX5 X hq hH 2 (by decide) rfl kF_X5_26 rfl rfl rfl (dk DX5_read_0 45 rfl) (fun H locs hH => ?_)
    obtain ⟨t49, e50⟩ : ∃ y, y = oI t44 2 0 := ⟨_, rfl⟩
    rw [← e50] at hH
    replace hF := bnd_e hF e50
    refine lv_aload_n X.x X.b (dk DX5_read_0 46 rfl) rfl (lv_at hl 0 rfl) ?_
    refine og_getI OX5 X hq hH 8 (by decide) rfl kF_X5_41 (dk DX5_read_0 47 rfl) ?_
    refine lv_if_ne (tgt := 101) X.x X.b (dk DX5_read_0 48 rfl) (by decide) (fun c51 => ?_) (fun c51 => ?_)
    · replace hF := if_f hF c51
      refine lv_iconst (v := 0) X.x X.b (dk DX5_read_0 51 rfl) (by decide) ?_
      cases sm hF
      exact mr_zret X hr hlk hH rfl ⟨rfl, rfl⟩ (dk DX5_read_0 52 rfl)
    · replace hF := if_t hF c51
      refine lv_iconst (v := 1) X.x X.b (dk DX5_read_0 49 rfl) (by decide) ?_
      refine lv_goto (tgt := 102) X.x X.b (dk DX5_read_0 50 rfl) (by decide) ?_
      cases sm hF
      exact mr_zret X hr hlk hH rfl ⟨rfl, rfl⟩ (dk DX5_read_0 52 rfl)
-- X6_evenBy
abbrev rm_X6_evenBy : Room := { frames := 1, cells := 0, slots := 0, locals := 21 }
theorem hd_X6_evenBy : mHd yX6_evenBy 2 := ⟨by decide +kernel, by decide +kernel, by decide +kernel⟩
theorem DX6_evenBy_0 : ∀ t ∈ ([(0, .aload_n 0, 1), (1, .getfield 9, 3), (4, .ifCond .ne 5, 3), (7, .iconst (-1), 1), (8, .ireturn, 1), (9, .aload_n 0, 1), (10, .iconst 0, 1), (11, .invokevirtual 15, 3), (14, .lload_n 1, 1), (15, .land, 1), (16, .invokestatic 19, 3), (19, .istore_n 3, 1), (20, .iconst 1, 1), (21, .istore 4, 2), (23, .iload 4, 2), (25, .aload_n 0, 1), (26, .getfield 9, 3), (29, .if_icmp .ge 26, 3), (32, .aload_n 0, 1), (33, .iload 4, 2), (35, .invokevirtual 15, 3), (38, .lload_n 1, 1), (39, .land, 1), (40, .invokestatic 19, 3), (43, .iload_n 3, 1), (44, .if_icmp .eq 5, 3), (47, .iconst (-1), 1), (48, .ireturn, 1), (49, .iinc 4 1, 3), (52, .goto (-29), 3), (55, .iload_n 3, 1), (56, .ireturn, 1)] : List (Nat × Instr × Nat)), decode cX6_evenBy t.1 = .ok (t.2.1, t.2.2) := by decide +kernel
noncomputable def f_X6_evenBy_23 (s_o1 : OS) (b1 : Int64) (b3 : Int32) : Int32 → Option ((Int32) ⊕ (Nat)) := fun b4 => (if (s_o1.1 1) ≤ b4 then some (.inr 1) else (f_X10_setAt s_o1 b4).bind (fun x9 => (f_J13_bitCount_95d88 (x9 &&& b1)).bind (fun x12 => (if x12 = b3 then bnd (b4 + 1 : Int32) (fun v16 => some (.inl v16)) else some (.inr 0)))))
noncomputable def f_X6_evenBy (st1 : OS) (a1 : Int64) : Option (Int32) := (if (st1.1 1) = 0 then some ((-1)) else (f_X10_setAt st1 0).bind (fun x2 => (f_J13_bitCount_95d88 (x2 &&& a1)).bind (fun x5 => (lpv (f_X6_evenBy_23 st1 a1 x5) 1).bind (fun x18 => (if x18 = 0 then some ((-1)) else some x5)))))
set_option maxHeartbeats 4000000 in
set_option maxRecDepth 100000 in
theorem w_X6_evenBy_23 {p : Program} {l : Launch} {e : Env} {s : State} {m : MethodId} {args : Array Value} {below : List Frame} {meth : Method} {c : Code} {Q : State → Prop} {G : mG} {h : mM} {q1 : Nat → Nat} (hq1 : oinj LX10 q1) (X : mX G p m c cX6_evenBy 5 s args RX6) (s_o1 : OS) (b1 : Int64) (b3 : Int32) : ∀ (z : Int32) (r : Nat), lpv (f_X6_evenBy_23 s_o1 b1 b3) z = some r → ∀ (H : Heap) (locs : List Loc) (ls : Array Slot), mH G (oset LX10 G q1 s_o1 h) s.heap H locs → lv_has ls 5 [(0, .ref (q1 5)), (1, .long b1), (3, .int b3), (4, .int z)] → (r = 0 → ∀ (H : Heap) (locs : List Loc) (ls : Array Slot), mH G (oset LX10 G q1 s_o1 h) s.heap H locs → lv_has ls 5 [] → W p l e rm_X6_evenBy s m args below meth c H locs 0 0 Q (F0 m 47 ls [])) → (r = 1 → ∀ (H : Heap) (locs : List Loc) (ls : Array Slot), mH G (oset LX10 G q1 s_o1 h) s.heap H locs → lv_has ls 5 [(3, .int b3)] → W p l e rm_X6_evenBy s m args below meth c H locs 0 0 Q (F0 m 55 ls [])) → W p l e rm_X6_evenBy s m args below meth c H locs 0 0 Q (F0 m 23 ls []) := by
  refine lpv_rec ?_
  intro z r x hF hx H locs ls hH hl K0 K1
  obtain ⟨b4, hz⟩ : ∃ y, y = z := ⟨_, rfl⟩
  subst hz
  dsimp only [f_X6_evenBy_23] at hF
  refine lv_iload X.x X.b (dk DX6_evenBy_0 14 rfl) (lv_at hl 3 rfl) ?_
  refine lv_aload_n X.x X.b (dk DX6_evenBy_0 15 rfl) rfl (lv_at hl 0 rfl) ?_
  refine og_getIN OX10 X hq1 hH 1 (by decide) rfl kFN_X6_9 (dk DX6_evenBy_0 16 rfl) ?_
  refine lv_icmp_ge (tgt := 55) X.x X.b (dk DX6_evenBy_0 17 rfl) (by decide) (fun c8 => ?_) (fun c8 => ?_)
  · replace hF := if_t hF c8
    have hr9 := lp_r hF hx
    subst hr9
    exact K1 rfl _ _ _ hH (lv_sub hl [2] rfl)
  · replace hF := if_f hF c8
    refine lv_aload_n X.x X.b (dk DX6_evenBy_0 18 rfl) rfl (lv_at hl 0 rfl) ?_
    refine lv_iload X.x X.b (dk DX6_evenBy_0 19 rfl) (lv_at hl 3 rfl) ?_
    obtain ⟨x9, e10, hF⟩ := bd hF
    refine mr_cl0 hH ⟨rfl, rfl⟩ (mr_runV (As := [.int b4]) (rest := []) X hH (c_X10_setAt hq1 e10) ((oset_at hq1 (Nat.le_refl _) ohas_N).trans (congrArg some ocell_N)) OX10.1 kM_X6_15 kI_X10_setAt kS_X10_setAt kN_X10 kC_X10_setAt hd_X10_setAt ⟨Nat.le_of_ble_eq_true rfl, Nat.le_of_ble_eq_true rfl⟩ rfl hl.1 (Nat.le_of_ble_eq_true rfl) (dk DX6_evenBy_0 20 rfl) ⟨Nat.zero_le _, Nat.zero_le _⟩) (fun r h1 H locs hp hH => ?_)
    obtain ⟨hr1, hr2⟩ := hp; rw [hr1]; rw [hr2] at hH; clear hr1 hr2
    refine lv_lload_n X.x X.b (dk DX6_evenBy_0 21 rfl) rfl (lv_at hl 1 rfl) ?_
    refine lv_land X.x X.b (dk DX6_evenBy_0 22 rfl) ?_
    obtain ⟨x12, e13, hF⟩ := bd hF
    refine mr_ci0 hH ⟨rfl, rfl⟩ (mr_runS (As := [.long (x9 &&& b1)]) (rest := []) X hH (c_J13_bitCount_95d88 e13) kM_X6_19 kT_J13_bitCount_95d88 kN_J13 kC_J13_bitCount_95d88 hd_J13_bitCount_95d88 ⟨Nat.le_of_ble_eq_true rfl, Nat.le_of_ble_eq_true rfl⟩ rfl hl.1 (Nat.le_of_ble_eq_true rfl) (dk DX6_evenBy_0 23 rfl) ⟨Nat.zero_le _, Nat.zero_le _⟩) (fun r h1 H locs hp hH => ?_)
    obtain ⟨hr1, hr2⟩ := hp; rw [hr1]; rw [hr2] at hH; clear hr1 hr2
    refine lv_iload_n X.x X.b (dk DX6_evenBy_0 24 rfl) rfl (lv_at hl 2 rfl) ?_
    refine lv_icmp_eq (tgt := 49) X.x X.b (dk DX6_evenBy_0 25 rfl) (by decide) (fun c15 => ?_) (fun c15 => ?_)
    · replace hF := if_t hF c15
      obtain ⟨v16, e17⟩ : ∃ y : Int32, y = b4 + 1 := ⟨_, rfl⟩
      replace hF := bnd_e hF e17
      refine lv_iinc (v := v16) (lv' := [(4, .int v16), (0, .ref (q1 5)), (1, .long b1), (3, .int b3)]) X.x X.b (dk DX6_evenBy_0 28 rfl) hl (k := 3) rfl (by rw [e17]; rfl) (by decide) rfl (fun ls hl => ?_)
      replace hl : lv_has ls 5 [(0, .ref (q1 5)), (1, .long b1), (3, .int b3), (4, .int v16)] := lv_sub hl [1, 2, 3, 0] rfl
      refine lv_goto (tgt := 23) X.x X.b (dk DX6_evenBy_0 29 rfl) (by decide) ?_
      exact (lp_l hF hx) _ _ _ hH (lv_sub hl [0, 1, 2, 3] rfl) K0 K1
    · replace hF := if_f hF c15
      have hr9 := lp_r hF hx
      subst hr9
      exact K0 rfl _ _ _ hH (lv_sub hl [] rfl)
set_option maxHeartbeats 4000000 in
set_option maxRecDepth 100000 in
theorem c_X6_evenBy {l : Launch} {G : mG} {h : mM} {q1 : Nat → Nat} (hq1 : oinj LX10 q1) {st1 : OS} {a1 : Int64} {x : Int32} (hF : f_X6_evenBy st1 a1 = some x) : cQ l G yX6_evenBy cX6_evenBy 5 (some FieldType.int) rm_X6_evenBy [.ref (q1 5), .long a1] (oset LX10 G q1 st1 h) (mQi G (fun r h1 => r = x ∧ h1 = oset LX10 G q1 st1 h)) := by
  refine mp_of (by decide +kernel) (Nat.le_of_ble_eq_true rfl) ?_
  intro p e s m below meth c X hr hlk hH hname ls hl
  dsimp only [f_X6_evenBy] at hF
  replace hl : lv_has ls 5 [(0, .ref (q1 5)), (1, .long a1)] := hl
  refine lv_aload_n X.x X.b (dk DX6_evenBy_0 0 rfl) rfl (lv_at hl 0 rfl) ?_
  refine og_getIN OX10 X hq1 hH 1 (by decide) rfl kFN_X6_9 (dk DX6_evenBy_0 1 rfl) ?_
  refine lv_if_ne (tgt := 9) X.x X.b (dk DX6_evenBy_0 2 rfl) (by decide) (fun c1 => ?_) (fun c1 => ?_)
  · replace hF := if_f hF c1
    refine lv_aload_n X.x X.b (dk DX6_evenBy_0 5 rfl) rfl (lv_at hl 0 rfl) ?_
    refine lv_iconst (v := 0) X.x X.b (dk DX6_evenBy_0 6 rfl) (by decide) ?_
    obtain ⟨x2, e3, hF⟩ := bd hF
    refine mr_cl0 hH ⟨rfl, rfl⟩ (mr_runV (As := [.int 0]) (rest := []) X hH (c_X10_setAt hq1 e3) ((oset_at hq1 (Nat.le_refl _) ohas_N).trans (congrArg some ocell_N)) OX10.1 kM_X6_15 kI_X10_setAt kS_X10_setAt kN_X10 kC_X10_setAt hd_X10_setAt ⟨Nat.le_of_ble_eq_true rfl, Nat.le_of_ble_eq_true rfl⟩ rfl hl.1 (Nat.le_of_ble_eq_true rfl) (dk DX6_evenBy_0 7 rfl) ⟨Nat.zero_le _, Nat.zero_le _⟩) (fun r h1 H locs hp hH => ?_)
    obtain ⟨hr1, hr2⟩ := hp; rw [hr1]; rw [hr2] at hH; clear hr1 hr2
    refine lv_lload_n X.x X.b (dk DX6_evenBy_0 8 rfl) rfl (lv_at hl 1 rfl) ?_
    refine lv_land X.x X.b (dk DX6_evenBy_0 9 rfl) ?_
    obtain ⟨x5, e6, hF⟩ := bd hF
    refine mr_ci0 hH ⟨rfl, rfl⟩ (mr_runS (As := [.long (x2 &&& a1)]) (rest := []) X hH (c_J13_bitCount_95d88 e6) kM_X6_19 kT_J13_bitCount_95d88 kN_J13 kC_J13_bitCount_95d88 hd_J13_bitCount_95d88 ⟨Nat.le_of_ble_eq_true rfl, Nat.le_of_ble_eq_true rfl⟩ rfl hl.1 (Nat.le_of_ble_eq_true rfl) (dk DX6_evenBy_0 10 rfl) ⟨Nat.zero_le _, Nat.zero_le _⟩) (fun r h1 H locs hp hH => ?_)
    obtain ⟨hr1, hr2⟩ := hp; rw [hr1]; rw [hr2] at hH; clear hr1 hr2
    refine lv_istore_n (lv' := [(3, .int x5), (0, .ref (q1 5)), (1, .long a1)]) X.x X.b (dk DX6_evenBy_0 11 rfl) rfl hl (by decide) rfl (fun ls hl => ?_)
    replace hl : lv_has ls 5 [(0, .ref (q1 5)), (1, .long a1), (3, .int x5)] := lv_sub hl [1, 2, 0] rfl
    refine lv_iconst (v := 1) X.x X.b (dk DX6_evenBy_0 12 rfl) (by decide) ?_
    refine lv_istore (lv' := [(4, .int 1), (0, .ref (q1 5)), (1, .long a1), (3, .int x5)]) X.x X.b (dk DX6_evenBy_0 13 rfl) hl (by decide) rfl (fun ls hl => ?_)
    replace hl : lv_has ls 5 [(0, .ref (q1 5)), (1, .long a1), (3, .int x5), (4, .int 1)] := lv_sub hl [1, 2, 3, 0] rfl
    obtain ⟨x18, e19, hF⟩ := bd hF
    replace hl : lv_has ls 5 [(0, .ref (q1 5)), (1, .long a1), (3, .int x5), (4, .int 1)] := lv_sub hl [0, 1, 2, 3] rfl
    refine w_X6_evenBy_23 hq1 X st1 a1 x5 _ _ e19 _ _ _ hH hl (fun hk H locs ls hH hl => ?_) (fun hk H locs ls hH hl => ?_)
    · subst hk
      replace hF := if_t hF rfl
      refine lv_iconst (v := (-1)) X.x X.b (dk DX6_evenBy_0 26 rfl) (by decide) ?_
      cases sm hF
      exact mr_iret X hr hlk hH ⟨rfl, rfl⟩ (dk DX6_evenBy_0 27 rfl)
    · subst hk
      replace hF := if_f hF (by decide)
      refine lv_iload_n X.x X.b (dk DX6_evenBy_0 30 rfl) rfl (lv_at hl 0 rfl) ?_
      cases sm hF
      exact mr_iret X hr hlk hH ⟨rfl, rfl⟩ (dk DX6_evenBy_0 31 rfl)
  · replace hF := if_t hF c1
    refine lv_iconst (v := (-1)) X.x X.b (dk DX6_evenBy_0 3 rfl) (by decide) ?_
    cases sm hF
    exact mr_iret X hr hlk hH ⟨rfl, rfl⟩ (dk DX6_evenBy_0 4 rfl)
-- X6_canBeEven
abbrev rm_X6_canBeEven : Room := { frames := 1, cells := 0, slots := 0, locals := 22 }
theorem hd_X6_canBeEven : mHd yX6_canBeEven 4 := ⟨by decide +kernel, by decide +kernel, by decide +kernel⟩
theorem DX6_canBeEven_0 : ∀ t ∈ ([(0, .iload_n 2, 1), (1, .iconst 1, 1), (2, .iadd, 1), (3, .invokestatic 41, 3), (6, .ldc2_w 44, 3), (9, .lxor, 1), (10, .lstore 5, 2), (12, .aload_n 0, 1), (13, .iload_n 2, 1), (14, .invokevirtual 34, 3), (17, .lstore 7, 2), (19, .iconst 0, 1), (20, .istore 9, 2), (22, .iload 9, 2), (24, .aload_n 0, 1), (25, .getfield 9, 3), (28, .if_icmp .ge 59, 3), (31, .lload 7, 2), (33, .iload 9, 2), (35, .invokestatic 46, 3), (38, .ifCond .eq 43, 3), (41, .aload_n 0, 1), (42, .iload 9, 2), (44, .invokevirtual 15, 3), (47, .lload_n 3, 1), (48, .land, 1), (49, .invokestatic 19, 3), (52, .istore 10, 2), (54, .iload 10, 2), (56, .iload_n 1, 1), (57, .if_icmp .gt 22, 3), (60, .iload 10, 2), (62, .aload_n 0, 1), (63, .iload 9, 2), (65, .invokevirtual 15, 3), (68, .lload 5, 2), (70, .land, 1), (71, .invokestatic 19, 3), (74, .iadd, 1), (75, .iload_n 1, 1), (76, .if_icmp .ge 5, 3), (79, .iconst 0, 1), (80, .ireturn, 1), (81, .iinc 9 1, 3), (84, .goto (-62), 3), (87, .iconst 1, 1), (88, .ireturn, 1)] : List (Nat × Instr × Nat)), decode cX6_canBeEven t.1 = .ok (t.2.1, t.2.2) := by decide +kernel
noncomputable def f_X6_canBeEven_22 (s_o1 : OS) (b1 : Int32) (b3 : Int64) (b5 : Int64) (b7 : Int64) : Int32 → Option ((Int32) ⊕ (Nat)) := fun b9 => (if (s_o1.1 1) ≤ b9 then some (.inr 1) else (f_X10_has b7 b9).bind (fun x10 => (if x10 = 0 then bnd (b9 + 1 : Int32) (fun v14 => some (.inl v14)) else (f_X10_setAt s_o1 b9).bind (fun x16 => (f_J13_bitCount_95d88 (x16 &&& b3)).bind (fun x19 => (if b1 < x19 then some (.inr 0) else (f_X10_setAt s_o1 b9).bind (fun x23 => (f_J13_bitCount_95d88 (x23 &&& b5)).bind (fun x26 => (if b1 ≤ (x19 + x26) then bnd (b9 + 1 : Int32) (fun v30 => some (.inl v30)) else some (.inr 0))))))))))
noncomputable def f_X6_canBeEven (st1 : OS) (a1 : Int32) (a2 : Int32) (a3 : Int64) : Option (Int32) := (f_X10_first (a2 + 1)).bind (fun x1 => bnd (x1 ^^^ ((-1)) : Int64) (fun v4 => (f_X10_throughAt st1 a2).bind (fun x6 => (lpv (f_X6_canBeEven_22 st1 a1 a3 v4 x6) 0).bind (fun x32 => (if x32 = 0 then some 0 else some 1)))))
set_option maxHeartbeats 4000000 in
set_option maxRecDepth 100000 in
theorem w_X6_canBeEven_22 {p : Program} {l : Launch} {e : Env} {s : State} {m : MethodId} {args : Array Value} {below : List Frame} {meth : Method} {c : Code} {Q : State → Prop} {G : mG} {h : mM} {q1 : Nat → Nat} (hq1 : oinj LX10 q1) (X : mX G p m c cX6_canBeEven 11 s args RX6) (s_o1 : OS) (b1 : Int32) (b3 : Int64) (b5 : Int64) (b7 : Int64) : ∀ (z : Int32) (r : Nat), lpv (f_X6_canBeEven_22 s_o1 b1 b3 b5 b7) z = some r → ∀ (H : Heap) (locs : List Loc) (ls : Array Slot), mH G (oset LX10 G q1 s_o1 h) s.heap H locs → lv_has ls 11 [(0, .ref (q1 5)), (1, .int b1), (3, .long b3), (5, .long b5), (7, .long b7), (9, .int z)] → (r = 0 → ∀ (H : Heap) (locs : List Loc) (ls : Array Slot), mH G (oset LX10 G q1 s_o1 h) s.heap H locs → lv_has ls 11 [] → W p l e rm_X6_canBeEven s m args below meth c H locs 0 0 Q (F0 m 79 ls [])) → (r = 1 → ∀ (H : Heap) (locs : List Loc) (ls : Array Slot), mH G (oset LX10 G q1 s_o1 h) s.heap H locs → lv_has ls 11 [] → W p l e rm_X6_canBeEven s m args below meth c H locs 0 0 Q (F0 m 87 ls [])) → W p l e rm_X6_canBeEven s m args below meth c H locs 0 0 Q (F0 m 22 ls []) := by
  refine lpv_rec ?_
  intro z r x hF hx H locs ls hH hl K0 K1
  obtain ⟨b9, hz⟩ : ∃ y, y = z := ⟨_, rfl⟩
  subst hz
  dsimp only [f_X6_canBeEven_22] at hF
  refine lv_iload X.x X.b (dk DX6_canBeEven_0 13 rfl) (lv_at hl 5 rfl) ?_
  refine lv_aload_n X.x X.b (dk DX6_canBeEven_0 14 rfl) rfl (lv_at hl 0 rfl) ?_
  refine og_getIN OX10 X hq1 hH 1 (by decide) rfl kFN_X6_9 (dk DX6_canBeEven_0 15 rfl) ?_
  refine lv_icmp_ge (tgt := 87) X.x X.b (dk DX6_canBeEven_0 16 rfl) (by decide) (fun c9 => ?_) (fun c9 => ?_)
  · replace hF := if_t hF c9
    have hr9 := lp_r hF hx
    subst hr9
    exact K1 rfl _ _ _ hH (lv_sub hl [] rfl)
  · replace hF := if_f hF c9
    refine lv_lload X.x X.b (dk DX6_canBeEven_0 17 rfl) (lv_at hl 4 rfl) ?_
    refine lv_iload X.x X.b (dk DX6_canBeEven_0 18 rfl) (lv_at hl 5 rfl) ?_
    obtain ⟨x10, e11, hF⟩ := bd hF
    refine mr_ci0 hH ⟨rfl, rfl⟩ (mr_runS (As := [.long b7, .int b9]) (rest := []) X hH (c_X10_has e11) kM_X6_46 kT_X10_has kN_X10 kC_X10_has hd_X10_has ⟨Nat.le_of_ble_eq_true rfl, Nat.le_of_ble_eq_true rfl⟩ rfl hl.1 (Nat.le_of_ble_eq_true rfl) (dk DX6_canBeEven_0 19 rfl) ⟨Nat.zero_le _, Nat.zero_le _⟩) (fun r h1 H locs hp hH => ?_)
    obtain ⟨hr1, hr2⟩ := hp; rw [hr1]; rw [hr2] at hH; clear hr1 hr2
    refine lv_if_eq (tgt := 81) X.x X.b (dk DX6_canBeEven_0 20 rfl) (by decide) (fun c13 => ?_) (fun c13 => ?_)
    · replace hF := if_t hF c13
      obtain ⟨v14, e15⟩ : ∃ y : Int32, y = b9 + 1 := ⟨_, rfl⟩
      replace hF := bnd_e hF e15
      refine lv_iinc (v := v14) (lv' := [(9, .int v14), (0, .ref (q1 5)), (1, .int b1), (3, .long b3), (5, .long b5), (7, .long b7)]) X.x X.b (dk DX6_canBeEven_0 43 rfl) hl (k := 5) rfl (by rw [e15]; rfl) (by decide) rfl (fun ls hl => ?_)
      replace hl : lv_has ls 11 [(0, .ref (q1 5)), (1, .int b1), (3, .long b3), (5, .long b5), (7, .long b7), (9, .int v14)] := lv_sub hl [1, 2, 3, 4, 5, 0] rfl
      refine lv_goto (tgt := 22) X.x X.b (dk DX6_canBeEven_0 44 rfl) (by decide) ?_
      exact (lp_l hF hx) _ _ _ hH (lv_sub hl [0, 1, 2, 3, 4, 5] rfl) K0 K1
    · replace hF := if_f hF c13
      refine lv_aload_n X.x X.b (dk DX6_canBeEven_0 21 rfl) rfl (lv_at hl 0 rfl) ?_
      refine lv_iload X.x X.b (dk DX6_canBeEven_0 22 rfl) (lv_at hl 5 rfl) ?_
      obtain ⟨x16, e17, hF⟩ := bd hF
      refine mr_cl0 hH ⟨rfl, rfl⟩ (mr_runV (As := [.int b9]) (rest := []) X hH (c_X10_setAt hq1 e17) ((oset_at hq1 (Nat.le_refl _) ohas_N).trans (congrArg some ocell_N)) OX10.1 kM_X6_15 kI_X10_setAt kS_X10_setAt kN_X10 kC_X10_setAt hd_X10_setAt ⟨Nat.le_of_ble_eq_true rfl, Nat.le_of_ble_eq_true rfl⟩ rfl hl.1 (Nat.le_of_ble_eq_true rfl) (dk DX6_canBeEven_0 23 rfl) ⟨Nat.zero_le _, Nat.zero_le _⟩) (fun r h1 H locs hp hH => ?_)
      obtain ⟨hr1, hr2⟩ := hp; rw [hr1]; rw [hr2] at hH; clear hr1 hr2
      refine lv_lload_n X.x X.b (dk DX6_canBeEven_0 24 rfl) rfl (lv_at hl 2 rfl) ?_
      refine lv_land X.x X.b (dk DX6_canBeEven_0 25 rfl) ?_
      obtain ⟨x19, e20, hF⟩ := bd hF
      refine mr_ci0 hH ⟨rfl, rfl⟩ (mr_runS (As := [.long (x16 &&& b3)]) (rest := []) X hH (c_J13_bitCount_95d88 e20) kM_X6_19 kT_J13_bitCount_95d88 kN_J13 kC_J13_bitCount_95d88 hd_J13_bitCount_95d88 ⟨Nat.le_of_ble_eq_true rfl, Nat.le_of_ble_eq_true rfl⟩ rfl hl.1 (Nat.le_of_ble_eq_true rfl) (dk DX6_canBeEven_0 26 rfl) ⟨Nat.zero_le _, Nat.zero_le _⟩) (fun r h1 H locs hp hH => ?_)
      obtain ⟨hr1, hr2⟩ := hp; rw [hr1]; rw [hr2] at hH; clear hr1 hr2
      refine lv_istore (lv' := [(10, .int x19), (0, .ref (q1 5)), (1, .int b1), (3, .long b3), (5, .long b5), (7, .long b7), (9, .int b9)]) X.x X.b (dk DX6_canBeEven_0 27 rfl) hl (by decide) rfl (fun ls hl => ?_)
      replace hl : lv_has ls 11 [(0, .ref (q1 5)), (1, .int b1), (3, .long b3), (5, .long b5), (7, .long b7), (9, .int b9), (10, .int x19)] := lv_sub hl [1, 2, 3, 4, 5, 6, 0] rfl
      refine lv_iload X.x X.b (dk DX6_canBeEven_0 28 rfl) (lv_at hl 6 rfl) ?_
      refine lv_iload_n X.x X.b (dk DX6_canBeEven_0 29 rfl) rfl (lv_at hl 1 rfl) ?_
      refine lv_icmp_gt (tgt := 79) X.x X.b (dk DX6_canBeEven_0 30 rfl) (by decide) (fun c22 => ?_) (fun c22 => ?_)
      · replace hF := if_t hF c22
        have hr9 := lp_r hF hx
        subst hr9
        exact K0 rfl _ _ _ hH (lv_sub hl [] rfl)
      · replace hF := if_f hF c22
        refine lv_iload X.x X.b (dk DX6_canBeEven_0 31 rfl) (lv_at hl 6 rfl) ?_
        refine lv_aload_n X.x X.b (dk DX6_canBeEven_0 32 rfl) rfl (lv_at hl 0 rfl) ?_
        refine lv_iload X.x X.b (dk DX6_canBeEven_0 33 rfl) (lv_at hl 5 rfl) ?_
        obtain ⟨x23, e24, hF⟩ := bd hF
        refine mr_cl0 hH ⟨rfl, rfl⟩ (mr_runV (As := [.int b9]) (rest := [.int x19]) X hH (c_X10_setAt hq1 e24) ((oset_at hq1 (Nat.le_refl _) ohas_N).trans (congrArg some ocell_N)) OX10.1 kM_X6_15 kI_X10_setAt kS_X10_setAt kN_X10 kC_X10_setAt hd_X10_setAt ⟨Nat.le_of_ble_eq_true rfl, Nat.le_of_ble_eq_true rfl⟩ rfl hl.1 (Nat.le_of_ble_eq_true rfl) (dk DX6_canBeEven_0 34 rfl) ⟨Nat.zero_le _, Nat.zero_le _⟩) (fun r h1 H locs hp hH => ?_)
        obtain ⟨hr1, hr2⟩ := hp; rw [hr1]; rw [hr2] at hH; clear hr1 hr2
        refine lv_lload X.x X.b (dk DX6_canBeEven_0 35 rfl) (lv_at hl 3 rfl) ?_
        refine lv_land X.x X.b (dk DX6_canBeEven_0 36 rfl) ?_
        obtain ⟨x26, e27, hF⟩ := bd hF
        refine mr_ci0 hH ⟨rfl, rfl⟩ (mr_runS (As := [.long (x23 &&& b5)]) (rest := [.int x19]) X hH (c_J13_bitCount_95d88 e27) kM_X6_19 kT_J13_bitCount_95d88 kN_J13 kC_J13_bitCount_95d88 hd_J13_bitCount_95d88 ⟨Nat.le_of_ble_eq_true rfl, Nat.le_of_ble_eq_true rfl⟩ rfl hl.1 (Nat.le_of_ble_eq_true rfl) (dk DX6_canBeEven_0 37 rfl) ⟨Nat.zero_le _, Nat.zero_le _⟩) (fun r h1 H locs hp hH => ?_)
        obtain ⟨hr1, hr2⟩ := hp; rw [hr1]; rw [hr2] at hH; clear hr1 hr2
        refine lv_iadd X.x X.b (dk DX6_canBeEven_0 38 rfl) ?_
        refine lv_iload_n X.x X.b (dk DX6_canBeEven_0 39 rfl) rfl (lv_at hl 1 rfl) ?_
        refine lv_icmp_ge (tgt := 81) X.x X.b (dk DX6_canBeEven_0 40 rfl) (by decide) (fun c29 => ?_) (fun c29 => ?_)
        · replace hF := if_t hF c29
          obtain ⟨v30, e31⟩ : ∃ y : Int32, y = b9 + 1 := ⟨_, rfl⟩
          replace hF := bnd_e hF e31
          refine lv_iinc (v := v30) (lv' := [(9, .int v30), (0, .ref (q1 5)), (1, .int b1), (3, .long b3), (5, .long b5), (7, .long b7), (10, .int x19)]) X.x X.b (dk DX6_canBeEven_0 43 rfl) hl (k := 5) rfl (by rw [e31]; rfl) (by decide) rfl (fun ls hl => ?_)
          replace hl : lv_has ls 11 [(0, .ref (q1 5)), (1, .int b1), (3, .long b3), (5, .long b5), (7, .long b7), (9, .int v30)] := lv_sub hl [1, 2, 3, 4, 5, 0] rfl
          refine lv_goto (tgt := 22) X.x X.b (dk DX6_canBeEven_0 44 rfl) (by decide) ?_
          exact (lp_l hF hx) _ _ _ hH (lv_sub hl [0, 1, 2, 3, 4, 5] rfl) K0 K1
        · replace hF := if_f hF c29
          have hr9 := lp_r hF hx
          subst hr9
          exact K0 rfl _ _ _ hH (lv_sub hl [] rfl)
set_option maxHeartbeats 4000000 in
set_option maxRecDepth 100000 in
theorem c_X6_canBeEven {l : Launch} {G : mG} {h : mM} {q1 : Nat → Nat} (hq1 : oinj LX10 q1) {st1 : OS} {a1 : Int32} {a2 : Int32} {a3 : Int64} {x : Int32} (hF : f_X6_canBeEven st1 a1 a2 a3 = some x) : cQ l G yX6_canBeEven cX6_canBeEven 11 (some FieldType.boolean) rm_X6_canBeEven [.ref (q1 5), .int a1, .int a2, .long a3] (oset LX10 G q1 st1 h) (mQi G (fun r h1 => r = x ∧ h1 = oset LX10 G q1 st1 h)) := by
  refine mp_of (by decide +kernel) (Nat.le_of_ble_eq_true rfl) ?_
  intro p e s m below meth c X hr hlk hH hname ls hl
  dsimp only [f_X6_canBeEven] at hF
  replace hl : lv_has ls 11 [(0, .ref (q1 5)), (1, .int a1), (2, .int a2), (3, .long a3)] := hl
  refine lv_iload_n X.x X.b (dk DX6_canBeEven_0 0 rfl) rfl (lv_at hl 2 rfl) ?_
  refine lv_iconst (v := 1) X.x X.b (dk DX6_canBeEven_0 1 rfl) (by decide) ?_
  refine lv_iadd X.x X.b (dk DX6_canBeEven_0 2 rfl) ?_
  obtain ⟨x1, e2, hF⟩ := bd hF
  refine mr_cl0 hH ⟨rfl, rfl⟩ (mr_runS (As := [.int (a2 + 1)]) (rest := []) X hH (c_X10_first e2) kM_X6_41 kT_X10_first kN_X10 kC_X10_first hd_X10_first ⟨Nat.le_of_ble_eq_true rfl, Nat.le_of_ble_eq_true rfl⟩ rfl hl.1 (Nat.le_of_ble_eq_true rfl) (dk DX6_canBeEven_0 3 rfl) ⟨Nat.zero_le _, Nat.zero_le _⟩) (fun r h1 H locs hp hH => ?_)
  obtain ⟨hr1, hr2⟩ := hp; rw [hr1]; rw [hr2] at hH; clear hr1 hr2
  refine lv_ldc2 (v := (-1)) X.x X.b X.ow (X.ts _ kK_X6_44) (dk DX6_canBeEven_0 4 rfl) ?_
  refine lv_lxor X.x X.b (dk DX6_canBeEven_0 5 rfl) ?_
  refine lv_topl (fun v4 e5 => ?_)
  replace hF := bnd_e hF e5
  refine lv_lstore (lv' := [(5, .long v4), (0, .ref (q1 5)), (1, .int a1), (2, .int a2), (3, .long a3)]) X.x X.b (dk DX6_canBeEven_0 6 rfl) hl (by decide) rfl (fun ls hl => ?_)
  replace hl : lv_has ls 11 [(0, .ref (q1 5)), (1, .int a1), (2, .int a2), (3, .long a3), (5, .long v4)] := lv_sub hl [1, 2, 3, 4, 0] rfl
  refine lv_aload_n X.x X.b (dk DX6_canBeEven_0 7 rfl) rfl (lv_at hl 0 rfl) ?_
  refine lv_iload_n X.x X.b (dk DX6_canBeEven_0 8 rfl) rfl (lv_at hl 2 rfl) ?_
  obtain ⟨x6, e7, hF⟩ := bd hF
  refine mr_cl0 hH ⟨rfl, rfl⟩ (mr_runV (As := [.int a2]) (rest := []) X hH (c_X10_throughAt hq1 e7) ((oset_at hq1 (Nat.le_refl _) ohas_N).trans (congrArg some ocell_N)) OX10.1 kM_X6_34 kI_X10_throughAt kS_X10_throughAt kN_X10 kC_X10_throughAt hd_X10_throughAt ⟨Nat.le_of_ble_eq_true rfl, Nat.le_of_ble_eq_true rfl⟩ rfl hl.1 (Nat.le_of_ble_eq_true rfl) (dk DX6_canBeEven_0 9 rfl) ⟨Nat.zero_le _, Nat.zero_le _⟩) (fun r h1 H locs hp hH => ?_)
  obtain ⟨hr1, hr2⟩ := hp; rw [hr1]; rw [hr2] at hH; clear hr1 hr2
  refine lv_lstore (lv' := [(7, .long x6), (0, .ref (q1 5)), (1, .int a1), (2, .int a2), (3, .long a3), (5, .long v4)]) X.x X.b (dk DX6_canBeEven_0 10 rfl) hl (by decide) rfl (fun ls hl => ?_)
  replace hl : lv_has ls 11 [(0, .ref (q1 5)), (1, .int a1), (3, .long a3), (5, .long v4), (7, .long x6)] := lv_sub hl [1, 2, 4, 5, 0] rfl
  refine lv_iconst (v := 0) X.x X.b (dk DX6_canBeEven_0 11 rfl) (by decide) ?_
  refine lv_istore (lv' := [(9, .int 0), (0, .ref (q1 5)), (1, .int a1), (3, .long a3), (5, .long v4), (7, .long x6)]) X.x X.b (dk DX6_canBeEven_0 12 rfl) hl (by decide) rfl (fun ls hl => ?_)
  replace hl : lv_has ls 11 [(0, .ref (q1 5)), (1, .int a1), (3, .long a3), (5, .long v4), (7, .long x6), (9, .int 0)] := lv_sub hl [1, 2, 3, 4, 5, 0] rfl
  obtain ⟨x32, e33, hF⟩ := bd hF
  replace hl : lv_has ls 11 [(0, .ref (q1 5)), (1, .int a1), (3, .long a3), (5, .long v4), (7, .long x6), (9, .int 0)] := lv_sub hl [0, 1, 2, 3, 4, 5] rfl
  refine w_X6_canBeEven_22 hq1 X st1 a1 a3 v4 x6 _ _ e33 _ _ _ hH hl (fun hk H locs ls hH hl => ?_) (fun hk H locs ls hH hl => ?_)
  · subst hk
    replace hF := if_t hF rfl
    refine lv_iconst (v := 0) X.x X.b (dk DX6_canBeEven_0 41 rfl) (by decide) ?_
    cases sm hF
    exact mr_zret X hr hlk hH rfl ⟨rfl, rfl⟩ (dk DX6_canBeEven_0 42 rfl)
  · subst hk
    replace hF := if_f hF (by decide)
    refine lv_iconst (v := 1) X.x X.b (dk DX6_canBeEven_0 45 rfl) (by decide) ?_
    cases sm hF
    exact mr_zret X hr hlk hH rfl ⟨rfl, rfl⟩ (dk DX6_canBeEven_0 46 rfl)
-- X6_evensFrom
abbrev rm_X6_evensFrom (d : Nat) : Room := { frames := 2 + d, cells := 0, slots := 0, locals := 52 + d * 25 }
theorem hd_X6_evensFrom : mHd yX6_evensFrom 4 := ⟨by decide +kernel, by decide +kernel, by decide +kernel⟩
theorem DX6_evensFrom_0 : ∀ t ∈ ([(0, .iload_n 2, 1), (1, .aload_n 0, 1), (2, .getfield 25, 3), (5, .if_icmp .ge 9, 3), (8, .iload_n 2, 1), (9, .bipush 16, 2), (11, .if_icmp .lt 5, 3), (14, .iconst 1, 1), (15, .ireturn, 1), (16, .aload_n 0, 1), (17, .iload_n 2, 1), (18, .invokevirtual 34, 3), (21, .lconst 0, 1), (22, .lcmp, 1), (23, .ifCond .ne 15, 3), (26, .iconst 2, 1), (27, .aload_n 0, 1), (28, .iload_n 1, 1), (29, .iload_n 2, 1), (30, .iconst 1, 1), (31, .iadd, 1), (32, .lload_n 3, 1), (33, .invokestatic 30, 3), (36, .imul, 1), (37, .ireturn, 1), (38, .iconst 0, 1), (39, .istore 5, 2), (41, .aload_n 0, 1), (42, .iload_n 1, 1), (43, .iload_n 2, 1), (44, .lload_n 3, 1), (45, .invokestatic 37, 3), (48, .ifCond .eq 17, 3), (51, .iload 5, 2), (53, .aload_n 0, 1), (54, .iload_n 1, 1), (55, .iload_n 2, 1), (56, .iconst 1, 1), (57, .iadd, 1), (58, .lload_n 3, 1), (59, .invokestatic 30, 3), (62, .iadd, 1), (63, .istore 5, 2), (65, .aload_n 0, 1), (66, .iload_n 1, 1), (67, .iload_n 2, 1), (68, .lload_n 3, 1), (69, .lconst 1, 1), (70, .iload_n 2, 1), (71, .lshl, 1), (72, .lor, 1), (73, .invokestatic 37, 3), (76, .ifCond .eq 21, 3), (79, .iload 5, 2), (81, .aload_n 0, 1), (82, .iload_n 1, 1), (83, .iload_n 2, 1), (84, .iconst 1, 1), (85, .iadd, 1), (86, .lload_n 3, 1)] : List (Nat × Instr × Nat)), decode cX6_evensFrom t.1 = .ok (t.2.1, t.2.2) := by decide +kernel
theorem DX6_evensFrom_1 : ∀ t ∈ ([(87, .lconst 1, 1), (88, .iload_n 2, 1), (89, .lshl, 1), (90, .lor, 1), (91, .invokestatic 30, 3), (94, .iadd, 1), (95, .istore 5, 2), (97, .iload 5, 2), (99, .ireturn, 1)] : List (Nat × Instr × Nat)), decode cX6_evensFrom t.1 = .ok (t.2.1, t.2.2) := by decide +kernel
noncomputable def f_X6_evensFrom_T (rec : OS → Int32 → Int32 → Int64 → Option (Int32)) (st1 : OS) (a1 : Int32) (a2 : Int32) (a3 : Int64) : Option (Int32) := (if (st1.1 0) ≤ a2 then some 1 else (if a2 < 16 then (f_X10_throughAt st1 a2).bind (fun x3 => (if (lg_cmp x3 0) = 0 then (rec st1 a1 (a2 + 1) a3).bind (fun x34 => some ((2 : Int32) * x34)) else (f_X6_canBeEven st1 a1 a2 a3).bind (fun x7 => (if x7 = 0 then (f_X6_canBeEven st1 a1 a2 (a3 ||| (((1 : Int64)) <<< ((a2 : Int32).toInt64 &&& 63)))).bind (fun x11 => (if x11 = 0 then some 0 else (rec st1 a1 (a2 + 1) (a3 ||| (((1 : Int64)) <<< ((a2 : Int32).toInt64 &&& 63)))).bind (fun x15 => bnd ((0 : Int32) + x15 : Int32) (fun v18 => some v18)))) else (rec st1 a1 (a2 + 1) a3).bind (fun x20 => bnd ((0 : Int32) + x20 : Int32) (fun v23 => (f_X6_canBeEven st1 a1 a2 (a3 ||| (((1 : Int64)) <<< ((a2 : Int32).toInt64 &&& 63)))).bind (fun x25 => (if x25 = 0 then some v23 else (rec st1 a1 (a2 + 1) (a3 ||| (((1 : Int64)) <<< ((a2 : Int32).toInt64 &&& 63)))).bind (fun x29 => bnd (v23 + x29 : Int32) (fun v32 => some v32)))))))))) else some 1))
noncomputable def f_X6_evensFrom : Nat → OS → Int32 → Int32 → Int64 → Option (Int32)
  | 0 => fun _ _ _ _ => none
  | d + 1 => f_X6_evensFrom_T (f_X6_evensFrom d)
set_option maxHeartbeats 4000000 in
set_option maxRecDepth 100000 in
theorem c_X6_evensFrom {l : Launch} {G : mG} {h : mM} {q1 : Nat → Nat} (hq1 : oinj LX10 q1) (d : Nat) : ∀ (st1 : OS) (a1 : Int32) (a2 : Int32) (a3 : Int64) (x : Int32), f_X6_evensFrom d st1 a1 a2 a3 = some x → cQ l G yX6_evensFrom cX6_evensFrom 6 (some FieldType.int) (rm_X6_evensFrom d) [.ref (q1 5), .int a1, .int a2, .long a3] (oset LX10 G q1 st1 h) (mQi G (fun r h1 => r = x ∧ h1 = oset LX10 G q1 st1 h)) := by
  induction d with
  | zero => intro st1 a1 a2 a3 x hF; cases hF
  | succ d ih =>
    intro st1 a1 a2 a3 x hF
    have hF : f_X6_evensFrom_T (f_X6_evensFrom d) st1 a1 a2 a3 = some x := hF
    generalize f_X6_evensFrom d = rec at hF ih
    refine mp_of (by decide +kernel) (Nat.le_of_ble_eq_true rfl) ?_
    intro p e s m below meth c X hr hlk hH hname ls hl
    dsimp only [f_X6_evensFrom_T] at hF
    replace hl : lv_has ls 6 [(0, .ref (q1 5)), (1, .int a1), (2, .int a2), (3, .long a3)] := hl
    refine lv_iload_n X.x X.b (dk DX6_evensFrom_0 0 rfl) rfl (lv_at hl 2 rfl) ?_
    refine lv_aload_n X.x X.b (dk DX6_evensFrom_0 1 rfl) rfl (lv_at hl 0 rfl) ?_
    refine og_getIN OX10 X hq1 hH 0 (by decide) rfl kFN_X6_25 (dk DX6_evensFrom_0 2 rfl) ?_
    refine lv_icmp_ge (tgt := 14) X.x X.b (dk DX6_evensFrom_0 3 rfl) (by decide) (fun c1 => ?_) (fun c1 => ?_)
    · replace hF := if_t hF c1
      refine lv_iconst (v := 1) X.x X.b (dk DX6_evensFrom_0 7 rfl) (by decide) ?_
      cases sm hF
      exact mr_iret X hr hlk hH ⟨rfl, rfl⟩ (dk DX6_evensFrom_0 8 rfl)
    · replace hF := if_f hF c1
      refine lv_iload_n X.x X.b (dk DX6_evensFrom_0 4 rfl) rfl (lv_at hl 2 rfl) ?_
      refine lv_bipush (v := 16) X.x X.b (dk DX6_evensFrom_0 5 rfl) (by decide) ?_
      refine lv_icmp_lt (tgt := 16) X.x X.b (dk DX6_evensFrom_0 6 rfl) (by decide) (fun c2 => ?_) (fun c2 => ?_)
      · replace hF := if_t hF c2
        refine lv_aload_n X.x X.b (dk DX6_evensFrom_0 9 rfl) rfl (lv_at hl 0 rfl) ?_
        refine lv_iload_n X.x X.b (dk DX6_evensFrom_0 10 rfl) rfl (lv_at hl 2 rfl) ?_
        obtain ⟨x3, e4, hF⟩ := bd hF
        refine mr_cl0 hH ⟨rfl, rfl⟩ (mr_runV (As := [.int a2]) (rest := []) X hH (c_X10_throughAt hq1 e4) ((oset_at hq1 (Nat.le_refl _) ohas_N).trans (congrArg some ocell_N)) OX10.1 kM_X6_34 kI_X10_throughAt kS_X10_throughAt kN_X10 kC_X10_throughAt hd_X10_throughAt ⟨by dsimp only [rm_X6_evensFrom, rm_X10_throughAt]; omega, by dsimp only [rm_X6_evensFrom, rm_X10_throughAt]; omega⟩ rfl hl.1 (Nat.le_of_ble_eq_true rfl) (dk DX6_evensFrom_0 11 rfl) ⟨Nat.zero_le _, Nat.zero_le _⟩) (fun r h1 H locs hp hH => ?_)
        obtain ⟨hr1, hr2⟩ := hp; rw [hr1]; rw [hr2] at hH; clear hr1 hr2
        refine lv_lconst (v := 0) X.x X.b (dk DX6_evensFrom_0 12 rfl) (by decide) ?_
        refine W.lcmp X.x X.b (dk DX6_evensFrom_0 13 rfl) ?_
        refine lv_if_ne (tgt := 38) X.x X.b (dk DX6_evensFrom_0 14 rfl) (by decide) (fun c6 => ?_) (fun c6 => ?_)
        · replace hF := if_f hF c6
          refine lv_iconst (v := 0) X.x X.b (dk DX6_evensFrom_0 25 rfl) (by decide) ?_
          refine lv_istore (lv' := [(5, .int 0), (0, .ref (q1 5)), (1, .int a1), (2, .int a2), (3, .long a3)]) X.x X.b (dk DX6_evensFrom_0 26 rfl) hl (by decide) rfl (fun ls hl => ?_)
          replace hl : lv_has ls 6 [(0, .ref (q1 5)), (1, .int a1), (2, .int a2), (3, .long a3), (5, .int 0)] := lv_sub hl [1, 2, 3, 4, 0] rfl
          refine lv_aload_n X.x X.b (dk DX6_evensFrom_0 27 rfl) rfl (lv_at hl 0 rfl) ?_
          refine lv_iload_n X.x X.b (dk DX6_evensFrom_0 28 rfl) rfl (lv_at hl 1 rfl) ?_
          refine lv_iload_n X.x X.b (dk DX6_evensFrom_0 29 rfl) rfl (lv_at hl 2 rfl) ?_
          refine lv_lload_n X.x X.b (dk DX6_evensFrom_0 30 rfl) rfl (lv_at hl 3 rfl) ?_
          obtain ⟨x7, e8, hF⟩ := bd hF
          refine mr_ci0 hH ⟨rfl, rfl⟩ (mr_runS (As := [.ref (q1 5), .int a1, .int a2, .long a3]) (rest := []) X hH (c_X6_canBeEven hq1 e8) kM_X6_37 kT_X6_canBeEven kN_X6 kC_X6_canBeEven hd_X6_canBeEven ⟨by dsimp only [rm_X6_evensFrom, rm_X6_canBeEven]; omega, by dsimp only [rm_X6_evensFrom, rm_X6_canBeEven]; omega⟩ rfl hl.1 (Nat.le_of_ble_eq_true rfl) (dk DX6_evensFrom_0 31 rfl) ⟨Nat.zero_le _, Nat.zero_le _⟩) (fun r h1 H locs hp hH => ?_)
          obtain ⟨hr1, hr2⟩ := hp; rw [hr1]; rw [hr2] at hH; clear hr1 hr2
          refine lv_if_eq (tgt := 65) X.x X.b (dk DX6_evensFrom_0 32 rfl) (by decide) (fun c10 => ?_) (fun c10 => ?_)
          · replace hF := if_t hF c10
            refine lv_aload_n X.x X.b (dk DX6_evensFrom_0 43 rfl) rfl (lv_at hl 0 rfl) ?_
            refine lv_iload_n X.x X.b (dk DX6_evensFrom_0 44 rfl) rfl (lv_at hl 1 rfl) ?_
            refine lv_iload_n X.x X.b (dk DX6_evensFrom_0 45 rfl) rfl (lv_at hl 2 rfl) ?_
            refine lv_lload_n X.x X.b (dk DX6_evensFrom_0 46 rfl) rfl (lv_at hl 3 rfl) ?_
            refine lv_lconst (v := 1) X.x X.b (dk DX6_evensFrom_0 47 rfl) (by decide) ?_
            refine lv_iload_n X.x X.b (dk DX6_evensFrom_0 48 rfl) rfl (lv_at hl 2 rfl) ?_
            refine lv_lshl X.x X.b (dk DX6_evensFrom_0 49 rfl) rfl ?_
            refine lv_lor X.x X.b (dk DX6_evensFrom_0 50 rfl) ?_
            obtain ⟨x11, e12, hF⟩ := bd hF
            refine mr_ci0 hH ⟨rfl, rfl⟩ (mr_runS (As := [.ref (q1 5), .int a1, .int a2, .long (a3 ||| (((1 : Int64)) <<< ((a2 : Int32).toInt64 &&& 63)))]) (rest := []) X hH (c_X6_canBeEven hq1 e12) kM_X6_37 kT_X6_canBeEven kN_X6 kC_X6_canBeEven hd_X6_canBeEven ⟨by dsimp only [rm_X6_evensFrom, rm_X6_canBeEven]; omega, by dsimp only [rm_X6_evensFrom, rm_X6_canBeEven]; omega⟩ rfl hl.1 (Nat.le_of_ble_eq_true rfl) (dk DX6_evensFrom_0 51 rfl) ⟨Nat.zero_le _, Nat.zero_le _⟩) (fun r h1 H locs hp hH => ?_)
            obtain ⟨hr1, hr2⟩ := hp; rw [hr1]; rw [hr2] at hH; clear hr1 hr2
            refine lv_if_eq (tgt := 97) X.x X.b (dk DX6_evensFrom_0 52 rfl) (by decide) (fun c14 => ?_) (fun c14 => ?_)
            · replace hF := if_t hF c14
              refine lv_iload X.x X.b (dk DX6_evensFrom_1 7 rfl) (lv_at hl 4 rfl) ?_
              cases sm hF
              exact mr_iret X hr hlk hH ⟨rfl, rfl⟩ (dk DX6_evensFrom_1 8 rfl)
            · replace hF := if_f hF c14
              refine lv_iload X.x X.b (dk DX6_evensFrom_0 53 rfl) (lv_at hl 4 rfl) ?_
              refine lv_aload_n X.x X.b (dk DX6_evensFrom_0 54 rfl) rfl (lv_at hl 0 rfl) ?_
              refine lv_iload_n X.x X.b (dk DX6_evensFrom_0 55 rfl) rfl (lv_at hl 1 rfl) ?_
              refine lv_iload_n X.x X.b (dk DX6_evensFrom_0 56 rfl) rfl (lv_at hl 2 rfl) ?_
              refine lv_iconst (v := 1) X.x X.b (dk DX6_evensFrom_0 57 rfl) (by decide) ?_
              refine lv_iadd X.x X.b (dk DX6_evensFrom_0 58 rfl) ?_
              refine lv_lload_n X.x X.b (dk DX6_evensFrom_0 59 rfl) rfl (lv_at hl 3 rfl) ?_
              refine lv_lconst (v := 1) X.x X.b (dk DX6_evensFrom_1 0 rfl) (by decide) ?_
              refine lv_iload_n X.x X.b (dk DX6_evensFrom_1 1 rfl) rfl (lv_at hl 2 rfl) ?_
              refine lv_lshl X.x X.b (dk DX6_evensFrom_1 2 rfl) rfl ?_
              refine lv_lor X.x X.b (dk DX6_evensFrom_1 3 rfl) ?_
              obtain ⟨x15, e16, hF⟩ := bd hF
              refine mr_ci0 hH ⟨rfl, rfl⟩ (mr_runS (As := [.ref (q1 5), .int a1, .int (a2 + 1), .long (a3 ||| (((1 : Int64)) <<< ((a2 : Int32).toInt64 &&& 63)))]) (rest := [.int 0]) X hH (ih st1 a1 (a2 + 1) (a3 ||| (((1 : Int64)) <<< ((a2 : Int32).toInt64 &&& 63))) _ e16) kM_X6_30 kT_X6_evensFrom kN_X6 kC_X6_evensFrom hd_X6_evensFrom ⟨by dsimp only [rm_X6_evensFrom, rm_X6_evensFrom]; omega, by dsimp only [rm_X6_evensFrom, rm_X6_evensFrom]; omega⟩ rfl hl.1 (Nat.le_of_ble_eq_true rfl) (dk DX6_evensFrom_1 4 rfl) ⟨Nat.zero_le _, Nat.zero_le _⟩) (fun r h1 H locs hp hH => ?_)
              obtain ⟨hr1, hr2⟩ := hp; rw [hr1]; rw [hr2] at hH; clear hr1 hr2
              refine lv_iadd X.x X.b (dk DX6_evensFrom_1 5 rfl) ?_
              refine lv_topi (fun v18 e19 => ?_)
              replace hF := bnd_e hF e19
              refine lv_istore (lv' := [(5, .int v18), (0, .ref (q1 5)), (1, .int a1), (2, .int a2), (3, .long a3)]) X.x X.b (dk DX6_evensFrom_1 6 rfl) hl (by decide) rfl (fun ls hl => ?_)
              replace hl : lv_has ls 6 [(5, .int v18)] := lv_sub hl [0] rfl
              refine lv_iload X.x X.b (dk DX6_evensFrom_1 7 rfl) (lv_at hl 0 rfl) ?_
              cases sm hF
              exact mr_iret X hr hlk hH ⟨rfl, rfl⟩ (dk DX6_evensFrom_1 8 rfl)
          · replace hF := if_f hF c10
            refine lv_iload X.x X.b (dk DX6_evensFrom_0 33 rfl) (lv_at hl 4 rfl) ?_
            refine lv_aload_n X.x X.b (dk DX6_evensFrom_0 34 rfl) rfl (lv_at hl 0 rfl) ?_
            refine lv_iload_n X.x X.b (dk DX6_evensFrom_0 35 rfl) rfl (lv_at hl 1 rfl) ?_
            refine lv_iload_n X.x X.b (dk DX6_evensFrom_0 36 rfl) rfl (lv_at hl 2 rfl) ?_
            refine lv_iconst (v := 1) X.x X.b (dk DX6_evensFrom_0 37 rfl) (by decide) ?_
            refine lv_iadd X.x X.b (dk DX6_evensFrom_0 38 rfl) ?_
            refine lv_lload_n X.x X.b (dk DX6_evensFrom_0 39 rfl) rfl (lv_at hl 3 rfl) ?_
            obtain ⟨x20, e21, hF⟩ := bd hF
            refine mr_ci0 hH ⟨rfl, rfl⟩ (mr_runS (As := [.ref (q1 5), .int a1, .int (a2 + 1), .long a3]) (rest := [.int 0]) X hH (ih st1 a1 (a2 + 1) a3 _ e21) kM_X6_30 kT_X6_evensFrom kN_X6 kC_X6_evensFrom hd_X6_evensFrom ⟨by dsimp only [rm_X6_evensFrom, rm_X6_evensFrom]; omega, by dsimp only [rm_X6_evensFrom, rm_X6_evensFrom]; omega⟩ rfl hl.1 (Nat.le_of_ble_eq_true rfl) (dk DX6_evensFrom_0 40 rfl) ⟨Nat.zero_le _, Nat.zero_le _⟩) (fun r h1 H locs hp hH => ?_)
            obtain ⟨hr1, hr2⟩ := hp; rw [hr1]; rw [hr2] at hH; clear hr1 hr2
            refine lv_iadd X.x X.b (dk DX6_evensFrom_0 41 rfl) ?_
            refine lv_topi (fun v23 e24 => ?_)
            replace hF := bnd_e hF e24
            refine lv_istore (lv' := [(5, .int v23), (0, .ref (q1 5)), (1, .int a1), (2, .int a2), (3, .long a3)]) X.x X.b (dk DX6_evensFrom_0 42 rfl) hl (by decide) rfl (fun ls hl => ?_)
            replace hl : lv_has ls 6 [(0, .ref (q1 5)), (1, .int a1), (2, .int a2), (3, .long a3), (5, .int v23)] := lv_sub hl [1, 2, 3, 4, 0] rfl
            refine lv_aload_n X.x X.b (dk DX6_evensFrom_0 43 rfl) rfl (lv_at hl 0 rfl) ?_
            refine lv_iload_n X.x X.b (dk DX6_evensFrom_0 44 rfl) rfl (lv_at hl 1 rfl) ?_
            refine lv_iload_n X.x X.b (dk DX6_evensFrom_0 45 rfl) rfl (lv_at hl 2 rfl) ?_
            refine lv_lload_n X.x X.b (dk DX6_evensFrom_0 46 rfl) rfl (lv_at hl 3 rfl) ?_
            refine lv_lconst (v := 1) X.x X.b (dk DX6_evensFrom_0 47 rfl) (by decide) ?_
            refine lv_iload_n X.x X.b (dk DX6_evensFrom_0 48 rfl) rfl (lv_at hl 2 rfl) ?_
            refine lv_lshl X.x X.b (dk DX6_evensFrom_0 49 rfl) rfl ?_
            refine lv_lor X.x X.b (dk DX6_evensFrom_0 50 rfl) ?_
            obtain ⟨x25, e26, hF⟩ := bd hF
            refine mr_ci0 hH ⟨rfl, rfl⟩ (mr_runS (As := [.ref (q1 5), .int a1, .int a2, .long (a3 ||| (((1 : Int64)) <<< ((a2 : Int32).toInt64 &&& 63)))]) (rest := []) X hH (c_X6_canBeEven hq1 e26) kM_X6_37 kT_X6_canBeEven kN_X6 kC_X6_canBeEven hd_X6_canBeEven ⟨by dsimp only [rm_X6_evensFrom, rm_X6_canBeEven]; omega, by dsimp only [rm_X6_evensFrom, rm_X6_canBeEven]; omega⟩ rfl hl.1 (Nat.le_of_ble_eq_true rfl) (dk DX6_evensFrom_0 51 rfl) ⟨Nat.zero_le _, Nat.zero_le _⟩) (fun r h1 H locs hp hH => ?_)
            obtain ⟨hr1, hr2⟩ := hp; rw [hr1]; rw [hr2] at hH; clear hr1 hr2
            refine lv_if_eq (tgt := 97) X.x X.b (dk DX6_evensFrom_0 52 rfl) (by decide) (fun c28 => ?_) (fun c28 => ?_)
            · replace hF := if_t hF c28
              refine lv_iload X.x X.b (dk DX6_evensFrom_1 7 rfl) (lv_at hl 4 rfl) ?_
              cases sm hF
              exact mr_iret X hr hlk hH ⟨rfl, rfl⟩ (dk DX6_evensFrom_1 8 rfl)
            · replace hF := if_f hF c28
              refine lv_iload X.x X.b (dk DX6_evensFrom_0 53 rfl) (lv_at hl 4 rfl) ?_
              refine lv_aload_n X.x X.b (dk DX6_evensFrom_0 54 rfl) rfl (lv_at hl 0 rfl) ?_
              refine lv_iload_n X.x X.b (dk DX6_evensFrom_0 55 rfl) rfl (lv_at hl 1 rfl) ?_
              refine lv_iload_n X.x X.b (dk DX6_evensFrom_0 56 rfl) rfl (lv_at hl 2 rfl) ?_
              refine lv_iconst (v := 1) X.x X.b (dk DX6_evensFrom_0 57 rfl) (by decide) ?_
              refine lv_iadd X.x X.b (dk DX6_evensFrom_0 58 rfl) ?_
              refine lv_lload_n X.x X.b (dk DX6_evensFrom_0 59 rfl) rfl (lv_at hl 3 rfl) ?_
              refine lv_lconst (v := 1) X.x X.b (dk DX6_evensFrom_1 0 rfl) (by decide) ?_
              refine lv_iload_n X.x X.b (dk DX6_evensFrom_1 1 rfl) rfl (lv_at hl 2 rfl) ?_
              refine lv_lshl X.x X.b (dk DX6_evensFrom_1 2 rfl) rfl ?_
              refine lv_lor X.x X.b (dk DX6_evensFrom_1 3 rfl) ?_
              obtain ⟨x29, e30, hF⟩ := bd hF
              refine mr_ci0 hH ⟨rfl, rfl⟩ (mr_runS (As := [.ref (q1 5), .int a1, .int (a2 + 1), .long (a3 ||| (((1 : Int64)) <<< ((a2 : Int32).toInt64 &&& 63)))]) (rest := [.int v23]) X hH (ih st1 a1 (a2 + 1) (a3 ||| (((1 : Int64)) <<< ((a2 : Int32).toInt64 &&& 63))) _ e30) kM_X6_30 kT_X6_evensFrom kN_X6 kC_X6_evensFrom hd_X6_evensFrom ⟨by dsimp only [rm_X6_evensFrom, rm_X6_evensFrom]; omega, by dsimp only [rm_X6_evensFrom, rm_X6_evensFrom]; omega⟩ rfl hl.1 (Nat.le_of_ble_eq_true rfl) (dk DX6_evensFrom_1 4 rfl) ⟨Nat.zero_le _, Nat.zero_le _⟩) (fun r h1 H locs hp hH => ?_)
              obtain ⟨hr1, hr2⟩ := hp; rw [hr1]; rw [hr2] at hH; clear hr1 hr2
              refine lv_iadd X.x X.b (dk DX6_evensFrom_1 5 rfl) ?_
              refine lv_topi (fun v32 e33 => ?_)
              replace hF := bnd_e hF e33
              refine lv_istore (lv' := [(5, .int v32), (0, .ref (q1 5)), (1, .int a1), (2, .int a2), (3, .long a3)]) X.x X.b (dk DX6_evensFrom_1 6 rfl) hl (by decide) rfl (fun ls hl => ?_)
              replace hl : lv_has ls 6 [(5, .int v32)] := lv_sub hl [0] rfl
              refine lv_iload X.x X.b (dk DX6_evensFrom_1 7 rfl) (lv_at hl 0 rfl) ?_
              cases sm hF
              exact mr_iret X hr hlk hH ⟨rfl, rfl⟩ (dk DX6_evensFrom_1 8 rfl)
        · replace hF := if_t hF c6
          refine lv_iconst (v := 2) X.x X.b (dk DX6_evensFrom_0 15 rfl) (by decide) ?_
          refine lv_aload_n X.x X.b (dk DX6_evensFrom_0 16 rfl) rfl (lv_at hl 0 rfl) ?_
          refine lv_iload_n X.x X.b (dk DX6_evensFrom_0 17 rfl) rfl (lv_at hl 1 rfl) ?_
          refine lv_iload_n X.x X.b (dk DX6_evensFrom_0 18 rfl) rfl (lv_at hl 2 rfl) ?_
          refine lv_iconst (v := 1) X.x X.b (dk DX6_evensFrom_0 19 rfl) (by decide) ?_
          refine lv_iadd X.x X.b (dk DX6_evensFrom_0 20 rfl) ?_
          refine lv_lload_n X.x X.b (dk DX6_evensFrom_0 21 rfl) rfl (lv_at hl 3 rfl) ?_
          obtain ⟨x34, e35, hF⟩ := bd hF
          refine mr_ci0 hH ⟨rfl, rfl⟩ (mr_runS (As := [.ref (q1 5), .int a1, .int (a2 + 1), .long a3]) (rest := [.int 2]) X hH (ih st1 a1 (a2 + 1) a3 _ e35) kM_X6_30 kT_X6_evensFrom kN_X6 kC_X6_evensFrom hd_X6_evensFrom ⟨by dsimp only [rm_X6_evensFrom, rm_X6_evensFrom]; omega, by dsimp only [rm_X6_evensFrom, rm_X6_evensFrom]; omega⟩ rfl hl.1 (Nat.le_of_ble_eq_true rfl) (dk DX6_evensFrom_0 22 rfl) ⟨Nat.zero_le _, Nat.zero_le _⟩) (fun r h1 H locs hp hH => ?_)
          obtain ⟨hr1, hr2⟩ := hp; rw [hr1]; rw [hr2] at hH; clear hr1 hr2
          refine lv_imul X.x X.b (dk DX6_evensFrom_0 23 rfl) ?_
          cases sm hF
          exact mr_iret X hr hlk hH ⟨rfl, rfl⟩ (dk DX6_evensFrom_0 24 rfl)
      · replace hF := if_f hF c2
        refine lv_iconst (v := 1) X.x X.b (dk DX6_evensFrom_0 7 rfl) (by decide) ?_
        cases sm hF
        exact mr_iret X hr hlk hH ⟨rfl, rfl⟩ (dk DX6_evensFrom_0 8 rfl)
-- X6_evenMany
abbrev rm_X6_evenMany : Room := { frames := 23, cells := 0, slots := 0, locals := 577 }
theorem hd_X6_evenMany : mHd yX6_evenMany 2 := ⟨by decide +kernel, by decide +kernel, by decide +kernel⟩
theorem DX6_evenMany_0 : ∀ t ∈ ([(0, .aload_n 0, 1), (1, .getfield 25, 3), (4, .bipush 16, 2), (6, .if_icmp .le 7, 3), (9, .iconst (-1), 1), (10, .goto 10, 3), (13, .aload_n 0, 1), (14, .iload_n 1, 1), (15, .iconst 0, 1), (16, .lconst 0, 1), (17, .invokestatic 30, 3), (20, .ireturn, 1)] : List (Nat × Instr × Nat)), decode cX6_evenMany t.1 = .ok (t.2.1, t.2.2) := by decide +kernel
noncomputable def f_X6_evenMany (st1 : OS) (a1 : Int32) : Option (Int32) := (if (st1.1 0) ≤ 16 then (f_X6_evensFrom 20 st1 a1 0 0).bind (fun x2 => some x2) else some ((-1)))
set_option maxHeartbeats 4000000 in
set_option maxRecDepth 100000 in
theorem c_X6_evenMany {l : Launch} {G : mG} {h : mM} {q1 : Nat → Nat} (hq1 : oinj LX10 q1) {st1 : OS} {a1 : Int32} {x : Int32} (hF : f_X6_evenMany st1 a1 = some x) : cQ l G yX6_evenMany cX6_evenMany 2 (some FieldType.int) rm_X6_evenMany [.ref (q1 5), .int a1] (oset LX10 G q1 st1 h) (mQi G (fun r h1 => r = x ∧ h1 = oset LX10 G q1 st1 h)) := by
  refine mp_of (by decide +kernel) (Nat.le_of_ble_eq_true rfl) ?_
  intro p e s m below meth c X hr hlk hH hname ls hl
  dsimp only [f_X6_evenMany] at hF
  replace hl : lv_has ls 2 [(0, .ref (q1 5)), (1, .int a1)] := hl
  refine lv_aload_n X.x X.b (dk DX6_evenMany_0 0 rfl) rfl (lv_at hl 0 rfl) ?_
  refine og_getIN OX10 X hq1 hH 0 (by decide) rfl kFN_X6_25 (dk DX6_evenMany_0 1 rfl) ?_
  refine lv_bipush (v := 16) X.x X.b (dk DX6_evenMany_0 2 rfl) (by decide) ?_
  refine lv_icmp_le (tgt := 13) X.x X.b (dk DX6_evenMany_0 3 rfl) (by decide) (fun c1 => ?_) (fun c1 => ?_)
  · replace hF := if_t hF c1
    refine lv_aload_n X.x X.b (dk DX6_evenMany_0 6 rfl) rfl (lv_at hl 0 rfl) ?_
    refine lv_iload_n X.x X.b (dk DX6_evenMany_0 7 rfl) rfl (lv_at hl 1 rfl) ?_
    refine lv_iconst (v := 0) X.x X.b (dk DX6_evenMany_0 8 rfl) (by decide) ?_
    refine lv_lconst (v := 0) X.x X.b (dk DX6_evenMany_0 9 rfl) (by decide) ?_
    obtain ⟨x2, e3, hF⟩ := bd hF
    refine mr_ci0 hH ⟨rfl, rfl⟩ (mr_runS (As := [.ref (q1 5), .int a1, .int 0, .long 0]) (rest := []) X hH (c_X6_evensFrom hq1 20 st1 a1 0 0 _ e3) kM_X6_30 kT_X6_evensFrom kN_X6 kC_X6_evensFrom hd_X6_evensFrom ⟨Nat.le_of_ble_eq_true rfl, Nat.le_of_ble_eq_true rfl⟩ rfl hl.1 (Nat.le_of_ble_eq_true rfl) (dk DX6_evenMany_0 10 rfl) ⟨Nat.zero_le _, Nat.zero_le _⟩) (fun r h1 H locs hp hH => ?_)
    obtain ⟨hr1, hr2⟩ := hp; rw [hr1]; rw [hr2] at hH; clear hr1 hr2
    cases sm hF
    exact mr_iret X hr hlk hH ⟨rfl, rfl⟩ (dk DX6_evenMany_0 11 rfl)
  · replace hF := if_f hF c1
    refine lv_iconst (v := (-1)) X.x X.b (dk DX6_evenMany_0 4 rfl) (by decide) ?_
    refine lv_goto (tgt := 20) X.x X.b (dk DX6_evenMany_0 5 rfl) (by decide) ?_
    cases sm hF
    exact mr_iret X hr hlk hH ⟨rfl, rfl⟩ (dk DX6_evenMany_0 11 rfl)
-- X6_tightBy
abbrev rm_X6_tightBy : Room := { frames := 1, cells := 0, slots := 0, locals := 22 }
theorem hd_X6_tightBy : mHd yX6_tightBy 2 := ⟨by decide +kernel, by decide +kernel, by decide +kernel⟩
theorem DX6_tightBy_0 : ∀ t ∈ ([(0, .aload_n 0, 1), (1, .getfield 9, 3), (4, .ifCond .ne 5, 3), (7, .iconst (-1), 1), (8, .ireturn, 1), (9, .aload_n 0, 1), (10, .iconst 0, 1), (11, .invokevirtual 15, 3), (14, .invokestatic 19, 3), (17, .iconst 2, 1), (18, .isub, 1), (19, .istore_n 3, 1), (20, .iconst (-1), 1), (21, .istore 4, 2), (23, .iconst 0, 1), (24, .istore 5, 2), (26, .iload 5, 2), (28, .aload_n 0, 1), (29, .getfield 25, 3), (32, .if_icmp .ge 60, 3), (35, .aload_n 0, 1), (36, .iload 5, 2), (38, .invokevirtual 50, 3), (41, .lload_n 1, 1), (42, .land, 1), (43, .invokestatic 19, 3), (46, .lload_n 1, 1), (47, .iload 5, 2), (49, .invokestatic 46, 3), (52, .ifCond .eq 7, 3), (55, .iload_n 3, 1), (56, .goto 4, 3), (59, .iconst 0, 1), (60, .isub, 1), (61, .istore 6, 2), (63, .iload 6, 2), (65, .ifCond .lt 15, 3), (68, .iload 5, 2), (70, .ifCond .le 12, 3), (73, .iload 6, 2), (75, .iload 4, 2), (77, .if_icmp .eq 5, 3), (80, .iconst (-1), 1), (81, .ireturn, 1), (82, .iload 6, 2), (84, .istore 4, 2), (86, .iinc 5 1, 3), (89, .goto (-63), 3), (92, .iload 4, 2), (94, .ireturn, 1)] : List (Nat × Instr × Nat)), decode cX6_tightBy t.1 = .ok (t.2.1, t.2.2) := by decide +kernel
noncomputable def f_X6_tightBy_26 (s_o1 : OS) (b1 : Int64) (b3 : Int32) : (Int32 × Int32) → Option ((Int32 × Int32) ⊕ (Nat × Int32)) := fun z => match z with | (b4, b5) => (if (s_o1.1 0) ≤ b5 then some (.inr ((1, b4))) else (f_X10_nearAt s_o1 b5).bind (fun x11 => (f_J13_bitCount_95d88 (x11 &&& b1)).bind (fun x14 => (f_X10_has b1 b5).bind (fun x17 => (if x17 = 0 then bnd (x14 - 0 : Int32) (fun v21 => (if v21 < 0 then some (.inr ((0, b4))) else (if b5 ≤ 0 then bnd (b5 + 1 : Int32) (fun v25 => some (.inl ((v21, v25)))) else (if v21 = b4 then bnd (b5 + 1 : Int32) (fun v28 => some (.inl ((v21, v28)))) else some (.inr ((0, b4))))))) else bnd (x14 - b3 : Int32) (fun v30 => (if v30 < 0 then some (.inr ((0, b4))) else (if b5 ≤ 0 then bnd (b5 + 1 : Int32) (fun v34 => some (.inl ((v30, v34)))) else (if v30 = b4 then bnd (b5 + 1 : Int32) (fun v37 => some (.inl ((v30, v37)))) else some (.inr ((0, b4))))))))))))
noncomputable def f_X6_tightBy (st1 : OS) (a1 : Int64) : Option (Int32) := (if (st1.1 1) = 0 then some ((-1)) else (f_X10_setAt st1 0).bind (fun x2 => (f_J13_bitCount_95d88 x2).bind (fun x5 => bnd (x5 - 2 : Int32) (fun v8 => (lpv (f_X6_tightBy_26 st1 a1 v8) (((-1), 0))).bind (fun x39 => match x39 with | (k42, v41) => (if k42 = 0 then some ((-1)) else some v41))))))
set_option maxHeartbeats 4000000 in
set_option maxRecDepth 100000 in
theorem w_X6_tightBy_26 {p : Program} {l : Launch} {e : Env} {s : State} {m : MethodId} {args : Array Value} {below : List Frame} {meth : Method} {c : Code} {Q : State → Prop} {G : mG} {h : mM} {q1 : Nat → Nat} (hq1 : oinj LX10 q1) (X : mX G p m c cX6_tightBy 7 s args RX6) (s_o1 : OS) (b1 : Int64) (b3 : Int32) : ∀ (z : Int32 × Int32) (r : Nat × Int32), lpv (f_X6_tightBy_26 s_o1 b1 b3) z = some r → ∀ (H : Heap) (locs : List Loc) (ls : Array Slot), mH G (oset LX10 G q1 s_o1 h) s.heap H locs → lv_has ls 7 [(0, .ref (q1 5)), (1, .long b1), (3, .int b3), (4, .int z.1), (5, .int z.2)] → (r.1 = 0 → ∀ (H : Heap) (locs : List Loc) (ls : Array Slot), mH G (oset LX10 G q1 s_o1 h) s.heap H locs → lv_has ls 7 [] → W p l e rm_X6_tightBy s m args below meth c H locs 0 0 Q (F0 m 80 ls [])) → (r.1 = 1 → ∀ (H : Heap) (locs : List Loc) (ls : Array Slot), mH G (oset LX10 G q1 s_o1 h) s.heap H locs → lv_has ls 7 [(4, .int r.2)] → W p l e rm_X6_tightBy s m args below meth c H locs 0 0 Q (F0 m 92 ls [])) → W p l e rm_X6_tightBy s m args below meth c H locs 0 0 Q (F0 m 26 ls []) := by
  refine lpv_rec ?_
  intro z r x hF hx H locs ls hH hl K0 K1
  obtain ⟨b4, b5⟩ := z
  dsimp only [f_X6_tightBy_26] at hF
  try dsimp only at hH hl
  refine lv_iload X.x X.b (dk DX6_tightBy_0 16 rfl) (lv_at hl 4 rfl) ?_
  refine lv_aload_n X.x X.b (dk DX6_tightBy_0 17 rfl) rfl (lv_at hl 0 rfl) ?_
  refine og_getIN OX10 X hq1 hH 0 (by decide) rfl kFN_X6_25 (dk DX6_tightBy_0 18 rfl) ?_
  refine lv_icmp_ge (tgt := 92) X.x X.b (dk DX6_tightBy_0 19 rfl) (by decide) (fun c10 => ?_) (fun c10 => ?_)
  · replace hF := if_t hF c10
    have hr9 := lp_r hF hx
    subst hr9
    exact K1 rfl _ _ _ hH (lv_sub hl [3] rfl)
  · replace hF := if_f hF c10
    refine lv_aload_n X.x X.b (dk DX6_tightBy_0 20 rfl) rfl (lv_at hl 0 rfl) ?_
    refine lv_iload X.x X.b (dk DX6_tightBy_0 21 rfl) (lv_at hl 4 rfl) ?_
    obtain ⟨x11, e12, hF⟩ := bd hF
    refine mr_cl0 hH ⟨rfl, rfl⟩ (mr_runV (As := [.int b5]) (rest := []) X hH (c_X10_nearAt hq1 e12) ((oset_at hq1 (Nat.le_refl _) ohas_N).trans (congrArg some ocell_N)) OX10.1 kM_X6_50 kI_X10_nearAt kS_X10_nearAt kN_X10 kC_X10_nearAt hd_X10_nearAt ⟨Nat.le_of_ble_eq_true rfl, Nat.le_of_ble_eq_true rfl⟩ rfl hl.1 (Nat.le_of_ble_eq_true rfl) (dk DX6_tightBy_0 22 rfl) ⟨Nat.zero_le _, Nat.zero_le _⟩) (fun r h1 H locs hp hH => ?_)
    obtain ⟨hr1, hr2⟩ := hp; rw [hr1]; rw [hr2] at hH; clear hr1 hr2
    refine lv_lload_n X.x X.b (dk DX6_tightBy_0 23 rfl) rfl (lv_at hl 1 rfl) ?_
    refine lv_land X.x X.b (dk DX6_tightBy_0 24 rfl) ?_
    obtain ⟨x14, e15, hF⟩ := bd hF
    refine mr_ci0 hH ⟨rfl, rfl⟩ (mr_runS (As := [.long (x11 &&& b1)]) (rest := []) X hH (c_J13_bitCount_95d88 e15) kM_X6_19 kT_J13_bitCount_95d88 kN_J13 kC_J13_bitCount_95d88 hd_J13_bitCount_95d88 ⟨Nat.le_of_ble_eq_true rfl, Nat.le_of_ble_eq_true rfl⟩ rfl hl.1 (Nat.le_of_ble_eq_true rfl) (dk DX6_tightBy_0 25 rfl) ⟨Nat.zero_le _, Nat.zero_le _⟩) (fun r h1 H locs hp hH => ?_)
    obtain ⟨hr1, hr2⟩ := hp; rw [hr1]; rw [hr2] at hH; clear hr1 hr2
    refine lv_lload_n X.x X.b (dk DX6_tightBy_0 26 rfl) rfl (lv_at hl 1 rfl) ?_
    refine lv_iload X.x X.b (dk DX6_tightBy_0 27 rfl) (lv_at hl 4 rfl) ?_
    obtain ⟨x17, e18, hF⟩ := bd hF
    refine mr_ci0 hH ⟨rfl, rfl⟩ (mr_runS (As := [.long b1, .int b5]) (rest := [.int x14]) X hH (c_X10_has e18) kM_X6_46 kT_X10_has kN_X10 kC_X10_has hd_X10_has ⟨Nat.le_of_ble_eq_true rfl, Nat.le_of_ble_eq_true rfl⟩ rfl hl.1 (Nat.le_of_ble_eq_true rfl) (dk DX6_tightBy_0 28 rfl) ⟨Nat.zero_le _, Nat.zero_le _⟩) (fun r h1 H locs hp hH => ?_)
    obtain ⟨hr1, hr2⟩ := hp; rw [hr1]; rw [hr2] at hH; clear hr1 hr2
    refine lv_if_eq (tgt := 59) X.x X.b (dk DX6_tightBy_0 29 rfl) (by decide) (fun c20 => ?_) (fun c20 => ?_)
    · replace hF := if_t hF c20
      refine lv_iconst (v := 0) X.x X.b (dk DX6_tightBy_0 32 rfl) (by decide) ?_
      refine lv_isub X.x X.b (dk DX6_tightBy_0 33 rfl) ?_
      refine lv_topi (fun v21 e22 => ?_)
      replace hF := bnd_e hF e22
      refine lv_istore (lv' := [(6, .int v21), (0, .ref (q1 5)), (1, .long b1), (3, .int b3), (4, .int b4), (5, .int b5)]) X.x X.b (dk DX6_tightBy_0 34 rfl) hl (by decide) rfl (fun ls hl => ?_)
      replace hl : lv_has ls 7 [(0, .ref (q1 5)), (1, .long b1), (3, .int b3), (4, .int b4), (5, .int b5), (6, .int v21)] := lv_sub hl [1, 2, 3, 4, 5, 0] rfl
      refine lv_iload X.x X.b (dk DX6_tightBy_0 35 rfl) (lv_at hl 5 rfl) ?_
      refine lv_if_lt (tgt := 80) X.x X.b (dk DX6_tightBy_0 36 rfl) (by decide) (fun c23 => ?_) (fun c23 => ?_)
      · replace hF := if_t hF c23
        have hr9 := lp_r hF hx
        subst hr9
        exact K0 rfl _ _ _ hH (lv_sub hl [] rfl)
      · replace hF := if_f hF c23
        refine lv_iload X.x X.b (dk DX6_tightBy_0 37 rfl) (lv_at hl 4 rfl) ?_
        refine lv_if_le (tgt := 82) X.x X.b (dk DX6_tightBy_0 38 rfl) (by decide) (fun c24 => ?_) (fun c24 => ?_)
        · replace hF := if_t hF c24
          refine lv_iload X.x X.b (dk DX6_tightBy_0 44 rfl) (lv_at hl 5 rfl) ?_
          refine lv_istore (lv' := [(4, .int v21), (0, .ref (q1 5)), (1, .long b1), (3, .int b3), (5, .int b5), (6, .int v21)]) X.x X.b (dk DX6_tightBy_0 45 rfl) hl (by decide) rfl (fun ls hl => ?_)
          replace hl : lv_has ls 7 [(0, .ref (q1 5)), (1, .long b1), (3, .int b3), (4, .int v21), (5, .int b5)] := lv_sub hl [1, 2, 3, 0, 4] rfl
          obtain ⟨v25, e26⟩ : ∃ y : Int32, y = b5 + 1 := ⟨_, rfl⟩
          replace hF := bnd_e hF e26
          refine lv_iinc (v := v25) (lv' := [(5, .int v25), (0, .ref (q1 5)), (1, .long b1), (3, .int b3), (4, .int v21)]) X.x X.b (dk DX6_tightBy_0 46 rfl) hl (k := 4) rfl (by rw [e26]; rfl) (by decide) rfl (fun ls hl => ?_)
          replace hl : lv_has ls 7 [(0, .ref (q1 5)), (1, .long b1), (3, .int b3), (4, .int v21), (5, .int v25)] := lv_sub hl [1, 2, 3, 4, 0] rfl
          refine lv_goto (tgt := 26) X.x X.b (dk DX6_tightBy_0 47 rfl) (by decide) ?_
          exact (lp_l hF hx) _ _ _ hH (lv_sub hl [0, 1, 2, 3, 4] rfl) K0 K1
        · replace hF := if_f hF c24
          refine lv_iload X.x X.b (dk DX6_tightBy_0 39 rfl) (lv_at hl 5 rfl) ?_
          refine lv_iload X.x X.b (dk DX6_tightBy_0 40 rfl) (lv_at hl 3 rfl) ?_
          refine lv_icmp_eq (tgt := 82) X.x X.b (dk DX6_tightBy_0 41 rfl) (by decide) (fun c27 => ?_) (fun c27 => ?_)
          · replace hF := if_t hF c27
            refine lv_iload X.x X.b (dk DX6_tightBy_0 44 rfl) (lv_at hl 5 rfl) ?_
            refine lv_istore (lv' := [(4, .int v21), (0, .ref (q1 5)), (1, .long b1), (3, .int b3), (5, .int b5), (6, .int v21)]) X.x X.b (dk DX6_tightBy_0 45 rfl) hl (by decide) rfl (fun ls hl => ?_)
            replace hl : lv_has ls 7 [(0, .ref (q1 5)), (1, .long b1), (3, .int b3), (4, .int v21), (5, .int b5)] := lv_sub hl [1, 2, 3, 0, 4] rfl
            obtain ⟨v28, e29⟩ : ∃ y : Int32, y = b5 + 1 := ⟨_, rfl⟩
            replace hF := bnd_e hF e29
            refine lv_iinc (v := v28) (lv' := [(5, .int v28), (0, .ref (q1 5)), (1, .long b1), (3, .int b3), (4, .int v21)]) X.x X.b (dk DX6_tightBy_0 46 rfl) hl (k := 4) rfl (by rw [e29]; rfl) (by decide) rfl (fun ls hl => ?_)
            replace hl : lv_has ls 7 [(0, .ref (q1 5)), (1, .long b1), (3, .int b3), (4, .int v21), (5, .int v28)] := lv_sub hl [1, 2, 3, 4, 0] rfl
            refine lv_goto (tgt := 26) X.x X.b (dk DX6_tightBy_0 47 rfl) (by decide) ?_
            exact (lp_l hF hx) _ _ _ hH (lv_sub hl [0, 1, 2, 3, 4] rfl) K0 K1
          · replace hF := if_f hF c27
            have hr9 := lp_r hF hx
            subst hr9
            exact K0 rfl _ _ _ hH (lv_sub hl [] rfl)
    · replace hF := if_f hF c20
      refine lv_iload_n X.x X.b (dk DX6_tightBy_0 30 rfl) rfl (lv_at hl 2 rfl) ?_
      refine lv_goto (tgt := 60) X.x X.b (dk DX6_tightBy_0 31 rfl) (by decide) ?_
      refine lv_isub X.x X.b (dk DX6_tightBy_0 33 rfl) ?_
      refine lv_topi (fun v30 e31 => ?_)
      replace hF := bnd_e hF e31
      refine lv_istore (lv' := [(6, .int v30), (0, .ref (q1 5)), (1, .long b1), (3, .int b3), (4, .int b4), (5, .int b5)]) X.x X.b (dk DX6_tightBy_0 34 rfl) hl (by decide) rfl (fun ls hl => ?_)
      replace hl : lv_has ls 7 [(0, .ref (q1 5)), (1, .long b1), (3, .int b3), (4, .int b4), (5, .int b5), (6, .int v30)] := lv_sub hl [1, 2, 3, 4, 5, 0] rfl
      refine lv_iload X.x X.b (dk DX6_tightBy_0 35 rfl) (lv_at hl 5 rfl) ?_
      refine lv_if_lt (tgt := 80) X.x X.b (dk DX6_tightBy_0 36 rfl) (by decide) (fun c32 => ?_) (fun c32 => ?_)
      · replace hF := if_t hF c32
        have hr9 := lp_r hF hx
        subst hr9
        exact K0 rfl _ _ _ hH (lv_sub hl [] rfl)
      · replace hF := if_f hF c32
        refine lv_iload X.x X.b (dk DX6_tightBy_0 37 rfl) (lv_at hl 4 rfl) ?_
        refine lv_if_le (tgt := 82) X.x X.b (dk DX6_tightBy_0 38 rfl) (by decide) (fun c33 => ?_) (fun c33 => ?_)
        · replace hF := if_t hF c33
          refine lv_iload X.x X.b (dk DX6_tightBy_0 44 rfl) (lv_at hl 5 rfl) ?_
          refine lv_istore (lv' := [(4, .int v30), (0, .ref (q1 5)), (1, .long b1), (3, .int b3), (5, .int b5), (6, .int v30)]) X.x X.b (dk DX6_tightBy_0 45 rfl) hl (by decide) rfl (fun ls hl => ?_)
          replace hl : lv_has ls 7 [(0, .ref (q1 5)), (1, .long b1), (3, .int b3), (4, .int v30), (5, .int b5)] := lv_sub hl [1, 2, 3, 0, 4] rfl
          obtain ⟨v34, e35⟩ : ∃ y : Int32, y = b5 + 1 := ⟨_, rfl⟩
          replace hF := bnd_e hF e35
          refine lv_iinc (v := v34) (lv' := [(5, .int v34), (0, .ref (q1 5)), (1, .long b1), (3, .int b3), (4, .int v30)]) X.x X.b (dk DX6_tightBy_0 46 rfl) hl (k := 4) rfl (by rw [e35]; rfl) (by decide) rfl (fun ls hl => ?_)
          replace hl : lv_has ls 7 [(0, .ref (q1 5)), (1, .long b1), (3, .int b3), (4, .int v30), (5, .int v34)] := lv_sub hl [1, 2, 3, 4, 0] rfl
          refine lv_goto (tgt := 26) X.x X.b (dk DX6_tightBy_0 47 rfl) (by decide) ?_
          exact (lp_l hF hx) _ _ _ hH (lv_sub hl [0, 1, 2, 3, 4] rfl) K0 K1
        · replace hF := if_f hF c33
          refine lv_iload X.x X.b (dk DX6_tightBy_0 39 rfl) (lv_at hl 5 rfl) ?_
          refine lv_iload X.x X.b (dk DX6_tightBy_0 40 rfl) (lv_at hl 3 rfl) ?_
          refine lv_icmp_eq (tgt := 82) X.x X.b (dk DX6_tightBy_0 41 rfl) (by decide) (fun c36 => ?_) (fun c36 => ?_)
          · replace hF := if_t hF c36
            refine lv_iload X.x X.b (dk DX6_tightBy_0 44 rfl) (lv_at hl 5 rfl) ?_
            refine lv_istore (lv' := [(4, .int v30), (0, .ref (q1 5)), (1, .long b1), (3, .int b3), (5, .int b5), (6, .int v30)]) X.x X.b (dk DX6_tightBy_0 45 rfl) hl (by decide) rfl (fun ls hl => ?_)
            replace hl : lv_has ls 7 [(0, .ref (q1 5)), (1, .long b1), (3, .int b3), (4, .int v30), (5, .int b5)] := lv_sub hl [1, 2, 3, 0, 4] rfl
            obtain ⟨v37, e38⟩ : ∃ y : Int32, y = b5 + 1 := ⟨_, rfl⟩
            replace hF := bnd_e hF e38
            refine lv_iinc (v := v37) (lv' := [(5, .int v37), (0, .ref (q1 5)), (1, .long b1), (3, .int b3), (4, .int v30)]) X.x X.b (dk DX6_tightBy_0 46 rfl) hl (k := 4) rfl (by rw [e38]; rfl) (by decide) rfl (fun ls hl => ?_)
            replace hl : lv_has ls 7 [(0, .ref (q1 5)), (1, .long b1), (3, .int b3), (4, .int v30), (5, .int v37)] := lv_sub hl [1, 2, 3, 4, 0] rfl
            refine lv_goto (tgt := 26) X.x X.b (dk DX6_tightBy_0 47 rfl) (by decide) ?_
            exact (lp_l hF hx) _ _ _ hH (lv_sub hl [0, 1, 2, 3, 4] rfl) K0 K1
          · replace hF := if_f hF c36
            have hr9 := lp_r hF hx
            subst hr9
            exact K0 rfl _ _ _ hH (lv_sub hl [] rfl)
set_option maxHeartbeats 4000000 in
set_option maxRecDepth 100000 in
theorem c_X6_tightBy {l : Launch} {G : mG} {h : mM} {q1 : Nat → Nat} (hq1 : oinj LX10 q1) {st1 : OS} {a1 : Int64} {x : Int32} (hF : f_X6_tightBy st1 a1 = some x) : cQ l G yX6_tightBy cX6_tightBy 7 (some FieldType.int) rm_X6_tightBy [.ref (q1 5), .long a1] (oset LX10 G q1 st1 h) (mQi G (fun r h1 => r = x ∧ h1 = oset LX10 G q1 st1 h)) := by
  refine mp_of (by decide +kernel) (Nat.le_of_ble_eq_true rfl) ?_
  intro p e s m below meth c X hr hlk hH hname ls hl
  dsimp only [f_X6_tightBy] at hF
  replace hl : lv_has ls 7 [(0, .ref (q1 5)), (1, .long a1)] := hl
  refine lv_aload_n X.x X.b (dk DX6_tightBy_0 0 rfl) rfl (lv_at hl 0 rfl) ?_
  refine og_getIN OX10 X hq1 hH 1 (by decide) rfl kFN_X6_9 (dk DX6_tightBy_0 1 rfl) ?_
  refine lv_if_ne (tgt := 9) X.x X.b (dk DX6_tightBy_0 2 rfl) (by decide) (fun c1 => ?_) (fun c1 => ?_)
  · replace hF := if_f hF c1
    refine lv_aload_n X.x X.b (dk DX6_tightBy_0 5 rfl) rfl (lv_at hl 0 rfl) ?_
    refine lv_iconst (v := 0) X.x X.b (dk DX6_tightBy_0 6 rfl) (by decide) ?_
    obtain ⟨x2, e3, hF⟩ := bd hF
    refine mr_cl0 hH ⟨rfl, rfl⟩ (mr_runV (As := [.int 0]) (rest := []) X hH (c_X10_setAt hq1 e3) ((oset_at hq1 (Nat.le_refl _) ohas_N).trans (congrArg some ocell_N)) OX10.1 kM_X6_15 kI_X10_setAt kS_X10_setAt kN_X10 kC_X10_setAt hd_X10_setAt ⟨Nat.le_of_ble_eq_true rfl, Nat.le_of_ble_eq_true rfl⟩ rfl hl.1 (Nat.le_of_ble_eq_true rfl) (dk DX6_tightBy_0 7 rfl) ⟨Nat.zero_le _, Nat.zero_le _⟩) (fun r h1 H locs hp hH => ?_)
    obtain ⟨hr1, hr2⟩ := hp; rw [hr1]; rw [hr2] at hH; clear hr1 hr2
    obtain ⟨x5, e6, hF⟩ := bd hF
    refine mr_ci0 hH ⟨rfl, rfl⟩ (mr_runS (As := [.long x2]) (rest := []) X hH (c_J13_bitCount_95d88 e6) kM_X6_19 kT_J13_bitCount_95d88 kN_J13 kC_J13_bitCount_95d88 hd_J13_bitCount_95d88 ⟨Nat.le_of_ble_eq_true rfl, Nat.le_of_ble_eq_true rfl⟩ rfl hl.1 (Nat.le_of_ble_eq_true rfl) (dk DX6_tightBy_0 8 rfl) ⟨Nat.zero_le _, Nat.zero_le _⟩) (fun r h1 H locs hp hH => ?_)
    obtain ⟨hr1, hr2⟩ := hp; rw [hr1]; rw [hr2] at hH; clear hr1 hr2
    refine lv_iconst (v := 2) X.x X.b (dk DX6_tightBy_0 9 rfl) (by decide) ?_
    refine lv_isub X.x X.b (dk DX6_tightBy_0 10 rfl) ?_
    refine lv_topi (fun v8 e9 => ?_)
    replace hF := bnd_e hF e9
    refine lv_istore_n (lv' := [(3, .int v8), (0, .ref (q1 5)), (1, .long a1)]) X.x X.b (dk DX6_tightBy_0 11 rfl) rfl hl (by decide) rfl (fun ls hl => ?_)
    replace hl : lv_has ls 7 [(0, .ref (q1 5)), (1, .long a1), (3, .int v8)] := lv_sub hl [1, 2, 0] rfl
    refine lv_iconst (v := (-1)) X.x X.b (dk DX6_tightBy_0 12 rfl) (by decide) ?_
    refine lv_istore (lv' := [(4, .int ((-1))), (0, .ref (q1 5)), (1, .long a1), (3, .int v8)]) X.x X.b (dk DX6_tightBy_0 13 rfl) hl (by decide) rfl (fun ls hl => ?_)
    replace hl : lv_has ls 7 [(0, .ref (q1 5)), (1, .long a1), (3, .int v8), (4, .int ((-1)))] := lv_sub hl [1, 2, 3, 0] rfl
    refine lv_iconst (v := 0) X.x X.b (dk DX6_tightBy_0 14 rfl) (by decide) ?_
    refine lv_istore (lv' := [(5, .int 0), (0, .ref (q1 5)), (1, .long a1), (3, .int v8), (4, .int ((-1)))]) X.x X.b (dk DX6_tightBy_0 15 rfl) hl (by decide) rfl (fun ls hl => ?_)
    replace hl : lv_has ls 7 [(0, .ref (q1 5)), (1, .long a1), (3, .int v8), (4, .int ((-1))), (5, .int 0)] := lv_sub hl [1, 2, 3, 4, 0] rfl
    obtain ⟨x39, e40, hF⟩ := bd hF
    replace hl : lv_has ls 7 [(0, .ref (q1 5)), (1, .long a1), (3, .int v8), (4, .int ((-1))), (5, .int 0)] := lv_sub hl [0, 1, 2, 3, 4] rfl
    obtain ⟨k42, v41⟩ := x39
    try dsimp only at hF
    refine w_X6_tightBy_26 hq1 X st1 a1 v8 _ _ e40 _ _ _ hH hl (fun hk H locs ls hH hl => ?_) (fun hk H locs ls hH hl => ?_)
    · try dsimp only at hH hl
      try dsimp only at hk
      subst hk
      replace hF := if_t hF rfl
      refine lv_iconst (v := (-1)) X.x X.b (dk DX6_tightBy_0 42 rfl) (by decide) ?_
      cases sm hF
      exact mr_iret X hr hlk hH ⟨rfl, rfl⟩ (dk DX6_tightBy_0 43 rfl)
    · try dsimp only at hH hl
      try dsimp only at hk
      subst hk
      replace hF := if_f hF (by decide)
      refine lv_iload X.x X.b (dk DX6_tightBy_0 48 rfl) (lv_at hl 0 rfl) ?_
      cases sm hF
      exact mr_iret X hr hlk hH ⟨rfl, rfl⟩ (dk DX6_tightBy_0 49 rfl)
  · replace hF := if_t hF c1
    refine lv_iconst (v := (-1)) X.x X.b (dk DX6_tightBy_0 3 rfl) (by decide) ?_
    cases sm hF
    exact mr_iret X hr hlk hH ⟨rfl, rfl⟩ (dk DX6_tightBy_0 4 rfl)
-- X6_loosestOrBusiest
abbrev rm_X6_loosestOrBusiest : Room := { frames := 3, cells := 0, slots := 0, locals := 64 }
theorem hd_X6_loosestOrBusiest : mHd yX6_loosestOrBusiest 2 := ⟨by decide +kernel, by decide +kernel, by decide +kernel⟩
theorem DX6_loosestOrBusiest_0 : ∀ t ∈ ([(0, .lload_n 1, 1), (1, .invokestatic 71, 3), (4, .istore_n 3, 1), (5, .iconst (-1), 1), (6, .istore 4, 2), (8, .iconst 0, 1), (9, .istore 5, 2), (11, .iload 5, 2), (13, .aload_n 0, 1), (14, .getfield 25, 3), (17, .if_icmp .ge 54, 3), (20, .lload_n 1, 1), (21, .iload 5, 2), (23, .invokestatic 46, 3), (26, .ifCond .eq 39, 3), (29, .lload_n 1, 1), (30, .aload_n 0, 1), (31, .iload 5, 2), (33, .invokevirtual 50, 3), (36, .land, 1), (37, .invokestatic 19, 3), (40, .istore 6, 2), (42, .iload 6, 2), (44, .iconst 1, 1), (45, .if_icmp .gt 6, 3), (48, .iload 5, 2), (50, .ireturn, 1), (51, .iload 6, 2), (53, .iload 4, 2), (55, .if_icmp .le 10, 3), (58, .iload 6, 2), (60, .istore 4, 2), (62, .iload 5, 2), (64, .istore_n 3, 1), (65, .iinc 5 1, 3), (68, .goto (-57), 3), (71, .iload_n 3, 1), (72, .ireturn, 1)] : List (Nat × Instr × Nat)), decode cX6_loosestOrBusiest t.1 = .ok (t.2.1, t.2.2) := by decide +kernel
noncomputable def f_X6_loosestOrBusiest_11 (s_o1 : OS) (b1 : Int64) : (Int32 × Int32 × Int32) → Option ((Int32 × Int32 × Int32) ⊕ (Nat × Int32 × Int32)) := fun z => match z with | (b3, b4, b5) => (if (s_o1.1 0) ≤ b5 then some (.inr ((1, b3, b5))) else (f_X10_has b1 b5).bind (fun x5 => (if x5 = 0 then bnd (b5 + 1 : Int32) (fun v9 => some (.inl ((b3, b4, v9)))) else (f_X10_nearAt s_o1 b5).bind (fun x11 => (f_J13_bitCount_95d88 (b1 &&& x11)).bind (fun x14 => (if 1 < x14 then (if x14 ≤ b4 then bnd (b5 + 1 : Int32) (fun v19 => some (.inl ((b3, b4, v19)))) else bnd (b5 + 1 : Int32) (fun v21 => some (.inl ((b5, x14, v21))))) else some (.inr ((0, b3, b5)))))))))
noncomputable def f_X6_loosestOrBusiest (st1 : OS) (a1 : Int64) : Option (Int32) := (f_X10_lowest a1).bind (fun x1 => (lpv (f_X6_loosestOrBusiest_11 st1 a1) ((x1, (-1), 0))).bind (fun x23 => match x23 with | (k27, v25, v26) => (if k27 = 0 then some v26 else some v25)))
set_option maxHeartbeats 4000000 in
set_option maxRecDepth 100000 in
theorem w_X6_loosestOrBusiest_11 {p : Program} {l : Launch} {e : Env} {s : State} {m : MethodId} {args : Array Value} {below : List Frame} {meth : Method} {c : Code} {Q : State → Prop} {G : mG} {h : mM} {q1 : Nat → Nat} (hq1 : oinj LX10 q1) (X : mX G p m c cX6_loosestOrBusiest 7 s args RX6) (s_o1 : OS) (b1 : Int64) : ∀ (z : Int32 × Int32 × Int32) (r : Nat × Int32 × Int32), lpv (f_X6_loosestOrBusiest_11 s_o1 b1) z = some r → ∀ (H : Heap) (locs : List Loc) (ls : Array Slot), mH G (oset LX10 G q1 s_o1 h) s.heap H locs → lv_has ls 7 [(0, .ref (q1 5)), (1, .long b1), (3, .int z.1), (4, .int z.2.1), (5, .int z.2.2)] → (r.1 = 0 → ∀ (H : Heap) (locs : List Loc) (ls : Array Slot), mH G (oset LX10 G q1 s_o1 h) s.heap H locs → lv_has ls 7 [(5, .int r.2.2)] → W p l e rm_X6_loosestOrBusiest s m args below meth c H locs 0 0 Q (F0 m 48 ls [])) → (r.1 = 1 → ∀ (H : Heap) (locs : List Loc) (ls : Array Slot), mH G (oset LX10 G q1 s_o1 h) s.heap H locs → lv_has ls 7 [(3, .int r.2.1)] → W p l e rm_X6_loosestOrBusiest s m args below meth c H locs 0 0 Q (F0 m 71 ls [])) → W p l e rm_X6_loosestOrBusiest s m args below meth c H locs 0 0 Q (F0 m 11 ls []) := by
  refine lpv_rec ?_
  intro z r x hF hx H locs ls hH hl K0 K1
  obtain ⟨b3, b4, b5⟩ := z
  dsimp only [f_X6_loosestOrBusiest_11] at hF
  try dsimp only at hH hl
  refine lv_iload X.x X.b (dk DX6_loosestOrBusiest_0 7 rfl) (lv_at hl 4 rfl) ?_
  refine lv_aload_n X.x X.b (dk DX6_loosestOrBusiest_0 8 rfl) rfl (lv_at hl 0 rfl) ?_
  refine og_getIN OX10 X hq1 hH 0 (by decide) rfl kFN_X6_25 (dk DX6_loosestOrBusiest_0 9 rfl) ?_
  refine lv_icmp_ge (tgt := 71) X.x X.b (dk DX6_loosestOrBusiest_0 10 rfl) (by decide) (fun c4 => ?_) (fun c4 => ?_)
  · replace hF := if_t hF c4
    have hr9 := lp_r hF hx
    subst hr9
    exact K1 rfl _ _ _ hH (lv_sub hl [2] rfl)
  · replace hF := if_f hF c4
    refine lv_lload_n X.x X.b (dk DX6_loosestOrBusiest_0 11 rfl) rfl (lv_at hl 1 rfl) ?_
    refine lv_iload X.x X.b (dk DX6_loosestOrBusiest_0 12 rfl) (lv_at hl 4 rfl) ?_
    obtain ⟨x5, e6, hF⟩ := bd hF
    refine mr_ci0 hH ⟨rfl, rfl⟩ (mr_runS (As := [.long b1, .int b5]) (rest := []) X hH (c_X10_has e6) kM_X6_46 kT_X10_has kN_X10 kC_X10_has hd_X10_has ⟨Nat.le_of_ble_eq_true rfl, Nat.le_of_ble_eq_true rfl⟩ rfl hl.1 (Nat.le_of_ble_eq_true rfl) (dk DX6_loosestOrBusiest_0 13 rfl) ⟨Nat.zero_le _, Nat.zero_le _⟩) (fun r h1 H locs hp hH => ?_)
    obtain ⟨hr1, hr2⟩ := hp; rw [hr1]; rw [hr2] at hH; clear hr1 hr2
    refine lv_if_eq (tgt := 65) X.x X.b (dk DX6_loosestOrBusiest_0 14 rfl) (by decide) (fun c8 => ?_) (fun c8 => ?_)
    · replace hF := if_t hF c8
      obtain ⟨v9, e10⟩ : ∃ y : Int32, y = b5 + 1 := ⟨_, rfl⟩
      replace hF := bnd_e hF e10
      refine lv_iinc (v := v9) (lv' := [(5, .int v9), (0, .ref (q1 5)), (1, .long b1), (3, .int b3), (4, .int b4)]) X.x X.b (dk DX6_loosestOrBusiest_0 34 rfl) hl (k := 4) rfl (by rw [e10]; rfl) (by decide) rfl (fun ls hl => ?_)
      replace hl : lv_has ls 7 [(0, .ref (q1 5)), (1, .long b1), (3, .int b3), (4, .int b4), (5, .int v9)] := lv_sub hl [1, 2, 3, 4, 0] rfl
      refine lv_goto (tgt := 11) X.x X.b (dk DX6_loosestOrBusiest_0 35 rfl) (by decide) ?_
      exact (lp_l hF hx) _ _ _ hH (lv_sub hl [0, 1, 2, 3, 4] rfl) K0 K1
    · replace hF := if_f hF c8
      refine lv_lload_n X.x X.b (dk DX6_loosestOrBusiest_0 15 rfl) rfl (lv_at hl 1 rfl) ?_
      refine lv_aload_n X.x X.b (dk DX6_loosestOrBusiest_0 16 rfl) rfl (lv_at hl 0 rfl) ?_
      refine lv_iload X.x X.b (dk DX6_loosestOrBusiest_0 17 rfl) (lv_at hl 4 rfl) ?_
      obtain ⟨x11, e12, hF⟩ := bd hF
      refine mr_cl0 hH ⟨rfl, rfl⟩ (mr_runV (As := [.int b5]) (rest := [.long b1]) X hH (c_X10_nearAt hq1 e12) ((oset_at hq1 (Nat.le_refl _) ohas_N).trans (congrArg some ocell_N)) OX10.1 kM_X6_50 kI_X10_nearAt kS_X10_nearAt kN_X10 kC_X10_nearAt hd_X10_nearAt ⟨Nat.le_of_ble_eq_true rfl, Nat.le_of_ble_eq_true rfl⟩ rfl hl.1 (Nat.le_of_ble_eq_true rfl) (dk DX6_loosestOrBusiest_0 18 rfl) ⟨Nat.zero_le _, Nat.zero_le _⟩) (fun r h1 H locs hp hH => ?_)
      obtain ⟨hr1, hr2⟩ := hp; rw [hr1]; rw [hr2] at hH; clear hr1 hr2
      refine lv_land X.x X.b (dk DX6_loosestOrBusiest_0 19 rfl) ?_
      obtain ⟨x14, e15, hF⟩ := bd hF
      refine mr_ci0 hH ⟨rfl, rfl⟩ (mr_runS (As := [.long (b1 &&& x11)]) (rest := []) X hH (c_J13_bitCount_95d88 e15) kM_X6_19 kT_J13_bitCount_95d88 kN_J13 kC_J13_bitCount_95d88 hd_J13_bitCount_95d88 ⟨Nat.le_of_ble_eq_true rfl, Nat.le_of_ble_eq_true rfl⟩ rfl hl.1 (Nat.le_of_ble_eq_true rfl) (dk DX6_loosestOrBusiest_0 20 rfl) ⟨Nat.zero_le _, Nat.zero_le _⟩) (fun r h1 H locs hp hH => ?_)
      obtain ⟨hr1, hr2⟩ := hp; rw [hr1]; rw [hr2] at hH; clear hr1 hr2
      refine lv_istore (lv' := [(6, .int x14), (0, .ref (q1 5)), (1, .long b1), (3, .int b3), (4, .int b4), (5, .int b5)]) X.x X.b (dk DX6_loosestOrBusiest_0 21 rfl) hl (by decide) rfl (fun ls hl => ?_)
      replace hl : lv_has ls 7 [(0, .ref (q1 5)), (1, .long b1), (3, .int b3), (4, .int b4), (5, .int b5), (6, .int x14)] := lv_sub hl [1, 2, 3, 4, 5, 0] rfl
      refine lv_iload X.x X.b (dk DX6_loosestOrBusiest_0 22 rfl) (lv_at hl 5 rfl) ?_
      refine lv_iconst (v := 1) X.x X.b (dk DX6_loosestOrBusiest_0 23 rfl) (by decide) ?_
      refine lv_icmp_gt (tgt := 51) X.x X.b (dk DX6_loosestOrBusiest_0 24 rfl) (by decide) (fun c17 => ?_) (fun c17 => ?_)
      · replace hF := if_t hF c17
        refine lv_iload X.x X.b (dk DX6_loosestOrBusiest_0 27 rfl) (lv_at hl 5 rfl) ?_
        refine lv_iload X.x X.b (dk DX6_loosestOrBusiest_0 28 rfl) (lv_at hl 3 rfl) ?_
        refine lv_icmp_le (tgt := 65) X.x X.b (dk DX6_loosestOrBusiest_0 29 rfl) (by decide) (fun c18 => ?_) (fun c18 => ?_)
        · replace hF := if_t hF c18
          obtain ⟨v19, e20⟩ : ∃ y : Int32, y = b5 + 1 := ⟨_, rfl⟩
          replace hF := bnd_e hF e20
          refine lv_iinc (v := v19) (lv' := [(5, .int v19), (0, .ref (q1 5)), (1, .long b1), (3, .int b3), (4, .int b4), (6, .int x14)]) X.x X.b (dk DX6_loosestOrBusiest_0 34 rfl) hl (k := 4) rfl (by rw [e20]; rfl) (by decide) rfl (fun ls hl => ?_)
          replace hl : lv_has ls 7 [(0, .ref (q1 5)), (1, .long b1), (3, .int b3), (4, .int b4), (5, .int v19)] := lv_sub hl [1, 2, 3, 4, 0] rfl
          refine lv_goto (tgt := 11) X.x X.b (dk DX6_loosestOrBusiest_0 35 rfl) (by decide) ?_
          exact (lp_l hF hx) _ _ _ hH (lv_sub hl [0, 1, 2, 3, 4] rfl) K0 K1
        · replace hF := if_f hF c18
          refine lv_iload X.x X.b (dk DX6_loosestOrBusiest_0 30 rfl) (lv_at hl 5 rfl) ?_
          refine lv_istore (lv' := [(4, .int x14), (0, .ref (q1 5)), (1, .long b1), (3, .int b3), (5, .int b5), (6, .int x14)]) X.x X.b (dk DX6_loosestOrBusiest_0 31 rfl) hl (by decide) rfl (fun ls hl => ?_)
          replace hl : lv_has ls 7 [(0, .ref (q1 5)), (1, .long b1), (4, .int x14), (5, .int b5)] := lv_sub hl [1, 2, 0, 4] rfl
          refine lv_iload X.x X.b (dk DX6_loosestOrBusiest_0 32 rfl) (lv_at hl 3 rfl) ?_
          refine lv_istore_n (lv' := [(3, .int b5), (0, .ref (q1 5)), (1, .long b1), (4, .int x14), (5, .int b5)]) X.x X.b (dk DX6_loosestOrBusiest_0 33 rfl) rfl hl (by decide) rfl (fun ls hl => ?_)
          replace hl : lv_has ls 7 [(0, .ref (q1 5)), (1, .long b1), (3, .int b5), (4, .int x14), (5, .int b5)] := lv_sub hl [1, 2, 0, 3, 4] rfl
          obtain ⟨v21, e22⟩ : ∃ y : Int32, y = b5 + 1 := ⟨_, rfl⟩
          replace hF := bnd_e hF e22
          refine lv_iinc (v := v21) (lv' := [(5, .int v21), (0, .ref (q1 5)), (1, .long b1), (3, .int b5), (4, .int x14)]) X.x X.b (dk DX6_loosestOrBusiest_0 34 rfl) hl (k := 4) rfl (by rw [e22]; rfl) (by decide) rfl (fun ls hl => ?_)
          replace hl : lv_has ls 7 [(0, .ref (q1 5)), (1, .long b1), (3, .int b5), (4, .int x14), (5, .int v21)] := lv_sub hl [1, 2, 3, 4, 0] rfl
          refine lv_goto (tgt := 11) X.x X.b (dk DX6_loosestOrBusiest_0 35 rfl) (by decide) ?_
          exact (lp_l hF hx) _ _ _ hH (lv_sub hl [0, 1, 2, 3, 4] rfl) K0 K1
      · replace hF := if_f hF c17
        have hr9 := lp_r hF hx
        subst hr9
        exact K0 rfl _ _ _ hH (lv_sub hl [4] rfl)
set_option maxHeartbeats 4000000 in
set_option maxRecDepth 100000 in
theorem c_X6_loosestOrBusiest {l : Launch} {G : mG} {h : mM} {q1 : Nat → Nat} (hq1 : oinj LX10 q1) {st1 : OS} {a1 : Int64} {x : Int32} (hF : f_X6_loosestOrBusiest st1 a1 = some x) : cQ l G yX6_loosestOrBusiest cX6_loosestOrBusiest 7 (some FieldType.int) rm_X6_loosestOrBusiest [.ref (q1 5), .long a1] (oset LX10 G q1 st1 h) (mQi G (fun r h1 => r = x ∧ h1 = oset LX10 G q1 st1 h)) := by
  refine mp_of (by decide +kernel) (Nat.le_of_ble_eq_true rfl) ?_
  intro p e s m below meth c X hr hlk hH hname ls hl
  dsimp only [f_X6_loosestOrBusiest] at hF
  replace hl : lv_has ls 7 [(0, .ref (q1 5)), (1, .long a1)] := hl
  refine lv_lload_n X.x X.b (dk DX6_loosestOrBusiest_0 0 rfl) rfl (lv_at hl 1 rfl) ?_
  obtain ⟨x1, e2, hF⟩ := bd hF
  refine mr_ci0 hH ⟨rfl, rfl⟩ (mr_runS (As := [.long a1]) (rest := []) X hH (c_X10_lowest e2) kM_X6_71 kT_X10_lowest kN_X10 kC_X10_lowest hd_X10_lowest ⟨Nat.le_of_ble_eq_true rfl, Nat.le_of_ble_eq_true rfl⟩ rfl hl.1 (Nat.le_of_ble_eq_true rfl) (dk DX6_loosestOrBusiest_0 1 rfl) ⟨Nat.zero_le _, Nat.zero_le _⟩) (fun r h1 H locs hp hH => ?_)
  obtain ⟨hr1, hr2⟩ := hp; rw [hr1]; rw [hr2] at hH; clear hr1 hr2
  refine lv_istore_n (lv' := [(3, .int x1), (0, .ref (q1 5)), (1, .long a1)]) X.x X.b (dk DX6_loosestOrBusiest_0 2 rfl) rfl hl (by decide) rfl (fun ls hl => ?_)
  replace hl : lv_has ls 7 [(0, .ref (q1 5)), (1, .long a1), (3, .int x1)] := lv_sub hl [1, 2, 0] rfl
  refine lv_iconst (v := (-1)) X.x X.b (dk DX6_loosestOrBusiest_0 3 rfl) (by decide) ?_
  refine lv_istore (lv' := [(4, .int ((-1))), (0, .ref (q1 5)), (1, .long a1), (3, .int x1)]) X.x X.b (dk DX6_loosestOrBusiest_0 4 rfl) hl (by decide) rfl (fun ls hl => ?_)
  replace hl : lv_has ls 7 [(0, .ref (q1 5)), (1, .long a1), (3, .int x1), (4, .int ((-1)))] := lv_sub hl [1, 2, 3, 0] rfl
  refine lv_iconst (v := 0) X.x X.b (dk DX6_loosestOrBusiest_0 5 rfl) (by decide) ?_
  refine lv_istore (lv' := [(5, .int 0), (0, .ref (q1 5)), (1, .long a1), (3, .int x1), (4, .int ((-1)))]) X.x X.b (dk DX6_loosestOrBusiest_0 6 rfl) hl (by decide) rfl (fun ls hl => ?_)
  replace hl : lv_has ls 7 [(0, .ref (q1 5)), (1, .long a1), (3, .int x1), (4, .int ((-1))), (5, .int 0)] := lv_sub hl [1, 2, 3, 4, 0] rfl
  obtain ⟨x23, e24, hF⟩ := bd hF
  replace hl : lv_has ls 7 [(0, .ref (q1 5)), (1, .long a1), (3, .int x1), (4, .int ((-1))), (5, .int 0)] := lv_sub hl [0, 1, 2, 3, 4] rfl
  obtain ⟨k27, v25, v26⟩ := x23
  try dsimp only at hF
  refine w_X6_loosestOrBusiest_11 hq1 X st1 a1 _ _ e24 _ _ _ hH hl (fun hk H locs ls hH hl => ?_) (fun hk H locs ls hH hl => ?_)
  · try dsimp only at hH hl
    try dsimp only at hk
    subst hk
    replace hF := if_t hF rfl
    refine lv_iload X.x X.b (dk DX6_loosestOrBusiest_0 25 rfl) (lv_at hl 0 rfl) ?_
    cases sm hF
    exact mr_iret X hr hlk hH ⟨rfl, rfl⟩ (dk DX6_loosestOrBusiest_0 26 rfl)
  · try dsimp only at hH hl
    try dsimp only at hk
    subst hk
    replace hF := if_f hF (by decide)
    refine lv_iload_n X.x X.b (dk DX6_loosestOrBusiest_0 36 rfl) rfl (lv_at hl 0 rfl) ?_
    cases sm hF
    exact mr_iret X hr hlk hH ⟨rfl, rfl⟩ (dk DX6_loosestOrBusiest_0 37 rfl)
-- X6_mostUnjoined
abbrev rm_X6_mostUnjoined (d : Nat) : Room := { frames := 4 + d, cells := 0, slots := 0, locals := 90 + d * 34 }
theorem hd_X6_mostUnjoined : mHd yX6_mostUnjoined 3 := ⟨by decide +kernel, by decide +kernel, by decide +kernel⟩
theorem DX6_mostUnjoined_0 : ∀ t ∈ ([(0, .iload_n 3, 1), (1, .bipush 27, 2), (3, .if_icmp .le 5, 3), (6, .iconst 0, 1), (7, .ireturn, 1), (8, .lload_n 1, 1), (9, .lstore 4, 2), (11, .iconst 0, 1), (12, .istore 6, 2), (14, .iconst 0, 1), (15, .istore 7, 2), (17, .iload 7, 2), (19, .bipush 27, 2), (21, .if_icmp .gt 110, 3), (24, .lload 4, 2), (26, .lconst 0, 1), (27, .lcmp, 1), (28, .ifCond .eq 103, 3), (31, .aload_n 0, 1), (32, .lload 4, 2), (34, .invokestatic 61, 3), (37, .istore 8, 2), (39, .lload 4, 2), (41, .lconst 1, 1), (42, .iload 8, 2), (44, .lshl, 1), (45, .ldc2_w 44, 3), (48, .lxor, 1), (49, .land, 1), (50, .lstore 9, 2), (52, .lload 9, 2), (54, .aload_n 0, 1), (55, .iload 8, 2), (57, .invokevirtual 50, 3), (60, .ldc2_w 44, 3), (63, .lxor, 1), (64, .land, 1), (65, .lstore 11, 2), (67, .lload 4, 2), (69, .aload_n 0, 1), (70, .iload 8, 2), (72, .invokevirtual 50, 3), (75, .land, 1), (76, .invokestatic 19, 3), (79, .iconst 2, 1), (80, .if_icmp .le 38, 3), (83, .iconst 1, 1), (84, .aload_n 0, 1), (85, .lload 11, 2), (87, .iload_n 3, 1), (88, .iconst 1, 1), (89, .iadd, 1), (90, .invokestatic 57, 3), (93, .iadd, 1), (94, .istore 13, 2), (96, .aload_n 0, 1), (97, .lload 9, 2), (99, .iload_n 3, 1), (100, .iconst 1, 1), (101, .iadd, 1)] : List (Nat × Instr × Nat)), decode cX6_mostUnjoined t.1 = .ok (t.2.1, t.2.2) := by decide +kernel
theorem DX6_mostUnjoined_1 : ∀ t ∈ ([(102, .invokestatic 57, 3), (105, .istore 14, 2), (107, .iload 6, 2), (109, .iload 13, 2), (111, .iload 14, 2), (113, .invokestatic 65, 3), (116, .iadd, 1), (117, .ireturn, 1), (118, .iinc 6 1, 3), (121, .lload 11, 2), (123, .lstore 4, 2), (125, .iinc 7 1, 3), (128, .goto (-111), 3), (131, .iload 6, 2), (133, .ireturn, 1)] : List (Nat × Instr × Nat)), decode cX6_mostUnjoined t.1 = .ok (t.2.1, t.2.2) := by decide +kernel
noncomputable def f_X6_mostUnjoined_17 (rec : OS → Int64 → Int32 → Option (Int32)) (s_o1 : OS) (b3 : Int32) : (Int64 × Int32 × Int32) → Option ((Int64 × Int32 × Int32) ⊕ (Nat × Int32 × Int64 × Int64)) := fun z => match z with | (b4, b6, b7) => (if 27 < b7 then some (.inr ((1, b6, 0, 0))) else (if (lg_cmp b4 0) = 0 then some (.inr ((1, b6, 0, 0))) else (f_X6_loosestOrBusiest s_o1 b4).bind (fun x4 => bnd (b4 &&& ((((1 : Int64)) <<< ((x4 : Int32).toInt64 &&& 63)) ^^^ ((-1))) : Int64) (fun v7 => (f_X10_nearAt s_o1 x4).bind (fun x9 => bnd (v7 &&& (x9 ^^^ ((-1))) : Int64) (fun v12 => (f_X10_nearAt s_o1 x4).bind (fun x14 => (f_J13_bitCount_95d88 (b4 &&& x14)).bind (fun x17 => (if x17 ≤ 2 then bnd (b6 + 1 : Int32) (fun v21 => bnd (b7 + 1 : Int32) (fun v23 => some (.inl ((v12, v21, v23))))) else some (.inr ((0, b6, v7, v12))))))))))))
noncomputable def f_X6_mostUnjoined_T (rec : OS → Int64 → Int32 → Option (Int32)) (st1 : OS) (a1 : Int64) (a2 : Int32) : Option (Int32) := (if a2 ≤ 27 then (lpv (f_X6_mostUnjoined_17 rec st1 a2) ((a1, 0, 0))).bind (fun x25 => match x25 with | (k30, v27, v28, v29) => (if k30 = 0 then (rec st1 v29 (a2 + 1)).bind (fun x31 => bnd ((1 : Int32) + x31 : Int32) (fun v34 => (rec st1 v28 (a2 + 1)).bind (fun x36 => (f_J9_max_7cf53 v34 x36).bind (fun x39 => some (v27 + x39))))) else some v27)) else some 0)
noncomputable def f_X6_mostUnjoined : Nat → OS → Int64 → Int32 → Option (Int32)
  | 0 => fun _ _ _ => none
  | d + 1 => f_X6_mostUnjoined_T (f_X6_mostUnjoined d)
set_option maxHeartbeats 4000000 in
set_option maxRecDepth 100000 in
theorem w_X6_mostUnjoined_17 {p : Program} {l : Launch} {e : Env} {s : State} {m : MethodId} {args : Array Value} {below : List Frame} {meth : Method} {c : Code} {Q : State → Prop} {G : mG} {h : mM} {q1 : Nat → Nat} (hq1 : oinj LX10 q1) {d : Nat} {rec : OS → Int64 → Int32 → Option (Int32)} (ih : ∀ (st1 : OS) (a1 : Int64) (a2 : Int32) (x : Int32), rec st1 a1 a2 = some x → cQ l G yX6_mostUnjoined cX6_mostUnjoined 15 (some FieldType.int) (rm_X6_mostUnjoined d) [.ref (q1 5), .long a1, .int a2] (oset LX10 G q1 st1 h) (mQi G (fun r h1 => r = x ∧ h1 = oset LX10 G q1 st1 h))) (X : mX G p m c cX6_mostUnjoined 15 s args RX6) (s_o1 : OS) (b3 : Int32) : ∀ (z : Int64 × Int32 × Int32) (r : Nat × Int32 × Int64 × Int64), lpv (f_X6_mostUnjoined_17 rec s_o1 b3) z = some r → ∀ (H : Heap) (locs : List Loc) (ls : Array Slot), mH G (oset LX10 G q1 s_o1 h) s.heap H locs → lv_has ls 15 [(0, .ref (q1 5)), (3, .int b3), (4, .long z.1), (6, .int z.2.1), (7, .int z.2.2)] → (r.1 = 0 → ∀ (H : Heap) (locs : List Loc) (ls : Array Slot), mH G (oset LX10 G q1 s_o1 h) s.heap H locs → lv_has ls 15 [(0, .ref (q1 5)), (3, .int b3), (6, .int r.2.1), (9, .long r.2.2.1), (11, .long r.2.2.2)] → W p l e (rm_X6_mostUnjoined (d + 1)) s m args below meth c H locs 0 0 Q (F0 m 83 ls [])) → (r.1 = 1 → ∀ (H : Heap) (locs : List Loc) (ls : Array Slot), mH G (oset LX10 G q1 s_o1 h) s.heap H locs → lv_has ls 15 [(6, .int r.2.1)] → W p l e (rm_X6_mostUnjoined (d + 1)) s m args below meth c H locs 0 0 Q (F0 m 131 ls [])) → W p l e (rm_X6_mostUnjoined (d + 1)) s m args below meth c H locs 0 0 Q (F0 m 17 ls []) := by
  refine lpv_rec ?_
  intro z r x hF hx H locs ls hH hl K0 K1
  obtain ⟨b4, b6, b7⟩ := z
  dsimp only [f_X6_mostUnjoined_17] at hF
  try dsimp only at hH hl
  refine lv_iload X.x X.b (dk DX6_mostUnjoined_0 11 rfl) (lv_at hl 4 rfl) ?_
  refine lv_bipush (v := 27) X.x X.b (dk DX6_mostUnjoined_0 12 rfl) (by decide) ?_
  refine lv_icmp_gt (tgt := 131) X.x X.b (dk DX6_mostUnjoined_0 13 rfl) (by decide) (fun c2 => ?_) (fun c2 => ?_)
  · replace hF := if_t hF c2
    have hr9 := lp_r hF hx
    subst hr9
    exact K1 rfl _ _ _ hH (lv_sub hl [3] rfl)
  · replace hF := if_f hF c2
    refine lv_lload X.x X.b (dk DX6_mostUnjoined_0 14 rfl) (lv_at hl 2 rfl) ?_
    refine lv_lconst (v := 0) X.x X.b (dk DX6_mostUnjoined_0 15 rfl) (by decide) ?_
    refine W.lcmp X.x X.b (dk DX6_mostUnjoined_0 16 rfl) ?_
    refine lv_if_eq (tgt := 131) X.x X.b (dk DX6_mostUnjoined_0 17 rfl) (by decide) (fun c3 => ?_) (fun c3 => ?_)
    · replace hF := if_t hF c3
      have hr9 := lp_r hF hx
      subst hr9
      exact K1 rfl _ _ _ hH (lv_sub hl [3] rfl)
    · replace hF := if_f hF c3
      refine lv_aload_n X.x X.b (dk DX6_mostUnjoined_0 18 rfl) rfl (lv_at hl 0 rfl) ?_
      refine lv_lload X.x X.b (dk DX6_mostUnjoined_0 19 rfl) (lv_at hl 2 rfl) ?_
      obtain ⟨x4, e5, hF⟩ := bd hF
      refine mr_ci0 hH ⟨rfl, rfl⟩ (mr_runS (As := [.ref (q1 5), .long b4]) (rest := []) X hH (c_X6_loosestOrBusiest hq1 e5) kM_X6_61 kT_X6_loosestOrBusiest kN_X6 kC_X6_loosestOrBusiest hd_X6_loosestOrBusiest ⟨by dsimp only [rm_X6_mostUnjoined, rm_X6_loosestOrBusiest]; omega, by dsimp only [rm_X6_mostUnjoined, rm_X6_loosestOrBusiest]; omega⟩ rfl hl.1 (Nat.le_of_ble_eq_true rfl) (dk DX6_mostUnjoined_0 20 rfl) ⟨Nat.zero_le _, Nat.zero_le _⟩) (fun r h1 H locs hp hH => ?_)
      obtain ⟨hr1, hr2⟩ := hp; rw [hr1]; rw [hr2] at hH; clear hr1 hr2
      refine lv_istore (lv' := [(8, .int x4), (0, .ref (q1 5)), (3, .int b3), (4, .long b4), (6, .int b6), (7, .int b7)]) X.x X.b (dk DX6_mostUnjoined_0 21 rfl) hl (by decide) rfl (fun ls hl => ?_)
      replace hl : lv_has ls 15 [(0, .ref (q1 5)), (3, .int b3), (4, .long b4), (6, .int b6), (7, .int b7), (8, .int x4)] := lv_sub hl [1, 2, 3, 4, 5, 0] rfl
      refine lv_lload X.x X.b (dk DX6_mostUnjoined_0 22 rfl) (lv_at hl 2 rfl) ?_
      refine lv_lconst (v := 1) X.x X.b (dk DX6_mostUnjoined_0 23 rfl) (by decide) ?_
      refine lv_iload X.x X.b (dk DX6_mostUnjoined_0 24 rfl) (lv_at hl 5 rfl) ?_
      refine lv_lshl X.x X.b (dk DX6_mostUnjoined_0 25 rfl) rfl ?_
      refine lv_ldc2 (v := (-1)) X.x X.b X.ow (X.ts _ kK_X6_44) (dk DX6_mostUnjoined_0 26 rfl) ?_
      refine lv_lxor X.x X.b (dk DX6_mostUnjoined_0 27 rfl) ?_
      refine lv_land X.x X.b (dk DX6_mostUnjoined_0 28 rfl) ?_
      refine lv_topl (fun v7 e8 => ?_)
      replace hF := bnd_e hF e8
      refine lv_lstore (lv' := [(9, .long v7), (0, .ref (q1 5)), (3, .int b3), (4, .long b4), (6, .int b6), (7, .int b7), (8, .int x4)]) X.x X.b (dk DX6_mostUnjoined_0 29 rfl) hl (by decide) rfl (fun ls hl => ?_)
      replace hl : lv_has ls 15 [(0, .ref (q1 5)), (3, .int b3), (4, .long b4), (6, .int b6), (7, .int b7), (8, .int x4), (9, .long v7)] := lv_sub hl [1, 2, 3, 4, 5, 6, 0] rfl
      refine lv_lload X.x X.b (dk DX6_mostUnjoined_0 30 rfl) (lv_at hl 6 rfl) ?_
      refine lv_aload_n X.x X.b (dk DX6_mostUnjoined_0 31 rfl) rfl (lv_at hl 0 rfl) ?_
      refine lv_iload X.x X.b (dk DX6_mostUnjoined_0 32 rfl) (lv_at hl 5 rfl) ?_
      obtain ⟨x9, e10, hF⟩ := bd hF
      refine mr_cl0 hH ⟨rfl, rfl⟩ (mr_runV (As := [.int x4]) (rest := [.long v7]) X hH (c_X10_nearAt hq1 e10) ((oset_at hq1 (Nat.le_refl _) ohas_N).trans (congrArg some ocell_N)) OX10.1 kM_X6_50 kI_X10_nearAt kS_X10_nearAt kN_X10 kC_X10_nearAt hd_X10_nearAt ⟨by dsimp only [rm_X6_mostUnjoined, rm_X10_nearAt]; omega, by dsimp only [rm_X6_mostUnjoined, rm_X10_nearAt]; omega⟩ rfl hl.1 (Nat.le_of_ble_eq_true rfl) (dk DX6_mostUnjoined_0 33 rfl) ⟨Nat.zero_le _, Nat.zero_le _⟩) (fun r h1 H locs hp hH => ?_)
      obtain ⟨hr1, hr2⟩ := hp; rw [hr1]; rw [hr2] at hH; clear hr1 hr2
      refine lv_ldc2 (v := (-1)) X.x X.b X.ow (X.ts _ kK_X6_44) (dk DX6_mostUnjoined_0 34 rfl) ?_
      refine lv_lxor X.x X.b (dk DX6_mostUnjoined_0 35 rfl) ?_
      refine lv_land X.x X.b (dk DX6_mostUnjoined_0 36 rfl) ?_
      refine lv_topl (fun v12 e13 => ?_)
      replace hF := bnd_e hF e13
      refine lv_lstore (lv' := [(11, .long v12), (0, .ref (q1 5)), (3, .int b3), (4, .long b4), (6, .int b6), (7, .int b7), (8, .int x4), (9, .long v7)]) X.x X.b (dk DX6_mostUnjoined_0 37 rfl) hl (by decide) rfl (fun ls hl => ?_)
      replace hl : lv_has ls 15 [(0, .ref (q1 5)), (3, .int b3), (4, .long b4), (6, .int b6), (7, .int b7), (8, .int x4), (9, .long v7), (11, .long v12)] := lv_sub hl [1, 2, 3, 4, 5, 6, 7, 0] rfl
      refine lv_lload X.x X.b (dk DX6_mostUnjoined_0 38 rfl) (lv_at hl 2 rfl) ?_
      refine lv_aload_n X.x X.b (dk DX6_mostUnjoined_0 39 rfl) rfl (lv_at hl 0 rfl) ?_
      refine lv_iload X.x X.b (dk DX6_mostUnjoined_0 40 rfl) (lv_at hl 5 rfl) ?_
      obtain ⟨x14, e15, hF⟩ := bd hF
      refine mr_cl0 hH ⟨rfl, rfl⟩ (mr_runV (As := [.int x4]) (rest := [.long b4]) X hH (c_X10_nearAt hq1 e15) ((oset_at hq1 (Nat.le_refl _) ohas_N).trans (congrArg some ocell_N)) OX10.1 kM_X6_50 kI_X10_nearAt kS_X10_nearAt kN_X10 kC_X10_nearAt hd_X10_nearAt ⟨by dsimp only [rm_X6_mostUnjoined, rm_X10_nearAt]; omega, by dsimp only [rm_X6_mostUnjoined, rm_X10_nearAt]; omega⟩ rfl hl.1 (Nat.le_of_ble_eq_true rfl) (dk DX6_mostUnjoined_0 41 rfl) ⟨Nat.zero_le _, Nat.zero_le _⟩) (fun r h1 H locs hp hH => ?_)
      obtain ⟨hr1, hr2⟩ := hp; rw [hr1]; rw [hr2] at hH; clear hr1 hr2
      refine lv_land X.x X.b (dk DX6_mostUnjoined_0 42 rfl) ?_
      obtain ⟨x17, e18, hF⟩ := bd hF
      refine mr_ci0 hH ⟨rfl, rfl⟩ (mr_runS (As := [.long (b4 &&& x14)]) (rest := []) X hH (c_J13_bitCount_95d88 e18) kM_X6_19 kT_J13_bitCount_95d88 kN_J13 kC_J13_bitCount_95d88 hd_J13_bitCount_95d88 ⟨by dsimp only [rm_X6_mostUnjoined, rm_J13_bitCount_95d88]; omega, by dsimp only [rm_X6_mostUnjoined, rm_J13_bitCount_95d88]; omega⟩ rfl hl.1 (Nat.le_of_ble_eq_true rfl) (dk DX6_mostUnjoined_0 43 rfl) ⟨Nat.zero_le _, Nat.zero_le _⟩) (fun r h1 H locs hp hH => ?_)
      obtain ⟨hr1, hr2⟩ := hp; rw [hr1]; rw [hr2] at hH; clear hr1 hr2
      refine lv_iconst (v := 2) X.x X.b (dk DX6_mostUnjoined_0 44 rfl) (by decide) ?_
      refine lv_icmp_le (tgt := 118) X.x X.b (dk DX6_mostUnjoined_0 45 rfl) (by decide) (fun c20 => ?_) (fun c20 => ?_)
      · replace hF := if_t hF c20
        obtain ⟨v21, e22⟩ : ∃ y : Int32, y = b6 + 1 := ⟨_, rfl⟩
        replace hF := bnd_e hF e22
        refine lv_iinc (v := v21) (lv' := [(6, .int v21), (0, .ref (q1 5)), (3, .int b3), (4, .long b4), (7, .int b7), (8, .int x4), (9, .long v7), (11, .long v12)]) X.x X.b (dk DX6_mostUnjoined_1 8 rfl) hl (k := 3) rfl (by rw [e22]; rfl) (by decide) rfl (fun ls hl => ?_)
        replace hl : lv_has ls 15 [(0, .ref (q1 5)), (3, .int b3), (6, .int v21), (7, .int b7), (11, .long v12)] := lv_sub hl [1, 2, 0, 4, 7] rfl
        refine lv_lload X.x X.b (dk DX6_mostUnjoined_1 9 rfl) (lv_at hl 4 rfl) ?_
        refine lv_lstore (lv' := [(4, .long v12), (0, .ref (q1 5)), (3, .int b3), (6, .int v21), (7, .int b7), (11, .long v12)]) X.x X.b (dk DX6_mostUnjoined_1 10 rfl) hl (by decide) rfl (fun ls hl => ?_)
        replace hl : lv_has ls 15 [(0, .ref (q1 5)), (3, .int b3), (4, .long v12), (6, .int v21), (7, .int b7)] := lv_sub hl [1, 2, 0, 3, 4] rfl
        obtain ⟨v23, e24⟩ : ∃ y : Int32, y = b7 + 1 := ⟨_, rfl⟩
        replace hF := bnd_e hF e24
        refine lv_iinc (v := v23) (lv' := [(7, .int v23), (0, .ref (q1 5)), (3, .int b3), (4, .long v12), (6, .int v21)]) X.x X.b (dk DX6_mostUnjoined_1 11 rfl) hl (k := 4) rfl (by rw [e24]; rfl) (by decide) rfl (fun ls hl => ?_)
        replace hl : lv_has ls 15 [(0, .ref (q1 5)), (3, .int b3), (4, .long v12), (6, .int v21), (7, .int v23)] := lv_sub hl [1, 2, 3, 4, 0] rfl
        refine lv_goto (tgt := 17) X.x X.b (dk DX6_mostUnjoined_1 12 rfl) (by decide) ?_
        exact (lp_l hF hx) _ _ _ hH (lv_sub hl [0, 1, 2, 3, 4] rfl) K0 K1
      · replace hF := if_f hF c20
        have hr9 := lp_r hF hx
        subst hr9
        exact K0 rfl _ _ _ hH (lv_sub hl [0, 1, 3, 6, 7] rfl)
set_option maxHeartbeats 4000000 in
set_option maxRecDepth 100000 in
theorem c_X6_mostUnjoined {l : Launch} {G : mG} {h : mM} {q1 : Nat → Nat} (hq1 : oinj LX10 q1) (d : Nat) : ∀ (st1 : OS) (a1 : Int64) (a2 : Int32) (x : Int32), f_X6_mostUnjoined d st1 a1 a2 = some x → cQ l G yX6_mostUnjoined cX6_mostUnjoined 15 (some FieldType.int) (rm_X6_mostUnjoined d) [.ref (q1 5), .long a1, .int a2] (oset LX10 G q1 st1 h) (mQi G (fun r h1 => r = x ∧ h1 = oset LX10 G q1 st1 h)) := by
  induction d with
  | zero => intro st1 a1 a2 x hF; cases hF
  | succ d ih =>
    intro st1 a1 a2 x hF
    have hF : f_X6_mostUnjoined_T (f_X6_mostUnjoined d) st1 a1 a2 = some x := hF
    generalize f_X6_mostUnjoined d = rec at hF ih
    refine mp_of (by decide +kernel) (Nat.le_of_ble_eq_true rfl) ?_
    intro p e s m below meth c X hr hlk hH hname ls hl
    dsimp only [f_X6_mostUnjoined_T] at hF
    replace hl : lv_has ls 15 [(0, .ref (q1 5)), (1, .long a1), (3, .int a2)] := hl
    refine lv_iload_n X.x X.b (dk DX6_mostUnjoined_0 0 rfl) rfl (lv_at hl 2 rfl) ?_
    refine lv_bipush (v := 27) X.x X.b (dk DX6_mostUnjoined_0 1 rfl) (by decide) ?_
    refine lv_icmp_le (tgt := 8) X.x X.b (dk DX6_mostUnjoined_0 2 rfl) (by decide) (fun c1 => ?_) (fun c1 => ?_)
    · replace hF := if_t hF c1
      refine lv_lload_n X.x X.b (dk DX6_mostUnjoined_0 5 rfl) rfl (lv_at hl 1 rfl) ?_
      refine lv_lstore (lv' := [(4, .long a1), (0, .ref (q1 5)), (1, .long a1), (3, .int a2)]) X.x X.b (dk DX6_mostUnjoined_0 6 rfl) hl (by decide) rfl (fun ls hl => ?_)
      replace hl : lv_has ls 15 [(0, .ref (q1 5)), (3, .int a2), (4, .long a1)] := lv_sub hl [1, 3, 0] rfl
      refine lv_iconst (v := 0) X.x X.b (dk DX6_mostUnjoined_0 7 rfl) (by decide) ?_
      refine lv_istore (lv' := [(6, .int 0), (0, .ref (q1 5)), (3, .int a2), (4, .long a1)]) X.x X.b (dk DX6_mostUnjoined_0 8 rfl) hl (by decide) rfl (fun ls hl => ?_)
      replace hl : lv_has ls 15 [(0, .ref (q1 5)), (3, .int a2), (4, .long a1), (6, .int 0)] := lv_sub hl [1, 2, 3, 0] rfl
      refine lv_iconst (v := 0) X.x X.b (dk DX6_mostUnjoined_0 9 rfl) (by decide) ?_
      refine lv_istore (lv' := [(7, .int 0), (0, .ref (q1 5)), (3, .int a2), (4, .long a1), (6, .int 0)]) X.x X.b (dk DX6_mostUnjoined_0 10 rfl) hl (by decide) rfl (fun ls hl => ?_)
      replace hl : lv_has ls 15 [(0, .ref (q1 5)), (3, .int a2), (4, .long a1), (6, .int 0), (7, .int 0)] := lv_sub hl [1, 2, 3, 4, 0] rfl
      obtain ⟨x25, e26, hF⟩ := bd hF
      replace hl : lv_has ls 15 [(0, .ref (q1 5)), (3, .int a2), (4, .long a1), (6, .int 0), (7, .int 0)] := lv_sub hl [0, 1, 2, 3, 4] rfl
      obtain ⟨k30, v27, v28, v29⟩ := x25
      try dsimp only at hF
      refine w_X6_mostUnjoined_17 hq1 ih X st1 a2 _ _ e26 _ _ _ hH hl (fun hk H locs ls hH hl => ?_) (fun hk H locs ls hH hl => ?_)
      · try dsimp only at hH hl
        try dsimp only at hk
        subst hk
        replace hF := if_t hF rfl
        refine lv_iconst (v := 1) X.x X.b (dk DX6_mostUnjoined_0 46 rfl) (by decide) ?_
        refine lv_aload_n X.x X.b (dk DX6_mostUnjoined_0 47 rfl) rfl (lv_at hl 0 rfl) ?_
        refine lv_lload X.x X.b (dk DX6_mostUnjoined_0 48 rfl) (lv_at hl 4 rfl) ?_
        refine lv_iload_n X.x X.b (dk DX6_mostUnjoined_0 49 rfl) rfl (lv_at hl 1 rfl) ?_
        refine lv_iconst (v := 1) X.x X.b (dk DX6_mostUnjoined_0 50 rfl) (by decide) ?_
        refine lv_iadd X.x X.b (dk DX6_mostUnjoined_0 51 rfl) ?_
        obtain ⟨x31, e32, hF⟩ := bd hF
        refine mr_ci0 hH ⟨rfl, rfl⟩ (mr_runS (As := [.ref (q1 5), .long v29, .int (a2 + 1)]) (rest := [.int 1]) X hH (ih st1 v29 (a2 + 1) _ e32) kM_X6_57 kT_X6_mostUnjoined kN_X6 kC_X6_mostUnjoined hd_X6_mostUnjoined ⟨by dsimp only [rm_X6_mostUnjoined, rm_X6_mostUnjoined]; omega, by dsimp only [rm_X6_mostUnjoined, rm_X6_mostUnjoined]; omega⟩ rfl hl.1 (Nat.le_of_ble_eq_true rfl) (dk DX6_mostUnjoined_0 52 rfl) ⟨Nat.zero_le _, Nat.zero_le _⟩) (fun r h1 H locs hp hH => ?_)
        obtain ⟨hr1, hr2⟩ := hp; rw [hr1]; rw [hr2] at hH; clear hr1 hr2
        refine lv_iadd X.x X.b (dk DX6_mostUnjoined_0 53 rfl) ?_
        refine lv_topi (fun v34 e35 => ?_)
        replace hF := bnd_e hF e35
        refine lv_istore (lv' := [(13, .int v34), (0, .ref (q1 5)), (3, .int a2), (6, .int v27), (9, .long v28), (11, .long v29)]) X.x X.b (dk DX6_mostUnjoined_0 54 rfl) hl (by decide) rfl (fun ls hl => ?_)
        replace hl : lv_has ls 15 [(0, .ref (q1 5)), (3, .int a2), (6, .int v27), (9, .long v28), (13, .int v34)] := lv_sub hl [1, 2, 3, 4, 0] rfl
        refine lv_aload_n X.x X.b (dk DX6_mostUnjoined_0 55 rfl) rfl (lv_at hl 0 rfl) ?_
        refine lv_lload X.x X.b (dk DX6_mostUnjoined_0 56 rfl) (lv_at hl 3 rfl) ?_
        refine lv_iload_n X.x X.b (dk DX6_mostUnjoined_0 57 rfl) rfl (lv_at hl 1 rfl) ?_
        refine lv_iconst (v := 1) X.x X.b (dk DX6_mostUnjoined_0 58 rfl) (by decide) ?_
        refine lv_iadd X.x X.b (dk DX6_mostUnjoined_0 59 rfl) ?_
        obtain ⟨x36, e37, hF⟩ := bd hF
        refine mr_ci0 hH ⟨rfl, rfl⟩ (mr_runS (As := [.ref (q1 5), .long v28, .int (a2 + 1)]) (rest := []) X hH (ih st1 v28 (a2 + 1) _ e37) kM_X6_57 kT_X6_mostUnjoined kN_X6 kC_X6_mostUnjoined hd_X6_mostUnjoined ⟨by dsimp only [rm_X6_mostUnjoined, rm_X6_mostUnjoined]; omega, by dsimp only [rm_X6_mostUnjoined, rm_X6_mostUnjoined]; omega⟩ rfl hl.1 (Nat.le_of_ble_eq_true rfl) (dk DX6_mostUnjoined_1 0 rfl) ⟨Nat.zero_le _, Nat.zero_le _⟩) (fun r h1 H locs hp hH => ?_)
        obtain ⟨hr1, hr2⟩ := hp; rw [hr1]; rw [hr2] at hH; clear hr1 hr2
        refine lv_istore (lv' := [(14, .int x36), (0, .ref (q1 5)), (3, .int a2), (6, .int v27), (9, .long v28), (13, .int v34)]) X.x X.b (dk DX6_mostUnjoined_1 1 rfl) hl (by decide) rfl (fun ls hl => ?_)
        replace hl : lv_has ls 15 [(6, .int v27), (13, .int v34), (14, .int x36)] := lv_sub hl [3, 5, 0] rfl
        refine lv_iload X.x X.b (dk DX6_mostUnjoined_1 2 rfl) (lv_at hl 0 rfl) ?_
        refine lv_iload X.x X.b (dk DX6_mostUnjoined_1 3 rfl) (lv_at hl 1 rfl) ?_
        refine lv_iload X.x X.b (dk DX6_mostUnjoined_1 4 rfl) (lv_at hl 2 rfl) ?_
        obtain ⟨x39, e40, hF⟩ := bd hF
        refine mr_ci0 hH ⟨rfl, rfl⟩ (mr_runS (As := [.int v34, .int x36]) (rest := [.int v27]) X hH (c_J9_max_7cf53 e40) kM_X6_65 kT_J9_max_7cf53 kN_J9 kC_J9_max_7cf53 hd_J9_max_7cf53 ⟨by dsimp only [rm_X6_mostUnjoined, rm_J9_max_7cf53]; omega, by dsimp only [rm_X6_mostUnjoined, rm_J9_max_7cf53]; omega⟩ rfl hl.1 (Nat.le_of_ble_eq_true rfl) (dk DX6_mostUnjoined_1 5 rfl) ⟨Nat.zero_le _, Nat.zero_le _⟩) (fun r h1 H locs hp hH => ?_)
        obtain ⟨hr1, hr2⟩ := hp; rw [hr1]; rw [hr2] at hH; clear hr1 hr2
        refine lv_iadd X.x X.b (dk DX6_mostUnjoined_1 6 rfl) ?_
        cases sm hF
        exact mr_iret X hr hlk hH ⟨rfl, rfl⟩ (dk DX6_mostUnjoined_1 7 rfl)
      · try dsimp only at hH hl
        try dsimp only at hk
        subst hk
        replace hF := if_f hF (by decide)
        refine lv_iload X.x X.b (dk DX6_mostUnjoined_1 13 rfl) (lv_at hl 0 rfl) ?_
        cases sm hF
        exact mr_iret X hr hlk hH ⟨rfl, rfl⟩ (dk DX6_mostUnjoined_1 14 rfl)
    · replace hF := if_f hF c1
      refine lv_iconst (v := 0) X.x X.b (dk DX6_mostUnjoined_0 3 rfl) (by decide) ?_
      cases sm hF
      exact mr_iret X hr hlk hH ⟨rfl, rfl⟩ (dk DX6_mostUnjoined_0 4 rfl)
