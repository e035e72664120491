-- X4_fillBasis
abbrev rm_X4_fillBasis : Room := { frames := 1, cells := 0, slots := 0, locals := 22 }
theorem hd_X4_fillBasis : mHd yX4_fillBasis 1 := ⟨by decide +kernel, by decide +kernel, by decide +kernel⟩
theorem DX4_fillBasis_0 : ∀ t ∈ ([(0, .iconst 0, 1), (1, .istore_n 2, 1), (2, .iconst 0, 1), (3, .istore_n 3, 1), (4, .iload_n 3, 1), (5, .aload_n 1, 1), (6, .getfield 36, 3), (9, .if_icmp .ge 91, 3), (12, .iload_n 3, 1), (13, .bipush 64, 2), (15, .if_icmp .ge 85, 3), (18, .iload_n 2, 1), (19, .bipush 16, 2), (21, .if_icmp .ge 79, 3), (24, .aload_n 0, 1), (25, .getfield 17, 3), (28, .iload_n 3, 1), (29, .laload, 1), (30, .lconst 0, 1), (31, .lcmp, 1), (32, .ifCond .ne 62, 3), (35, .lconst 1, 1), (36, .iload_n 3, 1), (37, .lshl, 1), (38, .lstore 4, 2), (40, .iconst 0, 1), (41, .istore 6, 2), (43, .iload 6, 2), (45, .bipush 64, 2), (47, .if_icmp .ge 36, 3), (50, .lload 4, 2), (52, .aload_n 0, 1), (53, .getfield 17, 3), (56, .iload 6, 2), (58, .laload, 1), (59, .iload_n 3, 1), (60, .invokestatic 32, 3), (63, .ifCond .eq 10, 3), (66, .lconst 1, 1), (67, .iload 6, 2), (69, .lshl, 1), (70, .goto 4, 3), (73, .lconst 0, 1), (74, .lor, 1), (75, .lstore 4, 2), (77, .iinc 6 1, 3), (80, .goto (-37), 3), (83, .aload_n 0, 1), (84, .getfield 21, 3), (87, .iload_n 2, 1), (88, .lload 4, 2), (90, .lastore, 1), (91, .iinc 2 1, 3), (94, .iinc 3 1, 3), (97, .goto (-93), 3), (100, .return_, 1)] : List (Nat × Instr × Nat)), decode cX4_fillBasis t.1 = .ok (t.2.1, t.2.2) := by decide +kernel
noncomputable def f_X4_fillBasis_43 (s_t : OS) (s_o1 : OS) (b2 : Int32) (b3 : Int32) : (Int64 × Int32) → Option ((Int64 × Int32) ⊕ (Int64)) := fun z => match z with | (b4, b6) => (if 64 ≤ b6 then some (.inr b4) else if inb b6 64 = true then (f_X10_has (s_t.2.2.2 1 (b6 : Int32).toNatClampNeg) b3).bind (fun x12 => (if x12 = 0 then bnd (b4 ||| 0 : Int64) (fun v16 => bnd (b6 + 1 : Int32) (fun v18 => some (.inl ((v16, v18))))) else bnd (b4 ||| (((1 : Int64)) <<< ((b6 : Int32).toInt64 &&& 63)) : Int64) (fun v20 => bnd (b6 + 1 : Int32) (fun v22 => some (.inl ((v20, v22))))))) else none)
noncomputable def f_X4_fillBasis_4 (s_o1 : OS) : (OS × Int32 × Int32) → Option ((OS × Int32 × Int32) ⊕ (OS)) := fun z => match z with | (s_t, b2, b3) => (if (s_o1.1 0) ≤ b3 then some (.inr s_t) else (if 64 ≤ b3 then some (.inr s_t) else (if 16 ≤ b2 then some (.inr s_t) else if inb b3 64 = true then (if (lg_cmp (s_t.2.2.2 1 (b3 : Int32).toNatClampNeg) 0) = 0 then bnd (((1 : Int64)) <<< ((b3 : Int32).toInt64 &&& 63) : Int64) (fun v8 => (lpv (f_X4_fillBasis_43 s_t s_o1 b2 b3) ((v8, 0))).bind (fun x24 => if inb b2 16 = true then bnd (oB s_t 2 (vp_updL (s_t.2.2.2 2) (b2 : Int32).toNatClampNeg x24)) (fun t28 => bnd (b2 + 1 : Int32) (fun v30 => bnd (b3 + 1 : Int32) (fun v32 => some (.inl ((t28, v30, v32)))))) else none)) else bnd (b3 + 1 : Int32) (fun v6 => some (.inl ((s_t, b2, v6))))) else none)))
noncomputable def f_X4_fillBasis (st : OS) (st1 : OS) : Option (OS) := (lpv (f_X4_fillBasis_4 st1) ((st, 0, 0))).bind (fun x34 => some x34)
set_option maxHeartbeats 4000000 in
set_option maxRecDepth 100000 in
theorem w_X4_fillBasis_43 {p : Program} {l : Launch} {e : Env} {s : State} {m : MethodId} {args : Array Value} {below : List Frame} {meth : Method} {c : Code} {Q : State → Prop} {G : mG} {h : mM} {q : Nat → Nat} {q1 : Nat → Nat} (hq : oinj LX4 q) (hq1 : oinj LX10 q1) (ha : oap [(LX4, q), (LX10, q1)]) (X : mX G p m c cX4_fillBasis 7 s args RX4) (s_t : OS) (s_o1 : OS) (b2 : Int32) (b3 : Int32) : ∀ (z : Int64 × Int32) (r : Int64), lpv (f_X4_fillBasis_43 s_t s_o1 b2 b3) z = some r → ∀ (H : Heap) (locs : List Loc) (ls : Array Slot), mH G (oset LX4 G q s_t (oset LX10 G q1 s_o1 h)) s.heap H locs → lv_has ls 7 [(0, .ref (q 3)), (1, .ref (q1 5)), (2, .int b2), (3, .int b3), (4, .long z.1), (6, .int z.2)] → (∀ (H : Heap) (locs : List Loc) (ls : Array Slot), mH G (oset LX4 G q s_t (oset LX10 G q1 s_o1 h)) s.heap H locs → lv_has ls 7 [(0, .ref (q 3)), (1, .ref (q1 5)), (2, .int b2), (3, .int b3), (4, .long r)] → W p l e rm_X4_fillBasis s m args below meth c H locs 0 0 Q (F0 m 83 ls [])) → W p l e rm_X4_fillBasis s m args below meth c H locs 0 0 Q (F0 m 43 ls []) := by
  refine lpv_rec ?_
  intro z r x hF hx H locs ls hH hl K0
  obtain ⟨b4, b6⟩ := z
  dsimp only [f_X4_fillBasis_43] at hF
  try dsimp only at hH hl
  refine lv_iload X.x X.b (dk DX4_fillBasis_0 27 rfl) (lv_at hl 5 rfl) ?_
  refine lv_bipush (v := 64) X.x X.b (dk DX4_fillBasis_0 28 rfl) (by decide) ?_
  refine lv_icmp_ge (tgt := 83) X.x X.b (dk DX4_fillBasis_0 29 rfl) (by decide) (fun c10 => ?_) (fun c10 => ?_)
  · replace hF := if_t hF c10
    have hr9 := lp_r hF hx
    subst hr9
    exact K0 _ _ _ hH (lv_sub hl [0, 1, 2, 3, 4] rfl)
  · replace hF := if_f hF c10
    refine lv_lload X.x X.b (dk DX4_fillBasis_0 30 rfl) (lv_at hl 4 rfl) ?_
    refine lv_aload_n X.x X.b (dk DX4_fillBasis_0 31 rfl) rfl (lv_at hl 0 rfl) ?_
    refine og_getR (t := 1) OX4 X hq hH 1 (by decide) rfl kF_X4_17 (dk DX4_fillBasis_0 32 rfl) ?_
    refine lv_iload X.x X.b (dk DX4_fillBasis_0 33 rfl) (lv_at hl 5 rfl) ?_
    obtain ⟨c11, hF⟩ := gd hF
    refine og_lald X hq hH 1 (by decide) rfl (inb_in c11) (dk DX4_fillBasis_0 34 rfl) ?_
    refine lv_iload_n X.x X.b (dk DX4_fillBasis_0 35 rfl) rfl (lv_at hl 3 rfl) ?_
    obtain ⟨x12, e13, hF⟩ := bd hF
    refine mr_ci0 hH ⟨rfl, rfl⟩ (mr_runS (As := [.long (s_t.2.2.2 1 (b6 : Int32).toNatClampNeg), .int b3]) (rest := [.long b4]) X hH (c_X10_has e13) kM_X4_32 kT_X10_has kN_X10 kC_X10_has hd_X10_has ⟨Nat.le_of_ble_eq_true rfl, Nat.le_of_ble_eq_true rfl⟩ rfl hl.1 (Nat.le_of_ble_eq_true rfl) (dk DX4_fillBasis_0 36 rfl) ⟨Nat.zero_le _, Nat.zero_le _⟩) (fun r h1 H locs hp hH => ?_)
    obtain ⟨hr1, hr2⟩ := hp; rw [hr1]; rw [hr2] at hH; clear hr1 hr2
    refine lv_if_eq (tgt := 73) X.x X.b (dk DX4_fillBasis_0 37 rfl) (by decide) (fun c15 => ?_) (fun c15 => ?_)
    · replace hF := if_t hF c15
      refine lv_lconst (v := 0) X.x X.b (dk DX4_fillBasis_0 42 rfl) (by decide) ?_
      refine lv_lor X.x X.b (dk DX4_fillBasis_0 43 rfl) ?_
      refine lv_topl (fun v16 e17 => ?_)
      replace hF := bnd_e hF e17
      refine lv_lstore (lv' := [(4, .long v16), (0, .ref (q 3)), (1, .ref (q1 5)), (2, .int b2), (3, .int b3), (6, .int b6)]) X.x X.b (dk DX4_fillBasis_0 44 rfl) hl (by decide) rfl (fun ls hl => ?_)
      replace hl : lv_has ls 7 [(0, .ref (q 3)), (1, .ref (q1 5)), (2, .int b2), (3, .int b3), (4, .long v16), (6, .int b6)] := lv_sub hl [1, 2, 3, 4, 0, 5] rfl
      obtain ⟨v18, e19⟩ : ∃ y : Int32, y = b6 + 1 := ⟨_, rfl⟩
      replace hF := bnd_e hF e19
      refine lv_iinc (v := v18) (lv' := [(6, .int v18), (0, .ref (q 3)), (1, .ref (q1 5)), (2, .int b2), (3, .int b3), (4, .long v16)]) X.x X.b (dk DX4_fillBasis_0 45 rfl) hl (k := 5) rfl (by rw [e19]; rfl) (by decide) rfl (fun ls hl => ?_)
      replace hl : lv_has ls 7 [(0, .ref (q 3)), (1, .ref (q1 5)), (2, .int b2), (3, .int b3), (4, .long v16), (6, .int v18)] := lv_sub hl [1, 2, 3, 4, 5, 0] rfl
      refine lv_goto (tgt := 43) X.x X.b (dk DX4_fillBasis_0 46 rfl) (by decide) ?_
      exact (lp_l hF hx) _ _ _ hH (lv_sub hl [0, 1, 2, 3, 4, 5] rfl) K0
    · replace hF := if_f hF c15
      refine lv_lconst (v := 1) X.x X.b (dk DX4_fillBasis_0 38 rfl) (by decide) ?_
      refine lv_iload X.x X.b (dk DX4_fillBasis_0 39 rfl) (lv_at hl 5 rfl) ?_
      refine lv_lshl X.x X.b (dk DX4_fillBasis_0 40 rfl) rfl ?_
      refine lv_goto (tgt := 74) X.x X.b (dk DX4_fillBasis_0 41 rfl) (by decide) ?_
      refine lv_lor X.x X.b (dk DX4_fillBasis_0 43 rfl) ?_
      refine lv_topl (fun v20 e21 => ?_)
      replace hF := bnd_e hF e21
      refine lv_lstore (lv' := [(4, .long v20), (0, .ref (q 3)), (1, .ref (q1 5)), (2, .int b2), (3, .int b3), (6, .int b6)]) X.x X.b (dk DX4_fillBasis_0 44 rfl) hl (by decide) rfl (fun ls hl => ?_)
      replace hl : lv_has ls 7 [(0, .ref (q 3)), (1, .ref (q1 5)), (2, .int b2), (3, .int b3), (4, .long v20), (6, .int b6)] := lv_sub hl [1, 2, 3, 4, 0, 5] rfl
      obtain ⟨v22, e23⟩ : ∃ y : Int32, y = b6 + 1 := ⟨_, rfl⟩
      replace hF := bnd_e hF e23
      refine lv_iinc (v := v22) (lv' := [(6, .int v22), (0, .ref (q 3)), (1, .ref (q1 5)), (2, .int b2), (3, .int b3), (4, .long v20)]) X.x X.b (dk DX4_fillBasis_0 45 rfl) hl (k := 5) rfl (by rw [e23]; rfl) (by decide) rfl (fun ls hl => ?_)
      replace hl : lv_has ls 7 [(0, .ref (q 3)), (1, .ref (q1 5)), (2, .int b2), (3, .int b3), (4, .long v20), (6, .int v22)] := lv_sub hl [1, 2, 3, 4, 5, 0] rfl
      refine lv_goto (tgt := 43) X.x X.b (dk DX4_fillBasis_0 46 rfl) (by decide) ?_
      exact (lp_l hF hx) _ _ _ hH (lv_sub hl [0, 1, 2, 3, 4, 5] rfl) K0
set_option maxHeartbeats 4000000 in
set_option maxRecDepth 100000 in
theorem w_X4_fillBasis_4 {p : Program} {l : Launch} {e : Env} {s : State} {m : MethodId} {args : Array Value} {below : List Frame} {meth : Method} {c : Code} {Q : State → Prop} {G : mG} {h : mM} {q : Nat → Nat} {q1 : Nat → Nat} (hq : oinj LX4 q) (hq1 : oinj LX10 q1) (ha : oap [(LX4, q), (LX10, q1)]) (X : mX G p m c cX4_fillBasis 7 s args RX4) (s_o1 : OS) : ∀ (z : OS × Int32 × Int32) (r : OS), lpv (f_X4_fillBasis_4 s_o1) z = some r → ∀ (H : Heap) (locs : List Loc) (ls : Array Slot), mH G (oset LX4 G q z.1 (oset LX10 G q1 s_o1 h)) s.heap H locs → lv_has ls 7 [(0, .ref (q 3)), (1, .ref (q1 5)), (2, .int z.2.1), (3, .int z.2.2)] → (∀ (H : Heap) (locs : List Loc) (ls : Array Slot), mH G (oset LX4 G q r (oset LX10 G q1 s_o1 h)) s.heap H locs → lv_has ls 7 [] → W p l e rm_X4_fillBasis s m args below meth c H locs 0 0 Q (F0 m 100 ls [])) → W p l e rm_X4_fillBasis s m args below meth c H locs 0 0 Q (F0 m 4 ls []) := by
  refine lpv_rec ?_
  intro z r x hF hx H locs ls hH hl K0
  obtain ⟨s_t, b2, b3⟩ := z
  dsimp only [f_X4_fillBasis_4] at hF
  try dsimp only at hH hl
  refine lv_iload_n X.x X.b (dk DX4_fillBasis_0 4 rfl) rfl (lv_at hl 3 rfl) ?_
  refine lv_aload_n X.x X.b (dk DX4_fillBasis_0 5 rfl) rfl (lv_at hl 1 rfl) ?_
  refine og_getIN OX10 X hq1 (mH_perm (l1 := [(LX4, q, s_t), (LX10, q1, s_o1)]) (l2 := [(LX10, q1, s_o1), (LX4, q, s_t)]) ha [1, 0] [1, 0] rfl rfl rfl hH) 0 (by decide) rfl kFN_X4_36 (dk DX4_fillBasis_0 6 rfl) ?_
  refine lv_icmp_ge (tgt := 100) X.x X.b (dk DX4_fillBasis_0 7 rfl) (by decide) (fun c1 => ?_) (fun c1 => ?_)
  · replace hF := if_t hF c1
    have hr9 := lp_r hF hx
    subst hr9
    exact K0 _ _ _ hH (lv_sub hl [] rfl)
  · replace hF := if_f hF c1
    refine lv_iload_n X.x X.b (dk DX4_fillBasis_0 8 rfl) rfl (lv_at hl 3 rfl) ?_
    refine lv_bipush (v := 64) X.x X.b (dk DX4_fillBasis_0 9 rfl) (by decide) ?_
    refine lv_icmp_ge (tgt := 100) X.x X.b (dk DX4_fillBasis_0 10 rfl) (by decide) (fun c2 => ?_) (fun c2 => ?_)
    · replace hF := if_t hF c2
      have hr9 := lp_r hF hx
      subst hr9
      exact K0 _ _ _ hH (lv_sub hl [] rfl)
    · replace hF := if_f hF c2
      refine lv_iload_n X.x X.b (dk DX4_fillBasis_0 11 rfl) rfl (lv_at hl 2 rfl) ?_
      refine lv_bipush (v := 16) X.x X.b (dk DX4_fillBasis_0 12 rfl) (by decide) ?_
      refine lv_icmp_ge (tgt := 100) X.x X.b (dk DX4_fillBasis_0 13 rfl) (by decide) (fun c3 => ?_) (fun c3 => ?_)
      · replace hF := if_t hF c3
        have hr9 := lp_r hF hx
        subst hr9
        exact K0 _ _ _ hH (lv_sub hl [] rfl)
      · replace hF := if_f hF c3
        refine lv_aload_n X.x X.b (dk DX4_fillBasis_0 14 rfl) rfl (lv_at hl 0 rfl) ?_
        refine og_getR (t := 1) OX4 X hq hH 1 (by decide) rfl kF_X4_17 (dk DX4_fillBasis_0 15 rfl) ?_
        refine lv_iload_n X.x X.b (dk DX4_fillBasis_0 16 rfl) rfl (lv_at hl 3 rfl) ?_
        obtain ⟨c4, hF⟩ := gd hF
        refine og_lald X hq hH 1 (by decide) rfl (inb_in c4) (dk DX4_fillBasis_0 17 rfl) ?_
        refine lv_lconst (v := 0) X.x X.b (dk DX4_fillBasis_0 18 rfl) (by decide) ?_
        refine W.lcmp X.x X.b (dk DX4_fillBasis_0 19 rfl) ?_
        refine lv_if_ne (tgt := 94) X.x X.b (dk DX4_fillBasis_0 20 rfl) (by decide) (fun c5 => ?_) (fun c5 => ?_)
        · replace hF := if_f hF c5
          obtain ⟨v6, e7⟩ : ∃ y : Int32, y = b3 + 1 := ⟨_, rfl⟩
          replace hF := bnd_e hF e7
          refine lv_iinc (v := v6) (lv' := [(3, .int v6), (0, .ref (q 3)), (1, .ref (q1 5)), (2, .int b2)]) X.x X.b (dk DX4_fillBasis_0 53 rfl) hl (k := 3) rfl (by rw [e7]; rfl) (by decide) rfl (fun ls hl => ?_)
          replace hl : lv_has ls 7 [(0, .ref (q 3)), (1, .ref (q1 5)), (2, .int b2), (3, .int v6)] := lv_sub hl [1, 2, 3, 0] rfl
          refine lv_goto (tgt := 4) X.x X.b (dk DX4_fillBasis_0 54 rfl) (by decide) ?_
          exact (lp_l hF hx) _ _ _ hH (lv_sub hl [0, 1, 2, 3] rfl) K0
        · replace hF := if_t hF c5
          refine lv_lconst (v := 1) X.x X.b (dk DX4_fillBasis_0 21 rfl) (by decide) ?_
          refine lv_iload_n X.x X.b (dk DX4_fillBasis_0 22 rfl) rfl (lv_at hl 3 rfl) ?_
          refine lv_lshl X.x X.b (dk DX4_fillBasis_0 23 rfl) rfl ?_
          refine lv_topl (fun v8 e9 => ?_)
          replace hF := bnd_e hF e9
          refine lv_lstore (lv' := [(4, .long v8), (0, .ref (q 3)), (1, .ref (q1 5)), (2, .int b2), (3, .int b3)]) X.x X.b (dk DX4_fillBasis_0 24 rfl) hl (by decide) rfl (fun ls hl => ?_)
          replace hl : lv_has ls 7 [(0, .ref (q 3)), (1, .ref (q1 5)), (2, .int b2), (3, .int b3), (4, .long v8)] := lv_sub hl [1, 2, 3, 4, 0] rfl
          refine lv_iconst (v := 0) X.x X.b (dk DX4_fillBasis_0 25 rfl) (by decide) ?_
          refine lv_istore (lv' := [(6, .int 0), (0, .ref (q 3)), (1, .ref (q1 5)), (2, .int b2), (3, .int b3), (4, .long v8)]) X.x X.b (dk DX4_fillBasis_0 26 rfl) hl (by decide) rfl (fun ls hl => ?_)
          replace hl : lv_has ls 7 [(0, .ref (q 3)), (1, .ref (q1 5)), (2, .int b2), (3, .int b3), (4, .long v8), (6, .int 0)] := lv_sub hl [1, 2, 3, 4, 5, 0] rfl
          obtain ⟨x24, e25, hF⟩ := bd hF
          replace hl : lv_has ls 7 [(0, .ref (q 3)), (1, .ref (q1 5)), (2, .int b2), (3, .int b3), (4, .long v8), (6, .int 0)] := lv_sub hl [0, 1, 2, 3, 4, 5] rfl
          refine w_X4_fillBasis_43 hq hq1 ha X s_t s_o1 b2 b3 _ _ e25 _ _ _ hH hl (fun H locs ls hH hl => ?_)
          refine lv_aload_n X.x X.b (dk DX4_fillBasis_0 47 rfl) rfl (lv_at hl 0 rfl) ?_
          refine og_getR (t := 1) OX4 X hq hH 2 (by decide) rfl kF_X4_21 (dk DX4_fillBasis_0 48 rfl) ?_
          refine lv_iload_n X.x X.b (dk DX4_fillBasis_0 49 rfl) rfl (lv_at hl 2 rfl) ?_
          refine lv_lload X.x X.b (dk DX4_fillBasis_0 50 rfl) (lv_at hl 4 rfl) ?_
          obtain ⟨c27, hF⟩ := gd hF
          refine og_last X hq hH 2 (by decide) rfl (inb_in c27) (dk DX4_fillBasis_0 51 rfl) (fun H locs hH => ?_)
          obtain ⟨t28, e29⟩ : ∃ y, y = oB s_t 2 (vp_updL (s_t.2.2.2 2) (b2 : Int32).toNatClampNeg x24) := ⟨_, rfl⟩
          rw [← e29] at hH
          replace hF := bnd_e hF e29
          obtain ⟨v30, e31⟩ : ∃ y : Int32, y = b2 + 1 := ⟨_, rfl⟩
          replace hF := bnd_e hF e31
          refine lv_iinc (v := v30) (lv' := [(2, .int v30), (0, .ref (q 3)), (1, .ref (q1 5)), (3, .int b3), (4, .long x24)]) X.x X.b (dk DX4_fillBasis_0 52 rfl) hl (k := 2) rfl (by rw [e31]; rfl) (by decide) rfl (fun ls hl => ?_)
          replace hl : lv_has ls 7 [(0, .ref (q 3)), (1, .ref (q1 5)), (2, .int v30), (3, .int b3)] := lv_sub hl [1, 2, 0, 3] rfl
          obtain ⟨v32, e33⟩ : ∃ y : Int32, y = b3 + 1 := ⟨_, rfl⟩
          replace hF := bnd_e hF e33
          refine lv_iinc (v := v32) (lv' := [(3, .int v32), (0, .ref (q 3)), (1, .ref (q1 5)), (2, .int v30)]) X.x X.b (dk DX4_fillBasis_0 53 rfl) hl (k := 3) rfl (by rw [e33]; rfl) (by decide) rfl (fun ls hl => ?_)
          replace hl : lv_has ls 7 [(0, .ref (q 3)), (1, .ref (q1 5)), (2, .int v30), (3, .int v32)] := lv_sub hl [1, 2, 3, 0] rfl
          refine lv_goto (tgt := 4) X.x X.b (dk DX4_fillBasis_0 54 rfl) (by decide) ?_
          exact (lp_l hF hx) _ _ _ hH (lv_sub hl [0, 1, 2, 3] rfl) K0
set_option maxHeartbeats 4000000 in
set_option maxRecDepth 100000 in
theorem c_X4_fillBasis {l : Launch} {G : mG} {h : mM} {q : Nat → Nat} {q1 : Nat → Nat} (hq : oinj LX4 q) (hq1 : oinj LX10 q1) (ha : oap [(LX4, q), (LX10, q1)]) {st : OS} {st1 : OS} {x : OS} (hF : f_X4_fillBasis st st1 = some x) : cQ l G yX4_fillBasis cX4_fillBasis 7 none rm_X4_fillBasis [.ref (q 3), .ref (q1 5)] (oset LX4 G q st (oset LX10 G q1 st1 h)) (mQv G (fun h1 => h1 = oset LX4 G q x (oset LX10 G q1 st1 h))) := by
  refine mp_of (by decide +kernel) (Nat.le_of_ble_eq_true rfl) ?_
  intro p e s m below meth c X hr hlk hH hname ls hl
  dsimp only [f_X4_fillBasis] at hF
  replace hl : lv_has ls 7 [(0, .ref (q 3)), (1, .ref (q1 5))] := hl
  refine lv_iconst (v := 0) X.x X.b (dk DX4_fillBasis_0 0 rfl) (by decide) ?_
  refine lv_istore_n (lv' := [(2, .int 0), (0, .ref (q 3)), (1, .ref (q1 5))]) X.x X.b (dk DX4_fillBasis_0 1 rfl) rfl hl (by decide) rfl (fun ls hl => ?_)
  replace hl : lv_has ls 7 [(0, .ref (q 3)), (1, .ref (q1 5)), (2, .int 0)] := lv_sub hl [1, 2, 0] rfl
  refine lv_iconst (v := 0) X.x X.b (dk DX4_fillBasis_0 2 rfl) (by decide) ?_
  refine lv_istore_n (lv' := [(3, .int 0), (0, .ref (q 3)), (1, .ref (q1 5)), (2, .int 0)]) X.x X.b (dk DX4_fillBasis_0 3 rfl) rfl hl (by decide) rfl (fun ls hl => ?_)
  replace hl : lv_has ls 7 [(0, .ref (q 3)), (1, .ref (q1 5)), (2, .int 0), (3, .int 0)] := lv_sub hl [1, 2, 3, 0] rfl
  obtain ⟨x34, e35, hF⟩ := bd hF
  replace hl : lv_has ls 7 [(0, .ref (q 3)), (1, .ref (q1 5)), (2, .int 0), (3, .int 0)] := lv_sub hl [0, 1, 2, 3] rfl
  refine w_X4_fillBasis_4 hq hq1 ha X st1 _ _ e35 _ _ _ hH hl (fun H locs ls hH hl => ?_)
  cases sm hF
  exact mr_vret X hr hlk hH rfl (dk DX4_fillBasis_0 55 rfl)
-- X5_hasRoomFor
abbrev rm_X5_hasRoomFor : Room := { frames := 0, cells := 0, slots := 0, locals := 0 }
theorem hd_X5_hasRoomFor : mHd yX5_hasRoomFor 1 := ⟨by decide +kernel, by decide +kernel, by decide +kernel⟩
theorem DX5_hasRoomFor_0 : ∀ t ∈ ([(0, .aload_n 0, 1), (1, .getfield 26, 3), (4, .iload_n 1, 1), (5, .iadd, 1), (6, .sipush 700, 3), (9, .if_icmp .gt 7, 3), (12, .iconst 1, 1), (13, .goto 4, 3), (16, .iconst 0, 1), (17, .ireturn, 1)] : List (Nat × Instr × Nat)), decode cX5_hasRoomFor t.1 = .ok (t.2.1, t.2.2) := by decide +kernel
noncomputable def f_X5_hasRoomFor (st : OS) (st_mk : OS) (a0 : Int32) : Option (Int32) := (if 700 < (st.1 2) + a0 then some 0 else some 1)
set_option maxHeartbeats 4000000 in
set_option maxRecDepth 100000 in
theorem c_X5_hasRoomFor {l : Launch} {G : mG} {h : mM} {q : Nat → Nat} {q_mk : Nat → Nat} (hq : oinj LX5 q) (hq_mk : oinj LX3 q_mk) (ha : oap [(LX5, q), (LX3, q_mk)]) (lk_mk : q 0 = q_mk 3) {st : OS} {st_mk : OS} {a0 : Int32} {x : Int32} (hF : f_X5_hasRoomFor st st_mk a0 = some x) : cQ l G yX5_hasRoomFor cX5_hasRoomFor 2 (some FieldType.boolean) rm_X5_hasRoomFor [.ref (q 10), .int a0] (oset LX5 G q st (oset LX3 G q_mk st_mk h)) (mQi G (fun r h1 => r = x ∧ h1 = oset LX5 G q st (oset LX3 G q_mk st_mk h))) := by
  refine mp_of (by decide +kernel) (Nat.le_of_ble_eq_true rfl) ?_
  intro p e s m below meth c X hr hlk hH hname ls hl
  dsimp only [f_X5_hasRoomFor] at hF
  replace hl : lv_has ls 2 [(0, .ref (q 10)), (1, .int a0)] := hl
  refine lv_aload_n X.x X.b (dk DX5_hasRoomFor_0 0 rfl) rfl (lv_at hl 0 rfl) ?_
  refine og_getI OX5 X hq hH 2 (by decide) rfl kF_X5_26 (dk DX5_hasRoomFor_0 1 rfl) ?_
  refine lv_iload_n X.x X.b (dk DX5_hasRoomFor_0 2 rfl) rfl (lv_at hl 1 rfl) ?_
  refine lv_iadd X.x X.b (dk DX5_hasRoomFor_0 3 rfl) ?_
  refine lv_sipush (v := 700) X.x X.b (dk DX5_hasRoomFor_0 4 rfl) (by decide) ?_
  refine lv_icmp_gt (tgt := 16) X.x X.b (dk DX5_hasRoomFor_0 5 rfl) (by decide) (fun c1 => ?_) (fun c1 => ?_)
  · replace hF := if_t hF c1
    refine lv_iconst (v := 0) X.x X.b (dk DX5_hasRoomFor_0 8 rfl) (by decide) ?_
    cases sm hF
    exact mr_zret X hr hlk hH rfl ⟨rfl, rfl⟩ (dk DX5_hasRoomFor_0 9 rfl)
  · replace hF := if_f hF c1
    refine lv_iconst (v := 1) X.x X.b (dk DX5_hasRoomFor_0 6 rfl) (by decide) ?_
    refine lv_goto (tgt := 17) X.x X.b (dk DX5_hasRoomFor_0 7 rfl) (by decide) ?_
    cases sm hF
    exact mr_zret X hr hlk hH rfl ⟨rfl, rfl⟩ (dk DX5_hasRoomFor_0 9 rfl)
-- X5_put
abbrev rm_X5_put : Room := { frames := 0, cells := 0, slots := 0, locals := 0 }
theorem hd_X5_put : mHd yX5_put 1 := ⟨by decide +kernel, by decide +kernel, by decide +kernel⟩
theorem DX5_put_0 : ∀ t ∈ ([(0, .bipush 24, 2), (2, .istore_n 2, 1), (3, .iload_n 2, 1), (4, .ifCond .lt 49, 3), (7, .aload_n 0, 1), (8, .getfield 26, 3), (11, .ifCond .lt 36, 3), (14, .aload_n 0, 1), (15, .getfield 26, 3), (18, .sipush 700, 3), (21, .if_icmp .ge 26, 3), (24, .aload_n 0, 1), (25, .getfield 18, 3), (28, .aload_n 0, 1), (29, .getfield 26, 3), (32, .iload_n 1, 1), (33, .iload_n 2, 1), (34, .ishr, 1), (35, .i2b, 1), (36, .bastore, 1), (37, .aload_n 0, 1), (38, .dup, 1), (39, .getfield 26, 3), (42, .iconst 1, 1), (43, .iadd, 1), (44, .putfield 26, 3), (47, .iinc 2 (-8), 3), (50, .goto (-47), 3), (53, .return_, 1)] : List (Nat × Instr × Nat)), decode cX5_put t.1 = .ok (t.2.1, t.2.2) := by decide +kernel
noncomputable def f_X5_put_3 (s_mk : OS) (b1 : Int32) : (OS × Int32) → Option ((OS × Int32) ⊕ (OS)) := fun z => match z with | (s_t, b2) => (if b2 < 0 then some (.inr s_t) else (if (s_t.1 2) < 0 then bnd (b2 + (-8) : Int32) (fun v3 => some (.inl ((s_t, v3)))) else (if 700 ≤ (s_t.1 2) then bnd (b2 + (-8) : Int32) (fun v6 => some (.inl ((s_t, v6)))) else if inb (s_t.1 2) 700 = true then bnd (oA s_t 1 (upd (s_t.2.2.1 1) (s_t.1 2 : Int32).toNatClampNeg (vp_nar .byte ((b1 >>> (b2 &&& 31) : Int32).toInt8.toInt32)))) (fun t9 => bnd (oI t9 2 ((t9.1 2) + 1)) (fun t11 => bnd (b2 + (-8) : Int32) (fun v13 => some (.inl ((t11, v13)))))) else none)))
noncomputable def f_X5_put (st : OS) (st_mk : OS) (a0 : Int32) : Option (OS) := (lpv (f_X5_put_3 st_mk a0) ((st, 24))).bind (fun x15 => some x15)
set_option maxHeartbeats 4000000 in
set_option maxRecDepth 100000 in
theorem w_X5_put_3 {p : Program} {l : Launch} {e : Env} {s : State} {m : MethodId} {args : Array Value} {below : List Frame} {meth : Method} {c : Code} {Q : State → Prop} {G : mG} {h : mM} {q : Nat → Nat} {q_mk : Nat → Nat} (hq : oinj LX5 q) (hq_mk : oinj LX3 q_mk) (ha : oap [(LX5, q), (LX3, q_mk)]) (lk_mk : q 0 = q_mk 3) (X : mX G p m c cX5_put 3 s args RX5) (s_mk : OS) (b1 : Int32) : ∀ (z : OS × Int32) (r : OS), lpv (f_X5_put_3 s_mk b1) z = some r → ∀ (H : Heap) (locs : List Loc) (ls : Array Slot), mH G (oset LX5 G q z.1 (oset LX3 G q_mk s_mk h)) s.heap H locs → lv_has ls 3 [(0, .ref (q 10)), (1, .int b1), (2, .int z.2)] → (∀ (H : Heap) (locs : List Loc) (ls : Array Slot), mH G (oset LX5 G q r (oset LX3 G q_mk s_mk h)) s.heap H locs → lv_has ls 3 [] → W p l e rm_X5_put s m args below meth c H locs 0 0 Q (F0 m 53 ls [])) → W p l e rm_X5_put s m args below meth c H locs 0 0 Q (F0 m 3 ls []) := by
  refine lpv_rec ?_
  intro z r x hF hx H locs ls hH hl K0
  obtain ⟨s_t, b2⟩ := z
  dsimp only [f_X5_put_3] at hF
  try dsimp only at hH hl
  refine lv_iload_n X.x X.b (dk DX5_put_0 2 rfl) rfl (lv_at hl 2 rfl) ?_
  refine lv_if_lt (tgt := 53) X.x X.b (dk DX5_put_0 3 rfl) (by decide) (fun c1 => ?_) (fun c1 => ?_)
  · replace hF := if_t hF c1
    have hr9 := lp_r hF hx
    subst hr9
    exact K0 _ _ _ hH (lv_sub hl [] rfl)
  · replace hF := if_f hF c1
    refine lv_aload_n X.x X.b (dk DX5_put_0 4 rfl) rfl (lv_at hl 0 rfl) ?_
    refine og_getI OX5 X hq hH 2 (by decide) rfl kF_X5_26 (dk DX5_put_0 5 rfl) ?_
    refine lv_if_lt (tgt := 47) X.x X.b (dk DX5_put_0 6 rfl) (by decide) (fun c2 => ?_) (fun c2 => ?_)
    · replace hF := if_t hF c2
      obtain ⟨v3, e4⟩ : ∃ y : Int32, y = b2 + (-8) := ⟨_, rfl⟩
      replace hF := bnd_e hF e4
      refine lv_iinc (v := v3) (lv' := [(2, .int v3), (0, .ref (q 10)), (1, .int b1)]) X.x X.b (dk DX5_put_0 26 rfl) hl (k := 2) rfl (by rw [e4]; rfl) (by decide) rfl (fun ls hl => ?_)
      replace hl : lv_has ls 3 [(0, .ref (q 10)), (1, .int b1), (2, .int v3)] := lv_sub hl [1, 2, 0] rfl
      refine lv_goto (tgt := 3) X.x X.b (dk DX5_put_0 27 rfl) (by decide) ?_
      exact (lp_l hF hx) _ _ _ hH (lv_sub hl [0, 1, 2] rfl) K0
    · replace hF := if_f hF c2
      refine lv_aload_n X.x X.b (dk DX5_put_0 7 rfl) rfl (lv_at hl 0 rfl) ?_
      refine og_getI OX5 X hq hH 2 (by decide) rfl kF_X5_26 (dk DX5_put_0 8 rfl) ?_
      refine lv_sipush (v := 700) X.x X.b (dk DX5_put_0 9 rfl) (by decide) ?_
      refine lv_icmp_ge (tgt := 47) X.x X.b (dk DX5_put_0 10 rfl) (by decide) (fun c5 => ?_) (fun c5 => ?_)
      · replace hF := if_t hF c5
        obtain ⟨v6, e7⟩ : ∃ y : Int32, y = b2 + (-8) := ⟨_, rfl⟩
        replace hF := bnd_e hF e7
        refine lv_iinc (v := v6) (lv' := [(2, .int v6), (0, .ref (q 10)), (1, .int b1)]) X.x X.b (dk DX5_put_0 26 rfl) hl (k := 2) rfl (by rw [e7]; rfl) (by decide) rfl (fun ls hl => ?_)
        replace hl : lv_has ls 3 [(0, .ref (q 10)), (1, .int b1), (2, .int v6)] := lv_sub hl [1, 2, 0] rfl
        refine lv_goto (tgt := 3) X.x X.b (dk DX5_put_0 27 rfl) (by decide) ?_
        exact (lp_l hF hx) _ _ _ hH (lv_sub hl [0, 1, 2] rfl) K0
      · replace hF := if_f hF c5
        refine lv_aload_n X.x X.b (dk DX5_put_0 11 rfl) rfl (lv_at hl 0 rfl) ?_
        refine og_getR (t := 2) OX5 X hq hH 1 (by decide) rfl kF_X5_18 (dk DX5_put_0 12 rfl) ?_
        refine lv_aload_n X.x X.b (dk DX5_put_0 13 rfl) rfl (lv_at hl 0 rfl) ?_
        refine og_getI OX5 X hq hH 2 (by decide) rfl kF_X5_26 (dk DX5_put_0 14 rfl) ?_
        refine lv_iload_n X.x X.b (dk DX5_put_0 15 rfl) rfl (lv_at hl 1 rfl) ?_
        refine lv_iload_n X.x X.b (dk DX5_put_0 16 rfl) rfl (lv_at hl 2 rfl) ?_
        refine lv_ishr X.x X.b (dk DX5_put_0 17 rfl) ?_
        refine lv_i2b X.x X.b (dk DX5_put_0 18 rfl) rfl ?_
        obtain ⟨c8, hF⟩ := gd hF
        refine og_bast X hq hH 1 (by decide) rfl (inb_in c8) (dk DX5_put_0 19 rfl) (fun H locs hH => ?_)
        obtain ⟨t9, e10⟩ : ∃ y, y = oA s_t 1 (upd (s_t.2.2.1 1) (s_t.1 2 : Int32).toNatClampNeg (vp_nar .byte ((b1 >>> (b2 &&& 31) : Int32).toInt8.toInt32))) := ⟨_, rfl⟩
        rw [← e10] at hH
        replace hF := bnd_e hF e10
        refine lv_aload_n X.x X.b (dk DX5_put_0 20 rfl) rfl (lv_at hl 0 rfl) ?_
        refine lv_dup X.x X.b (dk DX5_put_0 21 rfl) rfl ?_
        refine og_getI OX5 X hq hH 2 (by decide) rfl kF_X5_26 (dk DX5_put_0 22 rfl) ?_
        refine lv_iconst (v := 1) X.x X.b (dk DX5_put_0 23 rfl) (by decide) ?_
        refine lv_iadd X.x X.b (dk DX5_put_0 24 rfl) ?_
        refine og_putI OX5 X hq hH 2 (by decide) rfl kF_X5_26 rfl rfl rfl (dk DX5_put_0 25 rfl) (fun H locs hH => ?_)
        obtain ⟨t11, e12⟩ : ∃ y, y = oI t9 2 ((t9.1 2) + 1) := ⟨_, rfl⟩
        rw [← e12] at hH
        replace hF := bnd_e hF e12
        obtain ⟨v13, e14⟩ : ∃ y : Int32, y = b2 + (-8) := ⟨_, rfl⟩
        replace hF := bnd_e hF e14
        refine lv_iinc (v := v13) (lv' := [(2, .int v13), (0, .ref (q 10)), (1, .int b1)]) X.x X.b (dk DX5_put_0 26 rfl) hl (k := 2) rfl (by rw [e14]; rfl) (by decide) rfl (fun ls hl => ?_)
        replace hl : lv_has ls 3 [(0, .ref (q 10)), (1, .int b1), (2, .int v13)] := lv_sub hl [1, 2, 0] rfl
        refine lv_goto (tgt := 3) X.x X.b (dk DX5_put_0 27 rfl) (by decide) ?_
        exact (lp_l hF hx) _ _ _ hH (lv_sub hl [0, 1, 2] rfl) K0
set_option maxHeartbeats 4000000 in
set_option maxRecDepth 100000 in
theorem c_X5_put {l : Launch} {G : mG} {h : mM} {q : Nat → Nat} {q_mk : Nat → Nat} (hq : oinj LX5 q) (hq_mk : oinj LX3 q_mk) (ha : oap [(LX5, q), (LX3, q_mk)]) (lk_mk : q 0 = q_mk 3) {st : OS} {st_mk : OS} {a0 : Int32} {x : OS} (hF : f_X5_put st st_mk a0 = some x) : cQ l G yX5_put cX5_put 3 none rm_X5_put [.ref (q 10), .int a0] (oset LX5 G q st (oset LX3 G q_mk st_mk h)) (mQv G (fun h1 => h1 = oset LX5 G q x (oset LX3 G q_mk st_mk h))) := by
  refine mp_of (by decide +kernel) (Nat.le_of_ble_eq_true rfl) ?_
  intro p e s m below meth c X hr hlk hH hname ls hl
  dsimp only [f_X5_put] at hF
  replace hl : lv_has ls 3 [(0, .ref (q 10)), (1, .int a0)] := hl
  refine lv_bipush (v := 24) X.x X.b (dk DX5_put_0 0 rfl) (by decide) ?_
  refine lv_istore_n (lv' := [(2, .int 24), (0, .ref (q 10)), (1, .int a0)]) X.x X.b (dk DX5_put_0 1 rfl) rfl hl (by decide) rfl (fun ls hl => ?_)
  replace hl : lv_has ls 3 [(0, .ref (q 10)), (1, .int a0), (2, .int 24)] := lv_sub hl [1, 2, 0] rfl
  obtain ⟨x15, e16, hF⟩ := bd hF
  replace hl : lv_has ls 3 [(0, .ref (q 10)), (1, .int a0), (2, .int 24)] := lv_sub hl [0, 1, 2] rfl
  refine w_X5_put_3 hq hq_mk ha lk_mk X st_mk a0 _ _ e16 _ _ _ hH hl (fun H locs ls hH hl => ?_)
  cases sm hF
  exact mr_vret X hr hlk hH rfl (dk DX5_put_0 28 rfl)
-- X5_byteAt
abbrev rm_X5_byteAt : Room := { frames := 0, cells := 0, slots := 0, locals := 0 }
theorem hd_X5_byteAt : mHd yX5_byteAt 1 := ⟨by decide +kernel, by decide +kernel, by decide +kernel⟩
theorem DX5_byteAt_0 : ∀ t ∈ ([(0, .iload_n 1, 1), (1, .ifCond .lt 23, 3), (4, .iload_n 1, 1), (5, .sipush 700, 3), (8, .if_icmp .ge 16, 3), (11, .aload_n 0, 1), (12, .getfield 18, 3), (15, .iload_n 1, 1), (16, .baload, 1), (17, .sipush 255, 3), (20, .iand, 1), (21, .goto 4, 3), (24, .iconst 0, 1), (25, .ireturn, 1)] : List (Nat × Instr × Nat)), decode cX5_byteAt t.1 = .ok (t.2.1, t.2.2) := by decide +kernel
noncomputable def f_X5_byteAt (st : OS) (st_mk : OS) (a0 : Int32) : Option (Int32) := (if a0 < 0 then some 0 else (if 700 ≤ a0 then some 0 else if inb a0 700 = true then some ((st.2.2.1 1 (a0 : Int32).toNatClampNeg) &&& 255) else none))
set_option maxHeartbeats 4000000 in
set_option maxRecDepth 100000 in
theorem c_X5_byteAt {l : Launch} {G : mG} {h : mM} {q : Nat → Nat} {q_mk : Nat → Nat} (hq : oinj LX5 q) (hq_mk : oinj LX3 q_mk) (ha : oap [(LX5, q), (LX3, q_mk)]) (lk_mk : q 0 = q_mk 3) {st : OS} {st_mk : OS} {a0 : Int32} {x : Int32} (hF : f_X5_byteAt st st_mk a0 = some x) : cQ l G yX5_byteAt cX5_byteAt 2 (some FieldType.int) rm_X5_byteAt [.ref (q 10), .int a0] (oset LX5 G q st (oset LX3 G q_mk st_mk h)) (mQi G (fun r h1 => r = x ∧ h1 = oset LX5 G q st (oset LX3 G q_mk st_mk h))) := by
  refine mp_of (by decide +kernel) (Nat.le_of_ble_eq_true rfl) ?_
  intro p e s m below meth c X hr hlk hH hname ls hl
  dsimp only [f_X5_byteAt] at hF
  replace hl : lv_has ls 2 [(0, .ref (q 10)), (1, .int a0)] := hl
  refine lv_iload_n X.x X.b (dk DX5_byteAt_0 0 rfl) rfl (lv_at hl 1 rfl) ?_
  refine lv_if_lt (tgt := 24) X.x X.b (dk DX5_byteAt_0 1 rfl) (by decide) (fun c1 => ?_) (fun c1 => ?_)
  · replace hF := if_t hF c1
    refine lv_iconst (v := 0) X.x X.b (dk DX5_byteAt_0 12 rfl) (by decide) ?_
    cases sm hF
    exact mr_iret X hr hlk hH ⟨rfl, rfl⟩ (dk DX5_byteAt_0 13 rfl)
  · replace hF := if_f hF c1
    refine lv_iload_n X.x X.b (dk DX5_byteAt_0 2 rfl) rfl (lv_at hl 1 rfl) ?_
    refine lv_sipush (v := 700) X.x X.b (dk DX5_byteAt_0 3 rfl) (by decide) ?_
    refine lv_icmp_ge (tgt := 24) X.x X.b (dk DX5_byteAt_0 4 rfl) (by decide) (fun c2 => ?_) (fun c2 => ?_)
    · replace hF := if_t hF c2
      refine lv_iconst (v := 0) X.x X.b (dk DX5_byteAt_0 12 rfl) (by decide) ?_
      cases sm hF
      exact mr_iret X hr hlk hH ⟨rfl, rfl⟩ (dk DX5_byteAt_0 13 rfl)
    · replace hF := if_f hF c2
      refine lv_aload_n X.x X.b (dk DX5_byteAt_0 5 rfl) rfl (lv_at hl 0 rfl) ?_
      refine og_getR (t := 2) OX5 X hq hH 1 (by decide) rfl kF_X5_18 (dk DX5_byteAt_0 6 rfl) ?_
      refine lv_iload_n X.x X.b (dk DX5_byteAt_0 7 rfl) rfl (lv_at hl 1 rfl) ?_
      obtain ⟨c3, hF⟩ := gd hF
      refine og_bald X hq hH 1 (by decide) rfl (inb_in c3) (dk DX5_byteAt_0 8 rfl) ?_
      refine lv_sipush (v := 255) X.x X.b (dk DX5_byteAt_0 9 rfl) (by decide) ?_
      refine lv_iand X.x X.b (dk DX5_byteAt_0 10 rfl) ?_
      refine lv_goto (tgt := 25) X.x X.b (dk DX5_byteAt_0 11 rfl) (by decide) ?_
      cases sm hF
      exact mr_iret X hr hlk hH ⟨rfl, rfl⟩ (dk DX5_byteAt_0 13 rfl)
-- X5_isBlank
abbrev rm_X5_isBlank : Room := { frames := 0, cells := 0, slots := 0, locals := 0 }
theorem hd_X5_isBlank : mHd yX5_isBlank 1 := ⟨by decide +kernel, by decide +kernel, by decide +kernel⟩
theorem DX5_isBlank_0 : ∀ t ∈ ([(0, .iload_n 0, 1), (1, .bipush 10, 2), (3, .if_icmp .eq 9, 3), (6, .iload_n 0, 1), (7, .bipush 32, 2), (9, .if_icmp .ne 7, 3), (12, .iconst 1, 1), (13, .goto 4, 3), (16, .iconst 0, 1), (17, .ireturn, 1)] : List (Nat × Instr × Nat)), decode cX5_isBlank t.1 = .ok (t.2.1, t.2.2) := by decide +kernel
noncomputable def f_X5_isBlank (a0 : Int32) : Option (Int32) := (if a0 = 10 then some 1 else (if a0 = 32 then some 1 else some 0))
set_option maxHeartbeats 4000000 in
set_option maxRecDepth 100000 in
theorem c_X5_isBlank {l : Launch} {G : mG} {h : mM}  {a0 : Int32} {x : Int32} (hF : f_X5_isBlank a0 = some x) : cQ l G yX5_isBlank cX5_isBlank 1 (some FieldType.boolean) rm_X5_isBlank [.int a0] (h) (mQi G (fun r h1 => r = x ∧ h1 = h)) := by
  refine mp_of (by decide +kernel) (Nat.le_of_ble_eq_true rfl) ?_
  intro p e s m below meth c X hr hlk hH hname ls hl
  dsimp only [f_X5_isBlank] at hF
  replace hl : lv_has ls 1 [(0, .int a0)] := hl
  refine lv_iload_n X.x X.b (dk DX5_isBlank_0 0 rfl) rfl (lv_at hl 0 rfl) ?_
  refine lv_bipush (v := 10) X.x X.b (dk DX5_isBlank_0 1 rfl) (by decide) ?_
  refine lv_icmp_eq (tgt := 12) X.x X.b (dk DX5_isBlank_0 2 rfl) (by decide) (fun c1 => ?_) (fun c1 => ?_)
  · replace hF := if_t hF c1
    refine lv_iconst (v := 1) X.x X.b (dk DX5_isBlank_0 6 rfl) (by decide) ?_
    refine lv_goto (tgt := 17) X.x X.b (dk DX5_isBlank_0 7 rfl) (by decide) ?_
    cases sm hF
    exact mr_zret X hr hlk hH rfl ⟨rfl, rfl⟩ (dk DX5_isBlank_0 9 rfl)
  · replace hF := if_f hF c1
    refine lv_iload_n X.x X.b (dk DX5_isBlank_0 3 rfl) rfl (lv_at hl 0 rfl) ?_
    refine lv_bipush (v := 32) X.x X.b (dk DX5_isBlank_0 4 rfl) (by decide) ?_
    refine lv_icmp_ne (tgt := 16) X.x X.b (dk DX5_isBlank_0 5 rfl) (by decide) (fun c2 => ?_) (fun c2 => ?_)
    · replace hF := if_f hF c2
      refine lv_iconst (v := 0) X.x X.b (dk DX5_isBlank_0 8 rfl) (by decide) ?_
      cases sm hF
      exact mr_zret X hr hlk hH rfl ⟨rfl, rfl⟩ (dk DX5_isBlank_0 9 rfl)
    · replace hF := if_t hF c2
      refine lv_iconst (v := 1) X.x X.b (dk DX5_isBlank_0 6 rfl) (by decide) ?_
      refine lv_goto (tgt := 17) X.x X.b (dk DX5_isBlank_0 7 rfl) (by decide) ?_
      cases sm hF
      exact mr_zret X hr hlk hH rfl ⟨rfl, rfl⟩ (dk DX5_isBlank_0 9 rfl)
-- X5_isDigit
abbrev rm_X5_isDigit : Room := { frames := 0, cells := 0, slots := 0, locals := 0 }
theorem hd_X5_isDigit : mHd yX5_isDigit 1 := ⟨by decide +kernel, by decide +kernel, by decide +kernel⟩
theorem DX5_isDigit_0 : ∀ t ∈ ([(0, .iload_n 0, 1), (1, .bipush 48, 2), (3, .if_icmp .lt 13, 3), (6, .iload_n 0, 1), (7, .bipush 57, 2), (9, .if_icmp .gt 7, 3), (12, .iconst 1, 1), (13, .goto 4, 3), (16, .iconst 0, 1), (17, .ireturn, 1)] : List (Nat × Instr × Nat)), decode cX5_isDigit t.1 = .ok (t.2.1, t.2.2) := by decide +kernel
noncomputable def f_X5_isDigit (a0 : Int32) : Option (Int32) := (if a0 < 48 then some 0 else (if 57 < a0 then some 0 else some 1))
set_option maxHeartbeats 4000000 in
set_option maxRecDepth 100000 in
theorem c_X5_isDigit {l : Launch} {G : mG} {h : mM}  {a0 : Int32} {x : Int32} (hF : f_X5_isDigit a0 = some x) : cQ l G yX5_isDigit cX5_isDigit 1 (some FieldType.boolean) rm_X5_isDigit [.int a0] (h) (mQi G (fun r h1 => r = x ∧ h1 = h)) := by
  refine mp_of (by decide +kernel) (Nat.le_of_ble_eq_true rfl) ?_
  intro p e s m below meth c X hr hlk hH hname ls hl
  dsimp only [f_X5_isDigit] at hF
  replace hl : lv_has ls 1 [(0, .int a0)] := hl
  refine lv_iload_n X.x X.b (dk DX5_isDigit_0 0 rfl) rfl (lv_at hl 0 rfl) ?_
  refine lv_bipush (v := 48) X.x X.b (dk DX5_isDigit_0 1 rfl) (by decide) ?_
  refine lv_icmp_lt (tgt := 16) X.x X.b (dk DX5_isDigit_0 2 rfl) (by decide) (fun c1 => ?_) (fun c1 => ?_)
  · replace hF := if_t hF c1
    refine lv_iconst (v := 0) X.x X.b (dk DX5_isDigit_0 8 rfl) (by decide) ?_
    cases sm hF
    exact mr_zret X hr hlk hH rfl ⟨rfl, rfl⟩ (dk DX5_isDigit_0 9 rfl)
  · replace hF := if_f hF c1
    refine lv_iload_n X.x X.b (dk DX5_isDigit_0 3 rfl) rfl (lv_at hl 0 rfl) ?_
    refine lv_bipush (v := 57) X.x X.b (dk DX5_isDigit_0 4 rfl) (by decide) ?_
    refine lv_icmp_gt (tgt := 16) X.x X.b (dk DX5_isDigit_0 5 rfl) (by decide) (fun c2 => ?_) (fun c2 => ?_)
    · replace hF := if_t hF c2
      refine lv_iconst (v := 0) X.x X.b (dk DX5_isDigit_0 8 rfl) (by decide) ?_
      cases sm hF
      exact mr_zret X hr hlk hH rfl ⟨rfl, rfl⟩ (dk DX5_isDigit_0 9 rfl)
    · replace hF := if_f hF c2
      refine lv_iconst (v := 1) X.x X.b (dk DX5_isDigit_0 6 rfl) (by decide) ?_
      refine lv_goto (tgt := 17) X.x X.b (dk DX5_isDigit_0 7 rfl) (by decide) ?_
      cases sm hF
      exact mr_zret X hr hlk hH rfl ⟨rfl, rfl⟩ (dk DX5_isDigit_0 9 rfl)
-- X5_stepNumber
abbrev rm_X5_stepNumber : Room := { frames := 1, cells := 0, slots := 0, locals := 21 }
theorem hd_X5_stepNumber : mHd yX5_stepNumber 0 := ⟨by decide +kernel, by decide +kernel, by decide +kernel⟩
theorem DX5_stepNumber_0 : ∀ t ∈ ([(0, .aload_n 0, 1), (1, .aload_n 0, 1), (2, .aload_n 0, 1), (3, .getfield 112, 3), (6, .invokevirtual 115, 3), (9, .bipush 48, 2), (11, .isub, 1), (12, .putfield 88, 3), (15, .aload_n 0, 1), (16, .getfield 38, 3), (19, .aload_n 0, 1), (20, .getfield 35, 3), (23, .if_icmp .ge 73, 3), (26, .aload_n 0, 1), (27, .aload_n 0, 1), (28, .getfield 38, 3), (31, .invokevirtual 115, 3), (34, .invokestatic 122, 3), (37, .ifCond .eq 59, 3), (40, .aload_n 0, 1), (41, .aload_n 0, 1), (42, .getfield 38, 3), (45, .aload_n 0, 1), (46, .getfield 112, 3), (49, .isub, 1), (50, .iconst 3, 1), (51, .if_icmp .ge 25, 3), (54, .aload_n 0, 1), (55, .getfield 88, 3), (58, .bipush 10, 2), (60, .imul, 1), (61, .aload_n 0, 1), (62, .aload_n 0, 1), (63, .getfield 38, 3), (66, .invokevirtual 115, 3), (69, .iadd, 1), (70, .bipush 48, 2), (72, .isub, 1), (73, .goto 7, 3), (76, .aload_n 0, 1), (77, .getfield 88, 3), (80, .putfield 88, 3), (83, .aload_n 0, 1), (84, .dup, 1), (85, .getfield 38, 3), (88, .iconst 1, 1), (89, .iadd, 1), (90, .putfield 38, 3), (93, .goto (-78), 3), (96, .aload_n 0, 1), (97, .aload_n 0, 1), (98, .getfield 38, 3), (101, .aload_n 0, 1), (102, .getfield 112, 3), (105, .isub, 1), (106, .iconst 3, 1), (107, .if_icmp .gt 7, 3), (110, .iconst 2, 1), (111, .goto 4, 3), (114, .iconst 3, 1)] : List (Nat × Instr × Nat)), decode cX5_stepNumber t.1 = .ok (t.2.1, t.2.2) := by decide +kernel
theorem DX5_stepNumber_1 : ∀ t ∈ ([(115, .putfield 53, 3), (118, .return_, 1)] : List (Nat × Instr × Nat)), decode cX5_stepNumber t.1 = .ok (t.2.1, t.2.2) := by decide +kernel
noncomputable def f_X5_stepNumber_15 (s_mk : OS) : OS → Option ((OS) ⊕ (OS)) := fun s_t => (if (s_t.1 3) ≤ (s_t.1 7) then some (.inr s_t) else (f_X5_byteAt s_t s_mk (s_t.1 7)).bind (fun x7 => (f_X5_isDigit x7).bind (fun x10 => (if x10 = 0 then some (.inr s_t) else (if 3 ≤ (s_t.1 7) - (s_t.1 6) then bnd (oI s_t 5 (s_t.1 5)) (fun t15 => bnd (oI t15 7 ((t15.1 7) + 1)) (fun t17 => some (.inl t17))) else (f_X5_byteAt s_t s_mk (s_t.1 7)).bind (fun x19 => bnd (oI s_t 5 ((((s_t.1 5) * 10) + x19) - 48)) (fun t22 => bnd (oI t22 7 ((t22.1 7) + 1)) (fun t24 => some (.inl t24)))))))))
noncomputable def f_X5_stepNumber (st : OS) (st_mk : OS) : Option (OS) := (f_X5_byteAt st st_mk (st.1 6)).bind (fun x1 => bnd (oI st 5 (x1 - 48)) (fun t4 => (lpv (f_X5_stepNumber_15 st_mk) t4).bind (fun x26 => (if 3 < (x26.1 7) - (x26.1 6) then bnd (oI x26 4 3) (fun t30 => some t30) else bnd (oI x26 4 2) (fun t32 => some t32)))))
set_option maxHeartbeats 4000000 in
set_option maxRecDepth 100000 in
theorem w_X5_stepNumber_15 {p : Program} {l : Launch} {e : Env} {s : State} {m : MethodId} {args : Array Value} {below : List Frame} {meth : Method} {c : Code} {Q : State → Prop} {G : mG} {h : mM} {q : Nat → Nat} {q_mk : Nat → Nat} (hq : oinj LX5 q) (hq_mk : oinj LX3 q_mk) (ha : oap [(LX5, q), (LX3, q_mk)]) (lk_mk : q 0 = q_mk 3) (X : mX G p m c cX5_stepNumber 1 s args RX5) (s_mk : OS) : ∀ (z : OS) (r : OS), lpv (f_X5_stepNumber_15 s_mk) z = some r → ∀ (H : Heap) (locs : List Loc) (ls : Array Slot), mH G (oset LX5 G q z (oset LX3 G q_mk s_mk h)) s.heap H locs → lv_has ls 1 [(0, .ref (q 10))] → (∀ (H : Heap) (locs : List Loc) (ls : Array Slot), mH G (oset LX5 G q r (oset LX3 G q_mk s_mk h)) s.heap H locs → lv_has ls 1 [(0, .ref (q 10))] → W p l e rm_X5_stepNumber s m args below meth c H locs 0 0 Q (F0 m 96 ls [])) → W p l e rm_X5_stepNumber s m args below meth c H locs 0 0 Q (F0 m 15 ls []) := by
  refine lpv_rec ?_
  intro z r x hF hx H locs ls hH hl K0
  obtain ⟨s_t, hz⟩ : ∃ y, y = z := ⟨_, rfl⟩
  subst hz
  dsimp only [f_X5_stepNumber_15] at hF
  refine lv_aload_n X.x X.b (dk DX5_stepNumber_0 8 rfl) rfl (lv_at hl 0 rfl) ?_
  refine og_getI OX5 X hq hH 7 (by decide) rfl kF_X5_38 (dk DX5_stepNumber_0 9 rfl) ?_
  refine lv_aload_n X.x X.b (dk DX5_stepNumber_0 10 rfl) rfl (lv_at hl 0 rfl) ?_
  refine og_getI OX5 X hq hH 3 (by decide) rfl kF_X5_35 (dk DX5_stepNumber_0 11 rfl) ?_
  refine lv_icmp_ge (tgt := 96) X.x X.b (dk DX5_stepNumber_0 12 rfl) (by decide) (fun c6 => ?_) (fun c6 => ?_)
  · replace hF := if_t hF c6
    have hr9 := lp_r hF hx
    subst hr9
    exact K0 _ _ _ hH (lv_sub hl [0] rfl)
  · replace hF := if_f hF c6
    refine lv_aload_n X.x X.b (dk DX5_stepNumber_0 13 rfl) rfl (lv_at hl 0 rfl) ?_
    refine lv_aload_n X.x X.b (dk DX5_stepNumber_0 14 rfl) rfl (lv_at hl 0 rfl) ?_
    refine og_getI OX5 X hq hH 7 (by decide) rfl kF_X5_38 (dk DX5_stepNumber_0 15 rfl) ?_
    obtain ⟨x7, e8, hF⟩ := bd hF
    refine mr_ci0 hH ⟨rfl, rfl⟩ (mr_runV (As := [.int (s_t.1 7)]) (rest := []) X hH (c_X5_byteAt hq hq_mk ha lk_mk e8) ((oset_at hq (Nat.le_refl _) ohas_N).trans (congrArg some ocell_N)) OX5.1 kM_X5_115 kI_X5_byteAt kS_X5_byteAt kN_X5 kC_X5_byteAt hd_X5_byteAt ⟨Nat.le_of_ble_eq_true rfl, Nat.le_of_ble_eq_true rfl⟩ rfl hl.1 (Nat.le_of_ble_eq_true rfl) (dk DX5_stepNumber_0 16 rfl) ⟨Nat.zero_le _, Nat.zero_le _⟩) (fun r h1 H locs hp hH => ?_)
    obtain ⟨hr1, hr2⟩ := hp; rw [hr1]; rw [hr2] at hH; clear hr1 hr2
    obtain ⟨x10, e11, hF⟩ := bd hF
    refine mr_ci0 hH ⟨rfl, rfl⟩ (mr_runS (As := [.int x7]) (rest := []) X hH (c_X5_isDigit e11) kM_X5_122 kT_X5_isDigit kN_X5 kC_X5_isDigit hd_X5_isDigit ⟨Nat.le_of_ble_eq_true rfl, Nat.le_of_ble_eq_true rfl⟩ rfl hl.1 (Nat.le_of_ble_eq_true rfl) (dk DX5_stepNumber_0 17 rfl) ⟨Nat.zero_le _, Nat.zero_le _⟩) (fun r h1 H locs hp hH => ?_)
    obtain ⟨hr1, hr2⟩ := hp; rw [hr1]; rw [hr2] at hH; clear hr1 hr2
    refine lv_if_eq (tgt := 96) X.x X.b (dk DX5_stepNumber_0 18 rfl) (by decide) (fun c13 => ?_) (fun c13 => ?_)
    · replace hF := if_t hF c13
      have hr9 := lp_r hF hx
      subst hr9
      exact K0 _ _ _ hH (lv_sub hl [0] rfl)
    · replace hF := if_f hF c13
      refine lv_aload_n X.x X.b (dk DX5_stepNumber_0 19 rfl) rfl (lv_at hl 0 rfl) ?_
      refine lv_aload_n X.x X.b (dk DX5_stepNumber_0 20 rfl) rfl (lv_at hl 0 rfl) ?_
      refine og_getI OX5 X hq hH 7 (by decide) rfl kF_X5_38 (dk DX5_stepNumber_0 21 rfl) ?_
      refine lv_aload_n X.x X.b (dk DX5_stepNumber_0 22 rfl) rfl (lv_at hl 0 rfl) ?_
      refine og_getI OX5 X hq hH 6 (by decide) rfl kF_X5_112 (dk DX5_stepNumber_0 23 rfl) ?_
      refine lv_isub X.x X.b (dk DX5_stepNumber_0 24 rfl) ?_
      refine lv_iconst (v := 3) X.x X.b (dk DX5_stepNumber_0 25 rfl) (by decide) ?_
      refine lv_icmp_ge (tgt := 76) X.x X.b (dk DX5_stepNumber_0 26 rfl) (by decide) (fun c14 => ?_) (fun c14 => ?_)
      · replace hF := if_t hF c14
        refine lv_aload_n X.x X.b (dk DX5_stepNumber_0 39 rfl) rfl (lv_at hl 0 rfl) ?_
        refine og_getI OX5 X hq hH 5 (by decide) rfl kF_X5_88 (dk DX5_stepNumber_0 40 rfl) ?_
        refine og_putI OX5 X hq hH 5 (by decide) rfl kF_X5_88 rfl rfl rfl (dk DX5_stepNumber_0 41 rfl) (fun H locs hH => ?_)
        obtain ⟨t15, e16⟩ : ∃ y, y = oI s_t 5 (s_t.1 5) := ⟨_, rfl⟩
        rw [← e16] at hH
        replace hF := bnd_e hF e16
        refine lv_aload_n X.x X.b (dk DX5_stepNumber_0 42 rfl) rfl (lv_at hl 0 rfl) ?_
        refine lv_dup X.x X.b (dk DX5_stepNumber_0 43 rfl) rfl ?_
        refine og_getI OX5 X hq hH 7 (by decide) rfl kF_X5_38 (dk DX5_stepNumber_0 44 rfl) ?_
        refine lv_iconst (v := 1) X.x X.b (dk DX5_stepNumber_0 45 rfl) (by decide) ?_
        refine lv_iadd X.x X.b (dk DX5_stepNumber_0 46 rfl) ?_
        refine og_putI OX5 X hq hH 7 (by decide) rfl kF_X5_38 rfl rfl rfl (dk DX5_stepNumber_0 47 rfl) (fun H locs hH => ?_)
        obtain ⟨t17, e18⟩ : ∃ y, y = oI t15 7 ((t15.1 7) + 1) := ⟨_, rfl⟩
        rw [← e18] at hH
        replace hF := bnd_e hF e18
        refine lv_goto (tgt := 15) X.x X.b (dk DX5_stepNumber_0 48 rfl) (by decide) ?_
        exact (lp_l hF hx) _ _ _ hH (lv_sub hl [0] rfl) K0
      · replace hF := if_f hF c14
        refine lv_aload_n X.x X.b (dk DX5_stepNumber_0 27 rfl) rfl (lv_at hl 0 rfl) ?_
        refine og_getI OX5 X hq hH 5 (by decide) rfl kF_X5_88 (dk DX5_stepNumber_0 28 rfl) ?_
        refine lv_bipush (v := 10) X.x X.b (dk DX5_stepNumber_0 29 rfl) (by decide) ?_
        refine lv_imul X.x X.b (dk DX5_stepNumber_0 30 rfl) ?_
        refine lv_aload_n X.x X.b (dk DX5_stepNumber_0 31 rfl) rfl (lv_at hl 0 rfl) ?_
        refine lv_aload_n X.x X.b (dk DX5_stepNumber_0 32 rfl) rfl (lv_at hl 0 rfl) ?_
        refine og_getI OX5 X hq hH 7 (by decide) rfl kF_X5_38 (dk DX5_stepNumber_0 33 rfl) ?_
        obtain ⟨x19, e20, hF⟩ := bd hF
        refine mr_ci0 hH ⟨rfl, rfl⟩ (mr_runV (As := [.int (s_t.1 7)]) (rest := [.int ((s_t.1 5) * 10), .ref (q 10)]) X hH (c_X5_byteAt hq hq_mk ha lk_mk e20) ((oset_at hq (Nat.le_refl _) ohas_N).trans (congrArg some ocell_N)) OX5.1 kM_X5_115 kI_X5_byteAt kS_X5_byteAt kN_X5 kC_X5_byteAt hd_X5_byteAt ⟨Nat.le_of_ble_eq_true rfl, Nat.le_of_ble_eq_true rfl⟩ rfl hl.1 (Nat.le_of_ble_eq_true rfl) (dk DX5_stepNumber_0 34 rfl) ⟨Nat.zero_le _, Nat.zero_le _⟩) (fun r h1 H locs hp hH => ?_)
        obtain ⟨hr1, hr2⟩ := hp; rw [hr1]; rw [hr2] at hH; clear hr1 hr2
        refine lv_iadd X.x X.b (dk DX5_stepNumber_0 35 rfl) ?_
        refine lv_bipush (v := 48) X.x X.b (dk DX5_stepNumber_0 36 rfl) (by decide) ?_
        refine lv_isub X.x X.b (dk DX5_stepNumber_0 37 rfl) ?_
        refine lv_goto (tgt := 80) X.x X.b (dk DX5_stepNumber_0 38 rfl) (by decide) ?_
        refine og_putI OX5 X hq hH 5 (by decide) rfl kF_X5_88 rfl rfl rfl (dk DX5_stepNumber_0 41 rfl) (fun H locs hH => ?_)
        obtain ⟨t22, e23⟩ : ∃ y, y = oI s_t 5 ((((s_t.1 5) * 10) + x19) - 48) := ⟨_, rfl⟩
        rw [← e23] at hH
        replace hF := bnd_e hF e23
        refine lv_aload_n X.x X.b (dk DX5_stepNumber_0 42 rfl) rfl (lv_at hl 0 rfl) ?_
        refine lv_dup X.x X.b (dk DX5_stepNumber_0 43 rfl) rfl ?_
        refine og_getI OX5 X hq hH 7 (by decide) rfl kF_X5_38 (dk DX5_stepNumber_0 44 rfl) ?_
        refine lv_iconst (v := 1) X.x X.b (dk DX5_stepNumber_0 45 rfl) (by decide) ?_
        refine lv_iadd X.x X.b (dk DX5_stepNumber_0 46 rfl) ?_
        refine og_putI OX5 X hq hH 7 (by decide) rfl kF_X5_38 rfl rfl rfl (dk DX5_stepNumber_0 47 rfl) (fun H locs hH => ?_)
        obtain ⟨t24, e25⟩ : ∃ y, y = oI t22 7 ((t22.1 7) + 1) := ⟨_, rfl⟩
        rw [← e25] at hH
        replace hF := bnd_e hF e25
        refine lv_goto (tgt := 15) X.x X.b (dk DX5_stepNumber_0 48 rfl) (by decide) ?_
        exact (lp_l hF hx) _ _ _ hH (lv_sub hl [0] rfl) K0
set_option maxHeartbeats 4000000 in
set_option maxRecDepth 100000 in
theorem c_X5_stepNumber {l : Launch} {G : mG} {h : mM} {q : Nat → Nat} {q_mk : Nat → Nat} (hq : oinj LX5 q) (hq_mk : oinj LX3 q_mk) (ha : oap [(LX5, q), (LX3, q_mk)]) (lk_mk : q 0 = q_mk 3) {st : OS} {st_mk : OS} {x : OS} (hF : f_X5_stepNumber st st_mk = some x) : cQ l G yX5_stepNumber cX5_stepNumber 1 none rm_X5_stepNumber [.ref (q 10)] (oset LX5 G q st (oset LX3 G q_mk st_mk h)) (mQv G (fun h1 => h1 = oset LX5 G q x (oset LX3 G q_mk st_mk h))) := by
  refine mp_of (by decide +kernel) (Nat.le_of_ble_eq_true rfl) ?_
  intro p e s m below meth c X hr hlk hH hname ls hl
  dsimp only [f_X5_stepNumber] at hF
  replace hl : lv_has ls 1 [(0, .ref (q 10))] := hl
  refine lv_aload_n X.x X.b (dk DX5_stepNumber_0 0 rfl) rfl (lv_at hl 0 rfl) ?_
  refine lv_aload_n X.x X.b (dk DX5_stepNumber_0 1 rfl) rfl (lv_at hl 0 rfl) ?_
  refine lv_aload_n X.x X.b (dk DX5_stepNumber_0 2 rfl) rfl (lv_at hl 0 rfl) ?_
  refine og_getI OX5 X hq hH 6 (by decide) rfl kF_X5_112 (dk DX5_stepNumber_0 3 rfl) ?_
  obtain ⟨x1, e2, hF⟩ := bd hF
  refine mr_ci0 hH ⟨rfl, rfl⟩ (mr_runV (As := [.int (st.1 6)]) (rest := [.ref (q 10)]) X hH (c_X5_byteAt hq hq_mk ha lk_mk e2) ((oset_at hq (Nat.le_refl _) ohas_N).trans (congrArg some ocell_N)) OX5.1 kM_X5_115 kI_X5_byteAt kS_X5_byteAt kN_X5 kC_X5_byteAt hd_X5_byteAt ⟨Nat.le_of_ble_eq_true rfl, Nat.le_of_ble_eq_true rfl⟩ rfl hl.1 (Nat.le_of_ble_eq_true rfl) (dk DX5_stepNumber_0 4 rfl) ⟨Nat.zero_le _, Nat.zero_le _⟩) (fun r h1 H locs hp hH => ?_)
  obtain ⟨hr1, hr2⟩ := hp; rw [hr1]; rw [hr2] at hH; clear hr1 hr2
  refine lv_bipush (v := 48) X.x X.b (dk DX5_stepNumber_0 5 rfl) (by decide) ?_
  refine lv_isub X.x X.b (dk DX5_stepNumber_0 6 rfl) ?_
  refine og_putI OX5 X hq hH 5 (by decide) rfl kF_X5_88 rfl rfl rfl (dk DX5_stepNumber_0 7 rfl) (fun H locs hH => ?_)
  obtain ⟨t4, e5⟩ : ∃ y, y = oI st 5 (x1 - 48) := ⟨_, rfl⟩
  rw [← e5] at hH
  replace hF := bnd_e hF e5
  obtain ⟨x26, e27, hF⟩ := bd hF
  replace hl : lv_has ls 1 [(0, .ref (q 10))] := lv_sub hl [0] rfl
  refine w_X5_stepNumber_15 hq hq_mk ha lk_mk X st_mk _ _ e27 _ _ _ hH hl (fun H locs ls hH hl => ?_)
  refine lv_aload_n X.x X.b (dk DX5_stepNumber_0 49 rfl) rfl (lv_at hl 0 rfl) ?_
  refine lv_aload_n X.x X.b (dk DX5_stepNumber_0 50 rfl) rfl (lv_at hl 0 rfl) ?_
  refine og_getI OX5 X hq hH 7 (by decide) rfl kF_X5_38 (dk DX5_stepNumber_0 51 rfl) ?_
  refine lv_aload_n X.x X.b (dk DX5_stepNumber_0 52 rfl) rfl (lv_at hl 0 rfl) ?_
  refine og_getI OX5 X hq hH 6 (by decide) rfl kF_X5_112 (dk DX5_stepNumber_0 53 rfl) ?_
  refine lv_isub X.x X.b (dk DX5_stepNumber_0 54 rfl) ?_
  refine lv_iconst (v := 3) X.x X.b (dk DX5_stepNumber_0 55 rfl) (by decide) ?_
  refine lv_icmp_gt (tgt := 114) X.x X.b (dk DX5_stepNumber_0 56 rfl) (by decide) (fun c29 => ?_) (fun c29 => ?_)
  · replace hF := if_t hF c29
    refine lv_iconst (v := 3) X.x X.b (dk DX5_stepNumber_0 59 rfl) (by decide) ?_
    refine og_putI OX5 X hq hH 4 (by decide) rfl kF_X5_53 rfl rfl rfl (dk DX5_stepNumber_1 0 rfl) (fun H locs hH => ?_)
    obtain ⟨t30, e31⟩ : ∃ y, y = oI x26 4 3 := ⟨_, rfl⟩
    rw [← e31] at hH
    replace hF := bnd_e hF e31
    cases sm hF
    exact mr_vret X hr hlk hH rfl (dk DX5_stepNumber_1 1 rfl)
  · replace hF := if_f hF c29
    refine lv_iconst (v := 2) X.x X.b (dk DX5_stepNumber_0 57 rfl) (by decide) ?_
    refine lv_goto (tgt := 115) X.x X.b (dk DX5_stepNumber_0 58 rfl) (by decide) ?_
    refine og_putI OX5 X hq hH 4 (by decide) rfl kF_X5_53 rfl rfl rfl (dk DX5_stepNumber_1 0 rfl) (fun H locs hH => ?_)
    obtain ⟨t32, e33⟩ : ∃ y, y = oI x26 4 2 := ⟨_, rfl⟩
    rw [← e33] at hH
    replace hF := bnd_e hF e33
    cases sm hF
    exact mr_vret X hr hlk hH rfl (dk DX5_stepNumber_1 1 rfl)
-- X5_isLetter
abbrev rm_X5_isLetter : Room := { frames := 0, cells := 0, slots := 0, locals := 0 }
theorem hd_X5_isLetter : mHd yX5_isLetter 1 := ⟨by decide +kernel, by decide +kernel, by decide +kernel⟩
theorem DX5_isLetter_0 : ∀ t ∈ ([(0, .iload_n 0, 1), (1, .bipush 97, 2), (3, .if_icmp .lt 13, 3), (6, .iload_n 0, 1), (7, .bipush 122, 2), (9, .if_icmp .gt 7, 3), (12, .iconst 1, 1), (13, .goto 4, 3), (16, .iconst 0, 1), (17, .ireturn, 1)] : List (Nat × Instr × Nat)), decode cX5_isLetter t.1 = .ok (t.2.1, t.2.2) := by decide +kernel
noncomputable def f_X5_isLetter (a0 : Int32) : Option (Int32) := (if a0 < 97 then some 0 else (if 122 < a0 then some 0 else some 1))
set_option maxHeartbeats 4000000 in
set_option maxRecDepth 100000 in
theorem c_X5_isLetter {l : Launch} {G : mG} {h : mM}  {a0 : Int32} {x : Int32} (hF : f_X5_isLetter a0 = some x) : cQ l G yX5_isLetter cX5_isLetter 1 (some FieldType.boolean) rm_X5_isLetter [.int a0] (h) (mQi G (fun r h1 => r = x ∧ h1 = h)) := by
  refine mp_of (by decide +kernel) (Nat.le_of_ble_eq_true rfl) ?_
  intro p e s m below meth c X hr hlk hH hname ls hl
  dsimp only [f_X5_isLetter] at hF
  replace hl : lv_has ls 1 [(0, .int a0)] := hl
  refine lv_iload_n X.x X.b (dk DX5_isLetter_0 0 rfl) rfl (lv_at hl 0 rfl) ?_
  refine lv_bipush (v := 97) X.x X.b (dk DX5_isLetter_0 1 rfl) (by decide) ?_
  refine lv_icmp_lt (tgt := 16) X.x X.b (dk DX5_isLetter_0 2 rfl) (by decide) (fun c1 => ?_) (fun c1 => ?_)
  · replace hF := if_t hF c1
    refine lv_iconst (v := 0) X.x X.b (dk DX5_isLetter_0 8 rfl) (by decide) ?_
    cases sm hF
    exact mr_zret X hr hlk hH rfl ⟨rfl, rfl⟩ (dk DX5_isLetter_0 9 rfl)
  · replace hF := if_f hF c1
    refine lv_iload_n X.x X.b (dk DX5_isLetter_0 3 rfl) rfl (lv_at hl 0 rfl) ?_
    refine lv_bipush (v := 122) X.x X.b (dk DX5_isLetter_0 4 rfl) (by decide) ?_
    refine lv_icmp_gt (tgt := 16) X.x X.b (dk DX5_isLetter_0 5 rfl) (by decide) (fun c2 => ?_) (fun c2 => ?_)
    · replace hF := if_t hF c2
      refine lv_iconst (v := 0) X.x X.b (dk DX5_isLetter_0 8 rfl) (by decide) ?_
      cases sm hF
      exact mr_zret X hr hlk hH rfl ⟨rfl, rfl⟩ (dk DX5_isLetter_0 9 rfl)
    · replace hF := if_f hF c2
      refine lv_iconst (v := 1) X.x X.b (dk DX5_isLetter_0 6 rfl) (by decide) ?_
      refine lv_goto (tgt := 17) X.x X.b (dk DX5_isLetter_0 7 rfl) (by decide) ?_
      cases sm hF
      exact mr_zret X hr hlk hH rfl ⟨rfl, rfl⟩ (dk DX5_isLetter_0 9 rfl)
-- X5_refuse
abbrev rm_X5_refuse : Room := { frames := 0, cells := 0, slots := 0, locals := 0 }
theorem hd_X5_refuse : mHd yX5_refuse 1 := ⟨by decide +kernel, by decide +kernel, by decide +kernel⟩
theorem DX5_refuse_0 : ∀ t ∈ ([(0, .aload_n 0, 1), (1, .aload_n 0, 1), (2, .getfield 53, 3), (5, .iconst 3, 1), (6, .if_icmp .ne 7, 3), (9, .iconst 1, 1), (10, .goto 4, 3), (13, .iload_n 1, 1), (14, .putfield 41, 3), (17, .aload_n 0, 1), (18, .aload_n 0, 1), (19, .getfield 112, 3), (22, .putfield 22, 3), (25, .return_, 1)] : List (Nat × Instr × Nat)), decode cX5_refuse t.1 = .ok (t.2.1, t.2.2) := by decide +kernel
noncomputable def f_X5_refuse (st : OS) (st_mk : OS) (a0 : Int32) : Option (OS) := (if (st.1 4) = 3 then bnd (oI st 8 1) (fun t6 => bnd (oI t6 9 (t6.1 6)) (fun t8 => some t8)) else bnd (oI st 8 a0) (fun t2 => bnd (oI t2 9 (t2.1 6)) (fun t4 => some t4)))
set_option maxHeartbeats 4000000 in
set_option maxRecDepth 100000 in
theorem c_X5_refuse {l : Launch} {G : mG} {h : mM} {q : Nat → Nat} {q_mk : Nat → Nat} (hq : oinj LX5 q) (hq_mk : oinj LX3 q_mk) (ha : oap [(LX5, q), (LX3, q_mk)]) (lk_mk : q 0 = q_mk 3) {st : OS} {st_mk : OS} {a0 : Int32} {x : OS} (hF : f_X5_refuse st st_mk a0 = some x) : cQ l G yX5_refuse cX5_refuse 2 none rm_X5_refuse [.ref (q 10), .int a0] (oset LX5 G q st (oset LX3 G q_mk st_mk h)) (mQv G (fun h1 => h1 = oset LX5 G q x (oset LX3 G q_mk st_mk h))) := by
  refine mp_of (by decide +kernel) (Nat.le_of_ble_eq_true rfl) ?_
  intro p e s m below meth c X hr hlk hH hname ls hl
  dsimp only [f_X5_refuse] at hF
  replace hl : lv_has ls 2 [(0, .ref (q 10)), (1, .int a0)] := hl
  refine lv_aload_n X.x X.b (dk DX5_refuse_0 0 rfl) rfl (lv_at hl 0 rfl) ?_
  refine lv_aload_n X.x X.b (dk DX5_refuse_0 1 rfl) rfl (lv_at hl 0 rfl) ?_
  refine og_getI OX5 X hq hH 4 (by decide) rfl kF_X5_53 (dk DX5_refuse_0 2 rfl) ?_
  refine lv_iconst (v := 3) X.x X.b (dk DX5_refuse_0 3 rfl) (by decide) ?_
  refine lv_icmp_ne (tgt := 13) X.x X.b (dk DX5_refuse_0 4 rfl) (by decide) (fun c1 => ?_) (fun c1 => ?_)
  · replace hF := if_f hF c1
    refine lv_iload_n X.x X.b (dk DX5_refuse_0 7 rfl) rfl (lv_at hl 1 rfl) ?_
    refine og_putI OX5 X hq hH 8 (by decide) rfl kF_X5_41 rfl rfl rfl (dk DX5_refuse_0 8 rfl) (fun H locs hH => ?_)
    obtain ⟨t2, e3⟩ : ∃ y, y = oI st 8 a0 := ⟨_, rfl⟩
    rw [← e3] at hH
    replace hF := bnd_e hF e3
    refine lv_aload_n X.x X.b (dk DX5_refuse_0 9 rfl) rfl (lv_at hl 0 rfl) ?_
    refine lv_aload_n X.x X.b (dk DX5_refuse_0 10 rfl) rfl (lv_at hl 0 rfl) ?_
    refine og_getI OX5 X hq hH 6 (by decide) rfl kF_X5_112 (dk DX5_refuse_0 11 rfl) ?_
    refine og_putI OX5 X hq hH 9 (by decide) rfl kF_X5_22 rfl rfl rfl (dk DX5_refuse_0 12 rfl) (fun H locs hH => ?_)
    obtain ⟨t4, e5⟩ : ∃ y, y = oI t2 9 (t2.1 6) := ⟨_, rfl⟩
    rw [← e5] at hH
    replace hF := bnd_e hF e5
    cases sm hF
    exact mr_vret X hr hlk hH rfl (dk DX5_refuse_0 13 rfl)
  · replace hF := if_t hF c1
    refine lv_iconst (v := 1) X.x X.b (dk DX5_refuse_0 5 rfl) (by decide) ?_
    refine lv_goto (tgt := 14) X.x X.b (dk DX5_refuse_0 6 rfl) (by decide) ?_
    refine og_putI OX5 X hq hH 8 (by decide) rfl kF_X5_41 rfl rfl rfl (dk DX5_refuse_0 8 rfl) (fun H locs hH => ?_)
    obtain ⟨t6, e7⟩ : ∃ y, y = oI st 8 1 := ⟨_, rfl⟩
    rw [← e7] at hH
    replace hF := bnd_e hF e7
    refine lv_aload_n X.x X.b (dk DX5_refuse_0 9 rfl) rfl (lv_at hl 0 rfl) ?_
    refine lv_aload_n X.x X.b (dk DX5_refuse_0 10 rfl) rfl (lv_at hl 0 rfl) ?_
    refine og_getI OX5 X hq hH 6 (by decide) rfl kF_X5_112 (dk DX5_refuse_0 11 rfl) ?_
    refine og_putI OX5 X hq hH 9 (by decide) rfl kF_X5_22 rfl rfl rfl (dk DX5_refuse_0 12 rfl) (fun H locs hH => ?_)
    obtain ⟨t8, e9⟩ : ∃ y, y = oI t6 9 (t6.1 6) := ⟨_, rfl⟩
    rw [← e9] at hH
    replace hF := bnd_e hF e9
    cases sm hF
    exact mr_vret X hr hlk hH rfl (dk DX5_refuse_0 13 rfl)
-- X10_hasPoint
abbrev rm_X10_hasPoint : Room := { frames := 0, cells := 0, slots := 0, locals := 0 }
theorem hd_X10_hasPoint : mHd yX10_hasPoint 1 := ⟨by decide +kernel, by decide +kernel, by decide +kernel⟩
theorem DX10_hasPoint_0 : ∀ t ∈ ([(0, .iload_n 1, 1), (1, .ifCond .lt 15, 3), (4, .iload_n 1, 1), (5, .aload_n 0, 1), (6, .getfield 29, 3), (9, .if_icmp .ge 7, 3), (12, .iconst 1, 1), (13, .goto 4, 3), (16, .iconst 0, 1), (17, .ireturn, 1)] : List (Nat × Instr × Nat)), decode cX10_hasPoint t.1 = .ok (t.2.1, t.2.2) := by decide +kernel
noncomputable def f_X10_hasPoint (st : OS) (a0 : Int32) : Option (Int32) := (if a0 < 0 then some 0 else (if (st.1 0) ≤ a0 then some 0 else some 1))
set_option maxHeartbeats 4000000 in
set_option maxRecDepth 100000 in
theorem c_X10_hasPoint {l : Launch} {G : mG} {h : mM} {q : Nat → Nat} (hq : oinj LX10 q) {st : OS} {a0 : Int32} {x : Int32} (hF : f_X10_hasPoint st a0 = some x) : cQ l G yX10_hasPoint cX10_hasPoint 2 (some FieldType.boolean) rm_X10_hasPoint [.ref (q 5), .int a0] (oset LX10 G q st h) (mQi G (fun r h1 => r = x ∧ h1 = oset LX10 G q st h)) := by
  refine mp_of (by decide +kernel) (Nat.le_of_ble_eq_true rfl) ?_
  intro p e s m below meth c X hr hlk hH hname ls hl
  dsimp only [f_X10_hasPoint] at hF
  replace hl : lv_has ls 2 [(0, .ref (q 5)), (1, .int a0)] := hl
  refine lv_iload_n X.x X.b (dk DX10_hasPoint_0 0 rfl) rfl (lv_at hl 1 rfl) ?_
  refine lv_if_lt (tgt := 16) X.x X.b (dk DX10_hasPoint_0 1 rfl) (by decide) (fun c1 => ?_) (fun c1 => ?_)
  · replace hF := if_t hF c1
    refine lv_iconst (v := 0) X.x X.b (dk DX10_hasPoint_0 8 rfl) (by decide) ?_
    cases sm hF
    exact mr_zret X hr hlk hH rfl ⟨rfl, rfl⟩ (dk DX10_hasPoint_0 9 rfl)
  · replace hF := if_f hF c1
    refine lv_iload_n X.x X.b (dk DX10_hasPoint_0 2 rfl) rfl (lv_at hl 1 rfl) ?_
    refine lv_aload_n X.x X.b (dk DX10_hasPoint_0 3 rfl) rfl (lv_at hl 0 rfl) ?_
    refine og_getI OX10 X hq hH 0 (by decide) rfl kF_X10_29 (dk DX10_hasPoint_0 4 rfl) ?_
    refine lv_icmp_ge (tgt := 16) X.x X.b (dk DX10_hasPoint_0 5 rfl) (by decide) (fun c2 => ?_) (fun c2 => ?_)
    · replace hF := if_t hF c2
      refine lv_iconst (v := 0) X.x X.b (dk DX10_hasPoint_0 8 rfl) (by decide) ?_
      cases sm hF
      exact mr_zret X hr hlk hH rfl ⟨rfl, rfl⟩ (dk DX10_hasPoint_0 9 rfl)
    · replace hF := if_f hF c2
      refine lv_iconst (v := 1) X.x X.b (dk DX10_hasPoint_0 6 rfl) (by decide) ?_
      refine lv_goto (tgt := 17) X.x X.b (dk DX10_hasPoint_0 7 rfl) (by decide) ?_
      cases sm hF
      exact mr_zret X hr hlk hH rfl ⟨rfl, rfl⟩ (dk DX10_hasPoint_0 9 rfl)
-- X10_settle
abbrev rm_X10_settle : Room := { frames := 1, cells := 0, slots := 0, locals := 22 }
theorem hd_X10_settle : mHd yX10_settle 0 := ⟨by decide +kernel, by decide +kernel, by decide +kernel⟩
theorem DX10_settle_0 : ∀ t ∈ ([(0, .iconst 0, 1), (1, .istore_n 1, 1), (2, .iload_n 1, 1), (3, .bipush 64, 2), (5, .if_icmp .ge 95, 3), (8, .lconst 0, 1), (9, .lstore_n 2, 1), (10, .lconst 0, 1), (11, .lstore 4, 2), (13, .iconst 0, 1), (14, .istore 6, 2), (16, .iload 6, 2), (18, .aload_n 0, 1), (19, .getfield 37, 3), (22, .if_icmp .ge 49, 3), (25, .iload 6, 2), (27, .bipush 64, 2), (29, .if_icmp .ge 42, 3), (32, .aload_n 0, 1), (33, .getfield 11, 3), (36, .iload 6, 2), (38, .laload, 1), (39, .iload_n 1, 1), (40, .invokestatic 50, 3), (43, .ifCond .eq 22, 3), (46, .lload_n 2, 1), (47, .aload_n 0, 1), (48, .getfield 11, 3), (51, .iload 6, 2), (53, .laload, 1), (54, .lor, 1), (55, .lstore_n 2, 1), (56, .lload 4, 2), (58, .lconst 1, 1), (59, .iload 6, 2), (61, .lshl, 1), (62, .lor, 1), (63, .lstore 4, 2), (65, .iinc 6 1, 3), (68, .goto (-52), 3), (71, .aload_n 0, 1), (72, .getfield 15, 3), (75, .iload_n 1, 1), (76, .lload_n 2, 1), (77, .lconst 1, 1), (78, .iload_n 1, 1), (79, .lshl, 1), (80, .ldc2_w 21, 3), (83, .lxor, 1), (84, .land, 1), (85, .lastore, 1), (86, .aload_n 0, 1), (87, .getfield 18, 3), (90, .iload_n 1, 1), (91, .lload 4, 2), (93, .lastore, 1), (94, .iinc 1 1, 3), (97, .goto (-95), 3), (100, .return_, 1)] : List (Nat × Instr × Nat)), decode cX10_settle t.1 = .ok (t.2.1, t.2.2) := by decide +kernel
noncomputable def f_X10_settle_16 (s_t : OS) (b1 : Int32) : (Int64 × Int64 × Int32) → Option ((Int64 × Int64 × Int32) ⊕ (Int64 × Int64)) := fun z => match z with | (b2, b4, b6) => (if (s_t.1 1) ≤ b6 then some (.inr ((b2, b4))) else (if 64 ≤ b6 then some (.inr ((b2, b4))) else if inb b6 64 = true then (f_X10_has (s_t.2.2.2 2 (b6 : Int32).toNatClampNeg) b1).bind (fun x5 => (if x5 = 0 then bnd (b6 + 1 : Int32) (fun v9 => some (.inl ((b2, b4, v9)))) else bnd (b2 ||| (s_t.2.2.2 2 (b6 : Int32).toNatClampNeg) : Int64) (fun v11 => bnd (b4 ||| (((1 : Int64)) <<< ((b6 : Int32).toInt64 &&& 63)) : Int64) (fun v13 => bnd (b6 + 1 : Int32) (fun v15 => some (.inl ((v11, v13, v15)))))))) else none))
noncomputable def f_X10_settle_2 : (OS × Int32) → Option ((OS × Int32) ⊕ (OS)) := fun z => match z with | (s_t, b1) => (if 64 ≤ b1 then some (.inr s_t) else (lpv (f_X10_settle_16 s_t b1) ((0, 0, 0))).bind (fun x17 => match x17 with | (v19, v20) => if inb b1 64 = true then bnd (oB s_t 3 (vp_updL (s_t.2.2.2 3) (b1 : Int32).toNatClampNeg (v19 &&& ((((1 : Int64)) <<< ((b1 : Int32).toInt64 &&& 63)) ^^^ ((-1)))))) (fun t22 => bnd (oB t22 4 (vp_updL (t22.2.2.2 4) (b1 : Int32).toNatClampNeg v20)) (fun t24 => bnd (b1 + 1 : Int32) (fun v26 => some (.inl ((t24, v26)))))) else none))
noncomputable def f_X10_settle (st : OS) : Option (OS) := (lpv (f_X10_settle_2) ((st, 0))).bind (fun x28 => some x28)
set_option maxHeartbeats 4000000 in
set_option maxRecDepth 100000 in
theorem w_X10_settle_16 {p : Program} {l : Launch} {e : Env} {s : State} {m : MethodId} {args : Array Value} {below : List Frame} {meth : Method} {c : Code} {Q : State → Prop} {G : mG} {h : mM} {q : Nat → Nat} (hq : oinj LX10 q) (X : mX G p m c cX10_settle 7 s args RX10) (s_t : OS) (b1 : Int32) : ∀ (z : Int64 × Int64 × Int32) (r : Int64 × Int64), lpv (f_X10_settle_16 s_t b1) z = some r → ∀ (H : Heap) (locs : List Loc) (ls : Array Slot), mH G (oset LX10 G q s_t h) s.heap H locs → lv_has ls 7 [(0, .ref (q 5)), (1, .int b1), (2, .long z.1), (4, .long z.2.1), (6, .int z.2.2)] → (∀ (H : Heap) (locs : List Loc) (ls : Array Slot), mH G (oset LX10 G q s_t h) s.heap H locs → lv_has ls 7 [(0, .ref (q 5)), (1, .int b1), (2, .long r.1), (4, .long r.2)] → W p l e rm_X10_settle s m args below meth c H locs 0 0 Q (F0 m 71 ls [])) → W p l e rm_X10_settle s m args below meth c H locs 0 0 Q (F0 m 16 ls []) := by
  refine lpv_rec ?_
  intro z r x hF hx H locs ls hH hl K0
  obtain ⟨b2, b4, b6⟩ := z
  dsimp only [f_X10_settle_16] at hF
  try dsimp only at hH hl
  refine lv_iload X.x X.b (dk DX10_settle_0 11 rfl) (lv_at hl 4 rfl) ?_
  refine lv_aload_n X.x X.b (dk DX10_settle_0 12 rfl) rfl (lv_at hl 0 rfl) ?_
  refine og_getI OX10 X hq hH 1 (by decide) rfl kF_X10_37 (dk DX10_settle_0 13 rfl) ?_
  refine lv_icmp_ge (tgt := 71) X.x X.b (dk DX10_settle_0 14 rfl) (by decide) (fun c2 => ?_) (fun c2 => ?_)
  · replace hF := if_t hF c2
    have hr9 := lp_r hF hx
    subst hr9
    exact K0 _ _ _ hH (lv_sub hl [0, 1, 2, 3] rfl)
  · replace hF := if_f hF c2
    refine lv_iload X.x X.b (dk DX10_settle_0 15 rfl) (lv_at hl 4 rfl) ?_
    refine lv_bipush (v := 64) X.x X.b (dk DX10_settle_0 16 rfl) (by decide) ?_
    refine lv_icmp_ge (tgt := 71) X.x X.b (dk DX10_settle_0 17 rfl) (by decide) (fun c3 => ?_) (fun c3 => ?_)
    · replace hF := if_t hF c3
      have hr9 := lp_r hF hx
      subst hr9
      exact K0 _ _ _ hH (lv_sub hl [0, 1, 2, 3] rfl)
    · replace hF := if_f hF c3
      refine lv_aload_n X.x X.b (dk DX10_settle_0 18 rfl) rfl (lv_at hl 0 rfl) ?_
      refine og_getR (t := 1) OX10 X hq hH 2 (by decide) rfl kF_X10_11 (dk DX10_settle_0 19 rfl) ?_
      refine lv_iload X.x X.b (dk DX10_settle_0 20 rfl) (lv_at hl 4 rfl) ?_
      obtain ⟨c4, hF⟩ := gd hF
      refine og_lald X hq hH 2 (by decide) rfl (inb_in c4) (dk DX10_settle_0 21 rfl) ?_
      refine lv_iload_n X.x X.b (dk DX10_settle_0 22 rfl) rfl (lv_at hl 1 rfl) ?_
      obtain ⟨x5, e6, hF⟩ := bd hF
      refine mr_ci0 hH ⟨rfl, rfl⟩ (mr_runS (As := [.long (s_t.2.2.2 2 (b6 : Int32).toNatClampNeg), .int b1]) (rest := []) X hH (c_X10_has e6) kM_X10_50 kT_X10_has kN_X10 kC_X10_has hd_X10_has ⟨Nat.le_of_ble_eq_true rfl, Nat.le_of_ble_eq_true rfl⟩ rfl hl.1 (Nat.le_of_ble_eq_true rfl) (dk DX10_settle_0 23 rfl) ⟨Nat.zero_le _, Nat.zero_le _⟩) (fun r h1 H locs hp hH => ?_)
      obtain ⟨hr1, hr2⟩ := hp; rw [hr1]; rw [hr2] at hH; clear hr1 hr2
      refine lv_if_eq (tgt := 65) X.x X.b (dk DX10_settle_0 24 rfl) (by decide) (fun c8 => ?_) (fun c8 => ?_)
      · replace hF := if_t hF c8
        obtain ⟨v9, e10⟩ : ∃ y : Int32, y = b6 + 1 := ⟨_, rfl⟩
        replace hF := bnd_e hF e10
        refine lv_iinc (v := v9) (lv' := [(6, .int v9), (0, .ref (q 5)), (1, .int b1), (2, .long b2), (4, .long b4)]) X.x X.b (dk DX10_settle_0 38 rfl) hl (k := 4) rfl (by rw [e10]; rfl) (by decide) rfl (fun ls hl => ?_)
        replace hl : lv_has ls 7 [(0, .ref (q 5)), (1, .int b1), (2, .long b2), (4, .long b4), (6, .int v9)] := lv_sub hl [1, 2, 3, 4, 0] rfl
        refine lv_goto (tgt := 16) X.x X.b (dk DX10_settle_0 39 rfl) (by decide) ?_
        exact (lp_l hF hx) _ _ _ hH (lv_sub hl [0, 1, 2, 3, 4] rfl) K0
      · replace hF := if_f hF c8
        refine lv_lload_n X.x X.b (dk DX10_settle_0 25 rfl) rfl (lv_at hl 2 rfl) ?_
        refine lv_aload_n X.x X.b (dk DX10_settle_0 26 rfl) rfl (lv_at hl 0 rfl) ?_
        refine og_getR (t := 1) OX10 X hq hH 2 (by decide) rfl kF_X10_11 (dk DX10_settle_0 27 rfl) ?_
        refine lv_iload X.x X.b (dk DX10_settle_0 28 rfl) (lv_at hl 4 rfl) ?_
        refine og_lald X hq hH 2 (by decide) rfl (inb_in c4) (dk DX10_settle_0 29 rfl) ?_
        refine lv_lor X.x X.b (dk DX10_settle_0 30 rfl) ?_
        refine lv_topl (fun v11 e12 => ?_)
        replace hF := bnd_e hF e12
        refine lv_lstore_n (lv' := [(2, .long v11), (0, .ref (q 5)), (1, .int b1), (4, .long b4), (6, .int b6)]) X.x X.b (dk DX10_settle_0 31 rfl) rfl hl (by decide) rfl (fun ls hl => ?_)
        replace hl : lv_has ls 7 [(0, .ref (q 5)), (1, .int b1), (2, .long v11), (4, .long b4), (6, .int b6)] := lv_sub hl [1, 2, 0, 3, 4] rfl
        refine lv_lload X.x X.b (dk DX10_settle_0 32 rfl) (lv_at hl 3 rfl) ?_
        refine lv_lconst (v := 1) X.x X.b (dk DX10_settle_0 33 rfl) (by decide) ?_
        refine lv_iload X.x X.b (dk DX10_settle_0 34 rfl) (lv_at hl 4 rfl) ?_
        refine lv_lshl X.x X.b (dk DX10_settle_0 35 rfl) rfl ?_
        refine lv_lor X.x X.b (dk DX10_settle_0 36 rfl) ?_
        refine lv_topl (fun v13 e14 => ?_)
        replace hF := bnd_e hF e14
        refine lv_lstore (lv' := [(4, .long v13), (0, .ref (q 5)), (1, .int b1), (2, .long v11), (6, .int b6)]) X.x X.b (dk DX10_settle_0 37 rfl) hl (by decide) rfl (fun ls hl => ?_)
        replace hl : lv_has ls 7 [(0, .ref (q 5)), (1, .int b1), (2, .long v11), (4, .long v13), (6, .int b6)] := lv_sub hl [1, 2, 3, 0, 4] rfl
        obtain ⟨v15, e16⟩ : ∃ y : Int32, y = b6 + 1 := ⟨_, rfl⟩
        replace hF := bnd_e hF e16
        refine lv_iinc (v := v15) (lv' := [(6, .int v15), (0, .ref (q 5)), (1, .int b1), (2, .long v11), (4, .long v13)]) X.x X.b (dk DX10_settle_0 38 rfl) hl (k := 4) rfl (by rw [e16]; rfl) (by decide) rfl (fun ls hl => ?_)
        replace hl : lv_has ls 7 [(0, .ref (q 5)), (1, .int b1), (2, .long v11), (4, .long v13), (6, .int v15)] := lv_sub hl [1, 2, 3, 4, 0] rfl
        refine lv_goto (tgt := 16) X.x X.b (dk DX10_settle_0 39 rfl) (by decide) ?_
        exact (lp_l hF hx) _ _ _ hH (lv_sub hl [0, 1, 2, 3, 4] rfl) K0
set_option maxHeartbeats 4000000 in
set_option maxRecDepth 100000 in
theorem w_X10_settle_2 {p : Program} {l : Launch} {e : Env} {s : State} {m : MethodId} {args : Array Value} {below : List Frame} {meth : Method} {c : Code} {Q : State → Prop} {G : mG} {h : mM} {q : Nat → Nat} (hq : oinj LX10 q) (X : mX G p m c cX10_settle 7 s args RX10) : ∀ (z : OS × Int32) (r : OS), lpv (f_X10_settle_2) z = some r → ∀ (H : Heap) (locs : List Loc) (ls : Array Slot), mH G (oset LX10 G q z.1 h) s.heap H locs → lv_has ls 7 [(0, .ref (q 5)), (1, .int z.2)] → (∀ (H : Heap) (locs : List Loc) (ls : Array Slot), mH G (oset LX10 G q r h) s.heap H locs → lv_has ls 7 [] → W p l e rm_X10_settle s m args below meth c H locs 0 0 Q (F0 m 100 ls [])) → W p l e rm_X10_settle s m args below meth c H locs 0 0 Q (F0 m 2 ls []) := by
  refine lpv_rec ?_
  intro z r x hF hx H locs ls hH hl K0
  obtain ⟨s_t, b1⟩ := z
  dsimp only [f_X10_settle_2] at hF
  try dsimp only at hH hl
  refine lv_iload_n X.x X.b (dk DX10_settle_0 2 rfl) rfl (lv_at hl 1 rfl) ?_
  refine lv_bipush (v := 64) X.x X.b (dk DX10_settle_0 3 rfl) (by decide) ?_
  refine lv_icmp_ge (tgt := 100) X.x X.b (dk DX10_settle_0 4 rfl) (by decide) (fun c1 => ?_) (fun c1 => ?_)
  · replace hF := if_t hF c1
    have hr9 := lp_r hF hx
    subst hr9
    exact K0 _ _ _ hH (lv_sub hl [] rfl)
  · replace hF := if_f hF c1
    refine lv_lconst (v := 0) X.x X.b (dk DX10_settle_0 5 rfl) (by decide) ?_
    refine lv_lstore_n (lv' := [(2, .long 0), (0, .ref (q 5)), (1, .int b1)]) X.x X.b (dk DX10_settle_0 6 rfl) rfl hl (by decide) rfl (fun ls hl => ?_)
    replace hl : lv_has ls 7 [(0, .ref (q 5)), (1, .int b1), (2, .long 0)] := lv_sub hl [1, 2, 0] rfl
    refine lv_lconst (v := 0) X.x X.b (dk DX10_settle_0 7 rfl) (by decide) ?_
    refine lv_lstore (lv' := [(4, .long 0), (0, .ref (q 5)), (1, .int b1), (2, .long 0)]) X.x X.b (dk DX10_settle_0 8 rfl) hl (by decide) rfl (fun ls hl => ?_)
    replace hl : lv_has ls 7 [(0, .ref (q 5)), (1, .int b1), (2, .long 0), (4, .long 0)] := lv_sub hl [1, 2, 3, 0] rfl
    refine lv_iconst (v := 0) X.x X.b (dk DX10_settle_0 9 rfl) (by decide) ?_
    refine lv_istore (lv' := [(6, .int 0), (0, .ref (q 5)), (1, .int b1), (2, .long 0), (4, .long 0)]) X.x X.b (dk DX10_settle_0 10 rfl) hl (by decide) rfl (fun ls hl => ?_)
    replace hl : lv_has ls 7 [(0, .ref (q 5)), (1, .int b1), (2, .long 0), (4, .long 0), (6, .int 0)] := lv_sub hl [1, 2, 3, 4, 0] rfl
    obtain ⟨x17, e18, hF⟩ := bd hF
    replace hl : lv_has ls 7 [(0, .ref (q 5)), (1, .int b1), (2, .long 0), (4, .long 0), (6, .int 0)] := lv_sub hl [0, 1, 2, 3, 4] rfl
    obtain ⟨v19, v20⟩ := x17
    try dsimp only at hF
    refine w_X10_settle_16 hq X s_t b1 _ _ e18 _ _ _ hH hl (fun H locs ls hH hl => ?_)
    try dsimp only at hH hl
    refine lv_aload_n X.x X.b (dk DX10_settle_0 40 rfl) rfl (lv_at hl 0 rfl) ?_
    refine og_getR (t := 1) OX10 X hq hH 3 (by decide) rfl kF_X10_15 (dk DX10_settle_0 41 rfl) ?_
    refine lv_iload_n X.x X.b (dk DX10_settle_0 42 rfl) rfl (lv_at hl 1 rfl) ?_
    refine lv_lload_n X.x X.b (dk DX10_settle_0 43 rfl) rfl (lv_at hl 2 rfl) ?_
    refine lv_lconst (v := 1) X.x X.b (dk DX10_settle_0 44 rfl) (by decide) ?_
    refine lv_iload_n X.x X.b (dk DX10_settle_0 45 rfl) rfl (lv_at hl 1 rfl) ?_
    refine lv_lshl X.x X.b (dk DX10_settle_0 46 rfl) rfl ?_
    refine lv_ldc2 (v := (-1)) X.x X.b X.ow (X.ts _ kK_X10_21) (dk DX10_settle_0 47 rfl) ?_
    refine lv_lxor X.x X.b (dk DX10_settle_0 48 rfl) ?_
    refine lv_land X.x X.b (dk DX10_settle_0 49 rfl) ?_
    obtain ⟨c21, hF⟩ := gd hF
    refine og_last X hq hH 3 (by decide) rfl (inb_in c21) (dk DX10_settle_0 50 rfl) (fun H locs hH => ?_)
    obtain ⟨t22, e23⟩ : ∃ y, y = oB s_t 3 (vp_updL (s_t.2.2.2 3) (b1 : Int32).toNatClampNeg (v19 &&& ((((1 : Int64)) <<< ((b1 : Int32).toInt64 &&& 63)) ^^^ ((-1))))) := ⟨_, rfl⟩
    rw [← e23] at hH
    replace hF := bnd_e hF e23
    refine lv_aload_n X.x X.b (dk DX10_settle_0 51 rfl) rfl (lv_at hl 0 rfl) ?_
    refine og_getR (t := 1) OX10 X hq hH 4 (by decide) rfl kF_X10_18 (dk DX10_settle_0 52 rfl) ?_
    refine lv_iload_n X.x X.b (dk DX10_settle_0 53 rfl) rfl (lv_at hl 1 rfl) ?_
    refine lv_lload X.x X.b (dk DX10_settle_0 54 rfl) (lv_at hl 3 rfl) ?_
    refine og_last X hq hH 4 (by decide) rfl (inb_in c21) (dk DX10_settle_0 55 rfl) (fun H locs hH => ?_)
    obtain ⟨t24, e25⟩ : ∃ y, y = oB t22 4 (vp_updL (t22.2.2.2 4) (b1 : Int32).toNatClampNeg v20) := ⟨_, rfl⟩
    rw [← e25] at hH
    replace hF := bnd_e hF e25
    obtain ⟨v26, e27⟩ : ∃ y : Int32, y = b1 + 1 := ⟨_, rfl⟩
    replace hF := bnd_e hF e27
    refine lv_iinc (v := v26) (lv' := [(1, .int v26), (0, .ref (q 5)), (2, .long v19), (4, .long v20)]) X.x X.b (dk DX10_settle_0 56 rfl) hl (k := 1) rfl (by rw [e27]; rfl) (by decide) rfl (fun ls hl => ?_)
    replace hl : lv_has ls 7 [(0, .ref (q 5)), (1, .int v26)] := lv_sub hl [1, 0] rfl
    refine lv_goto (tgt := 2) X.x X.b (dk DX10_settle_0 57 rfl) (by decide) ?_
    exact (lp_l hF hx) _ _ _ hH (lv_sub hl [0, 1] rfl) K0
set_option maxHeartbeats 4000000 in
set_option maxRecDepth 100000 in
theorem c_X10_settle {l : Launch} {G : mG} {h : mM} {q : Nat → Nat} (hq : oinj LX10 q) {st : OS} {x : OS} (hF : f_X10_settle st = some x) : cQ l G yX10_settle cX10_settle 7 none rm_X10_settle [.ref (q 5)] (oset LX10 G q st h) (mQv G (fun h1 => h1 = oset LX10 G q x h)) := by
  refine mp_of (by decide +kernel) (Nat.le_of_ble_eq_true rfl) ?_
  intro p e s m below meth c X hr hlk hH hname ls hl
  dsimp only [f_X10_settle] at hF
  replace hl : lv_has ls 7 [(0, .ref (q 5))] := hl
  refine lv_iconst (v := 0) X.x X.b (dk DX10_settle_0 0 rfl) (by decide) ?_
  refine lv_istore_n (lv' := [(1, .int 0), (0, .ref (q 5))]) X.x X.b (dk DX10_settle_0 1 rfl) rfl hl (by decide) rfl (fun ls hl => ?_)
  replace hl : lv_has ls 7 [(0, .ref (q 5)), (1, .int 0)] := lv_sub hl [1, 0] rfl
  obtain ⟨x28, e29, hF⟩ := bd hF
  replace hl : lv_has ls 7 [(0, .ref (q 5)), (1, .int 0)] := lv_sub hl [0, 1] rfl
  refine w_X10_settle_2 hq X _ _ e29 _ _ _ hH hl (fun H locs ls hH hl => ?_)
  cases sm hF
  exact mr_vret X hr hlk hH rfl (dk DX10_settle_0 58 rfl)
-- X6_evenBy
abbrev rm_X6_evenBy : Room := { frames := 1, cells := 0, slots := 0, locals := 21 }
theorem hd_X6_evenBy : mHd yX6_evenBy 2 := ⟨by decide +kernel, by decide +kernel, by decide +kernel⟩
theorem DX6_evenBy_0 : ∀ t ∈ ([(0, .aload_n 0, 1), (1, .getfield 9, 3), (4, .ifCond .ne 5, 3), (7, .iconst (-1), 1), (8, .ireturn, 1), (9, .aload_n 0, 1), (10, .iconst 0, 1), (11, .invokevirtual 15, 3), (14, .lload_n 1, 1), (15, .land, 1), (16, .invokestatic 19, 3), (19, .istore_n 3, 1), (20, .iconst 1, 1), (21, .istore 4, 2), (23, .iload 4, 2), (25, .aload_n 0, 1), (26, .getfield 9, 3), (29, .if_icmp .ge 26, 3), (32, .aload_n 0, 1), (33, .iload 4, 2), (35, .invokevirtual 15, 3), (38, .lload_n 1, 1), (39, .land, 1), (40, .invokestatic 19, 3), (43, .iload_n 3, 1), (44, .if_icmp .eq 5, 3), (47, .iconst (-1), 1), (48, .ireturn, 1), (49, .iinc 4 1, 3), (52, .goto (-29), 3), (55, .iload_n 3, 1), (56, .ireturn, 1)] : List (Nat × Instr × Nat)), decode cX6_evenBy t.1 = .ok (t.2.1, t.2.2) := by decide +kernel
noncomputable def f_X6_evenBy_23 (s_o1 : OS) (b1 : Int64) (b3 : Int32) : Int32 → Option ((Int32) ⊕ (Nat)) := fun b4 => (if (s_o1.1 1) ≤ b4 then some (.inr 1) else (f_X10_setAt s_o1 b4).bind (fun x9 => (f_J13_bitCount_95d88 (x9 &&& b1)).bind (fun x12 => (if x12 = b3 then bnd (b4 + 1 : Int32) (fun v16 => some (.inl v16)) else some (.inr 0)))))
noncomputable def f_X6_evenBy (st1 : OS) (a1 : Int64) : Option (Int32) := (if (st1.1 1) = 0 then some ((-1)) else (f_X10_setAt st1 0).bind (fun x2 => (f_J13_bitCount_95d88 (x2 &&& a1)).bind (fun x5 => (lpv (f_X6_evenBy_23 st1 a1 x5) 1).bind (fun x18 => (if x18 = 0 then some ((-1)) else some x5)))))
set_option maxHeartbeats 4000000 in
set_option maxRecDepth 100000 in
theorem w_X6_evenBy_23 {p : Program} {l : Launch} {e : Env} {s : State} {m : MethodId} {args : Array Value} {below : List Frame} {meth : Method} {c : Code} {Q : State → Prop} {G : mG} {h : mM} {q1 : Nat → Nat} (hq1 : oinj LX10 q1) (X : mX G p m c cX6_evenBy 5 s args RX6) (s_o1 : OS) (b1 : Int64) (b3 : Int32) : ∀ (z : Int32) (r : Nat), lpv (f_X6_evenBy_23 s_o1 b1 b3) z = some r → ∀ (H : Heap) (locs : List Loc) (ls : Array Slot), mH G (oset LX10 G q1 s_o1 h) s.heap H locs → lv_has ls 5 [(0, .ref (q1 5)), (1, .long b1), (3, .int b3), (4, .int z)] → (r = 0 → ∀ (H : Heap) (locs : List Loc) (ls : Array Slot), mH G (oset LX10 G q1 s_o1 h) s.heap H locs → lv_has ls 5 [] → W p l e rm_X6_evenBy s m args below meth c H locs 0 0 Q (F0 m 47 ls [])) → (r = 1 → ∀ (H : Heap) (locs : List Loc) (ls : Array Slot), mH G (oset LX10 G q1 s_o1 h) s.heap H locs → lv_has ls 5 [(3, .int b3)] → W p l e rm_X6_evenBy s m args below meth c H locs 0 0 Q (F0 m 55 ls [])) → W p l e rm_X6_evenBy s m args below meth c H locs 0 0 Q (F0 m 23 ls []) := by
  refine lpv_rec ?_
  intro z r x hF hx H locs ls hH hl K0 K1
  obtain ⟨b4, hz⟩ : ∃ y, y = z := ⟨_, rfl⟩
  subst hz
  dsimp only [f_X6_evenBy_23] at hF
  refine lv_iload X.x X.b (dk DX6_evenBy_0 14 rfl) (lv_at hl 3 rfl) ?_
  refine lv_aload_n X.x X.b (dk DX6_evenBy_0 15 rfl) rfl (lv_at hl 0 rfl) ?_
  refine og_getIN OX10 X hq1 hH 1 (by decide) rfl kFN_X6_9 (dk DX6_evenBy_0 16 rfl) ?_
  refine lv_icmp_ge (tgt := 55) X.x X.b (dk DX6_evenBy_0 17 rfl) (by decide) (fun c8 => ?_) (fun c8 => ?_)
  · replace hF := if_t hF c8
    have hr9 := lp_r hF hx
    subst hr9
    exact K1 rfl _ _ _ hH (lv_sub hl [2] rfl)
  · replace hF := if_f hF c8
    refine lv_aload_n X.x X.b (dk DX6_evenBy_0 18 rfl) rfl (lv_at hl 0 rfl) ?_
    refine lv_iload X.x X.b (dk DX6_evenBy_0 19 rfl) (lv_at hl 3 rfl) ?_
    obtain ⟨x9, e10, hF⟩ := bd hF
    refine mr_cl0 hH ⟨rfl, rfl⟩ (mr_runV (As := [.int b4]) (rest := []) X hH (c_X10_setAt hq1 e10) ((oset_at hq1 (Nat.le_refl _) ohas_N).trans (congrArg some ocell_N)) OX10.1 kM_X6_15 kI_X10_setAt kS_X10_setAt kN_X10 kC_X10_setAt hd_X10_setAt ⟨Nat.le_of_ble_eq_true rfl, Nat.le_of_ble_eq_true rfl⟩ rfl hl.1 (Nat.le_of_ble_eq_true rfl) (dk DX6_evenBy_0 20 rfl) ⟨Nat.zero_le _, Nat.zero_le _⟩) (fun r h1 H locs hp hH => ?_)
    obtain ⟨hr1, hr2⟩ := hp; rw [hr1]; rw [hr2] at hH; clear hr1 hr2
    refine lv_lload_n X.x X.b (dk DX6_evenBy_0 21 rfl) rfl (lv_at hl 1 rfl) ?_
    refine lv_land X.x X.b (dk DX6_evenBy_0 22 rfl) ?_
    obtain ⟨x12, e13, hF⟩ := bd hF
    refine mr_ci0 hH ⟨rfl, rfl⟩ (mr_runS (As := [.long (x9 &&& b1)]) (rest := []) X hH (c_J13_bitCount_95d88 e13) kM_X6_19 kT_J13_bitCount_95d88 kN_J13 kC_J13_bitCount_95d88 hd_J13_bitCount_95d88 ⟨Nat.le_of_ble_eq_true rfl, Nat.le_of_ble_eq_true rfl⟩ rfl hl.1 (Nat.le_of_ble_eq_true rfl) (dk DX6_evenBy_0 23 rfl) ⟨Nat.zero_le _, Nat.zero_le _⟩) (fun r h1 H locs hp hH => ?_)
    obtain ⟨hr1, hr2⟩ := hp; rw [hr1]; rw [hr2] at hH; clear hr1 hr2
    refine lv_iload_n X.x X.b (dk DX6_evenBy_0 24 rfl) rfl (lv_at hl 2 rfl) ?_
    refine lv_icmp_eq (tgt := 49) X.x X.b (dk DX6_evenBy_0 25 rfl) (by decide) (fun c15 => ?_) (fun c15 => ?_)
    · replace hF := if_t hF c15
      obtain ⟨v16, e17⟩ : ∃ y : Int32, y = b4 + 1 := ⟨_, rfl⟩
      replace hF := bnd_e hF e17
      refine lv_iinc (v := v16) (lv' := [(4, .int v16), (0, .ref (q1 5)), (1, .long b1), (3, .int b3)]) X.x X.b (dk DX6_evenBy_0 28 rfl) hl (k := 3) rfl (by rw [e17]; rfl) (by decide) rfl (fun ls hl => ?_)
      replace hl : lv_has ls 5 [(0, .ref (q1 5)), (1, .long b1), (3, .int b3), (4, .int v16)] := lv_sub hl [1, 2, 3, 0] rfl
      refine lv_goto (tgt := 23) X.x X.b (dk DX6_evenBy_0 29 rfl) (by decide) ?_
      exact (lp_l hF hx) _ _ _ hH (lv_sub hl [0, 1, 2, 3] rfl) K0 K1
    · replace hF := if_f hF c15
      have hr9 := lp_r hF hx
      subst hr9
      exact K0 rfl _ _ _ hH (lv_sub hl [] rfl)
set_option maxHeartbeats 4000000 in
set_option maxRecDepth 100000 in
theorem c_X6_evenBy {l : Launch} {G : mG} {h : mM} {q1 : Nat → Nat} (hq1 : oinj LX10 q1) {st1 : OS} {a1 : Int64} {x : Int32} (hF : f_X6_evenBy st1 a1 = some x) : cQ l G yX6_evenBy cX6_evenBy 5 (some FieldType.int) rm_X6_evenBy [.ref (q1 5), .long a1] (oset LX10 G q1 st1 h) (mQi G (fun r h1 => r = x ∧ h1 = oset LX10 G q1 st1 h)) := by
  refine mp_of (by decide +kernel) (Nat.le_of_ble_eq_true rfl) ?_
  intro p e s m below meth c X hr hlk hH hname ls hl
  dsimp only [f_X6_evenBy] at hF
  replace hl : lv_has ls 5 [(0, .ref (q1 5)), (1, .long a1)] := hl
  refine lv_aload_n X.x X.b (dk DX6_evenBy_0 0 rfl) rfl (lv_at hl 0 rfl) ?_
  refine og_getIN OX10 X hq1 hH 1 (by decide) rfl kFN_X6_9 (dk DX6_evenBy_0 1 rfl) ?_
  refine lv_if_ne (tgt := 9) X.x X.b (dk DX6_evenBy_0 2 rfl) (by decide) (fun c1 => ?_) (fun c1 => ?_)
  · replace hF := if_f hF c1
    refine lv_aload_n X.x X.b (dk DX6_evenBy_0 5 rfl) rfl (lv_at hl 0 rfl) ?_
    refine lv_iconst (v := 0) X.x X.b (dk DX6_evenBy_0 6 rfl) (by decide) ?_
    obtain ⟨x2, e3, hF⟩ := bd hF
    refine mr_cl0 hH ⟨rfl, rfl⟩ (mr_runV (As := [.int 0]) (rest := []) X hH (c_X10_setAt hq1 e3) ((oset_at hq1 (Nat.le_refl _) ohas_N).trans (congrArg some ocell_N)) OX10.1 kM_X6_15 kI_X10_setAt kS_X10_setAt kN_X10 kC_X10_setAt hd_X10_setAt ⟨Nat.le_of_ble_eq_true rfl, Nat.le_of_ble_eq_true rfl⟩ rfl hl.1 (Nat.le_of_ble_eq_true rfl) (dk DX6_evenBy_0 7 rfl) ⟨Nat.zero_le _, Nat.zero_le _⟩) (fun r h1 H locs hp hH => ?_)
    obtain ⟨hr1, hr2⟩ := hp; rw [hr1]; rw [hr2] at hH; clear hr1 hr2
    refine lv_lload_n X.x X.b (dk DX6_evenBy_0 8 rfl) rfl (lv_at hl 1 rfl) ?_
    refine lv_land X.x X.b (dk DX6_evenBy_0 9 rfl) ?_
    obtain ⟨x5, e6, hF⟩ := bd hF
    refine mr_ci0 hH ⟨rfl, rfl⟩ (mr_runS (As := [.long (x2 &&& a1)]) (rest := []) X hH (c_J13_bitCount_95d88 e6) kM_X6_19 kT_J13_bitCount_95d88 kN_J13 kC_J13_bitCount_95d88 hd_J13_bitCount_95d88 ⟨Nat.le_of_ble_eq_true rfl, Nat.le_of_ble_eq_true rfl⟩ rfl hl.1 (Nat.le_of_ble_eq_true rfl) (dk DX6_evenBy_0 10 rfl) ⟨Nat.zero_le _, Nat.zero_le _⟩) (fun r h1 H locs hp hH => ?_)
    obtain ⟨hr1, hr2⟩ := hp; rw [hr1]; rw [hr2] at hH; clear hr1 hr2
    refine lv_istore_n (lv' := [(3, .int x5), (0, .ref (q1 5)), (1, .long a1)]) X.x X.b (dk DX6_evenBy_0 11 rfl) rfl hl (by decide) rfl (fun ls hl => ?_)
    replace hl : lv_has ls 5 [(0, .ref (q1 5)), (1, .long a1), (3, .int x5)] := lv_sub hl [1, 2, 0] rfl
    refine lv_iconst (v := 1) X.x X.b (dk DX6_evenBy_0 12 rfl) (by decide) ?_
    refine lv_istore (lv' := [(4, .int 1), (0, .ref (q1 5)), (1, .long a1), (3, .int x5)]) X.x X.b (dk DX6_evenBy_0 13 rfl) hl (by decide) rfl (fun ls hl => ?_)
    replace hl : lv_has ls 5 [(0, .ref (q1 5)), (1, .long a1), (3, .int x5), (4, .int 1)] := lv_sub hl [1, 2, 3, 0] rfl
    obtain ⟨x18, e19, hF⟩ := bd hF
    replace hl : lv_has ls 5 [(0, .ref (q1 5)), (1, .long a1), (3, .int x5), (4, .int 1)] := lv_sub hl [0, 1, 2, 3] rfl
    refine w_X6_evenBy_23 hq1 X st1 a1 x5 _ _ e19 _ _ _ hH hl (fun hk H locs ls hH hl => ?_) (fun hk H locs ls hH hl => ?_)
    · subst hk
      replace hF := if_t hF rfl
      refine lv_iconst (v := (-1)) X.x X.b (dk DX6_evenBy_0 26 rfl) (by decide) ?_
      cases sm hF
      exact mr_iret X hr hlk hH ⟨rfl, rfl⟩ (dk DX6_evenBy_0 27 rfl)
    · subst hk
      replace hF := if_f hF (by decide)
      refine lv_iload_n X.x X.b (dk DX6_evenBy_0 30 rfl) rfl (lv_at hl 0 rfl) ?_
      cases sm hF
      exact mr_iret X hr hlk hH ⟨rfl, rfl⟩ (dk DX6_evenBy_0 31 rfl)
  · replace hF := if_t hF c1
    refine lv_iconst (v := (-1)) X.x X.b (dk DX6_evenBy_0 3 rfl) (by decide) ?_
    cases sm hF
    exact mr_iret X hr hlk hH ⟨rfl, rfl⟩ (dk DX6_evenBy_0 4 rfl)
-- X6_canBeEven
abbrev rm_X6_canBeEven : Room := { frames := 1, cells := 0, slots := 0, locals := 22 }
theorem hd_X6_canBeEven : mHd yX6_canBeEven 4 := ⟨by decide +kernel, by decide +kernel, by decide +kernel⟩
theorem DX6_canBeEven_0 : ∀ t ∈ ([(0, .iload_n 2, 1), (1, .iconst 1, 1), (2, .iadd, 1), (3, .invokestatic 41, 3), (6, .ldc2_w 44, 3), (9, .lxor, 1), (10, .lstore 5, 2), (12, .aload_n 0, 1), (13, .iload_n 2, 1), (14, .invokevirtual 34, 3), (17, .lstore 7, 2), (19, .iconst 0, 1), (20, .istore 9, 2), (22, .iload 9, 2), (24, .aload_n 0, 1), (25, .getfield 9, 3), (28, .if_icmp .ge 59, 3), (31, .lload 7, 2), (33, .iload 9, 2), (35, .invokestatic 46, 3), (38, .ifCond .eq 43, 3), (41, .aload_n 0, 1), (42, .iload 9, 2), (44, .invokevirtual 15, 3), (47, .lload_n 3, 1), (48, .land, 1), (49, .invokestatic 19, 3), (52, .istore 10, 2), (54, .iload 10, 2), (56, .iload_n 1, 1), (57, .if_icmp .gt 22, 3), (60, .iload 10, 2), (62, .aload_n 0, 1), (63, .iload 9, 2), (65, .invokevirtual 15, 3), (68, .lload 5, 2), (70, .land, 1), (71, .invokestatic 19, 3), (74, .iadd, 1), (75, .iload_n 1, 1), (76, .if_icmp .ge 5, 3), (79, .iconst 0, 1), (80, .ireturn, 1), (81, .iinc 9 1, 3), (84, .goto (-62), 3), (87, .iconst 1, 1), (88, .ireturn, 1)] : List (Nat × Instr × Nat)), decode cX6_canBeEven t.1 = .ok (t.2.1, t.2.2) := by decide +kernel
noncomputable def f_X6_canBeEven_22 (s_o1 : OS) (b1 : Int32) (b3 : Int64) (b5 : Int64) (b7 : Int64) : Int32 → Option ((Int32) ⊕ (Nat)) := fun b9 => (if (s_o1.1 1) ≤ b9 then some (.inr 1) else (f_X10_has b7 b9).bind (fun x10 => (if x10 = 0 then bnd (b9 + 1 : Int32) (fun v14 => some (.inl v14)) else (f_X10_setAt s_o1 b9).bind (fun x16 => (f_J13_bitCount_95d88 (x16 &&& b3)).bind (fun x19 => (if b1 < x19 then some (.inr 0) else (f_X10_setAt s_o1 b9).bind (fun x23 => (f_J13_bitCount_95d88 (x23 &&& b5)).bind (fun x26 => (if b1 ≤ (x19 + x26) then bnd (b9 + 1 : Int32) (fun v30 => some (.inl v30)) else some (.inr 0))))))))))
noncomputable def f_X6_canBeEven (st1 : OS) (a1 : Int32) (a2 : Int32) (a3 : Int64) : Option (Int32) := (f_X10_first (a2 + 1)).bind (fun x1 => bnd (x1 ^^^ ((-1)) : Int64) (fun v4 => (f_X10_throughAt st1 a2).bind (fun x6 => (lpv (f_X6_canBeEven_22 st1 a1 a3 v4 x6) 0).bind (fun x32 => (if x32 = 0 then some 0 else some 1)))))
set_option maxHeartbeats 4000000 in
set_option maxRecDepth 100000 in
theorem w_X6_canBeEven_22 {p : Program} {l : Launch} {e : Env} {s : State} {m : MethodId} {args : Array Value} {below : List Frame} {meth : Method} {c : Code} {Q : State → Prop} {G : mG} {h : mM} {q1 : Nat → Nat} (hq1 : oinj LX10 q1) (X : mX G p m c cX6_canBeEven 11 s args RX6) (s_o1 : OS) (b1 : Int32) (b3 : Int64) (b5 : Int64) (b7 : Int64) : ∀ (z : Int32) (r : Nat), lpv (f_X6_canBeEven_22 s_o1 b1 b3 b5 b7) z = some r → ∀ (H : Heap) (locs : List Loc) (ls : Array Slot), mH G (oset LX10 G q1 s_o1 h) s.heap H locs → lv_has ls 11 [(0, .ref (q1 5)), (1, .int b1), (3, .long b3), (5, .long b5), (7, .long b7), (9, .int z)] → (r = 0 → ∀ (H : Heap) (locs : List Loc) (ls : Array Slot), mH G (oset LX10 G q1 s_o1 h) s.heap H locs → lv_has ls 11 [] → W p l e rm_X6_canBeEven s m args below meth c H locs 0 0 Q (F0 m 79 ls [])) → (r = 1 → ∀ (H : Heap) (locs : List Loc) (ls : Array Slot), mH G (oset LX10 G q1 s_o1 h) s.heap H locs → lv_has ls 11 [] → W p l e rm_X6_canBeEven s m args below meth c H locs 0 0 Q (F0 m 87 ls [])) → W p l e rm_X6_canBeEven s m args below meth c H locs 0 0 Q (F0 m 22 ls []) := by
  refine lpv_rec ?_
  intro z r x hF hx H locs ls hH hl K0 K1
  obtain ⟨b9, hz⟩ : ∃ y, y = z := ⟨_, rfl⟩
  subst hz
  dsimp only [f_X6_canBeEven_22] at hF
  refine lv_iload X.x X.b (dk DX6_canBeEven_0 13 rfl) (lv_at hl 5 rfl) ?_
  refine lv_aload_n X.x X.b (dk DX6_canBeEven_0 14 rfl) rfl (lv_at hl 0 rfl) ?_
  refine og_getIN OX10 X hq1 hH 1 (by decide) rfl kFN_X6_9 (dk DX6_canBeEven_0 15 rfl) ?_
  refine lv_icmp_ge (tgt := 87) X.x X.b (dk DX6_canBeEven_0 16 rfl) (by decide) (fun c9 => ?_) (fun c9 => ?_)
  · replace hF := if_t hF c9
    have hr9 := lp_r hF hx
    subst hr9
    exact K1 rfl _ _ _ hH (lv_sub hl [] rfl)
  · replace hF := if_f hF c9
    refine lv_lload X.x X.b (dk DX6_canBeEven_0 17 rfl) (lv_at hl 4 rfl) ?_
    refine lv_iload X.x X.b (dk DX6_canBeEven_0 18 rfl) (lv_at hl 5 rfl) ?_
    obtain ⟨x10, e11, hF⟩ := bd hF
    refine mr_ci0 hH ⟨rfl, rfl⟩ (mr_runS (As := [.long b7, .int b9]) (rest := []) X hH (c_X10_has e11) kM_X6_46 kT_X10_has kN_X10 kC_X10_has hd_X10_has ⟨Nat.le_of_ble_eq_true rfl, Nat.le_of_ble_eq_true rfl⟩ rfl hl.1 (Nat.le_of_ble_eq_true rfl) (dk DX6_canBeEven_0 19 rfl) ⟨Nat.zero_le _, Nat.zero_le _⟩) (fun r h1 H locs hp hH => ?_)
    obtain ⟨hr1, hr2⟩ := hp; rw [hr1]; rw [hr2] at hH; clear hr1 hr2
    refine lv_if_eq (tgt := 81) X.x X.b (dk DX6_canBeEven_0 20 rfl) (by decide) (fun c13 => ?_) (fun c13 => ?_)
    · replace hF := if_t hF c13
      obtain ⟨v14, e15⟩ : ∃ y : Int32, y = b9 + 1 := ⟨_, rfl⟩
      replace hF := bnd_e hF e15
      refine lv_iinc (v := v14) (lv' := [(9, .int v14), (0, .ref (q1 5)), (1, .int b1), (3, .long b3), (5, .long b5), (7, .long b7)]) X.x X.b (dk DX6_canBeEven_0 43 rfl) hl (k := 5) rfl (by rw [e15]; rfl) (by decide) rfl (fun ls hl => ?_)
      replace hl : lv_has ls 11 [(0, .ref (q1 5)), (1, .int b1), (3, .long b3), (5, .long b5), (7, .long b7), (9, .int v14)] := lv_sub hl [1, 2, 3, 4, 5, 0] rfl
      refine lv_goto (tgt := 22) X.x X.b (dk DX6_canBeEven_0 44 rfl) (by decide) ?_
      exact (lp_l hF hx) _ _ _ hH (lv_sub hl [0, 1, 2, 3, 4, 5] rfl) K0 K1
    · replace hF := if_f hF c13
      refine lv_aload_n X.x X.b (dk DX6_canBeEven_0 21 rfl) rfl (lv_at hl 0 rfl) ?_
      refine lv_iload X.x X.b (dk DX6_canBeEven_0 22 rfl) (lv_at hl 5 rfl) ?_
      obtain ⟨x16, e17, hF⟩ := bd hF
      refine mr_cl0 hH ⟨rfl, rfl⟩ (mr_runV (As := [.int b9]) (rest := []) X hH (c_X10_setAt hq1 e17) ((oset_at hq1 (Nat.le_refl _) ohas_N).trans (congrArg some ocell_N)) OX10.1 kM_X6_15 kI_X10_setAt kS_X10_setAt kN_X10 kC_X10_setAt hd_X10_setAt ⟨Nat.le_of_ble_eq_true rfl, Nat.le_of_ble_eq_true rfl⟩ rfl hl.1 (Nat.le_of_ble_eq_true rfl) (dk DX6_canBeEven_0 23 rfl) ⟨Nat.zero_le _, Nat.zero_le _⟩) (fun r h1 H locs hp hH => ?_)
      obtain ⟨hr1, hr2⟩ := hp; rw [hr1]; rw [hr2] at hH; clear hr1 hr2
      refine lv_lload_n X.x X.b (dk DX6_canBeEven_0 24 rfl) rfl (lv_at hl 2 rfl) ?_
      refine lv_land X.x X.b (dk DX6_canBeEven_0 25 rfl) ?_
      obtain ⟨x19, e20, hF⟩ := bd hF
      refine mr_ci0 hH ⟨rfl, rfl⟩ (mr_runS (As := [.long (x16 &&& b3)]) (rest := []) X hH (c_J13_bitCount_95d88 e20) kM_X6_19 kT_J13_bitCount_95d88 kN_J13 kC_J13_bitCount_95d88 hd_J13_bitCount_95d88 ⟨Nat.le_of_ble_eq_true rfl, Nat.le_of_ble_eq_true rfl⟩ rfl hl.1 (Nat.le_of_ble_eq_true rfl) (dk DX6_canBeEven_0 26 rfl) ⟨Nat.zero_le _, Nat.zero_le _⟩) (fun r h1 H locs hp hH => ?_)
      obtain ⟨hr1, hr2⟩ := hp; rw [hr1]; rw [hr2] at hH; clear hr1 hr2
      refine lv_istore (lv' := [(10, .int x19), (0, .ref (q1 5)), (1, .int b1), (3, .long b3), (5, .long b5), (7, .long b7), (9, .int b9)]) X.x X.b (dk DX6_canBeEven_0 27 rfl) hl (by decide) rfl (fun ls hl => ?_)
      replace hl : lv_has ls 11 [(0, .ref (q1 5)), (1, .int b1), (3, .long b3), (5, .long b5), (7, .long b7), (9, .int b9), (10, .int x19)] := lv_sub hl [1, 2, 3, 4, 5, 6, 0] rfl
      refine lv_iload X.x X.b (dk DX6_canBeEven_0 28 rfl) (lv_at hl 6 rfl) ?_
      refine lv_iload_n X.x X.b (dk DX6_canBeEven_0 29 rfl) rfl (lv_at hl 1 rfl) ?_
      refine lv_icmp_gt (tgt := 79) X.x X.b (dk DX6_canBeEven_0 30 rfl) (by decide) (fun c22 => ?_) (fun c22 => ?_)
      · replace hF := if_t hF c22
        have hr9 := lp_r hF hx
        subst hr9
        exact K0 rfl _ _ _ hH (lv_sub hl [] rfl)
      · replace hF := if_f hF c22
        refine lv_iload X.x X.b (dk DX6_canBeEven_0 31 rfl) (lv_at hl 6 rfl) ?_
        refine lv_aload_n X.x X.b (dk DX6_canBeEven_0 32 rfl) rfl (lv_at hl 0 rfl) ?_
        refine lv_iload X.x X.b (dk DX6_canBeEven_0 33 rfl) (lv_at hl 5 rfl) ?_
        obtain ⟨x23, e24, hF⟩ := bd hF
        refine mr_cl0 hH ⟨rfl, rfl⟩ (mr_runV (As := [.int b9]) (rest := [.int x19]) X hH (c_X10_setAt hq1 e24) ((oset_at hq1 (Nat.le_refl _) ohas_N).trans (congrArg some ocell_N)) OX10.1 kM_X6_15 kI_X10_setAt kS_X10_setAt kN_X10 kC_X10_setAt hd_X10_setAt ⟨Nat.le_of_ble_eq_true rfl, Nat.le_of_ble_eq_true rfl⟩ rfl hl.1 (Nat.le_of_ble_eq_true rfl) (dk DX6_canBeEven_0 34 rfl) ⟨Nat.zero_le _, Nat.zero_le _⟩) (fun r h1 H locs hp hH => ?_)
        obtain ⟨hr1, hr2⟩ := hp; rw [hr1]; rw [hr2] at hH; clear hr1 hr2
        refine lv_lload X.x X.b (dk DX6_canBeEven_0 35 rfl) (lv_at hl 3 rfl) ?_
        refine lv_land X.x X.b (dk DX6_canBeEven_0 36 rfl) ?_
        obtain ⟨x26, e27, hF⟩ := bd hF
        refine mr_ci0 hH ⟨rfl, rfl⟩ (mr_runS (As := [.long (x23 &&& b5)]) (rest := [.int x19]) X hH (c_J13_bitCount_95d88 e27) kM_X6_19 kT_J13_bitCount_95d88 kN_J13 kC_J13_bitCount_95d88 hd_J13_bitCount_95d88 ⟨Nat.le_of_ble_eq_true rfl, Nat.le_of_ble_eq_true rfl⟩ rfl hl.1 (Nat.le_of_ble_eq_true rfl) (dk DX6_canBeEven_0 37 rfl) ⟨Nat.zero_le _, Nat.zero_le _⟩) (fun r h1 H locs hp hH => ?_)
        obtain ⟨hr1, hr2⟩ := hp; rw [hr1]; rw [hr2] at hH; clear hr1 hr2
        refine lv_iadd X.x X.b (dk DX6_canBeEven_0 38 rfl) ?_
        refine lv_iload_n X.x X.b (dk DX6_canBeEven_0 39 rfl) rfl (lv_at hl 1 rfl) ?_
        refine lv_icmp_ge (tgt := 81) X.x X.b (dk DX6_canBeEven_0 40 rfl) (by decide) (fun c29 => ?_) (fun c29 => ?_)
        · replace hF := if_t hF c29
          obtain ⟨v30, e31⟩ : ∃ y : Int32, y = b9 + 1 := ⟨_, rfl⟩
          replace hF := bnd_e hF e31
          refine lv_iinc (v := v30) (lv' := [(9, .int v30), (0, .ref (q1 5)), (1, .int b1), (3, .long b3), (5, .long b5), (7, .long b7), (10, .int x19)]) X.x X.b (dk DX6_canBeEven_0 43 rfl) hl (k := 5) rfl (by rw [e31]; rfl) (by decide) rfl (fun ls hl => ?_)
          replace hl : lv_has ls 11 [(0, .ref (q1 5)), (1, .int b1), (3, .long b3), (5, .long b5), (7, .long b7), (9, .int v30)] := lv_sub hl [1, 2, 3, 4, 5, 0] rfl
          refine lv_goto (tgt := 22) X.x X.b (dk DX6_canBeEven_0 44 rfl) (by decide) ?_
          exact (lp_l hF hx) _ _ _ hH (lv_sub hl [0, 1, 2, 3, 4, 5] rfl) K0 K1
        · replace hF := if_f hF c29
          have hr9 := lp_r hF hx
          subst hr9
          exact K0 rfl _ _ _ hH (lv_sub hl [] rfl)
set_option maxHeartbeats 4000000 in
set_option maxRecDepth 100000 in
theorem c_X6_canBeEven {l : Launch} {G : mG} {h : mM} {q1 : Nat → Nat} (hq1 : oinj LX10 q1) {st1 : OS} {a1 : Int32} {a2 : Int32} {a3 : Int64} {x : Int32} (hF : f_X6_canBeEven st1 a1 a2 a3 = some x) : cQ l G yX6_canBeEven cX6_canBeEven 11 (some FieldType.boolean) rm_X6_canBeEven [.ref (q1 5), .int a1, .int a2, .long a3] (oset LX10 G q1 st1 h) (mQi G (fun r h1 => r = x ∧ h1 = oset LX10 G q1 st1 h)) := by
  refine mp_of (by decide +kernel) (Nat.le_of_ble_eq_true rfl) ?_
  intro p e s m below meth c X hr hlk hH hname ls hl
  dsimp only [f_X6_canBeEven] at hF
  replace hl : lv_has ls 11 [(0, .ref (q1 5)), (1, .int a1), (2, .int a2), (3, .long a3)] := hl
  refine lv_iload_n X.x X.b (dk DX6_canBeEven_0 0 rfl) rfl (lv_at hl 2 rfl) ?_
  refine lv_iconst (v := 1) X.x X.b (dk DX6_canBeEven_0 1 rfl) (by decide) ?_
  refine lv_iadd X.x X.b (dk DX6_canBeEven_0 2 rfl) ?_
  obtain ⟨x1, e2, hF⟩ := bd hF
  refine mr_cl0 hH ⟨rfl, rfl⟩ (mr_runS (As := [.int (a2 + 1)]) (rest := []) X hH (c_X10_first e2) kM_X6_41 kT_X10_first kN_X10 kC_X10_first hd_X10_first ⟨Nat.le_of_ble_eq_true rfl, Nat.le_of_ble_eq_true rfl⟩ rfl hl.1 (Nat.le_of_ble_eq_true rfl) (dk DX6_canBeEven_0 3 rfl) ⟨Nat.zero_le _, Nat.zero_le _⟩) (fun r h1 H locs hp hH => ?_)
  obtain ⟨hr1, hr2⟩ := hp; rw [hr1]; rw [hr2] at hH; clear hr1 hr2
  refine lv_ldc2 (v := (-1)) X.x X.b X.ow (X.ts _ kK_X6_44) (dk DX6_canBeEven_0 4 rfl) ?_
  refine lv_lxor X.x X.b (dk DX6_canBeEven_0 5 rfl) ?_
  refine lv_topl (fun v4 e5 => ?_)
  replace hF := bnd_e hF e5
  refine lv_lstore (lv' := [(5, .long v4), (0, .ref (q1 5)), (1, .int a1), (2, .int a2), (3, .long a3)]) X.x X.b (dk DX6_canBeEven_0 6 rfl) hl (by decide) rfl (fun ls hl => ?_)
  replace hl : lv_has ls 11 [(0, .ref (q1 5)), (1, .int a1), (2, .int a2), (3, .long a3), (5, .long v4)] := lv_sub hl [1, 2, 3, 4, 0] rfl
  refine lv_aload_n X.x X.b (dk DX6_canBeEven_0 7 rfl) rfl (lv_at hl 0 rfl) ?_
  refine lv_iload_n X.x X.b (dk DX6_canBeEven_0 8 rfl) rfl (lv_at hl 2 rfl) ?_
  obtain ⟨x6, e7, hF⟩ := bd hF
  refine mr_cl0 hH ⟨rfl, rfl⟩ (mr_runV (As := [.int a2]) (rest := []) X hH (c_X10_throughAt hq1 e7) ((oset_at hq1 (Nat.le_refl _) ohas_N).trans (congrArg some ocell_N)) OX10.1 kM_X6_34 kI_X10_throughAt kS_X10_throughAt kN_X10 kC_X10_throughAt hd_X10_throughAt ⟨Nat.le_of_ble_eq_true rfl, Nat.le_of_ble_eq_true rfl⟩ rfl hl.1 (Nat.le_of_ble_eq_true rfl) (dk DX6_canBeEven_0 9 rfl) ⟨Nat.zero_le _, Nat.zero_le _⟩) (fun r h1 H locs hp hH => ?_)
  obtain ⟨hr1, hr2⟩ := hp; rw [hr1]; rw [hr2] at hH; clear hr1 hr2
  refine lv_lstore (lv' := [(7, .long x6), (0, .ref (q1 5)), (1, .int a1), (2, .int a2), (3, .long a3), (5, .long v4)]) X.x X.b (dk DX6_canBeEven_0 10 rfl) hl (by decide) rfl (fun ls hl => ?_)
  replace hl : lv_has ls 11 [(0, .ref (q1 5)), (1, .int a1), (3, .long a3), (5, .long v4), (7, .long x6)] := lv_sub hl [1, 2, 4, 5, 0] rfl
  refine lv_iconst (v := 0) X.x X.b (dk DX6_canBeEven_0 11 rfl) (by decide) ?_
  refine lv_istore (lv' := [(9, .int 0), (0, .ref (q1 5)), (1, .int a1), (3, .long a3), (5, .long v4), (7, .long x6)]) X.x X.b (dk DX6_canBeEven_0 12 rfl) hl (by decide) rfl (fun ls hl => ?_)
  replace hl : lv_has ls 11 [(0, .ref (q1 5)), (1, .int a1), (3, .long a3), (5, .long v4), (7, .long x6), (9, .int 0)] := lv_sub hl [1, 2, 3, 4, 5, 0] rfl
  obtain ⟨x32, e33, hF⟩ := bd hF
  replace hl : lv_has ls 11 [(0, .ref (q1 5)), (1, .int a1), (3, .long a3), (5, .long v4), (7, .long x6), (9, .int 0)] := lv_sub hl [0, 1, 2, 3, 4, 5] rfl
  refine w_X6_canBeEven_22 hq1 X st1 a1 a3 v4 x6 _ _ e33 _ _ _ hH hl (fun hk H locs ls hH hl => ?_) (fun hk H locs ls hH hl => ?_)
  · subst hk
    replace hF := if_t hF rfl
    refine lv_iconst (v := 0) X.x X.b (dk DX6_canBeEven_0 41 rfl) (by decide) ?_
    cases sm hF
    exact mr_zret X hr hlk hH rfl ⟨rfl, rfl⟩ (dk DX6_canBeEven_0 42 rfl)
  · subst hk
    replace hF := if_f hF (by decide)
    refine lv_iconst (v := 1) X.x X.b (dk DX6_canBeEven_0 45 rfl) (by decide) ?_
    cases sm hF
    exact mr_zret X hr hlk hH rfl ⟨rfl, rfl⟩ (dk DX6_canBeEven_0 46 rfl)
-- X6_evensFrom
abbrev rm_X6_evensFrom (d : Nat) : Room := { frames := 2 + d, cells := 0, slots := 0, locals := 52 + d * 25 }
theorem hd_X6_evensFrom : mHd yX6_evensFrom 4 := ⟨by decide +kernel, by decide +kernel, by decide +kernel⟩
theorem DX6_evensFrom_0 : ∀ t ∈ ([(0, .iload_n 2, 1), (1, .aload_n 0, 1), (2, .getfield 25, 3), (5, .if_icmp .ge 9, 3), (8, .iload_n 2, 1), (9, .bipush 16, 2), (11, .if_icmp .lt 5, 3), (14, .iconst 1, 1), (15, .ireturn, 1), (16, .aload_n 0, 1), (17, .iload_n 2, 1), (18, .invokevirtual 34, 3), (21, .lconst 0, 1), (22, .lcmp, 1), (23, .ifCond .ne 15, 3), (26, .iconst 2, 1), (27, .aload_n 0, 1), (28, .iload_n 1, 1), (29, .iload_n 2, 1), (30, .iconst 1, 1), (31, .iadd, 1), (32, .lload_n 3, 1), (33, .invokestatic 30, 3), (36, .imul, 1), (37, .ireturn, 1), (38, .iconst 0, 1), (39, .istore 5, 2), (41, .aload_n 0, 1), (42, .iload_n 1, 1), (43, .iload_n 2, 1), (44, .lload_n 3, 1), (45, .invokestatic 37, 3), (48, .ifCond .eq 17, 3), (51, .iload 5, 2), (53, .aload_n 0, 1), (54, .iload_n 1, 1), (55, .iload_n 2, 1), (56, .iconst 1, 1), (57, .iadd, 1), (58, .lload_n 3, 1), (59, .invokestatic 30, 3), (62, .iadd, 1), (63, .istore 5, 2), (65, .aload_n 0, 1), (66, .iload_n 1, 1), (67, .iload_n 2, 1), (68, .lload_n 3, 1), (69, .lconst 1, 1), (70, .iload_n 2, 1), (71, .lshl, 1), (72, .lor, 1), (73, .invokestatic 37, 3), (76, .ifCond .eq 21, 3), (79, .iload 5, 2), (81, .aload_n 0, 1), (82, .iload_n 1, 1), (83, .iload_n 2, 1), (84, .iconst 1, 1), (85, .iadd, 1), (86, .lload_n 3, 1)] : List (Nat × Instr × Nat)), decode cX6_evensFrom t.1 = .ok (t.2.1, t.2.2) := by decide +kernel
theorem DX6_evensFrom_1 : ∀ t ∈ ([(87, .lconst 1, 1), (88, .iload_n 2, 1), (89, .lshl, 1), (90, .lor, 1), (91, .invokestatic 30, 3), (94, .iadd, 1), (95, .istore 5, 2), (97, .iload 5, 2), (99, .ireturn, 1)] : List (Nat × Instr × Nat)), decode cX6_evensFrom t.1 = .ok (t.2.1, t.2.2) := by decide +kernel
noncomputable def f_X6_evensFrom_T (rec : OS → Int32 → Int32 → Int64 → Option (Int32)) (st1 : OS) (a1 : Int32) (a2 : Int32) (a3 : Int64) : Option (Int32) := (if (st1.1 0) ≤ a2 then some 1 else (if a2 < 16 then (f_X10_throughAt st1 a2).bind (fun x3 => (if (lg_cmp x3 0) = 0 then (rec st1 a1 (a2 + 1) a3).bind (fun x34 => some ((2 : Int32) * x34)) else (f_X6_canBeEven st1 a1 a2 a3).bind (fun x7 => (if x7 = 0 then (f_X6_canBeEven st1 a1 a2 (a3 ||| (((1 : Int64)) <<< ((a2 : Int32).toInt64 &&& 63)))).bind (fun x11 => (if x11 = 0 then some 0 else (rec st1 a1 (a2 + 1) (a3 ||| (((1 : Int64)) <<< ((a2 : Int32).toInt64 &&& 63)))).bind (fun x15 => bnd ((0 : Int32) + x15 : Int32) (fun v18 => some v18)))) else (rec st1 a1 (a2 + 1) a3).bind (fun x20 => bnd ((0 : Int32) + x20 : Int32) (fun v23 => (f_X6_canBeEven st1 a1 a2 (a3 ||| (((1 : Int64)) <<< ((a2 : Int32).toInt64 &&& 63)))).bind (fun x25 => (if x25 = 0 then some v23 else (rec st1 a1 (a2 + 1) (a3 ||| (((1 : Int64)) <<< ((a2 : Int32).toInt64 &&& 63)))).bind (fun x29 => bnd (v23 + x29 : Int32) (fun v32 => some v32)))))))))) else some 1))
noncomputable def f_X6_evensFrom : Nat → OS → Int32 → Int32 → Int64 → Option (Int32)
  | 0 => fun _ _ _ _ => none
  | d + 1 => f_X6_evensFrom_T (f_X6_evensFrom d)
set_option maxHeartbeats 4000000 in
set_option maxRecDepth 100000 in
theorem c_X6_evensFrom {l : Launch} {G : mG} {h : mM} {q1 : Nat → Nat} (hq1 : oinj LX10 q1) (d : Nat) : ∀ (st1 : OS) (a1 : Int32) (a2 : Int32) (a3 : Int64) (x : Int32), f_X6_evensFrom d st1 a1 a2 a3 = some x → cQ l G yX6_evensFrom cX6_evensFrom 6 (some FieldType.int) (rm_X6_evensFrom d) [.ref (q1 5), .int a1, .int a2, .long a3] (oset LX10 G q1 st1 h) (mQi G (fun r h1 => r = x ∧ h1 = oset LX10 G q1 st1 h)) := by
  induction d with
  | zero => intro st1 a1 a2 a3 x hF; cases hF
  | succ d ih =>
    intro st1 a1 a2 a3 x hF
    have hF : f_X6_evensFrom_T (f_X6_evensFrom d) st1 a1 a2 a3 = some x := hF
    generalize f_X6_evensFrom d = rec at hF ih
    refine mp_of (by decide +kernel) (Nat.le_of_ble_eq_true rfl) ?_
    intro p e s m below meth c X hr hlk hH hname ls hl
    dsimp only [f_X6_evensFrom_T] at hF
    replace hl : lv_has ls 6 [(0, .ref (q1 5)), (1, .int a1), (2, .int a2), (3, .long a3)] := hl
    refine lv_iload_n X.x X.b (dk DX6_evensFrom_0 0 rfl) rfl (lv_at hl 2 rfl) ?_
    refine lv_aload_n X.x X.b (dk DX6_evensFrom_0 1 rfl) rfl (lv_at hl 0 rfl) ?_
    refine og_getIN OX10 X hq1 hH 0 (by decide) rfl kFN_X6_25 (dk DX6_evensFrom_0 2 rfl) ?_
    refine lv_icmp_ge (tgt := 14) X.x X.b (dk DX6_evensFrom_0 3 rfl) (by decide) (fun c1 => ?_) (fun c1 => ?_)
    · replace hF := if_t hF c1
      refine lv_iconst (v := 1) X.x X.b (dk DX6_evensFrom_0 7 rfl) (by decide) ?_
      cases sm hF
      exact mr_iret X hr hlk hH ⟨rfl, rfl⟩ (dk DX6_evensFrom_0 8 rfl)
    · replace hF := if_f hF c1
      refine lv_iload_n X.x X.b (dk DX6_evensFrom_0 4 rfl) rfl (lv_at hl 2 rfl) ?_
      refine lv_bipush (v := 16) X.x X.b (dk DX6_evensFrom_0 5 rfl) (by decide) ?_
      refine lv_icmp_lt (tgt := 16) X.x X.b (dk DX6_evensFrom_0 6 rfl) (by decide) (fun c2 => ?_) (fun c2 => ?_)
      · replace hF := if_t hF c2
        refine lv_aload_n X.x X.b (dk DX6_evensFrom_0 9 rfl) rfl (lv_at hl 0 rfl) ?_
        refine lv_iload_n X.x X.b (dk DX6_evensFrom_0 10 rfl) rfl (lv_at hl 2 rfl) ?_
        obtain ⟨x3, e4, hF⟩ := bd hF
        refine mr_cl0 hH ⟨rfl, rfl⟩ (mr_runV (As := [.int a2]) (rest := []) X hH (c_X10_throughAt hq1 e4) ((oset_at hq1 (Nat.le_refl _) ohas_N).trans (congrArg some ocell_N)) OX10.1 kM_X6_34 kI_X10_throughAt kS_X10_throughAt kN_X10 kC_X10_throughAt hd_X10_throughAt ⟨by dsimp only [rm_X6_evensFrom, rm_X10_throughAt]; omega, by dsimp only [rm_X6_evensFrom, rm_X10_throughAt]; omega⟩ rfl hl.1 (Nat.le_of_ble_eq_true rfl) (dk DX6_evensFrom_0 11 rfl) ⟨Nat.zero_le _, Nat.zero_le _⟩) (fun r h1 H locs hp hH => ?_)
        obtain ⟨hr1, hr2⟩ := hp; rw [hr1]; rw [hr2] at hH; clear hr1 hr2
        refine lv_lconst (v := 0) X.x X.b (dk DX6_evensFrom_0 12 rfl) (by decide) ?_
        refine W.lcmp X.x X.b (dk DX6_evensFrom_0 13 rfl) ?_
        refine lv_if_ne (tgt := 38) X.x X.b (dk DX6_evensFrom_0 14 rfl) (by decide) (fun c6 => ?_) (fun c6 => ?_)
        · replace hF := if_f hF c6
          refine lv_iconst (v := 0) X.x X.b (dk DX6_evensFrom_0 25 rfl) (by decide) ?_
          refine lv_istore (lv' := [(5, .int 0), (0, .ref (q1 5)), (1, .int a1), (2, .int a2), (3, .long a3)]) X.x X.b (dk DX6_evensFrom_0 26 rfl) hl (by decide) rfl (fun ls hl => ?_)
          replace hl : lv_has ls 6 [(0, .ref (q1 5)), (1, .int a1), (2, .int a2), (3, .long a3), (5, .int 0)] := lv_sub hl [1, 2, 3, 4, 0] rfl
          refine lv_aload_n X.x X.b (dk DX6_evensFrom_0 27 rfl) rfl (lv_at hl 0 rfl) ?_
          refine lv_iload_n X.x X.b (dk DX6_evensFrom_0 28 rfl) rfl (lv_at hl 1 rfl) ?_
          refine lv_iload_n X.x X.b (dk DX6_evensFrom_0 29 rfl) rfl (lv_at hl 2 rfl) ?_
          refine lv_lload_n X.x X.b (dk DX6_evensFrom_0 30 rfl) rfl (lv_at hl 3 rfl) ?_
          obtain ⟨x7, e8, hF⟩ := bd hF
          refine mr_ci0 hH ⟨rfl, rfl⟩ (mr_runS (As := [.ref (q1 5), .int a1, .int a2, .long a3]) (rest := []) X hH (c_X6_canBeEven hq1 e8) kM_X6_37 kT_X6_canBeEven kN_X6 kC_X6_canBeEven hd_X6_canBeEven ⟨by dsimp only [rm_X6_evensFrom, rm_X6_canBeEven]; omega, by dsimp only [rm_X6_evensFrom, rm_X6_canBeEven]; omega⟩ rfl hl.1 (Nat.le_of_ble_eq_true rfl) (dk DX6_evensFrom_0 31 rfl) ⟨Nat.zero_le _, Nat.zero_le _⟩) (fun r h1 H locs hp hH => ?_)
          obtain ⟨hr1, hr2⟩ := hp; rw [hr1]; rw [hr2] at hH; clear hr1 hr2
          refine lv_if_eq (tgt := 65) X.x X.b (dk DX6_evensFrom_0 32 rfl) (by decide) (fun c10 => ?_) (fun c10 => ?_)
          · replace hF := if_t hF c10
            refine lv_aload_n X.x X.b (dk DX6_evensFrom_0 43 rfl) rfl (lv_at hl 0 rfl) ?_
            refine lv_iload_n X.x X.b (dk DX6_evensFrom_0 44 rfl) rfl (lv_at hl 1 rfl) ?_
            refine lv_iload_n X.x X.b (dk DX6_evensFrom_0 45 rfl) rfl (lv_at hl 2 rfl) ?_
            refine lv_lload_n X.x X.b (dk DX6_evensFrom_0 46 rfl) rfl (lv_at hl 3 rfl) ?_
            refine lv_lconst (v := 1) X.x X.b (dk DX6_evensFrom_0 47 rfl) (by decide) ?_
            refine lv_iload_n X.x X.b (dk DX6_evensFrom_0 48 rfl) rfl (lv_at hl 2 rfl) ?_
            refine lv_lshl X.x X.b (dk DX6_evensFrom_0 49 rfl) rfl ?_
            refine lv_lor X.x X.b (dk DX6_evensFrom_0 50 rfl) ?_
            obtain ⟨x11, e12, hF⟩ := bd hF
            refine mr_ci0 hH ⟨rfl, rfl⟩ (mr_runS (As := [.ref (q1 5), .int a1, .int a2, .long (a3 ||| (((1 : Int64)) <<< ((a2 : Int32).toInt64 &&& 63)))]) (rest := []) X hH (c_X6_canBeEven hq1 e12) kM_X6_37 kT_X6_canBeEven kN_X6 kC_X6_canBeEven hd_X6_canBeEven ⟨by dsimp only [rm_X6_evensFrom, rm_X6_canBeEven]; omega, by dsimp only [rm_X6_evensFrom, rm_X6_canBeEven]; omega⟩ rfl hl.1 (Nat.le_of_ble_eq_true rfl) (dk DX6_evensFrom_0 51 rfl) ⟨Nat.zero_le _, Nat.zero_le _⟩) (fun r h1 H locs hp hH => ?_)
            obtain ⟨hr1, hr2⟩ := hp; rw [hr1]; rw [hr2] at hH; clear hr1 hr2
            refine lv_if_eq (tgt := 97) X.x X.b (dk DX6_evensFrom_0 52 rfl) (by decide) (fun c14 => ?_) (fun c14 => ?_)
            · replace hF := if_t hF c14
              refine lv_iload X.x X.b (dk DX6_evensFrom_1 7 rfl) (lv_at hl 4 rfl) ?_
              cases sm hF
              exact mr_iret X hr hlk hH ⟨rfl, rfl⟩ (dk DX6_evensFrom_1 8 rfl)
            · replace hF := if_f hF c14
              refine lv_iload X.x X.b (dk DX6_evensFrom_0 53 rfl) (lv_at hl 4 rfl) ?_
              refine lv_aload_n X.x X.b (dk DX6_evensFrom_0 54 rfl) rfl (lv_at hl 0 rfl) ?_
              refine lv_iload_n X.x X.b (dk DX6_evensFrom_0 55 rfl) rfl (lv_at hl 1 rfl) ?_
              refine lv_iload_n X.x X.b (dk DX6_evensFrom_0 56 rfl) rfl (lv_at hl 2 rfl) ?_
              refine lv_iconst (v := 1) X.x X.b (dk DX6_evensFrom_0 57 rfl) (by decide) ?_
              refine lv_iadd X.x X.b (dk DX6_evensFrom_0 58 rfl) ?_
              refine lv_lload_n X.x X.b (dk DX6_evensFrom_0 59 rfl) rfl (lv_at hl 3 rfl) ?_
              refine lv_lconst (v := 1) X.x X.b (dk DX6_evensFrom_1 0 rfl) (by decide) ?_
              refine lv_iload_n X.x X.b (dk DX6_evensFrom_1 1 rfl) rfl (lv_at hl 2 rfl) ?_
              refine lv_lshl X.x X.b (dk DX6_evensFrom_1 2 rfl) rfl ?_
              refine lv_lor X.x X.b (dk DX6_evensFrom_1 3 rfl) ?_
              obtain ⟨x15, e16, hF⟩ := bd hF
              refine mr_ci0 hH ⟨rfl, rfl⟩ (mr_runS (As := [.ref (q1 5), .int a1, .int (a2 + 1), .long (a3 ||| (((1 : Int64)) <<< ((a2 : Int32).toInt64 &&& 63)))]) (rest := [.int 0]) X hH (ih st1 a1 (a2 + 1) (a3 ||| (((1 : Int64)) <<< ((a2 : Int32).toInt64 &&& 63))) _ e16) kM_X6_30 kT_X6_evensFrom kN_X6 kC_X6_evensFrom hd_X6_evensFrom ⟨by dsimp only [rm_X6_evensFrom, rm_X6_evensFrom]; omega, by dsimp only [rm_X6_evensFrom, rm_X6_evensFrom]; omega⟩ rfl hl.1 (Nat.le_of_ble_eq_true rfl) (dk DX6_evensFrom_1 4 rfl) ⟨Nat.zero_le _, Nat.zero_le _⟩) (fun r h1 H locs hp hH => ?_)
              obtain ⟨hr1, hr2⟩ := hp; rw [hr1]; rw [hr2] at hH; clear hr1 hr2
              refine lv_iadd X.x X.b (dk DX6_evensFrom_1 5 rfl) ?_
              refine lv_topi (fun v18 e19 => ?_)
              replace hF := bnd_e hF e19
              refine lv_istore (lv' := [(5, .int v18), (0, .ref (q1 5)), (1, .int a1), (2, .int a2), (3, .long a3)]) X.x X.b (dk DX6_evensFrom_1 6 rfl) hl (by decide) rfl (fun ls hl => ?_)
              replace hl : lv_has ls 6 [(5, .int v18)] := lv_sub hl [0] rfl
              refine lv_iload X.x X.b (dk DX6_evensFrom_1 7 rfl) (lv_at hl 0 rfl) ?_
              cases sm hF
              exact mr_iret X hr hlk hH ⟨rfl, rfl⟩ (dk DX6_evensFrom_1 8 rfl)
          · replace hF := if_f hF c10
            refine lv_iload X.x X.b (dk DX6_evensFrom_0 33 rfl) (lv_at hl 4 rfl) ?_
            refine lv_aload_n X.x X.b (dk DX6_evensFrom_0 34 rfl) rfl (lv_at hl 0 rfl) ?_
            refine lv_iload_n X.x X.b (dk DX6_evensFrom_0 35 rfl) rfl (lv_at hl 1 rfl) ?_
            refine lv_iload_n X.x X.b (dk DX6_evensFrom_0 36 rfl) rfl (lv_at hl 2 rfl) ?_
            refine lv_iconst (v := 1) X.x X.b (dk DX6_evensFrom_0 37 rfl) (by decide) ?_
            refine lv_iadd X.x X.b (dk DX6_evensFrom_0 38 rfl) ?_
            refine lv_lload_n X.x X.b (dk DX6_evensFrom_0 39 rfl) rfl (lv_at hl 3 rfl) ?_
            obtain ⟨x20, e21, hF⟩ := bd hF
            refine mr_ci0 hH ⟨rfl, rfl⟩ (mr_runS (As := [.ref (q1 5), .int a1, .int (a2 + 1), .long a3]) (rest := [.int 0]) X hH (ih st1 a1 (a2 + 1) a3 _ e21) kM_X6_30 kT_X6_evensFrom kN_X6 kC_X6_evensFrom hd_X6_evensFrom ⟨by dsimp only [rm_X6_evensFrom, rm_X6_evensFrom]; omega, by dsimp only [rm_X6_evensFrom, rm_X6_evensFrom]; omega⟩ rfl hl.1 (Nat.le_of_ble_eq_true rfl) (dk DX6_evensFrom_0 40 rfl) ⟨Nat.zero_le _, Nat.zero_le _⟩) (fun r h1 H locs hp hH => ?_)
            obtain ⟨hr1, hr2⟩ := hp; rw [hr1]; rw [hr2] at hH; clear hr1 hr2
            refine lv_iadd X.x X.b (dk DX6_evensFrom_0 41 rfl) ?_
            refine lv_topi (fun v23 e24 => ?_)
            replace hF := bnd_e hF e24
            refine lv_istore (lv' := [(5, .int v23), (0, .ref (q1 5)), (1, .int a1), (2, .int a2), (3, .long a3)]) X.x X.b (dk DX6_evensFrom_0 42 rfl) hl (by decide) rfl (fun ls hl => ?_)
            replace hl : lv_has ls 6 [(0, .ref (q1 5)), (1, .int a1), (2, .int a2), (3, .long a3), (5, .int v23)] := lv_sub hl [1, 2, 3, 4, 0] rfl
            refine lv_aload_n X.x X.b (dk DX6_evensFrom_0 43 rfl) rfl (lv_at hl 0 rfl) ?_
            refine lv_iload_n X.x X.b (dk DX6_evensFrom_0 44 rfl) rfl (lv_at hl 1 rfl) ?_
            refine lv_iload_n X.x X.b (dk DX6_evensFrom_0 45 rfl) rfl (lv_at hl 2 rfl) ?_
            refine lv_lload_n X.x X.b (dk DX6_evensFrom_0 46 rfl) rfl (lv_at hl 3 rfl) ?_
            refine lv_lconst (v := 1) X.x X.b (dk DX6_evensFrom_0 47 rfl) (by decide) ?_
            refine lv_iload_n X.x X.b (dk DX6_evensFrom_0 48 rfl) rfl (lv_at hl 2 rfl) ?_
            refine lv_lshl X.x X.b (dk DX6_evensFrom_0 49 rfl) rfl ?_
            refine lv_lor X.x X.b (dk DX6_evensFrom_0 50 rfl) ?_
            obtain ⟨x25, e26, hF⟩ := bd hF
            refine mr_ci0 hH ⟨rfl, rfl⟩ (mr_runS (As := [.ref (q1 5), .int a1, .int a2, .long (a3 ||| (((1 : Int64)) <<< ((a2 : Int32).toInt64 &&& 63)))]) (rest := []) X hH (c_X6_canBeEven hq1 e26) kM_X6_37 kT_X6_canBeEven kN_X6 kC_X6_canBeEven hd_X6_canBeEven ⟨by dsimp only [rm_X6_evensFrom, rm_X6_canBeEven]; omega, by dsimp only [rm_X6_evensFrom, rm_X6_canBeEven]; omega⟩ rfl hl.1 (Nat.le_of_ble_eq_true rfl) (dk DX6_evensFrom_0 51 rfl) ⟨Nat.zero_le _, Nat.zero_le _⟩) (fun r h1 H locs hp hH => ?_)
            obtain ⟨hr1, hr2⟩ := hp; rw [hr1]; rw [hr2] at hH; clear hr1 hr2
            refine lv_if_eq (tgt := 97) X.x X.b (dk DX6_evensFrom_0 52 rfl) (by decide) (fun c28 => ?_) (fun c28 => ?_)
            · replace hF := if_t hF c28
              refine lv_iload X.x X.b (dk DX6_evensFrom_1 7 rfl) (lv_at hl 4 rfl) ?_
              cases sm hF
              exact mr_iret X hr hlk hH ⟨rfl, rfl⟩ (dk DX6_evensFrom_1 8 rfl)
            · replace hF := if_f hF c28
              refine lv_iload X.x X.b (dk DX6_evensFrom_0 53 rfl) (lv_at hl 4 rfl) ?_
              refine lv_aload_n X.x X.b (dk DX6_evensFrom_0 54 rfl) rfl (lv_at hl 0 rfl) ?_
              refine lv_iload_n X.x X.b (dk DX6_evensFrom_0 55 rfl) rfl (lv_at hl 1 rfl) ?_
              refine lv_iload_n X.x X.b (dk DX6_evensFrom_0 56 rfl) rfl (lv_at hl 2 rfl) ?_
              refine lv_iconst (v := 1) X.x X.b (dk DX6_evensFrom_0 57 rfl) (by decide) ?_
              refine lv_iadd X.x X.b (dk DX6_evensFrom_0 58 rfl) ?_
              refine lv_lload_n X.x X.b (dk DX6_evensFrom_0 59 rfl) rfl (lv_at hl 3 rfl) ?_
              refine lv_lconst (v := 1) X.x X.b (dk DX6_evensFrom_1 0 rfl) (by decide) ?_
              refine lv_iload_n X.x X.b (dk DX6_evensFrom_1 1 rfl) rfl (lv_at hl 2 rfl) ?_
              refine lv_lshl X.x X.b (dk DX6_evensFrom_1 2 rfl) rfl ?_
              refine lv_lor X.x X.b (dk DX6_evensFrom_1 3 rfl) ?_
              obtain ⟨x29, e30, hF⟩ := bd hF
              refine mr_ci0 hH ⟨rfl, rfl⟩ (mr_runS (As := [.ref (q1 5), .int a1, .int (a2 + 1), .long (a3 ||| (((1 : Int64)) <<< ((a2 : Int32).toInt64 &&& 63)))]) (rest := [.int v23]) X hH (ih st1 a1 (a2 + 1) (a3 ||| (((1 : Int64)) <<< ((a2 : Int32).toInt64 &&& 63))) _ e30) kM_X6_30 kT_X6_evensFrom kN_X6 kC_X6_evensFrom hd_X6_evensFrom ⟨by dsimp only [rm_X6_evensFrom, rm_X6_evensFrom]; omega, by dsimp only [rm_X6_evensFrom, rm_X6_evensFrom]; omega⟩ rfl hl.1 (Nat.le_of_ble_eq_true rfl) (dk DX6_evensFrom_1 4 rfl) ⟨Nat.zero_le _, Nat.zero_le _⟩) (fun r h1 H locs hp hH => ?_)
              obtain ⟨hr1, hr2⟩ := hp; rw [hr1]; rw [hr2] at hH; clear hr1 hr2
              refine lv_iadd X.x X.b (dk DX6_evensFrom_1 5 rfl) ?_
              refine lv_topi (fun v32 e33 => ?_)
              replace hF := bnd_e hF e33
              refine lv_istore (lv' := [(5, .int v32), (0, .ref (q1 5)), (1, .int a1), (2, .int a2), (3, .long a3)]) X.x X.b (dk DX6_evensFrom_1 6 rfl) hl (by decide) rfl (fun ls hl => ?_)
              replace hl : lv_has ls 6 [(5, .int v32)] := lv_sub hl [0] rfl
              refine lv_iload X.x X.b (dk DX6_evensFrom_1 7 rfl) (lv_at hl 0 rfl) ?_
              cases sm hF
              exact mr_iret X hr hlk hH ⟨rfl, rfl⟩ (dk DX6_evensFrom_1 8 rfl)
        · replace hF := if_t hF c6
          refine lv_iconst (v := 2) X.x X.b (dk DX6_evensFrom_0 15 rfl) (by decide) ?_
          refine lv_aload_n X.x X.b (dk DX6_evensFrom_0 16 rfl) rfl (lv_at hl 0 rfl) ?_
          refine lv_iload_n X.x X.b (dk DX6_evensFrom_0 17 rfl) rfl (lv_at hl 1 rfl) ?_
          refine lv_iload_n X.x X.b (dk DX6_evensFrom_0 18 rfl) rfl (lv_at hl 2 rfl) ?_
          refine lv_iconst (v := 1) X.x X.b (dk DX6_evensFrom_0 19 rfl) (by decide) ?_
          refine lv_iadd X.x X.b (dk DX6_evensFrom_0 20 rfl) ?_
          refine lv_lload_n X.x X.b (dk DX6_evensFrom_0 21 rfl) rfl (lv_at hl 3 rfl) ?_
          obtain ⟨x34, e35, hF⟩ := bd hF
          refine mr_ci0 hH ⟨rfl, rfl⟩ (mr_runS (As := [.ref (q1 5), .int a1, .int (a2 + 1), .long a3]) (rest := [.int 2]) X hH (ih st1 a1 (a2 + 1) a3 _ e35) kM_X6_30 kT_X6_evensFrom kN_X6 kC_X6_evensFrom hd_X6_evensFrom ⟨by dsimp only [rm_X6_evensFrom, rm_X6_evensFrom]; omega, by dsimp only [rm_X6_evensFrom, rm_X6_evensFrom]; omega⟩ rfl hl.1 (Nat.le_of_ble_eq_true rfl) (dk DX6_evensFrom_0 22 rfl) ⟨Nat.zero_le _, Nat.zero_le _⟩) (fun r h1 H locs hp hH => ?_)
          obtain ⟨hr1, hr2⟩ := hp; rw [hr1]; rw [hr2] at hH; clear hr1 hr2
          refine lv_imul X.x X.b (dk DX6_evensFrom_0 23 rfl) ?_
          cases sm hF
          exact mr_iret X hr hlk hH ⟨rfl, rfl⟩ (dk DX6_evensFrom_0 24 rfl)
      · replace hF := if_f hF c2
        refine lv_iconst (v := 1) X.x X.b (dk DX6_evensFrom_0 7 rfl) (by decide) ?_
        cases sm hF
        exact mr_iret X hr hlk hH ⟨rfl, rfl⟩ (dk DX6_evensFrom_0 8 rfl)
-- X6_evenMany
abbrev rm_X6_evenMany : Room := { frames := 23, cells := 0, slots := 0, locals := 577 }
theorem hd_X6_evenMany : mHd yX6_evenMany 2 := ⟨by decide +kernel, by decide +kernel, by decide +kernel⟩
theorem DX6_evenMany_0 : ∀ t ∈ ([(0, .aload_n 0, 1), (1, .getfield 25, 3), (4, .bipush 16, 2), (6, .if_icmp .le 7, 3), (9, .iconst (-1), 1), (10, .goto 10, 3), (13, .aload_n 0, 1), (14, .iload_n 1, 1), (15, .iconst 0, 1), (16, .lconst 0, 1), (17, .invokestatic 30, 3), (20, .ireturn, 1)] : List (Nat × Instr × Nat)), decode cX6_evenMany t.1 = .ok (t.2.1, t.2.2) := by decide +kernel
noncomputable def f_X6_evenMany (st1 : OS) (a1 : Int32) : Option (Int32) := (if (st1.1 0) ≤ 16 then (f_X6_evensFrom 20 st1 a1 0 0).bind (fun x2 => some x2) else some ((-1)))
set_option maxHeartbeats 4000000 in
set_option maxRecDepth 100000 in
theorem c_X6_evenMany {l : Launch} {G : mG} {h : mM} {q1 : Nat → Nat} (hq1 : oinj LX10 q1) {st1 : OS} {a1 : Int32} {x : Int32} (hF : f_X6_evenMany st1 a1 = some x) : cQ l G yX6_evenMany cX6_evenMany 2 (some FieldType.int) rm_X6_evenMany [.ref (q1 5), .int a1] (oset LX10 G q1 st1 h) (mQi G (fun r h1 => r = x ∧ h1 = oset LX10 G q1 st1 h)) := by
  refine mp_of (by decide +kernel) (Nat.le_of_ble_eq_true rfl) ?_
  intro p e s m below meth c X hr hlk hH hname ls hl
  dsimp only [f_X6_evenMany] at hF
  replace hl : lv_has ls 2 [(0, .ref (q1 5)), (1, .int a1)] := hl
  refine lv_aload_n X.x X.b (dk DX6_evenMany_0 0 rfl) rfl (lv_at hl 0 rfl) ?_
  refine og_getIN OX10 X hq1 hH 0 (by decide) rfl kFN_X6_25 (dk DX6_evenMany_0 1 rfl) ?_
  refine lv_bipush (v := 16) X.x X.b (dk DX6_evenMany_0 2 rfl) (by decide) ?_
  refine lv_icmp_le (tgt := 13) X.x X.b (dk DX6_evenMany_0 3 rfl) (by decide) (fun c1 => ?_) (fun c1 => ?_)
  · replace hF := if_t hF c1
    refine lv_aload_n X.x X.b (dk DX6_evenMany_0 6 rfl) rfl (lv_at hl 0 rfl) ?_
    refine lv_iload_n X.x X.b (dk DX6_evenMany_0 7 rfl) rfl (lv_at hl 1 rfl) ?_
    refine lv_iconst (v := 0) X.x X.b (dk DX6_evenMany_0 8 rfl) (by decide) ?_
    refine lv_lconst (v := 0) X.x X.b (dk DX6_evenMany_0 9 rfl) (by decide) ?_
    obtain ⟨x2, e3, hF⟩ := bd hF
    refine mr_ci0 hH ⟨rfl, rfl⟩ (mr_runS (As := [.ref (q1 5), .int a1, .int 0, .long 0]) (rest := []) X hH (c_X6_evensFrom hq1 20 st1 a1 0 0 _ e3) kM_X6_30 kT_X6_evensFrom kN_X6 kC_X6_evensFrom hd_X6_evensFrom ⟨Nat.le_of_ble_eq_true rfl, Nat.le_of_ble_eq_true rfl⟩ rfl hl.1 (Nat.le_of_ble_eq_true rfl) (dk DX6_evenMany_0 10 rfl) ⟨Nat.zero_le _, Nat.zero_le _⟩) (fun r h1 H locs hp hH => ?_)
    obtain ⟨hr1, hr2⟩ := hp; rw [hr1]; rw [hr2] at hH; clear hr1 hr2
    cases sm hF
    exact mr_iret X hr hlk hH ⟨rfl, rfl⟩ (dk DX6_evenMany_0 11 rfl)
  · replace hF := if_f hF c1
    refine lv_iconst (v := (-1)) X.x X.b (dk DX6_evenMany_0 4 rfl) (by decide) ?_
    refine lv_goto (tgt := 20) X.x X.b (dk DX6_evenMany_0 5 rfl) (by decide) ?_
    cases sm hF
    exact mr_iret X hr hlk hH ⟨rfl, rfl⟩ (dk DX6_evenMany_0 11 rfl)
-- X6_tightBy
abbrev rm_X6_tightBy : Room := { frames := 1, cells := 0, slots := 0, locals := 22 }
theorem hd_X6_tightBy : mHd yX6_tightBy 2 := ⟨by decide +kernel, by decide +kernel, by decide +kernel⟩
theorem DX6_tightBy_0 : ∀ t ∈ ([(0, .aload_n 0, 1), (1, .getfield 9, 3), (4, .ifCond .ne 5, 3), (7, .iconst (-1), 1), (8, .ireturn, 1), (9, .aload_n 0, 1), (10, .iconst 0, 1), (11, .invokevirtual 15, 3), (14, .invokestatic 19, 3), (17, .iconst 2, 1), (18, .isub, 1), (19, .istore_n 3, 1), (20, .iconst (-1), 1), (21, .istore 4, 2), (23, .iconst 0, 1), (24, .istore 5, 2), (26, .iload 5, 2), (28, .aload_n 0, 1), (29, .getfield 25, 3), (32, .if_icmp .ge 60, 3), (35, .aload_n 0, 1), (36, .iload 5, 2), (38, .invokevirtual 50, 3), (41, .lload_n 1, 1), (42, .land, 1), (43, .invokestatic 19, 3), (46, .lload_n 1, 1), (47, .iload 5, 2), (49, .invokestatic 46, 3), (52, .ifCond .eq 7, 3), (55, .iload_n 3, 1), (56, .goto 4, 3), (59, .iconst 0, 1), (60, .isub, 1), (61, .istore 6, 2), (63, .iload 6, 2), (65, .ifCond .lt 15, 3), (68, .iload 5, 2), (70, .ifCond .le 12, 3), (73, .iload 6, 2), (75, .iload 4, 2), (77, .if_icmp .eq 5, 3), (80, .iconst (-1), 1), (81, .ireturn, 1), (82, .iload 6, 2), (84, .istore 4, 2), (86, .iinc 5 1, 3), (89, .goto (-63), 3), (92, .iload 4, 2), (94, .ireturn, 1)] : List (Nat × Instr × Nat)), decode cX6_tightBy t.1 = .ok (t.2.1, t.2.2) := by decide +kernel
noncomputable def f_X6_tightBy_26 (s_o1 : OS) (b1 : Int64) (b3 : Int32) : (Int32 × Int32) → Option ((Int32 × Int32) ⊕ (Nat × Int32)) := fun z => match z with | (b4, b5) => (if (s_o1.1 0) ≤ b5 then some (.inr ((1, b4))) else (f_X10_nearAt s_o1 b5).bind (fun x11 => (f_J13_bitCount_95d88 (x11 &&& b1)).bind (fun x14 => (f_X10_has b1 b5).bind (fun x17 => (if x17 = 0 then bnd (x14 - 0 : Int32) (fun v21 => (if v21 < 0 then some (.inr ((0, b4))) else (if b5 ≤ 0 then bnd (b5 + 1 : Int32) (fun v25 => some (.inl ((v21, v25)))) else (if v21 = b4 then bnd (b5 + 1 : Int32) (fun v28 => some (.inl ((v21, v28)))) else some (.inr ((0, b4))))))) else bnd (x14 - b3 : Int32) (fun v30 => (if v30 < 0 then some (.inr ((0, b4))) else (if b5 ≤ 0 then bnd (b5 + 1 : Int32) (fun v34 => some (.inl ((v30, v34)))) else (if v30 = b4 then bnd (b5 + 1 : Int32) (fun v37 => some (.inl ((v30, v37)))) else some (.inr ((0, b4))))))))))))
noncomputable def f_X6_tightBy (st1 : OS) (a1 : Int64) : Option (Int32) := (if (st1.1 1) = 0 then some ((-1)) else (f_X10_setAt st1 0).bind (fun x2 => (f_J13_bitCount_95d88 x2).bind (fun x5 => bnd (x5 - 2 : Int32) (fun v8 => (lpv (f_X6_tightBy_26 st1 a1 v8) (((-1), 0))).bind (fun x39 => match x39 with | (k42, v41) => (if k42 = 0 then some ((-1)) else some v41))))))
set_option maxHeartbeats 4000000 in
set_option maxRecDepth 100000 in
theorem w_X6_tightBy_26 {p : Program} {l : Launch} {e : Env} {s : State} {m : MethodId} {args : Array Value} {below : List Frame} {meth : Method} {c : Code} {Q : State → Prop} {G : mG} {h : mM} {q1 : Nat → Nat} (hq1 : oinj LX10 q1) (X : mX G p m c cX6_tightBy 7 s args RX6) (s_o1 : OS) (b1 : Int64) (b3 : Int32) : ∀ (z : Int32 × Int32) (r : Nat × Int32), lpv (f_X6_tightBy_26 s_o1 b1 b3) z = some r → ∀ (H : Heap) (locs : List Loc) (ls : Array Slot), mH G (oset LX10 G q1 s_o1 h) s.heap H locs → lv_has ls 7 [(0, .ref (q1 5)), (1, .long b1), (3, .int b3), (4, .int z.1), (5, .int z.2)] → (r.1 = 0 → ∀ (H : Heap) (locs : List Loc) (ls : Array Slot), mH G (oset LX10 G q1 s_o1 h) s.heap H locs → lv_has ls 7 [] → W p l e rm_X6_tightBy s m args below meth c H locs 0 0 Q (F0 m 80 ls [])) → (r.1 = 1 → ∀ (H : Heap) (locs : List Loc) (ls : Array Slot), mH G (oset LX10 G q1 s_o1 h) s.heap H locs → lv_has ls 7 [(4, .int r.2)] → W p l e rm_X6_tightBy s m args below meth c H locs 0 0 Q (F0 m 92 ls [])) → W p l e rm_X6_tightBy s m args below meth c H locs 0 0 Q (F0 m 26 ls []) := by
  refine lpv_rec ?_
  intro z r x hF hx H locs ls hH hl K0 K1
  obtain ⟨b4, b5⟩ := z
  dsimp only [f_X6_tightBy_26] at hF
  try dsimp only at hH hl
  refine lv_iload X.x X.b (dk DX6_tightBy_0 16 rfl) (lv_at hl 4 rfl) ?_
  refine lv_aload_n X.x X.b (dk DX6_tightBy_0 17 rfl) rfl (lv_at hl 0 rfl) ?_
  refine og_getIN OX10 X hq1 hH 0 (by decide) rfl kFN_X6_25 (dk DX6_tightBy_0 18 rfl) ?_
  refine lv_icmp_ge (tgt := 92) X.x X.b (dk DX6_tightBy_0 19 rfl) (by decide) (fun c10 => ?_) (fun c10 => ?_)
  · replace hF := if_t hF c10
    have hr9 := lp_r hF hx
    subst hr9
    exact K1 rfl _ _ _ hH (lv_sub hl [3] rfl)
  · replace hF := if_f hF c10
    refine lv_aload_n X.x X.b (dk DX6_tightBy_0 20 rfl) rfl (lv_at hl 0 rfl) ?_
    refine lv_iload X.x X.b (dk DX6_tightBy_0 21 rfl) (lv_at hl 4 rfl) ?_
    obtain ⟨x11, e12, hF⟩ := bd hF
    refine mr_cl0 hH ⟨rfl, rfl⟩ (mr_runV (As := [.int b5]) (rest := []) X hH (c_X10_nearAt hq1 e12) ((oset_at hq1 (Nat.le_refl _) ohas_N).trans (congrArg some ocell_N)) OX10.1 kM_X6_50 kI_X10_nearAt kS_X10_nearAt kN_X10 kC_X10_nearAt hd_X10_nearAt ⟨Nat.le_of_ble_eq_true rfl, Nat.le_of_ble_eq_true rfl⟩ rfl hl.1 (Nat.le_of_ble_eq_true rfl) (dk DX6_tightBy_0 22 rfl) ⟨Nat.zero_le _, Nat.zero_le _⟩) (fun r h1 H locs hp hH => ?_)
    obtain ⟨hr1, hr2⟩ := hp; rw [hr1]; rw [hr2] at hH; clear hr1 hr2
    refine lv_lload_n X.x X.b (dk DX6_tightBy_0 23 rfl) rfl (lv_at hl 1 rfl) ?_
    refine lv_land X.x X.b (dk DX6_tightBy_0 24 rfl) ?_
    obtain ⟨x14, e15, hF⟩ := bd hF
    refine mr_ci0 hH ⟨rfl, rfl⟩ (mr_runS (As := [.long (x11 &&& b1)]) (rest := []) X hH (c_J13_bitCount_95d88 e15) kM_X6_19 kT_J13_bitCount_95d88 kN_J13 kC_J13_bitCount_95d88 hd_J13_bitCount_95d88 ⟨Nat.le_of_ble_eq_true rfl, Nat.le_of_ble_eq_true rfl⟩ rfl hl.1 (Nat.le_of_ble_eq_true rfl) (dk DX6_tightBy_0 25 rfl) ⟨Nat.zero_le _, Nat.zero_le _⟩) (fun r h1 H locs hp hH => ?_)
    obtain ⟨hr1, hr2⟩ := hp; rw [hr1]; rw [hr2] at hH; clear hr1 hr2
    refine lv_lload_n X.x X.b (dk DX6_tightBy_0 26 rfl) rfl (lv_at hl 1 rfl) ?_
    refine lv_iload X.x X.b (dk DX6_tightBy_0 27 rfl) (lv_at hl 4 rfl) ?_
    obtain ⟨x17, e18, hF⟩ := bd hF
    refine mr_ci0 hH ⟨rfl, rfl⟩ (mr_runS (As := [.long b1, .int b5]) (rest := [.int x14]) X hH (c_X10_has e18) kM_X6_46 kT_X10_has kN_X10 kC_X10_has hd_X10_has ⟨Nat.le_of_ble_eq_true rfl, Nat.le_of_ble_eq_true rfl⟩ rfl hl.1 (Nat.le_of_ble_eq_true rfl) (dk DX6_tightBy_0 28 rfl) ⟨Nat.zero_le _, Nat.zero_le _⟩) (fun r h1 H locs hp hH => ?_)
    obtain ⟨hr1, hr2⟩ := hp; rw [hr1]; rw [hr2] at hH; clear hr1 hr2
    refine lv_if_eq (tgt := 59) X.x X.b (dk DX6_tightBy_0 29 rfl) (by decide) (fun c20 => ?_) (fun c20 => ?_)
    · replace hF := if_t hF c20
      refine lv_iconst (v := 0) X.x X.b (dk DX6_tightBy_0 32 rfl) (by decide) ?_
      refine lv_isub X.x X.b (dk DX6_tightBy_0 33 rfl) ?_
      refine lv_topi (fun v21 e22 => ?_)
      replace hF := bnd_e hF e22
      refine lv_istore (lv' := [(6, .int v21), (0, .ref (q1 5)), (1, .long b1), (3, .int b3), (4, .int b4), (5, .int b5)]) X.x X.b (dk DX6_tightBy_0 34 rfl) hl (by decide) rfl (fun ls hl => ?_)
      replace hl : lv_has ls 7 [(0, .ref (q1 5)), (1, .long b1), (3, .int b3), (4, .int b4), (5, .int b5), (6, .int v21)] := lv_sub hl [1, 2, 3, 4, 5, 0] rfl
      refine lv_iload X.x X.b (dk DX6_tightBy_0 35 rfl) (lv_at hl 5 rfl) ?_
      refine lv_if_lt (tgt := 80) X.x X.b (dk DX6_tightBy_0 36 rfl) (by decide) (fun c23 => ?_) (fun c23 => ?_)
      · replace hF := if_t hF c23
        have hr9 := lp_r hF hx
        subst hr9
        exact K0 rfl _ _ _ hH (lv_sub hl [] rfl)
      · replace hF := if_f hF c23
        refine lv_iload X.x X.b (dk DX6_tightBy_0 37 rfl) (lv_at hl 4 rfl) ?_
        refine lv_if_le (tgt := 82) X.x X.b (dk DX6_tightBy_0 38 rfl) (by decide) (fun c24 => ?_) (fun c24 => ?_)
        · replace hF := if_t hF c24
          refine lv_iload X.x X.b (dk DX6_tightBy_0 44 rfl) (lv_at hl 5 rfl) ?_
          refine lv_istore (lv' := [(4, .int v21), (0, .ref (q1 5)), (1, .long b1), (3, .int b3), (5, .int b5), (6, .int v21)]) X.x X.b (dk DX6_tightBy_0 45 rfl) hl (by decide) rfl (fun ls hl => ?_)
          replace hl : lv_has ls 7 [(0, .ref (q1 5)), (1, .long b1), (3, .int b3), (4, .int v21), (5, .int b5)] := lv_sub hl [1, 2, 3, 0, 4] rfl
          obtain ⟨v25, e26⟩ : ∃ y : Int32, y = b5 + 1 := ⟨_, rfl⟩
          replace hF := bnd_e hF e26
          refine lv_iinc (v := v25) (lv' := [(5, .int v25), (0, .ref (q1 5)), (1, .long b1), (3, .int b3), (4, .int v21)]) X.x X.b (dk DX6_tightBy_0 46 rfl) hl (k := 4) rfl (by rw [e26]; rfl) (by decide) rfl (fun ls hl => ?_)
          replace hl : lv_has ls 7 [(0, .ref (q1 5)), (1, .long b1), (3, .int b3), (4, .int v21), (5, .int v25)] := lv_sub hl [1, 2, 3, 4, 0] rfl
          refine lv_goto (tgt := 26) X.x X.b (dk DX6_tightBy_0 47 rfl) (by decide) ?_
          exact (lp_l hF hx) _ _ _ hH (lv_sub hl [0, 1, 2, 3, 4] rfl) K0 K1
        · replace hF := if_f hF c24
          refine lv_iload X.x X.b (dk DX6_tightBy_0 39 rfl) (lv_at hl 5 rfl) ?_
          refine lv_iload X.x X.b (dk DX6_tightBy_0 40 rfl) (lv_at hl 3 rfl) ?_
          refine lv_icmp_eq (tgt := 82) X.x X.b (dk DX6_tightBy_0 41 rfl) (by decide) (fun c27 => ?_) (fun c27 => ?_)
          · replace hF := if_t hF c27
            refine lv_iload X.x X.b (dk DX6_tightBy_0 44 rfl) (lv_at hl 5 rfl) ?_
            refine lv_istore (lv' := [(4, .int v21), (0, .ref (q1 5)), (1, .long b1), (3, .int b3), (5, .int b5), (6, .int v21)]) X.x X.b (dk DX6_tightBy_0 45 rfl) hl (by decide) rfl (fun ls hl => ?_)
            replace hl : lv_has ls 7 [(0, .ref (q1 5)), (1, .long b1), (3, .int b3), (4, .int v21), (5, .int b5)] := lv_sub hl [1, 2, 3, 0, 4] rfl
            obtain ⟨v28, e29⟩ : ∃ y : Int32, y = b5 + 1 := ⟨_, rfl⟩
            replace hF := bnd_e hF e29
            refine lv_iinc (v := v28) (lv' := [(5, .int v28), (0, .ref (q1 5)), (1, .long b1), (3, .int b3), (4, .int v21)]) X.x X.b (dk DX6_tightBy_0 46 rfl) hl (k := 4) rfl (by rw [e29]; rfl) (by decide) rfl (fun ls hl => ?_)
            replace hl : lv_has ls 7 [(0, .ref (q1 5)), (1, .long b1), (3, .int b3), (4, .int v21), (5, .int v28)] := lv_sub hl [1, 2, 3, 4, 0] rfl
            refine lv_goto (tgt := 26) X.x X.b (dk DX6_tightBy_0 47 rfl) (by decide) ?_
            exact (lp_l hF hx) _ _ _ hH (lv_sub hl [0, 1, 2, 3, 4] rfl) K0 K1
          · replace hF := if_f hF c27
            have hr9 := lp_r hF hx
            subst hr9
            exact K0 rfl _ _ _ hH (lv_sub hl [] rfl)
    · replace hF := if_f hF c20
      refine lv_iload_n X.x X.b (dk DX6_tightBy_0 30 rfl) rfl (lv_at hl 2 rfl) ?_
      refine lv_goto (tgt := 60) X.x X.b (dk DX6_tightBy_0 31 rfl) (by decide) ?_
      refine lv_isub X.x X.b (dk DX6_tightBy_0 33 rfl) ?_
      refine lv_topi (fun v30 e31 => ?_)
      replace hF := bnd_e hF e31
      refine lv_istore (lv' := [(6, .int v30), (0, .ref (q1 5)), (1, .long b1), (3, .int b3), (4, .int b4), (5, .int b5)]) X.x X.b (dk DX6_tightBy_0 34 rfl) hl (by decide) rfl (fun ls hl => ?_)
      replace hl : lv_has ls 7 [(0, .ref (q1 5)), (1, .long b1), (3, .int b3), (4, .int b4), (5, .int b5), (6, .int v30)] := lv_sub hl [1, 2, 3, 4, 5, 0] rfl
      refine lv_iload X.x X.b (dk DX6_tightBy_0 35 rfl) (lv_at hl 5 rfl) ?_
      refine lv_if_lt (tgt := 80) X.x X.b (dk DX6_tightBy_0 36 rfl) (by decide) (fun c32 => ?_) (fun c32 => ?_)
      · replace hF := if_t hF c32
        have hr9 := lp_r hF hx
        subst hr9
        exact K0 rfl _ _ _ hH (lv_sub hl [] rfl)
      · replace hF := if_f hF c32
        refine lv_iload X.x X.b (dk DX6_tightBy_0 37 rfl) (lv_at hl 4 rfl) ?_
        refine lv_if_le (tgt := 82) X.x X.b (dk DX6_tightBy_0 38 rfl) (by decide) (fun c33 => ?_) (fun c33 => ?_)
        · replace hF := if_t hF c33
          refine lv_iload X.x X.b (dk DX6_tightBy_0 44 rfl) (lv_at hl 5 rfl) ?_
          refine lv_istore (lv' := [(4, .int v30), (0, .ref (q1 5)), (1, .long b1), (3, .int b3), (5, .int b5), (6, .int v30)]) X.x X.b (dk DX6_tightBy_0 45 rfl) hl (by decide) rfl (fun ls hl => ?_)
          replace hl : lv_has ls 7 [(0, .ref (q1 5)), (1, .long b1), (3, .int b3), (4, .int v30), (5, .int b5)] := lv_sub hl [1, 2, 3, 0, 4] rfl
          obtain ⟨v34, e35⟩ : ∃ y : Int32, y = b5 + 1 := ⟨_, rfl⟩
          replace hF := bnd_e hF e35
          refine lv_iinc (v := v34) (lv' := [(5, .int v34), (0, .ref (q1 5)), (1, .long b1), (3, .int b3), (4, .int v30)]) X.x X.b (dk DX6_tightBy_0 46 rfl) hl (k := 4) rfl (by rw [e35]; rfl) (by decide) rfl (fun ls hl => ?_)
          replace hl : lv_has ls 7 [(0, .ref (q1 5)), (1, .long b1), (3, .int b3), (4, .int v30), (5, .int v34)] := lv_sub hl [1, 2, 3, 4, 0] rfl
          refine lv_goto (tgt := 26) X.x X.b (dk DX6_tightBy_0 47 rfl) (by decide) ?_
          exact (lp_l hF hx) _ _ _ hH (lv_sub hl [0, 1, 2, 3, 4] rfl) K0 K1
        · replace hF := if_f hF c33
          refine lv_iload X.x X.b (dk DX6_tightBy_0 39 rfl) (lv_at hl 5 rfl) ?_
          refine lv_iload X.x X.b (dk DX6_tightBy_0 40 rfl) (lv_at hl 3 rfl) ?_
          refine lv_icmp_eq (tgt := 82) X.x X.b (dk DX6_tightBy_0 41 rfl) (by decide) (fun c36 => ?_) (fun c36 => ?_)
          · replace hF := if_t hF c36
            refine lv_iload X.x X.b (dk DX6_tightBy_0 44 rfl) (lv_at hl 5 rfl) ?_
            refine lv_istore (lv' := [(4, .int v30), (0, .ref (q1 5)), (1, .long b1), (3, .int b3), (5, .int b5), (6, .int v30)]) X.x X.b (dk DX6_tightBy_0 45 rfl) hl (by decide) rfl (fun ls hl => ?_)
            replace hl : lv_has ls 7 [(0, .ref (q1 5)), (1, .long b1), (3, .int b3), (4, .int v30), (5, .int b5)] := lv_sub hl [1, 2, 3, 0, 4] rfl
            obtain ⟨v37, e38⟩ : ∃ y : Int32, y = b5 + 1 := ⟨_, rfl⟩
            replace hF := bnd_e hF e38
            refine lv_iinc (v := v37) (lv' := [(5, .int v37), (0, .ref (q1 5)), (1, .long b1), (3, .int b3), (4, .int v30)]) X.x X.b (dk DX6_tightBy_0 46 rfl) hl (k := 4) rfl (by rw [e38]; rfl) (by decide) rfl (fun ls hl => ?_)
            replace hl : lv_has ls 7 [(0, .ref (q1 5)), (1, .long b1), (3, .int b3), (4, .int v30), (5, .int v37)] := lv_sub hl [1, 2, 3, 4, 0] rfl
            refine lv_goto (tgt := 26) X.x X.b (dk DX6_tightBy_0 47 rfl) (by decide) ?_
            exact (lp_l hF hx) _ _ _ hH (lv_sub hl [0, 1, 2, 3, 4] rfl) K0 K1
          · replace hF := if_f hF c36
            have hr9 := lp_r hF hx
            subst hr9
            exact K0 rfl _ _ _ hH (lv_sub hl [] rfl)
set_option maxHeartbeats 4000000 in
set_option maxRecDepth 100000 in
theorem c_X6_tightBy {l : Launch} {G : mG} {h : mM} {q1 : Nat → Nat} (hq1 : oinj LX10 q1) {st1 : OS} {a1 : Int64} {x : Int32} (hF : f_X6_tightBy st1 a1 = some x) : cQ l G yX6_tightBy cX6_tightBy 7 (some FieldType.int) rm_X6_tightBy [.ref (q1 5), .long a1] (oset LX10 G q1 st1 h) (mQi G (fun r h1 => r = x ∧ h1 = oset LX10 G q1 st1 h)) := by
  refine mp_of (by decide +kernel) (Nat.le_of_ble_eq_true rfl) ?_
  intro p e s m below meth c X hr hlk hH hname ls hl
  dsimp only [f_X6_tightBy] at hF
  replace hl : lv_has ls 7 [(0, .ref (q1 5)), (1, .long a1)] := hl
  refine lv_aload_n X.x X.b (dk DX6_tightBy_0 0 rfl) rfl (lv_at hl 0 rfl) ?_
  refine og_getIN OX10 X hq1 hH 1 (by decide) rfl kFN_X6_9 (dk DX6_tightBy_0 1 rfl) ?_
  refine lv_if_ne (tgt := 9) X.x X.b (dk DX6_tightBy_0 2 rfl) (by decide) (fun c1 => ?_) (fun c1 => ?_)
  · replace hF := if_f hF c1
    refine lv_aload_n X.x X.b (dk DX6_tightBy_0 5 rfl) rfl (lv_at hl 0 rfl) ?_
    refine lv_iconst (v := 0) X.x X.b (dk DX6_tightBy_0 6 rfl) (by decide) ?_
    obtain ⟨x2, e3, hF⟩ := bd hF
    refine mr_cl0 hH ⟨rfl, rfl⟩ (mr_runV (As := [.int 0]) (rest := []) X hH (c_X10_setAt hq1 e3) ((oset_at hq1 (Nat.le_refl _) ohas_N).trans (congrArg some ocell_N)) OX10.1 kM_X6_15 kI_X10_setAt kS_X10_setAt kN_X10 kC_X10_setAt hd_X10_setAt ⟨Nat.le_of_ble_eq_true rfl, Nat.le_of_ble_eq_true rfl⟩ rfl hl.1 (Nat.le_of_ble_eq_true rfl) (dk DX6_tightBy_0 7 rfl) ⟨Nat.zero_le _, Nat.zero_le _⟩) (fun r h1 H locs hp hH => ?_)
    obtain ⟨hr1, hr2⟩ := hp; rw [hr1]; rw [hr2] at hH; clear hr1 hr2
    obtain ⟨x5, e6, hF⟩ := bd hF
    refine mr_ci0 hH ⟨rfl, rfl⟩ (mr_runS (As := [.long x2]) (rest := []) X hH (c_J13_bitCount_95d88 e6) kM_X6_19 kT_J13_bitCount_95d88 kN_J13 kC_J13_bitCount_95d88 hd_J13_bitCount_95d88 ⟨Nat.le_of_ble_eq_true rfl, Nat.le_of_ble_eq_true rfl⟩ rfl hl.1 (Nat.le_of_ble_eq_true rfl) (dk DX6_tightBy_0 8 rfl) ⟨Nat.zero_le _, Nat.zero_le _⟩) (fun r h1 H locs hp hH => ?_)
    obtain ⟨hr1, hr2⟩ := hp; rw [hr1]; rw [hr2] at hH; clear hr1 hr2
    refine lv_iconst (v := 2) X.x X.b (dk DX6_tightBy_0 9 rfl) (by decide) ?_
    refine lv_isub X.x X.b (dk DX6_tightBy_0 10 rfl) ?_
    refine lv_topi (fun v8 e9 => ?_)
    replace hF := bnd_e hF e9
    refine lv_istore_n (lv' := [(3, .int v8), (0, .ref (q1 5)), (1, .long a1)]) X.x X.b (dk DX6_tightBy_0 11 rfl) rfl hl (by decide) rfl (fun ls hl => ?_)
    replace hl : lv_has ls 7 [(0, .ref (q1 5)), (1, .long a1), (3, .int v8)] := lv_sub hl [1, 2, 0] rfl
    refine lv_iconst (v := (-1)) X.x X.b (dk DX6_tightBy_0 12 rfl) (by decide) ?_
    refine lv_istore (lv' := [(4, .int ((-1))), (0, .ref (q1 5)), (1, .long a1), (3, .int v8)]) X.x X.b (dk DX6_tightBy_0 13 rfl) hl (by decide) rfl (fun ls hl => ?_)
    replace hl : lv_has ls 7 [(0, .ref (q1 5)), (1, .long a1), (3, .int v8), (4, .int ((-1)))] := lv_sub hl [1, 2, 3, 0] rfl
    refine lv_iconst (v := 0) X.x X.b (dk DX6_tightBy_0 14 rfl) (by decide) ?_
    refine lv_istore (lv' := [(5, .int 0), (0, .ref (q1 5)), (1, .long a1), (3, .int v8), (4, .int ((-1)))]) X.x X.b (dk DX6_tightBy_0 15 rfl) hl (by decide) rfl (fun ls hl => ?_)
    replace hl : lv_has ls 7 [(0, .ref (q1 5)), (1, .long a1), (3, .int v8), (4, .int ((-1))), (5, .int 0)] := lv_sub hl [1, 2, 3, 4, 0] rfl
    obtain ⟨x39, e40, hF⟩ := bd hF
    replace hl : lv_has ls 7 [(0, .ref (q1 5)), (1, .long a1), (3, .int v8), (4, .int ((-1))), (5, .int 0)] := lv_sub hl [0, 1, 2, 3, 4] rfl
    obtain ⟨k42, v41⟩ := x39
    try dsimp only at hF
    refine w_X6_tightBy_26 hq1 X st1 a1 v8 _ _ e40 _ _ _ hH hl (fun hk H locs ls hH hl => ?_) (fun hk H locs ls hH hl => ?_)
    · try dsimp only at hH hl
      try dsimp only at hk
      subst hk
      replace hF := if_t hF rfl
      refine lv_iconst (v := (-1)) X.x X.b (dk DX6_tightBy_0 42 rfl) (by decide) ?_
      cases sm hF
      exact mr_iret X hr hlk hH ⟨rfl, rfl⟩ (dk DX6_tightBy_0 43 rfl)
    · try dsimp only at hH hl
      try dsimp only at hk
      subst hk
      replace hF := if_f hF (by decide)
      refine lv_iload X.x X.b (dk DX6_tightBy_0 48 rfl) (lv_at hl 0 rfl) ?_
      cases sm hF
      exact mr_iret X hr hlk hH ⟨rfl, rfl⟩ (dk DX6_tightBy_0 49 rfl)
  · replace hF := if_t hF c1
    refine lv_iconst (v := (-1)) X.x X.b (dk DX6_tightBy_0 3 rfl) (by decide) ?_
    cases sm hF
    exact mr_iret X hr hlk hH ⟨rfl, rfl⟩ (dk DX6_tightBy_0 4 rfl)
