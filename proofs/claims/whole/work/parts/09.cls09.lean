-- X9_closedWalks
abbrev rm_X9_closedWalks : Room := { frames := 4, cells := 0, slots := 0, locals := 97 }
theorem hd_X9_closedWalks : mHd yX9_closedWalks 2 := ⟨by decide +kernel, by decide +kernel, by decide +kernel⟩
theorem DX9_closedWalks_0 : ∀ t ∈ ([(0, .lconst 0, 1), (1, .lstore_n 3, 1), (2, .iconst 0, 1), (3, .istore 5, 2), (5, .iload 5, 2), (7, .aload_n 1, 1), (8, .getfield 33, 3), (11, .if_icmp .ge 20, 3), (14, .lload_n 3, 1), (15, .aload_n 0, 1), (16, .aload_n 1, 1), (17, .iload 5, 2), (19, .iload_n 2, 1), (20, .invokevirtual 37, 3), (23, .ladd, 1), (24, .lstore_n 3, 1), (25, .iinc 5 1, 3), (28, .goto (-23), 3), (31, .lload_n 3, 1), (32, .ldc2_w 41, 3), (35, .lrem, 1), (36, .l2i, 1), (37, .ireturn, 1)] : List (Nat × Instr × Nat)), decode cX9_closedWalks t.1 = .ok (t.2.1, t.2.2) := by decide +kernel
noncomputable def f_X9_closedWalks_5 (s_o1 : OS) (b2 : Int32) : (OS × Int64 × Int32) → Option ((OS × Int64 × Int32) ⊕ (OS × Int64)) := fun z => match z with | (s_t, b3, b5) => (if (s_o1.1 0) ≤ b5 then some (.inr ((s_t, b3))) else (f_X9_walksFrom s_t s_o1 b5 b2).bind (fun x2 => match x2 with | (v4, t5) => bnd (b3 + v4 : Int64) (fun v6 => bnd (b5 + 1 : Int32) (fun v8 => some (.inl ((t5, v6, v8)))))))
noncomputable def f_X9_closedWalks (st : OS) (st1 : OS) (a1 : Int32) : Option (Int32 × OS) := (lpv (f_X9_closedWalks_5 st1 a1) ((st, 0, 0))).bind (fun x10 => match x10 with | (t12, v13) => some (((v13 - v13 / 1000000007 * 1000000007 : Int64).toInt32, t12)))
set_option maxHeartbeats 4000000 in
set_option maxRecDepth 100000 in
theorem w_X9_closedWalks_5 {p : Program} {l : Launch} {e : Env} {s : State} {m : MethodId} {args : Array Value} {below : List Frame} {meth : Method} {c : Code} {Q : State → Prop} {G : mG} {h : mM} {q : Nat → Nat} {q1 : Nat → Nat} (hq : oinj LX9 q) (hq1 : oinj LX10 q1) (ha : oap [(LX9, q), (LX10, q1)]) (X : mX G p m c cX9_closedWalks 6 s args RX9) (s_o1 : OS) (b2 : Int32) : ∀ (z : OS × Int64 × Int32) (r : OS × Int64), lpv (f_X9_closedWalks_5 s_o1 b2) z = some r → ∀ (H : Heap) (locs : List Loc) (ls : Array Slot), mH G (oset LX9 G q z.1 (oset LX10 G q1 s_o1 h)) s.heap H locs → lv_has ls 6 [(0, .ref (q 7)), (1, .ref (q1 5)), (2, .int b2), (3, .long z.2.1), (5, .int z.2.2)] → (∀ (H : Heap) (locs : List Loc) (ls : Array Slot), mH G (oset LX9 G q r.1 (oset LX10 G q1 s_o1 h)) s.heap H locs → lv_has ls 6 [(3, .long r.2)] → W p l e rm_X9_closedWalks s m args below meth c H locs 0 0 Q (F0 m 31 ls [])) → W p l e rm_X9_closedWalks s m args below meth c H locs 0 0 Q (F0 m 5 ls []) := by
  refine lpv_rec ?_
  intro z r x hF hx H locs ls hH hl K0
  obtain ⟨s_t, b3, b5⟩ := z
  dsimp only [f_X9_closedWalks_5] at hF
  try dsimp only at hH hl
  refine lv_iload X.x X.b (dk DX9_closedWalks_0 4 rfl) (lv_at hl 4 rfl) ?_
  refine lv_aload_n X.x X.b (dk DX9_closedWalks_0 5 rfl) rfl (lv_at hl 1 rfl) ?_
  refine og_getIN OX10 X hq1 (mH_perm (l1 := [(LX9, q, s_t), (LX10, q1, s_o1)]) (l2 := [(LX10, q1, s_o1), (LX9, q, s_t)]) ha [1, 0] [1, 0] rfl rfl rfl hH) 0 (by decide) rfl kFN_X9_33 (dk DX9_closedWalks_0 6 rfl) ?_
  refine lv_icmp_ge (tgt := 31) X.x X.b (dk DX9_closedWalks_0 7 rfl) (by decide) (fun c1 => ?_) (fun c1 => ?_)
  · replace hF := if_t hF c1
    have hr9 := lp_r hF hx
    subst hr9
    exact K0 _ _ _ hH (lv_sub hl [3] rfl)
  · replace hF := if_f hF c1
    refine lv_lload_n X.x X.b (dk DX9_closedWalks_0 8 rfl) rfl (lv_at hl 3 rfl) ?_
    refine lv_aload_n X.x X.b (dk DX9_closedWalks_0 9 rfl) rfl (lv_at hl 0 rfl) ?_
    refine lv_aload_n X.x X.b (dk DX9_closedWalks_0 10 rfl) rfl (lv_at hl 1 rfl) ?_
    refine lv_iload X.x X.b (dk DX9_closedWalks_0 11 rfl) (lv_at hl 4 rfl) ?_
    refine lv_iload_n X.x X.b (dk DX9_closedWalks_0 12 rfl) rfl (lv_at hl 2 rfl) ?_
    obtain ⟨x2, e3, hF⟩ := bd hF
    refine mr_cl0 hH ⟨rfl, rfl⟩ (mr_runV (As := [.ref (q1 5), .int b5, .int b2]) (rest := [.long b3]) X hH (c_X9_walksFrom hq hq1 ha e3) ((oset_at hq (Nat.le_refl _) ohas_N).trans (congrArg some ocell_N)) OX9.1 kM_X9_37 kI_X9_walksFrom kS_X9_walksFrom kN_X9 kC_X9_walksFrom hd_X9_walksFrom ⟨Nat.le_of_ble_eq_true rfl, Nat.le_of_ble_eq_true rfl⟩ rfl hl.1 (Nat.le_of_ble_eq_true rfl) (dk DX9_closedWalks_0 13 rfl) ⟨Nat.zero_le _, Nat.zero_le _⟩) (fun r h1 H locs hp hH => ?_)
    obtain ⟨hr1, hr2⟩ := hp; rw [hr1]; rw [hr2] at hH; clear hr1 hr2
    obtain ⟨v4, t5⟩ := x2
    try dsimp only at hF hH ⊢
    refine lv_ladd X.x X.b (dk DX9_closedWalks_0 14 rfl) ?_
    refine lv_topl (fun v6 e7 => ?_)
    replace hF := bnd_e hF e7
    refine lv_lstore_n (lv' := [(3, .long v6), (0, .ref (q 7)), (1, .ref (q1 5)), (2, .int b2), (5, .int b5)]) X.x X.b (dk DX9_closedWalks_0 15 rfl) rfl hl (by decide) rfl (fun ls hl => ?_)
    replace hl : lv_has ls 6 [(0, .ref (q 7)), (1, .ref (q1 5)), (2, .int b2), (3, .long v6), (5, .int b5)] := lv_sub hl [1, 2, 3, 0, 4] rfl
    obtain ⟨v8, e9⟩ : ∃ y : Int32, y = b5 + 1 := ⟨_, rfl⟩
    replace hF := bnd_e hF e9
    refine lv_iinc (v := v8) (lv' := [(5, .int v8), (0, .ref (q 7)), (1, .ref (q1 5)), (2, .int b2), (3, .long v6)]) X.x X.b (dk DX9_closedWalks_0 16 rfl) hl (k := 4) rfl (by rw [e9]; rfl) (by decide) rfl (fun ls hl => ?_)
    replace hl : lv_has ls 6 [(0, .ref (q 7)), (1, .ref (q1 5)), (2, .int b2), (3, .long v6), (5, .int v8)] := lv_sub hl [1, 2, 3, 4, 0] rfl
    refine lv_goto (tgt := 5) X.x X.b (dk DX9_closedWalks_0 17 rfl) (by decide) ?_
    exact (lp_l hF hx) _ _ _ hH (lv_sub hl [0, 1, 2, 3, 4] rfl) K0
set_option maxHeartbeats 4000000 in
set_option maxRecDepth 100000 in
theorem c_X9_closedWalks {l : Launch} {G : mG} {h : mM} {q : Nat → Nat} {q1 : Nat → Nat} (hq : oinj LX9 q) (hq1 : oinj LX10 q1) (ha : oap [(LX9, q), (LX10, q1)]) {st : OS} {st1 : OS} {a1 : Int32} {x : Int32 × OS} (hF : f_X9_closedWalks st st1 a1 = some x) : cQ l G yX9_closedWalks cX9_closedWalks 6 (some FieldType.int) rm_X9_closedWalks [.ref (q 7), .ref (q1 5), .int a1] (oset LX9 G q st (oset LX10 G q1 st1 h)) (mQi G (fun r h1 => r = x.1 ∧ h1 = oset LX9 G q x.2 (oset LX10 G q1 st1 h))) := by
  refine mp_of (by decide +kernel) (Nat.le_of_ble_eq_true rfl) ?_
  intro p e s m below meth c X hr hlk hH hname ls hl
  dsimp only [f_X9_closedWalks] at hF
  replace hl : lv_has ls 6 [(0, .ref (q 7)), (1, .ref (q1 5)), (2, .int a1)] := hl
  refine lv_lconst (v := 0) X.x X.b (dk DX9_closedWalks_0 0 rfl) (by decide) ?_
  refine lv_lstore_n (lv' := [(3, .long 0), (0, .ref (q 7)), (1, .ref (q1 5)), (2, .int a1)]) X.x X.b (dk DX9_closedWalks_0 1 rfl) rfl hl (by decide) rfl (fun ls hl => ?_)
  replace hl : lv_has ls 6 [(0, .ref (q 7)), (1, .ref (q1 5)), (2, .int a1), (3, .long 0)] := lv_sub hl [1, 2, 3, 0] rfl
  refine lv_iconst (v := 0) X.x X.b (dk DX9_closedWalks_0 2 rfl) (by decide) ?_
  refine lv_istore (lv' := [(5, .int 0), (0, .ref (q 7)), (1, .ref (q1 5)), (2, .int a1), (3, .long 0)]) X.x X.b (dk DX9_closedWalks_0 3 rfl) hl (by decide) rfl (fun ls hl => ?_)
  replace hl : lv_has ls 6 [(0, .ref (q 7)), (1, .ref (q1 5)), (2, .int a1), (3, .long 0), (5, .int 0)] := lv_sub hl [1, 2, 3, 4, 0] rfl
  obtain ⟨x10, e11, hF⟩ := bd hF
  replace hl : lv_has ls 6 [(0, .ref (q 7)), (1, .ref (q1 5)), (2, .int a1), (3, .long 0), (5, .int 0)] := lv_sub hl [0, 1, 2, 3, 4] rfl
  obtain ⟨t12, v13⟩ := x10
  try dsimp only at hF
  refine w_X9_closedWalks_5 hq hq1 ha X st1 a1 _ _ e11 _ _ _ hH hl (fun H locs ls hH hl => ?_)
  try dsimp only at hH hl
  refine lv_lload_n X.x X.b (dk DX9_closedWalks_0 18 rfl) rfl (lv_at hl 0 rfl) ?_
  refine lv_ldc2 (v := 1000000007) X.x X.b X.ow (X.ts _ kK_X9_41) (dk DX9_closedWalks_0 19 rfl) ?_
  refine lv_lrem X.x X.b (dk DX9_closedWalks_0 20 rfl) (by decide) ?_
  refine lv_l2i X.x X.b (dk DX9_closedWalks_0 21 rfl) rfl ?_
  cases sm hF
  exact mr_iret X hr hlk hH ⟨rfl, rfl⟩ (dk DX9_closedWalks_0 22 rfl)
-- X9_nearToAny
abbrev rm_X9_nearToAny : Room := { frames := 1, cells := 0, slots := 0, locals := 22 }
theorem hd_X9_nearToAny : mHd yX9_nearToAny 2 := ⟨by decide +kernel, by decide +kernel, by decide +kernel⟩
theorem DX9_nearToAny_0 : ∀ t ∈ ([(0, .lconst 0, 1), (1, .lstore_n 3, 1), (2, .iconst 0, 1), (3, .istore 5, 2), (5, .iload 5, 2), (7, .aload_n 0, 1), (8, .getfield 33, 3), (11, .if_icmp .ge 27, 3), (14, .lload_n 1, 1), (15, .iload 5, 2), (17, .invokestatic 69, 3), (20, .ifCond .eq 12, 3), (23, .lload_n 3, 1), (24, .aload_n 0, 1), (25, .iload 5, 2), (27, .invokevirtual 53, 3), (30, .lor, 1), (31, .lstore_n 3, 1), (32, .iinc 5 1, 3), (35, .goto (-30), 3), (38, .lload_n 3, 1), (39, .lreturn, 1)] : List (Nat × Instr × Nat)), decode cX9_nearToAny t.1 = .ok (t.2.1, t.2.2) := by decide +kernel
noncomputable def f_X9_nearToAny_5 (s_o1 : OS) (b1 : Int64) : (Int64 × Int32) → Option ((Int64 × Int32) ⊕ (Int64)) := fun z => match z with | (b3, b5) => (if (s_o1.1 0) ≤ b5 then some (.inr b3) else (f_X10_has b1 b5).bind (fun x2 => (if x2 = 0 then bnd (b5 + 1 : Int32) (fun v6 => some (.inl ((b3, v6)))) else (f_X10_nearAt s_o1 b5).bind (fun x8 => bnd (b3 ||| x8 : Int64) (fun v11 => bnd (b5 + 1 : Int32) (fun v13 => some (.inl ((v11, v13)))))))))
noncomputable def f_X9_nearToAny (st1 : OS) (a1 : Int64) : Option (Int64) := (lpv (f_X9_nearToAny_5 st1 a1) ((0, 0))).bind (fun x15 => some x15)
set_option maxHeartbeats 4000000 in
set_option maxRecDepth 100000 in
theorem w_X9_nearToAny_5 {p : Program} {l : Launch} {e : Env} {s : State} {m : MethodId} {args : Array Value} {below : List Frame} {meth : Method} {c : Code} {Q : State → Prop} {G : mG} {h : mM} {q1 : Nat → Nat} (hq1 : oinj LX10 q1) (X : mX G p m c cX9_nearToAny 6 s args RX9) (s_o1 : OS) (b1 : Int64) : ∀ (z : Int64 × Int32) (r : Int64), lpv (f_X9_nearToAny_5 s_o1 b1) z = some r → ∀ (H : Heap) (locs : List Loc) (ls : Array Slot), mH G (oset LX10 G q1 s_o1 h) s.heap H locs → lv_has ls 6 [(0, .ref (q1 5)), (1, .long b1), (3, .long z.1), (5, .int z.2)] → (∀ (H : Heap) (locs : List Loc) (ls : Array Slot), mH G (oset LX10 G q1 s_o1 h) s.heap H locs → lv_has ls 6 [(3, .long r)] → W p l e rm_X9_nearToAny s m args below meth c H locs 0 0 Q (F0 m 38 ls [])) → W p l e rm_X9_nearToAny s m args below meth c H locs 0 0 Q (F0 m 5 ls []) := by
  refine lpv_rec ?_
  intro z r x hF hx H locs ls hH hl K0
  obtain ⟨b3, b5⟩ := z
  dsimp only [f_X9_nearToAny_5] at hF
  try dsimp only at hH hl
  refine lv_iload X.x X.b (dk DX9_nearToAny_0 4 rfl) (lv_at hl 3 rfl) ?_
  refine lv_aload_n X.x X.b (dk DX9_nearToAny_0 5 rfl) rfl (lv_at hl 0 rfl) ?_
  refine og_getIN OX10 X hq1 hH 0 (by decide) rfl kFN_X9_33 (dk DX9_nearToAny_0 6 rfl) ?_
  refine lv_icmp_ge (tgt := 38) X.x X.b (dk DX9_nearToAny_0 7 rfl) (by decide) (fun c1 => ?_) (fun c1 => ?_)
  · replace hF := if_t hF c1
    have hr9 := lp_r hF hx
    subst hr9
    exact K0 _ _ _ hH (lv_sub hl [2] rfl)
  · replace hF := if_f hF c1
    refine lv_lload_n X.x X.b (dk DX9_nearToAny_0 8 rfl) rfl (lv_at hl 1 rfl) ?_
    refine lv_iload X.x X.b (dk DX9_nearToAny_0 9 rfl) (lv_at hl 3 rfl) ?_
    obtain ⟨x2, e3, hF⟩ := bd hF
    refine mr_ci0 hH ⟨rfl, rfl⟩ (mr_runS (As := [.long b1, .int b5]) (rest := []) X hH (c_X10_has e3) kM_X9_69 kT_X10_has kN_X10 kC_X10_has hd_X10_has ⟨Nat.le_of_ble_eq_true rfl, Nat.le_of_ble_eq_true rfl⟩ rfl hl.1 (Nat.le_of_ble_eq_true rfl) (dk DX9_nearToAny_0 10 rfl) ⟨Nat.zero_le _, Nat.zero_le _⟩) (fun r h1 H locs hp hH => ?_)
    obtain ⟨hr1, hr2⟩ := hp; rw [hr1]; rw [hr2] at hH; clear hr1 hr2
    refine lv_if_eq (tgt := 32) X.x X.b (dk DX9_nearToAny_0 11 rfl) (by decide) (fun c5 => ?_) (fun c5 => ?_)
    · replace hF := if_t hF c5
      obtain ⟨v6, e7⟩ : ∃ y : Int32, y = b5 + 1 := ⟨_, rfl⟩
      replace hF := bnd_e hF e7
      refine lv_iinc (v := v6) (lv' := [(5, .int v6), (0, .ref (q1 5)), (1, .long b1), (3, .long b3)]) X.x X.b (dk DX9_nearToAny_0 18 rfl) hl (k := 3) rfl (by rw [e7]; rfl) (by decide) rfl (fun ls hl => ?_)
      replace hl : lv_has ls 6 [(0, .ref (q1 5)), (1, .long b1), (3, .long b3), (5, .int v6)] := lv_sub hl [1, 2, 3, 0] rfl
      refine lv_goto (tgt := 5) X.x X.b (dk DX9_nearToAny_0 19 rfl) (by decide) ?_
      exact (lp_l hF hx) _ _ _ hH (lv_sub hl [0, 1, 2, 3] rfl) K0
    · replace hF := if_f hF c5
      refine lv_lload_n X.x X.b (dk DX9_nearToAny_0 12 rfl) rfl (lv_at hl 2 rfl) ?_
      refine lv_aload_n X.x X.b (dk DX9_nearToAny_0 13 rfl) rfl (lv_at hl 0 rfl) ?_
      refine lv_iload X.x X.b (dk DX9_nearToAny_0 14 rfl) (lv_at hl 3 rfl) ?_
      obtain ⟨x8, e9, hF⟩ := bd hF
      refine mr_cl0 hH ⟨rfl, rfl⟩ (mr_runV (As := [.int b5]) (rest := [.long b3]) X hH (c_X10_nearAt hq1 e9) ((oset_at hq1 (Nat.le_refl _) ohas_N).trans (congrArg some ocell_N)) OX10.1 kM_X9_53 kI_X10_nearAt kS_X10_nearAt kN_X10 kC_X10_nearAt hd_X10_nearAt ⟨Nat.le_of_ble_eq_true rfl, Nat.le_of_ble_eq_true rfl⟩ rfl hl.1 (Nat.le_of_ble_eq_true rfl) (dk DX9_nearToAny_0 15 rfl) ⟨Nat.zero_le _, Nat.zero_le _⟩) (fun r h1 H locs hp hH => ?_)
      obtain ⟨hr1, hr2⟩ := hp; rw [hr1]; rw [hr2] at hH; clear hr1 hr2
      refine lv_lor X.x X.b (dk DX9_nearToAny_0 16 rfl) ?_
      refine lv_topl (fun v11 e12 => ?_)
      replace hF := bnd_e hF e12
      refine lv_lstore_n (lv' := [(3, .long v11), (0, .ref (q1 5)), (1, .long b1), (5, .int b5)]) X.x X.b (dk DX9_nearToAny_0 17 rfl) rfl hl (by decide) rfl (fun ls hl => ?_)
      replace hl : lv_has ls 6 [(0, .ref (q1 5)), (1, .long b1), (3, .long v11), (5, .int b5)] := lv_sub hl [1, 2, 0, 3] rfl
      obtain ⟨v13, e14⟩ : ∃ y : Int32, y = b5 + 1 := ⟨_, rfl⟩
      replace hF := bnd_e hF e14
      refine lv_iinc (v := v13) (lv' := [(5, .int v13), (0, .ref (q1 5)), (1, .long b1), (3, .long v11)]) X.x X.b (dk DX9_nearToAny_0 18 rfl) hl (k := 3) rfl (by rw [e14]; rfl) (by decide) rfl (fun ls hl => ?_)
      replace hl : lv_has ls 6 [(0, .ref (q1 5)), (1, .long b1), (3, .long v11), (5, .int v13)] := lv_sub hl [1, 2, 3, 0] rfl
      refine lv_goto (tgt := 5) X.x X.b (dk DX9_nearToAny_0 19 rfl) (by decide) ?_
      exact (lp_l hF hx) _ _ _ hH (lv_sub hl [0, 1, 2, 3] rfl) K0
set_option maxHeartbeats 4000000 in
set_option maxRecDepth 100000 in
theorem c_X9_nearToAny {l : Launch} {G : mG} {h : mM} {q1 : Nat → Nat} (hq1 : oinj LX10 q1) {st1 : OS} {a1 : Int64} {x : Int64} (hF : f_X9_nearToAny st1 a1 = some x) : cQ l G yX9_nearToAny cX9_nearToAny 6 (some FieldType.long) rm_X9_nearToAny [.ref (q1 5), .long a1] (oset LX10 G q1 st1 h) (mQl G (fun r h1 => r = x ∧ h1 = oset LX10 G q1 st1 h)) := by
  refine mp_of (by decide +kernel) (Nat.le_of_ble_eq_true rfl) ?_
  intro p e s m below meth c X hr hlk hH hname ls hl
  dsimp only [f_X9_nearToAny] at hF
  replace hl : lv_has ls 6 [(0, .ref (q1 5)), (1, .long a1)] := hl
  refine lv_lconst (v := 0) X.x X.b (dk DX9_nearToAny_0 0 rfl) (by decide) ?_
  refine lv_lstore_n (lv' := [(3, .long 0), (0, .ref (q1 5)), (1, .long a1)]) X.x X.b (dk DX9_nearToAny_0 1 rfl) rfl hl (by decide) rfl (fun ls hl => ?_)
  replace hl : lv_has ls 6 [(0, .ref (q1 5)), (1, .long a1), (3, .long 0)] := lv_sub hl [1, 2, 0] rfl
  refine lv_iconst (v := 0) X.x X.b (dk DX9_nearToAny_0 2 rfl) (by decide) ?_
  refine lv_istore (lv' := [(5, .int 0), (0, .ref (q1 5)), (1, .long a1), (3, .long 0)]) X.x X.b (dk DX9_nearToAny_0 3 rfl) hl (by decide) rfl (fun ls hl => ?_)
  replace hl : lv_has ls 6 [(0, .ref (q1 5)), (1, .long a1), (3, .long 0), (5, .int 0)] := lv_sub hl [1, 2, 3, 0] rfl
  obtain ⟨x15, e16, hF⟩ := bd hF
  replace hl : lv_has ls 6 [(0, .ref (q1 5)), (1, .long a1), (3, .long 0), (5, .int 0)] := lv_sub hl [0, 1, 2, 3] rfl
  refine w_X9_nearToAny_5 hq1 X st1 a1 _ _ e16 _ _ _ hH hl (fun H locs ls hH hl => ?_)
  refine lv_lload_n X.x X.b (dk DX9_nearToAny_0 20 rfl) rfl (lv_at hl 0 rfl) ?_
  cases sm hF
  exact mr_lret X hr hlk hH ⟨rfl, rfl⟩ (dk DX9_nearToAny_0 21 rfl)
-- X9_between
abbrev rm_X9_between : Room := { frames := 2, cells := 0, slots := 0, locals := 47 }
theorem hd_X9_between : mHd yX9_between 3 := ⟨by decide +kernel, by decide +kernel, by decide +kernel⟩
theorem DX9_between_0 : ∀ t ∈ ([(0, .lconst 1, 1), (1, .iload_n 1, 1), (2, .lshl, 1), (3, .lstore_n 3, 1), (4, .iconst 0, 1), (5, .istore 5, 2), (7, .iload 5, 2), (9, .sipush 128, 3), (12, .if_icmp .gt 41, 3), (15, .lload_n 3, 1), (16, .iload_n 2, 1), (17, .invokestatic 69, 3), (20, .ifCond .eq 6, 3), (23, .iload 5, 2), (25, .ireturn, 1), (26, .lload_n 3, 1), (27, .aload_n 0, 1), (28, .lload_n 3, 1), (29, .invokestatic 73, 3), (32, .lor, 1), (33, .lstore 6, 2), (35, .lload 6, 2), (37, .lload_n 3, 1), (38, .lcmp, 1), (39, .ifCond .ne 5, 3), (42, .iconst (-1), 1), (43, .ireturn, 1), (44, .lload 6, 2), (46, .lstore_n 3, 1), (47, .iinc 5 2, 3), (50, .goto (-43), 3), (53, .iconst (-1), 1), (54, .ireturn, 1)] : List (Nat × Instr × Nat)), decode cX9_between t.1 = .ok (t.2.1, t.2.2) := by decide +kernel
noncomputable def f_X9_between_7 (s_o1 : OS) (b2 : Int32) : (Int64 × Int32) → Option ((Int64 × Int32) ⊕ (Nat × Int32)) := fun z => match z with | (b3, b5) => (if 128 < b5 then some (.inr ((2, b5))) else (f_X10_has b3 b2).bind (fun x4 => (if x4 = 0 then (f_X9_nearToAny s_o1 b3).bind (fun x8 => bnd (b3 ||| x8 : Int64) (fun v11 => (if (lg_cmp v11 b3) = 0 then some (.inr ((1, b5))) else bnd (b5 + 2 : Int32) (fun v14 => some (.inl ((v11, v14))))))) else some (.inr ((0, b5))))))
noncomputable def f_X9_between (st1 : OS) (a1 : Int32) (a2 : Int32) : Option (Int32) := bnd (((1 : Int64)) <<< ((a1 : Int32).toInt64 &&& 63) : Int64) (fun v1 => (lpv (f_X9_between_7 st1 a2) ((v1, 0))).bind (fun x16 => match x16 with | (k19, v18) => (if k19 = 0 then some v18 else (if k19 = 1 then some ((-1)) else some ((-1))))))
set_option maxHeartbeats 4000000 in
set_option maxRecDepth 100000 in
theorem w_X9_between_7 {p : Program} {l : Launch} {e : Env} {s : State} {m : MethodId} {args : Array Value} {below : List Frame} {meth : Method} {c : Code} {Q : State → Prop} {G : mG} {h : mM} {q1 : Nat → Nat} (hq1 : oinj LX10 q1) (X : mX G p m c cX9_between 8 s args RX9) (s_o1 : OS) (b2 : Int32) : ∀ (z : Int64 × Int32) (r : Nat × Int32), lpv (f_X9_between_7 s_o1 b2) z = some r → ∀ (H : Heap) (locs : List Loc) (ls : Array Slot), mH G (oset LX10 G q1 s_o1 h) s.heap H locs → lv_has ls 8 [(0, .ref (q1 5)), (2, .int b2), (3, .long z.1), (5, .int z.2)] → (r.1 = 0 → ∀ (H : Heap) (locs : List Loc) (ls : Array Slot), mH G (oset LX10 G q1 s_o1 h) s.heap H locs → lv_has ls 8 [(5, .int r.2)] → W p l e rm_X9_between s m args below meth c H locs 0 0 Q (F0 m 23 ls [])) → (r.1 = 1 → ∀ (H : Heap) (locs : List Loc) (ls : Array Slot), mH G (oset LX10 G q1 s_o1 h) s.heap H locs → lv_has ls 8 [] → W p l e rm_X9_between s m args below meth c H locs 0 0 Q (F0 m 42 ls [])) → (r.1 = 2 → ∀ (H : Heap) (locs : List Loc) (ls : Array Slot), mH G (oset LX10 G q1 s_o1 h) s.heap H locs → lv_has ls 8 [] → W p l e rm_X9_between s m args below meth c H locs 0 0 Q (F0 m 53 ls [])) → W p l e rm_X9_between s m args below meth c H locs 0 0 Q (F0 m 7 ls []) := by
  refine lpv_rec ?_
  intro z r x hF hx H locs ls hH hl K0 K1 K2
  obtain ⟨b3, b5⟩ := z
  dsimp only [f_X9_between_7] at hF
  try dsimp only at hH hl
  refine lv_iload X.x X.b (dk DX9_between_0 6 rfl) (lv_at hl 3 rfl) ?_
  refine lv_sipush (v := 128) X.x X.b (dk DX9_between_0 7 rfl) (by decide) ?_
  refine lv_icmp_gt (tgt := 53) X.x X.b (dk DX9_between_0 8 rfl) (by decide) (fun c3 => ?_) (fun c3 => ?_)
  · replace hF := if_t hF c3
    have hr9 := lp_r hF hx
    subst hr9
    exact K2 rfl _ _ _ hH (lv_sub hl [] rfl)
  · replace hF := if_f hF c3
    refine lv_lload_n X.x X.b (dk DX9_between_0 9 rfl) rfl (lv_at hl 2 rfl) ?_
    refine lv_iload_n X.x X.b (dk DX9_between_0 10 rfl) rfl (lv_at hl 1 rfl) ?_
    obtain ⟨x4, e5, hF⟩ := bd hF
    refine mr_ci0 hH ⟨rfl, rfl⟩ (mr_runS (As := [.long b3, .int b2]) (rest := []) X hH (c_X10_has e5) kM_X9_69 kT_X10_has kN_X10 kC_X10_has hd_X10_has ⟨Nat.le_of_ble_eq_true rfl, Nat.le_of_ble_eq_true rfl⟩ rfl hl.1 (Nat.le_of_ble_eq_true rfl) (dk DX9_between_0 11 rfl) ⟨Nat.zero_le _, Nat.zero_le _⟩) (fun r h1 H locs hp hH => ?_)
    obtain ⟨hr1, hr2⟩ := hp; rw [hr1]; rw [hr2] at hH; clear hr1 hr2
    refine lv_if_eq (tgt := 26) X.x X.b (dk DX9_between_0 12 rfl) (by decide) (fun c7 => ?_) (fun c7 => ?_)
    · replace hF := if_t hF c7
      refine lv_lload_n X.x X.b (dk DX9_between_0 15 rfl) rfl (lv_at hl 2 rfl) ?_
      refine lv_aload_n X.x X.b (dk DX9_between_0 16 rfl) rfl (lv_at hl 0 rfl) ?_
      refine lv_lload_n X.x X.b (dk DX9_between_0 17 rfl) rfl (lv_at hl 2 rfl) ?_
      obtain ⟨x8, e9, hF⟩ := bd hF
      refine mr_cl0 hH ⟨rfl, rfl⟩ (mr_runS (As := [.ref (q1 5), .long b3]) (rest := [.long b3]) X hH (c_X9_nearToAny hq1 e9) kM_X9_73 kT_X9_nearToAny kN_X9 kC_X9_nearToAny hd_X9_nearToAny ⟨Nat.le_of_ble_eq_true rfl, Nat.le_of_ble_eq_true rfl⟩ rfl hl.1 (Nat.le_of_ble_eq_true rfl) (dk DX9_between_0 18 rfl) ⟨Nat.zero_le _, Nat.zero_le _⟩) (fun r h1 H locs hp hH => ?_)
      obtain ⟨hr1, hr2⟩ := hp; rw [hr1]; rw [hr2] at hH; clear hr1 hr2
      refine lv_lor X.x X.b (dk DX9_between_0 19 rfl) ?_
      refine lv_topl (fun v11 e12 => ?_)
      replace hF := bnd_e hF e12
      refine lv_lstore (lv' := [(6, .long v11), (0, .ref (q1 5)), (2, .int b2), (3, .long b3), (5, .int b5)]) X.x X.b (dk DX9_between_0 20 rfl) hl (by decide) rfl (fun ls hl => ?_)
      replace hl : lv_has ls 8 [(0, .ref (q1 5)), (2, .int b2), (3, .long b3), (5, .int b5), (6, .long v11)] := lv_sub hl [1, 2, 3, 4, 0] rfl
      refine lv_lload X.x X.b (dk DX9_between_0 21 rfl) (lv_at hl 4 rfl) ?_
      refine lv_lload_n X.x X.b (dk DX9_between_0 22 rfl) rfl (lv_at hl 2 rfl) ?_
      refine W.lcmp X.x X.b (dk DX9_between_0 23 rfl) ?_
      refine lv_if_ne (tgt := 44) X.x X.b (dk DX9_between_0 24 rfl) (by decide) (fun c13 => ?_) (fun c13 => ?_)
      · replace hF := if_f hF c13
        refine lv_lload X.x X.b (dk DX9_between_0 27 rfl) (lv_at hl 4 rfl) ?_
        refine lv_lstore_n (lv' := [(3, .long v11), (0, .ref (q1 5)), (2, .int b2), (5, .int b5), (6, .long v11)]) X.x X.b (dk DX9_between_0 28 rfl) rfl hl (by decide) rfl (fun ls hl => ?_)
        replace hl : lv_has ls 8 [(0, .ref (q1 5)), (2, .int b2), (3, .long v11), (5, .int b5)] := lv_sub hl [1, 2, 0, 3] rfl
        obtain ⟨v14, e15⟩ : ∃ y : Int32, y = b5 + 2 := ⟨_, rfl⟩
        replace hF := bnd_e hF e15
        refine lv_iinc (v := v14) (lv' := [(5, .int v14), (0, .ref (q1 5)), (2, .int b2), (3, .long v11)]) X.x X.b (dk DX9_between_0 29 rfl) hl (k := 3) rfl (by rw [e15]; rfl) (by decide) rfl (fun ls hl => ?_)
        replace hl : lv_has ls 8 [(0, .ref (q1 5)), (2, .int b2), (3, .long v11), (5, .int v14)] := lv_sub hl [1, 2, 3, 0] rfl
        refine lv_goto (tgt := 7) X.x X.b (dk DX9_between_0 30 rfl) (by decide) ?_
        exact (lp_l hF hx) _ _ _ hH (lv_sub hl [0, 1, 2, 3] rfl) K0 K1 K2
      · replace hF := if_t hF c13
        have hr9 := lp_r hF hx
        subst hr9
        exact K1 rfl _ _ _ hH (lv_sub hl [] rfl)
    · replace hF := if_f hF c7
      have hr9 := lp_r hF hx
      subst hr9
      exact K0 rfl _ _ _ hH (lv_sub hl [3] rfl)
set_option maxHeartbeats 4000000 in
set_option maxRecDepth 100000 in
theorem c_X9_between {l : Launch} {G : mG} {h : mM} {q1 : Nat → Nat} (hq1 : oinj LX10 q1) {st1 : OS} {a1 : Int32} {a2 : Int32} {x : Int32} (hF : f_X9_between st1 a1 a2 = some x) : cQ l G yX9_between cX9_between 8 (some FieldType.int) rm_X9_between [.ref (q1 5), .int a1, .int a2] (oset LX10 G q1 st1 h) (mQi G (fun r h1 => r = x ∧ h1 = oset LX10 G q1 st1 h)) := by
  refine mp_of (by decide +kernel) (Nat.le_of_ble_eq_true rfl) ?_
  intro p e s m below meth c X hr hlk hH hname ls hl
  dsimp only [f_X9_between] at hF
  replace hl : lv_has ls 8 [(0, .ref (q1 5)), (1, .int a1), (2, .int a2)] := hl
  refine lv_lconst (v := 1) X.x X.b (dk DX9_between_0 0 rfl) (by decide) ?_
  refine lv_iload_n X.x X.b (dk DX9_between_0 1 rfl) rfl (lv_at hl 1 rfl) ?_
  refine lv_lshl X.x X.b (dk DX9_between_0 2 rfl) rfl ?_
  refine lv_topl (fun v1 e2 => ?_)
  replace hF := bnd_e hF e2
  refine lv_lstore_n (lv' := [(3, .long v1), (0, .ref (q1 5)), (1, .int a1), (2, .int a2)]) X.x X.b (dk DX9_between_0 3 rfl) rfl hl (by decide) rfl (fun ls hl => ?_)
  replace hl : lv_has ls 8 [(0, .ref (q1 5)), (2, .int a2), (3, .long v1)] := lv_sub hl [1, 3, 0] rfl
  refine lv_iconst (v := 0) X.x X.b (dk DX9_between_0 4 rfl) (by decide) ?_
  refine lv_istore (lv' := [(5, .int 0), (0, .ref (q1 5)), (2, .int a2), (3, .long v1)]) X.x X.b (dk DX9_between_0 5 rfl) hl (by decide) rfl (fun ls hl => ?_)
  replace hl : lv_has ls 8 [(0, .ref (q1 5)), (2, .int a2), (3, .long v1), (5, .int 0)] := lv_sub hl [1, 2, 3, 0] rfl
  obtain ⟨x16, e17, hF⟩ := bd hF
  replace hl : lv_has ls 8 [(0, .ref (q1 5)), (2, .int a2), (3, .long v1), (5, .int 0)] := lv_sub hl [0, 1, 2, 3] rfl
  obtain ⟨k19, v18⟩ := x16
  try dsimp only at hF
  refine w_X9_between_7 hq1 X st1 a2 _ _ e17 _ _ _ hH hl (fun hk H locs ls hH hl => ?_) (fun hk H locs ls hH hl => ?_) (fun hk H locs ls hH hl => ?_)
  · try dsimp only at hH hl
    try dsimp only at hk
    subst hk
    replace hF := if_t hF rfl
    refine lv_iload X.x X.b (dk DX9_between_0 13 rfl) (lv_at hl 0 rfl) ?_
    cases sm hF
    exact mr_iret X hr hlk hH ⟨rfl, rfl⟩ (dk DX9_between_0 14 rfl)
  · try dsimp only at hH hl
    try dsimp only at hk
    subst hk
    replace hF := if_f hF (by decide)
    replace hF := if_t hF rfl
    refine lv_iconst (v := (-1)) X.x X.b (dk DX9_between_0 25 rfl) (by decide) ?_
    cases sm hF
    exact mr_iret X hr hlk hH ⟨rfl, rfl⟩ (dk DX9_between_0 26 rfl)
  · try dsimp only at hH hl
    try dsimp only at hk
    subst hk
    replace hF := if_f hF (by decide)
    replace hF := if_f hF (by decide)
    refine lv_iconst (v := (-1)) X.x X.b (dk DX9_between_0 31 rfl) (by decide) ?_
    cases sm hF
    exact mr_iret X hr hlk hH ⟨rfl, rfl⟩ (dk DX9_between_0 32 rfl)
-- X9_greatestBetween
abbrev rm_X9_greatestBetween : Room := { frames := 2, cells := 0, slots := 0, locals := 47 }
theorem hd_X9_greatestBetween : mHd yX9_greatestBetween 1 := ⟨by decide +kernel, by decide +kernel, by decide +kernel⟩
theorem DX9_greatestBetween_0 : ∀ t ∈ ([(0, .aload_n 0, 1), (1, .getfield 33, 3), (4, .ifCond .ne 7, 3), (7, .iconst (-1), 1), (8, .goto 4, 3), (11, .iconst 0, 1), (12, .istore_n 1, 1), (13, .iconst 0, 1), (14, .istore_n 2, 1), (15, .iload_n 2, 1), (16, .aload_n 0, 1), (17, .getfield 33, 3), (20, .if_icmp .ge 59, 3), (23, .lconst 1, 1), (24, .iload_n 2, 1), (25, .lshl, 1), (26, .lstore_n 3, 1), (27, .iconst 2, 1), (28, .istore 5, 2), (30, .iload 5, 2), (32, .sipush 128, 3), (35, .if_icmp .gt 38, 3), (38, .lload_n 3, 1), (39, .aload_n 0, 1), (40, .lload_n 3, 1), (41, .invokestatic 73, 3), (44, .lor, 1), (45, .lstore 6, 2), (47, .lload 6, 2), (49, .lload_n 3, 1), (50, .lcmp, 1), (51, .ifCond .ne 6, 3), (54, .goto 19, 3), (57, .lload 6, 2), (59, .lstore_n 3, 1), (60, .iload_n 1, 1), (61, .iload 5, 2), (63, .invokestatic 77, 3), (66, .istore_n 1, 1), (67, .iinc 5 2, 3), (70, .goto (-40), 3), (73, .iinc 2 1, 3), (76, .goto (-61), 3), (79, .iload_n 1, 1), (80, .ireturn, 1)] : List (Nat × Instr × Nat)), decode cX9_greatestBetween t.1 = .ok (t.2.1, t.2.2) := by decide +kernel
noncomputable def f_X9_greatestBetween_30 (s_o1 : OS) (b2 : Int32) : (Int32 × Int64 × Int32) → Option ((Int32 × Int64 × Int32) ⊕ (Nat × Int32)) := fun z => match z with | (b1, b3, b5) => (if 128 < b5 then some (.inr ((1, b1))) else (f_X9_nearToAny s_o1 b3).bind (fun x6 => bnd (b3 ||| x6 : Int64) (fun v9 => (if (lg_cmp v9 b3) = 0 then some (.inr ((0, b1))) else (f_J9_max_7cf53 b1 b5).bind (fun x12 => bnd (b5 + 2 : Int32) (fun v15 => some (.inl ((x12, v9, v15)))))))))
noncomputable def f_X9_greatestBetween_15 (s_o1 : OS) : (Int32 × Int32) → Option ((Int32 × Int32) ⊕ (Int32)) := fun z => match z with | (b1, b2) => (if (s_o1.1 0) ≤ b2 then some (.inr b1) else bnd (((1 : Int64)) <<< ((b2 : Int32).toInt64 &&& 63) : Int64) (fun v3 => (lpv (f_X9_greatestBetween_30 s_o1 b2) ((b1, v3, 2))).bind (fun x17 => match x17 with | (k20, v19) => (if k20 = 0 then bnd (b2 + 1 : Int32) (fun v21 => some (.inl ((v19, v21)))) else bnd (b2 + 1 : Int32) (fun v23 => some (.inl ((v19, v23))))))))
noncomputable def f_X9_greatestBetween (st1 : OS) : Option (Int32) := (if (st1.1 0) = 0 then (lpv (f_X9_greatestBetween_15 st1) (((-1), 0))).bind (fun x28 => some x28) else (lpv (f_X9_greatestBetween_15 st1) ((0, 0))).bind (fun x25 => some x25))
set_option maxHeartbeats 4000000 in
set_option maxRecDepth 100000 in
theorem w_X9_greatestBetween_30 {p : Program} {l : Launch} {e : Env} {s : State} {m : MethodId} {args : Array Value} {below : List Frame} {meth : Method} {c : Code} {Q : State → Prop} {G : mG} {h : mM} {q1 : Nat → Nat} (hq1 : oinj LX10 q1) (X : mX G p m c cX9_greatestBetween 8 s args RX9) (s_o1 : OS) (b2 : Int32) : ∀ (z : Int32 × Int64 × Int32) (r : Nat × Int32), lpv (f_X9_greatestBetween_30 s_o1 b2) z = some r → ∀ (H : Heap) (locs : List Loc) (ls : Array Slot), mH G (oset LX10 G q1 s_o1 h) s.heap H locs → lv_has ls 8 [(0, .ref (q1 5)), (1, .int z.1), (2, .int b2), (3, .long z.2.1), (5, .int z.2.2)] → (r.1 = 0 → ∀ (H : Heap) (locs : List Loc) (ls : Array Slot), mH G (oset LX10 G q1 s_o1 h) s.heap H locs → lv_has ls 8 [(0, .ref (q1 5)), (1, .int r.2), (2, .int b2)] → W p l e rm_X9_greatestBetween s m args below meth c H locs 0 0 Q (F0 m 54 ls [])) → (r.1 = 1 → ∀ (H : Heap) (locs : List Loc) (ls : Array Slot), mH G (oset LX10 G q1 s_o1 h) s.heap H locs → lv_has ls 8 [(0, .ref (q1 5)), (1, .int r.2), (2, .int b2)] → W p l e rm_X9_greatestBetween s m args below meth c H locs 0 0 Q (F0 m 73 ls [])) → W p l e rm_X9_greatestBetween s m args below meth c H locs 0 0 Q (F0 m 30 ls []) := by
  refine lpv_rec ?_
  intro z r x hF hx H locs ls hH hl K0 K1
  obtain ⟨b1, b3, b5⟩ := z
  dsimp only [f_X9_greatestBetween_30] at hF
  try dsimp only at hH hl
  refine lv_iload X.x X.b (dk DX9_greatestBetween_0 19 rfl) (lv_at hl 4 rfl) ?_
  refine lv_sipush (v := 128) X.x X.b (dk DX9_greatestBetween_0 20 rfl) (by decide) ?_
  refine lv_icmp_gt (tgt := 73) X.x X.b (dk DX9_greatestBetween_0 21 rfl) (by decide) (fun c5 => ?_) (fun c5 => ?_)
  · replace hF := if_t hF c5
    have hr9 := lp_r hF hx
    subst hr9
    exact K1 rfl _ _ _ hH (lv_sub hl [0, 1, 2] rfl)
  · replace hF := if_f hF c5
    refine lv_lload_n X.x X.b (dk DX9_greatestBetween_0 22 rfl) rfl (lv_at hl 3 rfl) ?_
    refine lv_aload_n X.x X.b (dk DX9_greatestBetween_0 23 rfl) rfl (lv_at hl 0 rfl) ?_
    refine lv_lload_n X.x X.b (dk DX9_greatestBetween_0 24 rfl) rfl (lv_at hl 3 rfl) ?_
    obtain ⟨x6, e7, hF⟩ := bd hF
    refine mr_cl0 hH ⟨rfl, rfl⟩ (mr_runS (As := [.ref (q1 5), .long b3]) (rest := [.long b3]) X hH (c_X9_nearToAny hq1 e7) kM_X9_73 kT_X9_nearToAny kN_X9 kC_X9_nearToAny hd_X9_nearToAny ⟨Nat.le_of_ble_eq_true rfl, Nat.le_of_ble_eq_true rfl⟩ rfl hl.1 (Nat.le_of_ble_eq_true rfl) (dk DX9_greatestBetween_0 25 rfl) ⟨Nat.zero_le _, Nat.zero_le _⟩) (fun r h1 H locs hp hH => ?_)
    obtain ⟨hr1, hr2⟩ := hp; rw [hr1]; rw [hr2] at hH; clear hr1 hr2
    refine lv_lor X.x X.b (dk DX9_greatestBetween_0 26 rfl) ?_
    refine lv_topl (fun v9 e10 => ?_)
    replace hF := bnd_e hF e10
    refine lv_lstore (lv' := [(6, .long v9), (0, .ref (q1 5)), (1, .int b1), (2, .int b2), (3, .long b3), (5, .int b5)]) X.x X.b (dk DX9_greatestBetween_0 27 rfl) hl (by decide) rfl (fun ls hl => ?_)
    replace hl : lv_has ls 8 [(0, .ref (q1 5)), (1, .int b1), (2, .int b2), (3, .long b3), (5, .int b5), (6, .long v9)] := lv_sub hl [1, 2, 3, 4, 5, 0] rfl
    refine lv_lload X.x X.b (dk DX9_greatestBetween_0 28 rfl) (lv_at hl 5 rfl) ?_
    refine lv_lload_n X.x X.b (dk DX9_greatestBetween_0 29 rfl) rfl (lv_at hl 3 rfl) ?_
    refine W.lcmp X.x X.b (dk DX9_greatestBetween_0 30 rfl) ?_
    refine lv_if_ne (tgt := 57) X.x X.b (dk DX9_greatestBetween_0 31 rfl) (by decide) (fun c11 => ?_) (fun c11 => ?_)
    · replace hF := if_f hF c11
      refine lv_lload X.x X.b (dk DX9_greatestBetween_0 33 rfl) (lv_at hl 5 rfl) ?_
      refine lv_lstore_n (lv' := [(3, .long v9), (0, .ref (q1 5)), (1, .int b1), (2, .int b2), (5, .int b5), (6, .long v9)]) X.x X.b (dk DX9_greatestBetween_0 34 rfl) rfl hl (by decide) rfl (fun ls hl => ?_)
      replace hl : lv_has ls 8 [(0, .ref (q1 5)), (1, .int b1), (2, .int b2), (3, .long v9), (5, .int b5)] := lv_sub hl [1, 2, 3, 0, 4] rfl
      refine lv_iload_n X.x X.b (dk DX9_greatestBetween_0 35 rfl) rfl (lv_at hl 1 rfl) ?_
      refine lv_iload X.x X.b (dk DX9_greatestBetween_0 36 rfl) (lv_at hl 4 rfl) ?_
      obtain ⟨x12, e13, hF⟩ := bd hF
      refine mr_ci0 hH ⟨rfl, rfl⟩ (mr_runS (As := [.int b1, .int b5]) (rest := []) X hH (c_J9_max_7cf53 e13) kM_X9_77 kT_J9_max_7cf53 kN_J9 kC_J9_max_7cf53 hd_J9_max_7cf53 ⟨Nat.le_of_ble_eq_true rfl, Nat.le_of_ble_eq_true rfl⟩ rfl hl.1 (Nat.le_of_ble_eq_true rfl) (dk DX9_greatestBetween_0 37 rfl) ⟨Nat.zero_le _, Nat.zero_le _⟩) (fun r h1 H locs hp hH => ?_)
      obtain ⟨hr1, hr2⟩ := hp; rw [hr1]; rw [hr2] at hH; clear hr1 hr2
      refine lv_istore_n (lv' := [(1, .int x12), (0, .ref (q1 5)), (2, .int b2), (3, .long v9), (5, .int b5)]) X.x X.b (dk DX9_greatestBetween_0 38 rfl) rfl hl (by decide) rfl (fun ls hl => ?_)
      replace hl : lv_has ls 8 [(0, .ref (q1 5)), (1, .int x12), (2, .int b2), (3, .long v9), (5, .int b5)] := lv_sub hl [1, 0, 2, 3, 4] rfl
      obtain ⟨v15, e16⟩ : ∃ y : Int32, y = b5 + 2 := ⟨_, rfl⟩
      replace hF := bnd_e hF e16
      refine lv_iinc (v := v15) (lv' := [(5, .int v15), (0, .ref (q1 5)), (1, .int x12), (2, .int b2), (3, .long v9)]) X.x X.b (dk DX9_greatestBetween_0 39 rfl) hl (k := 4) rfl (by rw [e16]; rfl) (by decide) rfl (fun ls hl => ?_)
      replace hl : lv_has ls 8 [(0, .ref (q1 5)), (1, .int x12), (2, .int b2), (3, .long v9), (5, .int v15)] := lv_sub hl [1, 2, 3, 4, 0] rfl
      refine lv_goto (tgt := 30) X.x X.b (dk DX9_greatestBetween_0 40 rfl) (by decide) ?_
      exact (lp_l hF hx) _ _ _ hH (lv_sub hl [0, 1, 2, 3, 4] rfl) K0 K1
    · replace hF := if_t hF c11
      have hr9 := lp_r hF hx
      subst hr9
      exact K0 rfl _ _ _ hH (lv_sub hl [0, 1, 2] rfl)
set_option maxHeartbeats 4000000 in
set_option maxRecDepth 100000 in
theorem w_X9_greatestBetween_15 {p : Program} {l : Launch} {e : Env} {s : State} {m : MethodId} {args : Array Value} {below : List Frame} {meth : Method} {c : Code} {Q : State → Prop} {G : mG} {h : mM} {q1 : Nat → Nat} (hq1 : oinj LX10 q1) (X : mX G p m c cX9_greatestBetween 8 s args RX9) (s_o1 : OS) : ∀ (z : Int32 × Int32) (r : Int32), lpv (f_X9_greatestBetween_15 s_o1) z = some r → ∀ (H : Heap) (locs : List Loc) (ls : Array Slot), mH G (oset LX10 G q1 s_o1 h) s.heap H locs → lv_has ls 8 [(0, .ref (q1 5)), (1, .int z.1), (2, .int z.2)] → (∀ (H : Heap) (locs : List Loc) (ls : Array Slot), mH G (oset LX10 G q1 s_o1 h) s.heap H locs → lv_has ls 8 [(1, .int r)] → W p l e rm_X9_greatestBetween s m args below meth c H locs 0 0 Q (F0 m 79 ls [])) → W p l e rm_X9_greatestBetween s m args below meth c H locs 0 0 Q (F0 m 15 ls []) := by
  refine lpv_rec ?_
  intro z r x hF hx H locs ls hH hl K0
  obtain ⟨b1, b2⟩ := z
  dsimp only [f_X9_greatestBetween_15] at hF
  try dsimp only at hH hl
  refine lv_iload_n X.x X.b (dk DX9_greatestBetween_0 9 rfl) rfl (lv_at hl 2 rfl) ?_
  refine lv_aload_n X.x X.b (dk DX9_greatestBetween_0 10 rfl) rfl (lv_at hl 0 rfl) ?_
  refine og_getIN OX10 X hq1 hH 0 (by decide) rfl kFN_X9_33 (dk DX9_greatestBetween_0 11 rfl) ?_
  refine lv_icmp_ge (tgt := 79) X.x X.b (dk DX9_greatestBetween_0 12 rfl) (by decide) (fun c2 => ?_) (fun c2 => ?_)
  · replace hF := if_t hF c2
    have hr9 := lp_r hF hx
    subst hr9
    exact K0 _ _ _ hH (lv_sub hl [1] rfl)
  · replace hF := if_f hF c2
    refine lv_lconst (v := 1) X.x X.b (dk DX9_greatestBetween_0 13 rfl) (by decide) ?_
    refine lv_iload_n X.x X.b (dk DX9_greatestBetween_0 14 rfl) rfl (lv_at hl 2 rfl) ?_
    refine lv_lshl X.x X.b (dk DX9_greatestBetween_0 15 rfl) rfl ?_
    refine lv_topl (fun v3 e4 => ?_)
    replace hF := bnd_e hF e4
    refine lv_lstore_n (lv' := [(3, .long v3), (0, .ref (q1 5)), (1, .int b1), (2, .int b2)]) X.x X.b (dk DX9_greatestBetween_0 16 rfl) rfl hl (by decide) rfl (fun ls hl => ?_)
    replace hl : lv_has ls 8 [(0, .ref (q1 5)), (1, .int b1), (2, .int b2), (3, .long v3)] := lv_sub hl [1, 2, 3, 0] rfl
    refine lv_iconst (v := 2) X.x X.b (dk DX9_greatestBetween_0 17 rfl) (by decide) ?_
    refine lv_istore (lv' := [(5, .int 2), (0, .ref (q1 5)), (1, .int b1), (2, .int b2), (3, .long v3)]) X.x X.b (dk DX9_greatestBetween_0 18 rfl) hl (by decide) rfl (fun ls hl => ?_)
    replace hl : lv_has ls 8 [(0, .ref (q1 5)), (1, .int b1), (2, .int b2), (3, .long v3), (5, .int 2)] := lv_sub hl [1, 2, 3, 4, 0] rfl
    obtain ⟨x17, e18, hF⟩ := bd hF
    replace hl : lv_has ls 8 [(0, .ref (q1 5)), (1, .int b1), (2, .int b2), (3, .long v3), (5, .int 2)] := lv_sub hl [0, 1, 2, 3, 4] rfl
    obtain ⟨k20, v19⟩ := x17
    try dsimp only at hF
    refine w_X9_greatestBetween_30 hq1 X s_o1 b2 _ _ e18 _ _ _ hH hl (fun hk H locs ls hH hl => ?_) (fun hk H locs ls hH hl => ?_)
    · try dsimp only at hH hl
      try dsimp only at hk
      subst hk
      replace hF := if_t hF rfl
      refine lv_goto (tgt := 73) X.x X.b (dk DX9_greatestBetween_0 32 rfl) (by decide) ?_
      obtain ⟨v21, e22⟩ : ∃ y : Int32, y = b2 + 1 := ⟨_, rfl⟩
      replace hF := bnd_e hF e22
      refine lv_iinc (v := v21) (lv' := [(2, .int v21), (0, .ref (q1 5)), (1, .int v19)]) X.x X.b (dk DX9_greatestBetween_0 41 rfl) hl (k := 2) rfl (by rw [e22]; rfl) (by decide) rfl (fun ls hl => ?_)
      replace hl : lv_has ls 8 [(0, .ref (q1 5)), (1, .int v19), (2, .int v21)] := lv_sub hl [1, 2, 0] rfl
      refine lv_goto (tgt := 15) X.x X.b (dk DX9_greatestBetween_0 42 rfl) (by decide) ?_
      exact (lp_l hF hx) _ _ _ hH (lv_sub hl [0, 1, 2] rfl) K0
    · try dsimp only at hH hl
      try dsimp only at hk
      subst hk
      replace hF := if_f hF (by decide)
      obtain ⟨v23, e24⟩ : ∃ y : Int32, y = b2 + 1 := ⟨_, rfl⟩
      replace hF := bnd_e hF e24
      refine lv_iinc (v := v23) (lv' := [(2, .int v23), (0, .ref (q1 5)), (1, .int v19)]) X.x X.b (dk DX9_greatestBetween_0 41 rfl) hl (k := 2) rfl (by rw [e24]; rfl) (by decide) rfl (fun ls hl => ?_)
      replace hl : lv_has ls 8 [(0, .ref (q1 5)), (1, .int v19), (2, .int v23)] := lv_sub hl [1, 2, 0] rfl
      refine lv_goto (tgt := 15) X.x X.b (dk DX9_greatestBetween_0 42 rfl) (by decide) ?_
      exact (lp_l hF hx) _ _ _ hH (lv_sub hl [0, 1, 2] rfl) K0
set_option maxHeartbeats 4000000 in
set_option maxRecDepth 100000 in
theorem c_X9_greatestBetween {l : Launch} {G : mG} {h : mM} {q1 : Nat → Nat} (hq1 : oinj LX10 q1) {st1 : OS} {x : Int32} (hF : f_X9_greatestBetween st1 = some x) : cQ l G yX9_greatestBetween cX9_greatestBetween 8 (some FieldType.int) rm_X9_greatestBetween [.ref (q1 5)] (oset LX10 G q1 st1 h) (mQi G (fun r h1 => r = x ∧ h1 = oset LX10 G q1 st1 h)) := by
  refine mp_of (by decide +kernel) (Nat.le_of_ble_eq_true rfl) ?_
  intro p e s m below meth c X hr hlk hH hname ls hl
  dsimp only [f_X9_greatestBetween] at hF
  replace hl : lv_has ls 8 [(0, .ref (q1 5))] := hl
  refine lv_aload_n X.x X.b (dk DX9_greatestBetween_0 0 rfl) rfl (lv_at hl 0 rfl) ?_
  refine og_getIN OX10 X hq1 hH 0 (by decide) rfl kFN_X9_33 (dk DX9_greatestBetween_0 1 rfl) ?_
  refine lv_if_ne (tgt := 11) X.x X.b (dk DX9_greatestBetween_0 2 rfl) (by decide) (fun c1 => ?_) (fun c1 => ?_)
  · replace hF := if_f hF c1
    refine lv_iconst (v := 0) X.x X.b (dk DX9_greatestBetween_0 5 rfl) (by decide) ?_
    refine lv_istore_n (lv' := [(1, .int 0), (0, .ref (q1 5))]) X.x X.b (dk DX9_greatestBetween_0 6 rfl) rfl hl (by decide) rfl (fun ls hl => ?_)
    replace hl : lv_has ls 8 [(0, .ref (q1 5)), (1, .int 0)] := lv_sub hl [1, 0] rfl
    refine lv_iconst (v := 0) X.x X.b (dk DX9_greatestBetween_0 7 rfl) (by decide) ?_
    refine lv_istore_n (lv' := [(2, .int 0), (0, .ref (q1 5)), (1, .int 0)]) X.x X.b (dk DX9_greatestBetween_0 8 rfl) rfl hl (by decide) rfl (fun ls hl => ?_)
    replace hl : lv_has ls 8 [(0, .ref (q1 5)), (1, .int 0), (2, .int 0)] := lv_sub hl [1, 2, 0] rfl
    obtain ⟨x25, e26, hF⟩ := bd hF
    replace hl : lv_has ls 8 [(0, .ref (q1 5)), (1, .int 0), (2, .int 0)] := lv_sub hl [0, 1, 2] rfl
    refine w_X9_greatestBetween_15 hq1 X st1 _ _ e26 _ _ _ hH hl (fun H locs ls hH hl => ?_)
    refine lv_iload_n X.x X.b (dk DX9_greatestBetween_0 43 rfl) rfl (lv_at hl 0 rfl) ?_
    cases sm hF
    exact mr_iret X hr hlk hH ⟨rfl, rfl⟩ (dk DX9_greatestBetween_0 44 rfl)
  · replace hF := if_t hF c1
    refine lv_iconst (v := (-1)) X.x X.b (dk DX9_greatestBetween_0 3 rfl) (by decide) ?_
    refine lv_goto (tgt := 12) X.x X.b (dk DX9_greatestBetween_0 4 rfl) (by decide) ?_
    refine lv_istore_n (lv' := [(1, .int ((-1))), (0, .ref (q1 5))]) X.x X.b (dk DX9_greatestBetween_0 6 rfl) rfl hl (by decide) rfl (fun ls hl => ?_)
    replace hl : lv_has ls 8 [(0, .ref (q1 5)), (1, .int ((-1)))] := lv_sub hl [1, 0] rfl
    refine lv_iconst (v := 0) X.x X.b (dk DX9_greatestBetween_0 7 rfl) (by decide) ?_
    refine lv_istore_n (lv' := [(2, .int 0), (0, .ref (q1 5)), (1, .int ((-1)))]) X.x X.b (dk DX9_greatestBetween_0 8 rfl) rfl hl (by decide) rfl (fun ls hl => ?_)
    replace hl : lv_has ls 8 [(0, .ref (q1 5)), (1, .int ((-1))), (2, .int 0)] := lv_sub hl [1, 2, 0] rfl
    obtain ⟨x28, e29, hF⟩ := bd hF
    replace hl : lv_has ls 8 [(0, .ref (q1 5)), (1, .int ((-1))), (2, .int 0)] := lv_sub hl [0, 1, 2] rfl
    refine w_X9_greatestBetween_15 hq1 X st1 _ _ e29 _ _ _ hH hl (fun H locs ls hH hl => ?_)
    refine lv_iload_n X.x X.b (dk DX9_greatestBetween_0 43 rfl) rfl (lv_at hl 0 rfl) ?_
    cases sm hF
    exact mr_iret X hr hlk hH ⟨rfl, rfl⟩ (dk DX9_greatestBetween_0 44 rfl)
-- X9_pieceOf
abbrev rm_X9_pieceOf : Room := { frames := 2, cells := 0, slots := 0, locals := 47 }
theorem hd_X9_pieceOf : mHd yX9_pieceOf 2 := ⟨by decide +kernel, by decide +kernel, by decide +kernel⟩
theorem DX9_pieceOf_0 : ∀ t ∈ ([(0, .lload_n 1, 1), (1, .lstore_n 3, 1), (2, .iconst 0, 1), (3, .istore 5, 2), (5, .iload 5, 2), (7, .bipush 64, 2), (9, .if_icmp .ge 31, 3), (12, .lload_n 3, 1), (13, .aload_n 0, 1), (14, .lload_n 3, 1), (15, .invokestatic 73, 3), (18, .lor, 1), (19, .lstore 6, 2), (21, .lload 6, 2), (23, .lload_n 3, 1), (24, .lcmp, 1), (25, .ifCond .ne 6, 3), (28, .goto 12, 3), (31, .lload 6, 2), (33, .lstore_n 3, 1), (34, .iinc 5 1, 3), (37, .goto (-32), 3), (40, .lload_n 3, 1), (41, .lreturn, 1)] : List (Nat × Instr × Nat)), decode cX9_pieceOf t.1 = .ok (t.2.1, t.2.2) := by decide +kernel
noncomputable def f_X9_pieceOf_5 (s_o1 : OS) : (Int64 × Int32) → Option ((Int64 × Int32) ⊕ (Nat × Int64)) := fun z => match z with | (b3, b5) => (if 64 ≤ b5 then some (.inr ((1, b3))) else (f_X9_nearToAny s_o1 b3).bind (fun x2 => bnd (b3 ||| x2 : Int64) (fun v5 => (if (lg_cmp v5 b3) = 0 then some (.inr ((0, b3))) else bnd (b5 + 1 : Int32) (fun v8 => some (.inl ((v5, v8))))))))
noncomputable def f_X9_pieceOf (st1 : OS) (a1 : Int64) : Option (Int64) := (lpv (f_X9_pieceOf_5 st1) ((a1, 0))).bind (fun x10 => match x10 with | (k13, v12) => (if k13 = 0 then some v12 else some v12))
set_option maxHeartbeats 4000000 in
set_option maxRecDepth 100000 in
theorem w_X9_pieceOf_5 {p : Program} {l : Launch} {e : Env} {s : State} {m : MethodId} {args : Array Value} {below : List Frame} {meth : Method} {c : Code} {Q : State → Prop} {G : mG} {h : mM} {q1 : Nat → Nat} (hq1 : oinj LX10 q1) (X : mX G p m c cX9_pieceOf 8 s args RX9) (s_o1 : OS) : ∀ (z : Int64 × Int32) (r : Nat × Int64), lpv (f_X9_pieceOf_5 s_o1) z = some r → ∀ (H : Heap) (locs : List Loc) (ls : Array Slot), mH G (oset LX10 G q1 s_o1 h) s.heap H locs → lv_has ls 8 [(0, .ref (q1 5)), (3, .long z.1), (5, .int z.2)] → (r.1 = 0 → ∀ (H : Heap) (locs : List Loc) (ls : Array Slot), mH G (oset LX10 G q1 s_o1 h) s.heap H locs → lv_has ls 8 [(3, .long r.2)] → W p l e rm_X9_pieceOf s m args below meth c H locs 0 0 Q (F0 m 28 ls [])) → (r.1 = 1 → ∀ (H : Heap) (locs : List Loc) (ls : Array Slot), mH G (oset LX10 G q1 s_o1 h) s.heap H locs → lv_has ls 8 [(3, .long r.2)] → W p l e rm_X9_pieceOf s m args below meth c H locs 0 0 Q (F0 m 40 ls [])) → W p l e rm_X9_pieceOf s m args below meth c H locs 0 0 Q (F0 m 5 ls []) := by
  refine lpv_rec ?_
  intro z r x hF hx H locs ls hH hl K0 K1
  obtain ⟨b3, b5⟩ := z
  dsimp only [f_X9_pieceOf_5] at hF
  try dsimp only at hH hl
  refine lv_iload X.x X.b (dk DX9_pieceOf_0 4 rfl) (lv_at hl 2 rfl) ?_
  refine lv_bipush (v := 64) X.x X.b (dk DX9_pieceOf_0 5 rfl) (by decide) ?_
  refine lv_icmp_ge (tgt := 40) X.x X.b (dk DX9_pieceOf_0 6 rfl) (by decide) (fun c1 => ?_) (fun c1 => ?_)
  · replace hF := if_t hF c1
    have hr9 := lp_r hF hx
    subst hr9
    exact K1 rfl _ _ _ hH (lv_sub hl [1] rfl)
  · replace hF := if_f hF c1
    refine lv_lload_n X.x X.b (dk DX9_pieceOf_0 7 rfl) rfl (lv_at hl 1 rfl) ?_
    refine lv_aload_n X.x X.b (dk DX9_pieceOf_0 8 rfl) rfl (lv_at hl 0 rfl) ?_
    refine lv_lload_n X.x X.b (dk DX9_pieceOf_0 9 rfl) rfl (lv_at hl 1 rfl) ?_
    obtain ⟨x2, e3, hF⟩ := bd hF
    refine mr_cl0 hH ⟨rfl, rfl⟩ (mr_runS (As := [.ref (q1 5), .long b3]) (rest := [.long b3]) X hH (c_X9_nearToAny hq1 e3) kM_X9_73 kT_X9_nearToAny kN_X9 kC_X9_nearToAny hd_X9_nearToAny ⟨Nat.le_of_ble_eq_true rfl, Nat.le_of_ble_eq_true rfl⟩ rfl hl.1 (Nat.le_of_ble_eq_true rfl) (dk DX9_pieceOf_0 10 rfl) ⟨Nat.zero_le _, Nat.zero_le _⟩) (fun r h1 H locs hp hH => ?_)
    obtain ⟨hr1, hr2⟩ := hp; rw [hr1]; rw [hr2] at hH; clear hr1 hr2
    refine lv_lor X.x X.b (dk DX9_pieceOf_0 11 rfl) ?_
    refine lv_topl (fun v5 e6 => ?_)
    replace hF := bnd_e hF e6
    refine lv_lstore (lv' := [(6, .long v5), (0, .ref (q1 5)), (3, .long b3), (5, .int b5)]) X.x X.b (dk DX9_pieceOf_0 12 rfl) hl (by decide) rfl (fun ls hl => ?_)
    replace hl : lv_has ls 8 [(0, .ref (q1 5)), (3, .long b3), (5, .int b5), (6, .long v5)] := lv_sub hl [1, 2, 3, 0] rfl
    refine lv_lload X.x X.b (dk DX9_pieceOf_0 13 rfl) (lv_at hl 3 rfl) ?_
    refine lv_lload_n X.x X.b (dk DX9_pieceOf_0 14 rfl) rfl (lv_at hl 1 rfl) ?_
    refine W.lcmp X.x X.b (dk DX9_pieceOf_0 15 rfl) ?_
    refine lv_if_ne (tgt := 31) X.x X.b (dk DX9_pieceOf_0 16 rfl) (by decide) (fun c7 => ?_) (fun c7 => ?_)
    · replace hF := if_f hF c7
      refine lv_lload X.x X.b (dk DX9_pieceOf_0 18 rfl) (lv_at hl 3 rfl) ?_
      refine lv_lstore_n (lv' := [(3, .long v5), (0, .ref (q1 5)), (5, .int b5), (6, .long v5)]) X.x X.b (dk DX9_pieceOf_0 19 rfl) rfl hl (by decide) rfl (fun ls hl => ?_)
      replace hl : lv_has ls 8 [(0, .ref (q1 5)), (3, .long v5), (5, .int b5)] := lv_sub hl [1, 0, 2] rfl
      obtain ⟨v8, e9⟩ : ∃ y : Int32, y = b5 + 1 := ⟨_, rfl⟩
      replace hF := bnd_e hF e9
      refine lv_iinc (v := v8) (lv' := [(5, .int v8), (0, .ref (q1 5)), (3, .long v5)]) X.x X.b (dk DX9_pieceOf_0 20 rfl) hl (k := 2) rfl (by rw [e9]; rfl) (by decide) rfl (fun ls hl => ?_)
      replace hl : lv_has ls 8 [(0, .ref (q1 5)), (3, .long v5), (5, .int v8)] := lv_sub hl [1, 2, 0] rfl
      refine lv_goto (tgt := 5) X.x X.b (dk DX9_pieceOf_0 21 rfl) (by decide) ?_
      exact (lp_l hF hx) _ _ _ hH (lv_sub hl [0, 1, 2] rfl) K0 K1
    · replace hF := if_t hF c7
      have hr9 := lp_r hF hx
      subst hr9
      exact K0 rfl _ _ _ hH (lv_sub hl [1] rfl)
set_option maxHeartbeats 4000000 in
set_option maxRecDepth 100000 in
theorem c_X9_pieceOf {l : Launch} {G : mG} {h : mM} {q1 : Nat → Nat} (hq1 : oinj LX10 q1) {st1 : OS} {a1 : Int64} {x : Int64} (hF : f_X9_pieceOf st1 a1 = some x) : cQ l G yX9_pieceOf cX9_pieceOf 8 (some FieldType.long) rm_X9_pieceOf [.ref (q1 5), .long a1] (oset LX10 G q1 st1 h) (mQl G (fun r h1 => r = x ∧ h1 = oset LX10 G q1 st1 h)) := by
  refine mp_of (by decide +kernel) (Nat.le_of_ble_eq_true rfl) ?_
  intro p e s m below meth c X hr hlk hH hname ls hl
  dsimp only [f_X9_pieceOf] at hF
  replace hl : lv_has ls 8 [(0, .ref (q1 5)), (1, .long a1)] := hl
  refine lv_lload_n X.x X.b (dk DX9_pieceOf_0 0 rfl) rfl (lv_at hl 1 rfl) ?_
  refine lv_lstore_n (lv' := [(3, .long a1), (0, .ref (q1 5)), (1, .long a1)]) X.x X.b (dk DX9_pieceOf_0 1 rfl) rfl hl (by decide) rfl (fun ls hl => ?_)
  replace hl : lv_has ls 8 [(0, .ref (q1 5)), (3, .long a1)] := lv_sub hl [1, 0] rfl
  refine lv_iconst (v := 0) X.x X.b (dk DX9_pieceOf_0 2 rfl) (by decide) ?_
  refine lv_istore (lv' := [(5, .int 0), (0, .ref (q1 5)), (3, .long a1)]) X.x X.b (dk DX9_pieceOf_0 3 rfl) hl (by decide) rfl (fun ls hl => ?_)
  replace hl : lv_has ls 8 [(0, .ref (q1 5)), (3, .long a1), (5, .int 0)] := lv_sub hl [1, 2, 0] rfl
  obtain ⟨x10, e11, hF⟩ := bd hF
  replace hl : lv_has ls 8 [(0, .ref (q1 5)), (3, .long a1), (5, .int 0)] := lv_sub hl [0, 1, 2] rfl
  obtain ⟨k13, v12⟩ := x10
  try dsimp only at hF
  refine w_X9_pieceOf_5 hq1 X st1 _ _ e11 _ _ _ hH hl (fun hk H locs ls hH hl => ?_) (fun hk H locs ls hH hl => ?_)
  · try dsimp only at hH hl
    try dsimp only at hk
    subst hk
    replace hF := if_t hF rfl
    refine lv_goto (tgt := 40) X.x X.b (dk DX9_pieceOf_0 17 rfl) (by decide) ?_
    refine lv_lload_n X.x X.b (dk DX9_pieceOf_0 22 rfl) rfl (lv_at hl 0 rfl) ?_
    cases sm hF
    exact mr_lret X hr hlk hH ⟨rfl, rfl⟩ (dk DX9_pieceOf_0 23 rfl)
  · try dsimp only at hH hl
    try dsimp only at hk
    subst hk
    replace hF := if_f hF (by decide)
    refine lv_lload_n X.x X.b (dk DX9_pieceOf_0 22 rfl) rfl (lv_at hl 0 rfl) ?_
    cases sm hF
    exact mr_lret X hr hlk hH ⟨rfl, rfl⟩ (dk DX9_pieceOf_0 23 rfl)
-- X9_pieces
abbrev rm_X9_pieces : Room := { frames := 3, cells := 0, slots := 0, locals := 74 }
theorem hd_X9_pieces : mHd yX9_pieces 1 := ⟨by decide +kernel, by decide +kernel, by decide +kernel⟩
theorem DX9_pieces_0 : ∀ t ∈ ([(0, .aload_n 0, 1), (1, .invokevirtual 80, 3), (4, .lstore_n 1, 1), (5, .iconst 0, 1), (6, .istore_n 3, 1), (7, .iconst 0, 1), (8, .istore 4, 2), (10, .iload 4, 2), (12, .bipush 64, 2), (14, .if_icmp .ge 33, 3), (17, .lload_n 1, 1), (18, .lconst 0, 1), (19, .lcmp, 1), (20, .ifCond .eq 27, 3), (23, .lload_n 1, 1), (24, .aload_n 0, 1), (25, .lload_n 1, 1), (26, .lload_n 1, 1), (27, .lneg, 1), (28, .land, 1), (29, .invokestatic 84, 3), (32, .ldc2_w 87, 3), (35, .lxor, 1), (36, .land, 1), (37, .lstore_n 1, 1), (38, .iinc 3 1, 3), (41, .iinc 4 1, 3), (44, .goto (-34), 3), (47, .iload_n 3, 1), (48, .ireturn, 1)] : List (Nat × Instr × Nat)), decode cX9_pieces t.1 = .ok (t.2.1, t.2.2) := by decide +kernel
noncomputable def f_X9_pieces_10 (s_o1 : OS) : (Int64 × Int32 × Int32) → Option ((Int64 × Int32 × Int32) ⊕ (Int32)) := fun z => match z with | (b1, b3, b4) => (if 64 ≤ b4 then some (.inr b3) else (if (lg_cmp b1 0) = 0 then some (.inr b3) else (f_X9_pieceOf s_o1 (b1 &&& (-b1))).bind (fun x6 => bnd (b1 &&& (x6 ^^^ ((-1))) : Int64) (fun v9 => bnd (b3 + 1 : Int32) (fun v11 => bnd (b4 + 1 : Int32) (fun v13 => some (.inl ((v9, v11, v13)))))))))
noncomputable def f_X9_pieces (st1 : OS) : Option (Int32) := (f_X10_all st1).bind (fun x1 => (lpv (f_X9_pieces_10 st1) ((x1, 0, 0))).bind (fun x15 => some x15))
set_option maxHeartbeats 4000000 in
set_option maxRecDepth 100000 in
theorem w_X9_pieces_10 {p : Program} {l : Launch} {e : Env} {s : State} {m : MethodId} {args : Array Value} {below : List Frame} {meth : Method} {c : Code} {Q : State → Prop} {G : mG} {h : mM} {q1 : Nat → Nat} (hq1 : oinj LX10 q1) (X : mX G p m c cX9_pieces 5 s args RX9) (s_o1 : OS) : ∀ (z : Int64 × Int32 × Int32) (r : Int32), lpv (f_X9_pieces_10 s_o1) z = some r → ∀ (H : Heap) (locs : List Loc) (ls : Array Slot), mH G (oset LX10 G q1 s_o1 h) s.heap H locs → lv_has ls 5 [(0, .ref (q1 5)), (1, .long z.1), (3, .int z.2.1), (4, .int z.2.2)] → (∀ (H : Heap) (locs : List Loc) (ls : Array Slot), mH G (oset LX10 G q1 s_o1 h) s.heap H locs → lv_has ls 5 [(3, .int r)] → W p l e rm_X9_pieces s m args below meth c H locs 0 0 Q (F0 m 47 ls [])) → W p l e rm_X9_pieces s m args below meth c H locs 0 0 Q (F0 m 10 ls []) := by
  refine lpv_rec ?_
  intro z r x hF hx H locs ls hH hl K0
  obtain ⟨b1, b3, b4⟩ := z
  dsimp only [f_X9_pieces_10] at hF
  try dsimp only at hH hl
  refine lv_iload X.x X.b (dk DX9_pieces_0 7 rfl) (lv_at hl 3 rfl) ?_
  refine lv_bipush (v := 64) X.x X.b (dk DX9_pieces_0 8 rfl) (by decide) ?_
  refine lv_icmp_ge (tgt := 47) X.x X.b (dk DX9_pieces_0 9 rfl) (by decide) (fun c4 => ?_) (fun c4 => ?_)
  · replace hF := if_t hF c4
    have hr9 := lp_r hF hx
    subst hr9
    exact K0 _ _ _ hH (lv_sub hl [2] rfl)
  · replace hF := if_f hF c4
    refine lv_lload_n X.x X.b (dk DX9_pieces_0 10 rfl) rfl (lv_at hl 1 rfl) ?_
    refine lv_lconst (v := 0) X.x X.b (dk DX9_pieces_0 11 rfl) (by decide) ?_
    refine W.lcmp X.x X.b (dk DX9_pieces_0 12 rfl) ?_
    refine lv_if_eq (tgt := 47) X.x X.b (dk DX9_pieces_0 13 rfl) (by decide) (fun c5 => ?_) (fun c5 => ?_)
    · replace hF := if_t hF c5
      have hr9 := lp_r hF hx
      subst hr9
      exact K0 _ _ _ hH (lv_sub hl [2] rfl)
    · replace hF := if_f hF c5
      refine lv_lload_n X.x X.b (dk DX9_pieces_0 14 rfl) rfl (lv_at hl 1 rfl) ?_
      refine lv_aload_n X.x X.b (dk DX9_pieces_0 15 rfl) rfl (lv_at hl 0 rfl) ?_
      refine lv_lload_n X.x X.b (dk DX9_pieces_0 16 rfl) rfl (lv_at hl 1 rfl) ?_
      refine lv_lload_n X.x X.b (dk DX9_pieces_0 17 rfl) rfl (lv_at hl 1 rfl) ?_
      refine lv_lneg X.x X.b (dk DX9_pieces_0 18 rfl) ?_
      refine lv_land X.x X.b (dk DX9_pieces_0 19 rfl) ?_
      obtain ⟨x6, e7, hF⟩ := bd hF
      refine mr_cl0 hH ⟨rfl, rfl⟩ (mr_runS (As := [.ref (q1 5), .long (b1 &&& (-b1))]) (rest := [.long b1]) X hH (c_X9_pieceOf hq1 e7) kM_X9_84 kT_X9_pieceOf kN_X9 kC_X9_pieceOf hd_X9_pieceOf ⟨Nat.le_of_ble_eq_true rfl, Nat.le_of_ble_eq_true rfl⟩ rfl hl.1 (Nat.le_of_ble_eq_true rfl) (dk DX9_pieces_0 20 rfl) ⟨Nat.zero_le _, Nat.zero_le _⟩) (fun r h1 H locs hp hH => ?_)
      obtain ⟨hr1, hr2⟩ := hp; rw [hr1]; rw [hr2] at hH; clear hr1 hr2
      refine lv_ldc2 (v := (-1)) X.x X.b X.ow (X.ts _ kK_X9_87) (dk DX9_pieces_0 21 rfl) ?_
      refine lv_lxor X.x X.b (dk DX9_pieces_0 22 rfl) ?_
      refine lv_land X.x X.b (dk DX9_pieces_0 23 rfl) ?_
      refine lv_topl (fun v9 e10 => ?_)
      replace hF := bnd_e hF e10
      refine lv_lstore_n (lv' := [(1, .long v9), (0, .ref (q1 5)), (3, .int b3), (4, .int b4)]) X.x X.b (dk DX9_pieces_0 24 rfl) rfl hl (by decide) rfl (fun ls hl => ?_)
      replace hl : lv_has ls 5 [(0, .ref (q1 5)), (1, .long v9), (3, .int b3), (4, .int b4)] := lv_sub hl [1, 0, 2, 3] rfl
      obtain ⟨v11, e12⟩ : ∃ y : Int32, y = b3 + 1 := ⟨_, rfl⟩
      replace hF := bnd_e hF e12
      refine lv_iinc (v := v11) (lv' := [(3, .int v11), (0, .ref (q1 5)), (1, .long v9), (4, .int b4)]) X.x X.b (dk DX9_pieces_0 25 rfl) hl (k := 2) rfl (by rw [e12]; rfl) (by decide) rfl (fun ls hl => ?_)
      replace hl : lv_has ls 5 [(0, .ref (q1 5)), (1, .long v9), (3, .int v11), (4, .int b4)] := lv_sub hl [1, 2, 0, 3] rfl
      obtain ⟨v13, e14⟩ : ∃ y : Int32, y = b4 + 1 := ⟨_, rfl⟩
      replace hF := bnd_e hF e14
      refine lv_iinc (v := v13) (lv' := [(4, .int v13), (0, .ref (q1 5)), (1, .long v9), (3, .int v11)]) X.x X.b (dk DX9_pieces_0 26 rfl) hl (k := 3) rfl (by rw [e14]; rfl) (by decide) rfl (fun ls hl => ?_)
      replace hl : lv_has ls 5 [(0, .ref (q1 5)), (1, .long v9), (3, .int v11), (4, .int v13)] := lv_sub hl [1, 2, 3, 0] rfl
      refine lv_goto (tgt := 10) X.x X.b (dk DX9_pieces_0 27 rfl) (by decide) ?_
      exact (lp_l hF hx) _ _ _ hH (lv_sub hl [0, 1, 2, 3] rfl) K0
set_option maxHeartbeats 4000000 in
set_option maxRecDepth 100000 in
theorem c_X9_pieces {l : Launch} {G : mG} {h : mM} {q1 : Nat → Nat} (hq1 : oinj LX10 q1) {st1 : OS} {x : Int32} (hF : f_X9_pieces st1 = some x) : cQ l G yX9_pieces cX9_pieces 5 (some FieldType.int) rm_X9_pieces [.ref (q1 5)] (oset LX10 G q1 st1 h) (mQi G (fun r h1 => r = x ∧ h1 = oset LX10 G q1 st1 h)) := by
  refine mp_of (by decide +kernel) (Nat.le_of_ble_eq_true rfl) ?_
  intro p e s m below meth c X hr hlk hH hname ls hl
  dsimp only [f_X9_pieces] at hF
  replace hl : lv_has ls 5 [(0, .ref (q1 5))] := hl
  refine lv_aload_n X.x X.b (dk DX9_pieces_0 0 rfl) rfl (lv_at hl 0 rfl) ?_
  obtain ⟨x1, e2, hF⟩ := bd hF
  refine mr_cl0 hH ⟨rfl, rfl⟩ (mr_runV (As := []) (rest := []) X hH (c_X10_all hq1 e2) ((oset_at hq1 (Nat.le_refl _) ohas_N).trans (congrArg some ocell_N)) OX10.1 kM_X9_80 kI_X10_all kS_X10_all kN_X10 kC_X10_all hd_X10_all ⟨Nat.le_of_ble_eq_true rfl, Nat.le_of_ble_eq_true rfl⟩ rfl hl.1 (Nat.le_of_ble_eq_true rfl) (dk DX9_pieces_0 1 rfl) ⟨Nat.zero_le _, Nat.zero_le _⟩) (fun r h1 H locs hp hH => ?_)
  obtain ⟨hr1, hr2⟩ := hp; rw [hr1]; rw [hr2] at hH; clear hr1 hr2
  refine lv_lstore_n (lv' := [(1, .long x1), (0, .ref (q1 5))]) X.x X.b (dk DX9_pieces_0 2 rfl) rfl hl (by decide) rfl (fun ls hl => ?_)
  replace hl : lv_has ls 5 [(0, .ref (q1 5)), (1, .long x1)] := lv_sub hl [1, 0] rfl
  refine lv_iconst (v := 0) X.x X.b (dk DX9_pieces_0 3 rfl) (by decide) ?_
  refine lv_istore_n (lv' := [(3, .int 0), (0, .ref (q1 5)), (1, .long x1)]) X.x X.b (dk DX9_pieces_0 4 rfl) rfl hl (by decide) rfl (fun ls hl => ?_)
  replace hl : lv_has ls 5 [(0, .ref (q1 5)), (1, .long x1), (3, .int 0)] := lv_sub hl [1, 2, 0] rfl
  refine lv_iconst (v := 0) X.x X.b (dk DX9_pieces_0 5 rfl) (by decide) ?_
  refine lv_istore (lv' := [(4, .int 0), (0, .ref (q1 5)), (1, .long x1), (3, .int 0)]) X.x X.b (dk DX9_pieces_0 6 rfl) hl (by decide) rfl (fun ls hl => ?_)
  replace hl : lv_has ls 5 [(0, .ref (q1 5)), (1, .long x1), (3, .int 0), (4, .int 0)] := lv_sub hl [1, 2, 3, 0] rfl
  obtain ⟨x15, e16, hF⟩ := bd hF
  replace hl : lv_has ls 5 [(0, .ref (q1 5)), (1, .long x1), (3, .int 0), (4, .int 0)] := lv_sub hl [0, 1, 2, 3] rfl
  refine w_X9_pieces_10 hq1 X st1 _ _ e16 _ _ _ hH hl (fun H locs ls hH hl => ?_)
  refine lv_iload_n X.x X.b (dk DX9_pieces_0 28 rfl) rfl (lv_at hl 0 rfl) ?_
  cases sm hF
  exact mr_iret X hr hlk hH ⟨rfl, rfl⟩ (dk DX9_pieces_0 29 rfl)
-- X9_reach
abbrev rm_X9_reach : Room := { frames := 0, cells := 0, slots := 0, locals := 0 }
theorem hd_X9_reach : mHd yX9_reach 2 := ⟨by decide +kernel, by decide +kernel, by decide +kernel⟩
theorem DX9_reach_0 : ∀ t ∈ ([(0, .aload_n 0, 1), (1, .getfield 23, 3), (4, .iload_n 1, 1), (5, .iaload, 1), (6, .iconst (-1), 1), (7, .if_icmp .eq 19, 3), (10, .aload_n 0, 1), (11, .getfield 23, 3), (14, .iload_n 2, 1), (15, .iaload, 1), (16, .aload_n 0, 1), (17, .getfield 23, 3), (20, .iload_n 1, 1), (21, .iaload, 1), (22, .iadd, 1), (23, .iconst 1, 1), (24, .iadd, 1), (25, .ireturn, 1), (26, .aload_n 0, 1), (27, .getfield 99, 3), (30, .sipush 128, 3), (33, .if_icmp .ge 44, 3), (36, .aload_n 0, 1), (37, .getfield 23, 3), (40, .iload_n 1, 1), (41, .aload_n 0, 1), (42, .getfield 23, 3), (45, .iload_n 2, 1), (46, .iaload, 1), (47, .iconst 1, 1), (48, .iadd, 1), (49, .iastore, 1), (50, .aload_n 0, 1), (51, .getfield 27, 3), (54, .iload_n 1, 1), (55, .iload_n 2, 1), (56, .iastore, 1), (57, .aload_n 0, 1), (58, .getfield 30, 3), (61, .aload_n 0, 1), (62, .getfield 99, 3), (65, .iload_n 1, 1), (66, .iastore, 1), (67, .aload_n 0, 1), (68, .dup, 1), (69, .getfield 99, 3), (72, .iconst 1, 1), (73, .iadd, 1), (74, .putfield 99, 3), (77, .sipush 1000, 3), (80, .ireturn, 1)] : List (Nat × Instr × Nat)), decode cX9_reach t.1 = .ok (t.2.1, t.2.2) := by decide +kernel
noncomputable def f_X9_reach (st : OS) (a0 : Int32) (a1 : Int32) : Option (Int32 × OS) := if inb a0 128 = true then (if (st.2.2.1 3 (a0 : Int32).toNatClampNeg) = ((-1)) then (if 128 ≤ (st.1 6) then some ((1000, st)) else if inb a1 128 = true then bnd (oA st 3 (upd (st.2.2.1 3) (a0 : Int32).toNatClampNeg ((st.2.2.1 3 (a1 : Int32).toNatClampNeg) + 1))) (fun t5 => bnd (oA t5 4 (upd (t5.2.2.1 4) (a0 : Int32).toNatClampNeg a1)) (fun t7 => if inb (t7.1 6) 128 = true then bnd (oA t7 5 (upd (t7.2.2.1 5) (t7.1 6 : Int32).toNatClampNeg a0)) (fun t10 => bnd (oI t10 6 ((t10.1 6) + 1)) (fun t12 => some ((1000, t12)))) else none)) else none) else if inb a1 128 = true then some ((((st.2.2.1 3 (a1 : Int32).toNatClampNeg) + (st.2.2.1 3 (a0 : Int32).toNatClampNeg)) + 1, st)) else none) else none
set_option maxHeartbeats 4000000 in
set_option maxRecDepth 100000 in
theorem c_X9_reach {l : Launch} {G : mG} {h : mM} {q : Nat → Nat} (hq : oinj LX9 q) {st : OS} {a0 : Int32} {a1 : Int32} {x : Int32 × OS} (hF : f_X9_reach st a0 a1 = some x) : cQ l G yX9_reach cX9_reach 3 (some FieldType.int) rm_X9_reach [.ref (q 7), .int a0, .int a1] (oset LX9 G q st h) (mQi G (fun r h1 => r = x.1 ∧ h1 = oset LX9 G q x.2 h)) := by
  refine mp_of (by decide +kernel) (Nat.le_of_ble_eq_true rfl) ?_
  intro p e s m below meth c X hr hlk hH hname ls hl
  dsimp only [f_X9_reach] at hF
  replace hl : lv_has ls 3 [(0, .ref (q 7)), (1, .int a0), (2, .int a1)] := hl
  refine lv_aload_n X.x X.b (dk DX9_reach_0 0 rfl) rfl (lv_at hl 0 rfl) ?_
  refine og_getR (t := 0) OX9 X hq hH 3 (by decide) rfl kF_X9_23 (dk DX9_reach_0 1 rfl) ?_
  refine lv_iload_n X.x X.b (dk DX9_reach_0 2 rfl) rfl (lv_at hl 1 rfl) ?_
  obtain ⟨c1, hF⟩ := gd hF
  refine og_iald X hq hH 3 (by decide) rfl (inb_in c1) (dk DX9_reach_0 3 rfl) ?_
  refine lv_iconst (v := (-1)) X.x X.b (dk DX9_reach_0 4 rfl) (by decide) ?_
  refine lv_icmp_eq (tgt := 26) X.x X.b (dk DX9_reach_0 5 rfl) (by decide) (fun c2 => ?_) (fun c2 => ?_)
  · replace hF := if_t hF c2
    refine lv_aload_n X.x X.b (dk DX9_reach_0 18 rfl) rfl (lv_at hl 0 rfl) ?_
    refine og_getI OX9 X hq hH 6 (by decide) rfl kF_X9_99 (dk DX9_reach_0 19 rfl) ?_
    refine lv_sipush (v := 128) X.x X.b (dk DX9_reach_0 20 rfl) (by decide) ?_
    refine lv_icmp_ge (tgt := 77) X.x X.b (dk DX9_reach_0 21 rfl) (by decide) (fun c3 => ?_) (fun c3 => ?_)
    · replace hF := if_t hF c3
      refine lv_sipush (v := 1000) X.x X.b (dk DX9_reach_0 49 rfl) (by decide) ?_
      cases sm hF
      exact mr_iret X hr hlk hH ⟨rfl, rfl⟩ (dk DX9_reach_0 50 rfl)
    · replace hF := if_f hF c3
      refine lv_aload_n X.x X.b (dk DX9_reach_0 22 rfl) rfl (lv_at hl 0 rfl) ?_
      refine og_getR (t := 0) OX9 X hq hH 3 (by decide) rfl kF_X9_23 (dk DX9_reach_0 23 rfl) ?_
      refine lv_iload_n X.x X.b (dk DX9_reach_0 24 rfl) rfl (lv_at hl 1 rfl) ?_
      refine lv_aload_n X.x X.b (dk DX9_reach_0 25 rfl) rfl (lv_at hl 0 rfl) ?_
      refine og_getR (t := 0) OX9 X hq hH 3 (by decide) rfl kF_X9_23 (dk DX9_reach_0 26 rfl) ?_
      refine lv_iload_n X.x X.b (dk DX9_reach_0 27 rfl) rfl (lv_at hl 2 rfl) ?_
      obtain ⟨c4, hF⟩ := gd hF
      refine og_iald X hq hH 3 (by decide) rfl (inb_in c4) (dk DX9_reach_0 28 rfl) ?_
      refine lv_iconst (v := 1) X.x X.b (dk DX9_reach_0 29 rfl) (by decide) ?_
      refine lv_iadd X.x X.b (dk DX9_reach_0 30 rfl) ?_
      refine og_iast X hq hH 3 (by decide) rfl (inb_in c1) (dk DX9_reach_0 31 rfl) (fun H locs hH => ?_)
      obtain ⟨t5, e6⟩ : ∃ y, y = oA st 3 (upd (st.2.2.1 3) (a0 : Int32).toNatClampNeg ((st.2.2.1 3 (a1 : Int32).toNatClampNeg) + 1)) := ⟨_, rfl⟩
      rw [← e6] at hH
      replace hF := bnd_e hF e6
      refine lv_aload_n X.x X.b (dk DX9_reach_0 32 rfl) rfl (lv_at hl 0 rfl) ?_
      refine og_getR (t := 0) OX9 X hq hH 4 (by decide) rfl kF_X9_27 (dk DX9_reach_0 33 rfl) ?_
      refine lv_iload_n X.x X.b (dk DX9_reach_0 34 rfl) rfl (lv_at hl 1 rfl) ?_
      refine lv_iload_n X.x X.b (dk DX9_reach_0 35 rfl) rfl (lv_at hl 2 rfl) ?_
      refine og_iast X hq hH 4 (by decide) rfl (inb_in c1) (dk DX9_reach_0 36 rfl) (fun H locs hH => ?_)
      obtain ⟨t7, e8⟩ : ∃ y, y = oA t5 4 (upd (t5.2.2.1 4) (a0 : Int32).toNatClampNeg a1) := ⟨_, rfl⟩
      rw [← e8] at hH
      replace hF := bnd_e hF e8
      refine lv_aload_n X.x X.b (dk DX9_reach_0 37 rfl) rfl (lv_at hl 0 rfl) ?_
      refine og_getR (t := 0) OX9 X hq hH 5 (by decide) rfl kF_X9_30 (dk DX9_reach_0 38 rfl) ?_
      refine lv_aload_n X.x X.b (dk DX9_reach_0 39 rfl) rfl (lv_at hl 0 rfl) ?_
      refine og_getI OX9 X hq hH 6 (by decide) rfl kF_X9_99 (dk DX9_reach_0 40 rfl) ?_
      refine lv_iload_n X.x X.b (dk DX9_reach_0 41 rfl) rfl (lv_at hl 1 rfl) ?_
      obtain ⟨c9, hF⟩ := gd hF
      refine og_iast X hq hH 5 (by decide) rfl (inb_in c9) (dk DX9_reach_0 42 rfl) (fun H locs hH => ?_)
      obtain ⟨t10, e11⟩ : ∃ y, y = oA t7 5 (upd (t7.2.2.1 5) (t7.1 6 : Int32).toNatClampNeg a0) := ⟨_, rfl⟩
      rw [← e11] at hH
      replace hF := bnd_e hF e11
      refine lv_aload_n X.x X.b (dk DX9_reach_0 43 rfl) rfl (lv_at hl 0 rfl) ?_
      refine lv_dup X.x X.b (dk DX9_reach_0 44 rfl) rfl ?_
      refine og_getI OX9 X hq hH 6 (by decide) rfl kF_X9_99 (dk DX9_reach_0 45 rfl) ?_
      refine lv_iconst (v := 1) X.x X.b (dk DX9_reach_0 46 rfl) (by decide) ?_
      refine lv_iadd X.x X.b (dk DX9_reach_0 47 rfl) ?_
      refine og_putI OX9 X hq hH 6 (by decide) rfl kF_X9_99 rfl rfl rfl (dk DX9_reach_0 48 rfl) (fun H locs hH => ?_)
      obtain ⟨t12, e13⟩ : ∃ y, y = oI t10 6 ((t10.1 6) + 1) := ⟨_, rfl⟩
      rw [← e13] at hH
      replace hF := bnd_e hF e13
      refine lv_sipush (v := 1000) X.x X.b (dk DX9_reach_0 49 rfl) (by decide) ?_
      cases sm hF
      exact mr_iret X hr hlk hH ⟨rfl, rfl⟩ (dk DX9_reach_0 50 rfl)
  · replace hF := if_f hF c2
    refine lv_aload_n X.x X.b (dk DX9_reach_0 6 rfl) rfl (lv_at hl 0 rfl) ?_
    refine og_getR (t := 0) OX9 X hq hH 3 (by decide) rfl kF_X9_23 (dk DX9_reach_0 7 rfl) ?_
    refine lv_iload_n X.x X.b (dk DX9_reach_0 8 rfl) rfl (lv_at hl 2 rfl) ?_
    obtain ⟨c14, hF⟩ := gd hF
    refine og_iald X hq hH 3 (by decide) rfl (inb_in c14) (dk DX9_reach_0 9 rfl) ?_
    refine lv_aload_n X.x X.b (dk DX9_reach_0 10 rfl) rfl (lv_at hl 0 rfl) ?_
    refine og_getR (t := 0) OX9 X hq hH 3 (by decide) rfl kF_X9_23 (dk DX9_reach_0 11 rfl) ?_
    refine lv_iload_n X.x X.b (dk DX9_reach_0 12 rfl) rfl (lv_at hl 1 rfl) ?_
    refine og_iald X hq hH 3 (by decide) rfl (inb_in c1) (dk DX9_reach_0 13 rfl) ?_
    refine lv_iadd X.x X.b (dk DX9_reach_0 14 rfl) ?_
    refine lv_iconst (v := 1) X.x X.b (dk DX9_reach_0 15 rfl) (by decide) ?_
    refine lv_iadd X.x X.b (dk DX9_reach_0 16 rfl) ?_
    cases sm hF
    exact mr_iret X hr hlk hH ⟨rfl, rfl⟩ (dk DX9_reach_0 17 rfl)
-- X9_ringFrom
abbrev rm_X9_ringFrom : Room := { frames := 2, cells := 0, slots := 0, locals := 43 }
theorem hd_X9_ringFrom : mHd yX9_ringFrom 3 := ⟨by decide +kernel, by decide +kernel, by decide +kernel⟩
theorem DX9_ringFrom_0 : ∀ t ∈ ([(0, .aload_n 0, 1), (1, .getfield 23, 3), (4, .iconst (-1), 1), (5, .invokestatic 93, 3), (8, .aload_n 0, 1), (9, .getfield 30, 3), (12, .iconst 0, 1), (13, .iload_n 2, 1), (14, .iastore, 1), (15, .aload_n 0, 1), (16, .getfield 27, 3), (19, .iload_n 2, 1), (20, .iconst (-1), 1), (21, .iastore, 1), (22, .aload_n 0, 1), (23, .getfield 23, 3), (26, .iload_n 2, 1), (27, .iconst 0, 1), (28, .iastore, 1), (29, .aload_n 0, 1), (30, .iconst 1, 1), (31, .putfield 99, 3), (34, .iload_n 3, 1), (35, .istore 4, 2), (37, .iconst 0, 1), (38, .istore 5, 2), (40, .iload 5, 2), (42, .aload_n 0, 1), (43, .getfield 99, 3), (46, .if_icmp .ge 172, 3), (49, .iload 5, 2), (51, .sipush 128, 3), (54, .if_icmp .ge 164, 3), (57, .iconst 2, 1), (58, .aload_n 0, 1), (59, .getfield 23, 3), (62, .aload_n 0, 1), (63, .getfield 30, 3), (66, .iload 5, 2), (68, .iaload, 1), (69, .iaload, 1), (70, .imul, 1), (71, .iconst 2, 1), (72, .iadd, 1), (73, .iload 4, 2), (75, .if_icmp .ge 143, 3), (78, .aload_n 0, 1), (79, .getfield 30, 3), (82, .iload 5, 2), (84, .iaload, 1), (85, .istore 6, 2), (87, .iload 6, 2), (89, .bipush 64, 2), (91, .if_icmp .ge 7, 3), (94, .iconst 1, 1), (95, .goto 4, 3), (98, .iconst 0, 1), (99, .istore 7, 2), (101, .iload 7, 2), (103, .ifCond .eq 12, 3)] : List (Nat × Instr × Nat)), decode cX9_ringFrom t.1 = .ok (t.2.1, t.2.2) := by decide +kernel
theorem DX9_ringFrom_1 : ∀ t ∈ ([(106, .aload_n 1, 1), (107, .iload 6, 2), (109, .invokevirtual 102, 3), (112, .goto 12, 3), (115, .aload_n 1, 1), (116, .iload 6, 2), (118, .bipush 64, 2), (120, .isub, 1), (121, .invokevirtual 105, 3), (124, .lstore 8, 2), (126, .iconst 0, 1), (127, .istore 10, 2), (129, .iload 10, 2), (131, .bipush 64, 2), (133, .if_icmp .ge 79, 3), (136, .lload 8, 2), (138, .lconst 0, 1), (139, .lcmp, 1), (140, .ifCond .eq 72, 3), (143, .lload 8, 2), (145, .invokestatic 57, 3), (148, .iload 7, 2), (150, .ifCond .eq 8, 3), (153, .bipush 64, 2), (155, .goto 4, 3), (158, .iconst 0, 1), (159, .iadd, 1), (160, .istore 11, 2), (162, .lload 8, 2), (164, .lload 8, 2), (166, .lconst 1, 1), (167, .lsub, 1), (168, .land, 1), (169, .lstore 8, 2), (171, .iload 11, 2), (173, .sipush 128, 3), (176, .if_icmp .ge 30, 3), (179, .iload 11, 2), (181, .aload_n 0, 1), (182, .getfield 27, 3), (185, .iload 6, 2), (187, .iaload, 1), (188, .if_icmp .eq 18, 3), (191, .iload 4, 2), (193, .aload_n 0, 1), (194, .iload 11, 2), (196, .iload 6, 2), (198, .invokevirtual 108, 3), (201, .invokestatic 63, 3), (204, .istore 4, 2), (206, .iinc 10 1, 3), (209, .goto (-80), 3), (212, .iinc 5 1, 3), (215, .goto (-175), 3), (218, .iload 4, 2), (220, .ireturn, 1)] : List (Nat × Instr × Nat)), decode cX9_ringFrom t.1 = .ok (t.2.1, t.2.2) := by decide +kernel
noncomputable def f_X9_ringFrom_129 (s_o1 : OS) (b5 : Int32) (b6 : Int32) (b7 : Int32) : (OS × Int32 × Int64 × Int32) → Option ((OS × Int32 × Int64 × Int32) ⊕ (OS × Int32)) := fun z => match z with | (s_t, b4, b8, b10) => (if 64 ≤ b10 then some (.inr ((s_t, b4))) else (if (lg_cmp b8 0) = 0 then some (.inr ((s_t, b4))) else (f_J13_numberOfTrailingZeros_95d88 b8).bind (fun x27 => (if b7 = 0 then bnd (x27 + 0 : Int32) (fun v31 => bnd (b8 &&& (b8 - 1) : Int64) (fun v33 => (if 128 ≤ v31 then bnd (b10 + 1 : Int32) (fun v36 => some (.inl ((s_t, b4, v33, v36)))) else if inb b6 128 = true then (if v31 = (s_t.2.2.1 4 (b6 : Int32).toNatClampNeg) then bnd (b10 + 1 : Int32) (fun v40 => some (.inl ((s_t, b4, v33, v40)))) else (f_X9_reach s_t v31 b6).bind (fun x42 => match x42 with | (v44, t45) => (f_J9_min_7cf53 b4 v44).bind (fun x46 => bnd (b10 + 1 : Int32) (fun v49 => some (.inl ((t45, x46, v33, v49))))))) else none))) else bnd (x27 + 64 : Int32) (fun v51 => bnd (b8 &&& (b8 - 1) : Int64) (fun v53 => (if 128 ≤ v51 then bnd (b10 + 1 : Int32) (fun v56 => some (.inl ((s_t, b4, v53, v56)))) else if inb b6 128 = true then (if v51 = (s_t.2.2.1 4 (b6 : Int32).toNatClampNeg) then bnd (b10 + 1 : Int32) (fun v60 => some (.inl ((s_t, b4, v53, v60)))) else (f_X9_reach s_t v51 b6).bind (fun x62 => match x62 with | (v64, t65) => (f_J9_min_7cf53 b4 v64).bind (fun x66 => bnd (b10 + 1 : Int32) (fun v69 => some (.inl ((t65, x66, v53, v69))))))) else none)))))))
noncomputable def f_X9_ringFrom_40 (s_o1 : OS) : (OS × Int32 × Int32) → Option ((OS × Int32 × Int32) ⊕ (OS × Int32)) := fun z => match z with | (s_t, b4, b5) => (if (s_t.1 6) ≤ b5 then some (.inr ((s_t, b4))) else (if 128 ≤ b5 then some (.inr ((s_t, b4))) else if inb b5 128 = true then if inb (s_t.2.2.1 5 (b5 : Int32).toNatClampNeg) 128 = true then (if b4 ≤ ((2 : Int32) * (s_t.2.2.1 3 (s_t.2.2.1 5 (b5 : Int32).toNatClampNeg : Int32).toNatClampNeg)) + 2 then some (.inr ((s_t, b4))) else bnd (s_t.2.2.1 5 (b5 : Int32).toNatClampNeg : Int32) (fun v18 => (if 64 ≤ v18 then (if (0 : Int32) = 0 then (f_X10_setAt s_o1 (v18 - 64)).bind (fun x22 => (lpv (f_X9_ringFrom_129 s_o1 b5 v18 0) ((s_t, b4, x22, 0))).bind (fun x71 => match x71 with | (t73, v74) => bnd (b5 + 1 : Int32) (fun v75 => some (.inl ((t73, v74, v75)))))) else (f_X10_throughAt s_o1 v18).bind (fun x77 => (lpv (f_X9_ringFrom_129 s_o1 b5 v18 0) ((s_t, b4, x77, 0))).bind (fun x80 => match x80 with | (t82, v83) => bnd (b5 + 1 : Int32) (fun v84 => some (.inl ((t82, v83, v84))))))) else (if (1 : Int32) = 0 then (f_X10_setAt s_o1 (v18 - 64)).bind (fun x87 => (lpv (f_X9_ringFrom_129 s_o1 b5 v18 1) ((s_t, b4, x87, 0))).bind (fun x90 => match x90 with | (t92, v93) => bnd (b5 + 1 : Int32) (fun v94 => some (.inl ((t92, v93, v94)))))) else (f_X10_throughAt s_o1 v18).bind (fun x96 => (lpv (f_X9_ringFrom_129 s_o1 b5 v18 1) ((s_t, b4, x96, 0))).bind (fun x99 => match x99 with | (t101, v102) => bnd (b5 + 1 : Int32) (fun v103 => some (.inl ((t101, v102, v103)))))))))) else none else none))
noncomputable def f_X9_ringFrom (st : OS) (st1 : OS) (a1 : Int32) (a2 : Int32) : Option (Int32 × OS) := bnd (oA st 3 (fillF 128 ((-1)) (st.2.2.1 3))) (fun t1 => if inb 0 128 = true then bnd (oA t1 5 (upd (t1.2.2.1 5) (0 : Int32).toNatClampNeg a1)) (fun t4 => if inb a1 128 = true then bnd (oA t4 4 (upd (t4.2.2.1 4) (a1 : Int32).toNatClampNeg ((-1)))) (fun t7 => bnd (oA t7 3 (upd (t7.2.2.1 3) (a1 : Int32).toNatClampNeg 0)) (fun t9 => bnd (oI t9 6 1) (fun t11 => (lpv (f_X9_ringFrom_40 st1) ((t11, a2, 0))).bind (fun x105 => match x105 with | (t107, v108) => some ((v108, t107)))))) else none) else none)
set_option maxHeartbeats 4000000 in
set_option maxRecDepth 100000 in
theorem w_X9_ringFrom_129 {p : Program} {l : Launch} {e : Env} {s : State} {m : MethodId} {args : Array Value} {below : List Frame} {meth : Method} {c : Code} {Q : State → Prop} {G : mG} {h : mM} {q : Nat → Nat} {q1 : Nat → Nat} (hq : oinj LX9 q) (hq1 : oinj LX10 q1) (ha : oap [(LX9, q), (LX10, q1)]) (X : mX G p m c cX9_ringFrom 12 s args RX9) (s_o1 : OS) (b5 : Int32) (b6 : Int32) (b7 : Int32) : ∀ (z : OS × Int32 × Int64 × Int32) (r : OS × Int32), lpv (f_X9_ringFrom_129 s_o1 b5 b6 b7) z = some r → ∀ (H : Heap) (locs : List Loc) (ls : Array Slot), mH G (oset LX9 G q z.1 (oset LX10 G q1 s_o1 h)) s.heap H locs → lv_has ls 12 [(0, .ref (q 7)), (1, .ref (q1 5)), (4, .int z.2.1), (5, .int b5), (6, .int b6), (7, .int b7), (8, .long z.2.2.1), (10, .int z.2.2.2)] → (∀ (H : Heap) (locs : List Loc) (ls : Array Slot), mH G (oset LX9 G q r.1 (oset LX10 G q1 s_o1 h)) s.heap H locs → lv_has ls 12 [(0, .ref (q 7)), (1, .ref (q1 5)), (4, .int r.2), (5, .int b5)] → W p l e rm_X9_ringFrom s m args below meth c H locs 0 0 Q (F0 m 212 ls [])) → W p l e rm_X9_ringFrom s m args below meth c H locs 0 0 Q (F0 m 129 ls []) := by
  refine lpv_rec ?_
  intro z r x hF hx H locs ls hH hl K0
  obtain ⟨s_t, b4, b8, b10⟩ := z
  dsimp only [f_X9_ringFrom_129] at hF
  try dsimp only at hH hl
  refine lv_iload X.x X.b (dk DX9_ringFrom_1 12 rfl) (lv_at hl 7 rfl) ?_
  refine lv_bipush (v := 64) X.x X.b (dk DX9_ringFrom_1 13 rfl) (by decide) ?_
  refine lv_icmp_ge (tgt := 212) X.x X.b (dk DX9_ringFrom_1 14 rfl) (by decide) (fun c25 => ?_) (fun c25 => ?_)
  · replace hF := if_t hF c25
    have hr9 := lp_r hF hx
    subst hr9
    exact K0 _ _ _ hH (lv_sub hl [0, 1, 2, 3] rfl)
  · replace hF := if_f hF c25
    refine lv_lload X.x X.b (dk DX9_ringFrom_1 15 rfl) (lv_at hl 6 rfl) ?_
    refine lv_lconst (v := 0) X.x X.b (dk DX9_ringFrom_1 16 rfl) (by decide) ?_
    refine W.lcmp X.x X.b (dk DX9_ringFrom_1 17 rfl) ?_
    refine lv_if_eq (tgt := 212) X.x X.b (dk DX9_ringFrom_1 18 rfl) (by decide) (fun c26 => ?_) (fun c26 => ?_)
    · replace hF := if_t hF c26
      have hr9 := lp_r hF hx
      subst hr9
      exact K0 _ _ _ hH (lv_sub hl [0, 1, 2, 3] rfl)
    · replace hF := if_f hF c26
      refine lv_lload X.x X.b (dk DX9_ringFrom_1 19 rfl) (lv_at hl 6 rfl) ?_
      obtain ⟨x27, e28, hF⟩ := bd hF
      refine mr_ci0 hH ⟨rfl, rfl⟩ (mr_runS (As := [.long b8]) (rest := []) X hH (c_J13_numberOfTrailingZeros_95d88 e28) kM_X9_57 kT_J13_numberOfTrailingZeros_95d88 kN_J13 kC_J13_numberOfTrailingZeros_95d88 hd_J13_numberOfTrailingZeros_95d88 ⟨Nat.le_of_ble_eq_true rfl, Nat.le_of_ble_eq_true rfl⟩ rfl hl.1 (Nat.le_of_ble_eq_true rfl) (dk DX9_ringFrom_1 20 rfl) ⟨Nat.zero_le _, Nat.zero_le _⟩) (fun r h1 H locs hp hH => ?_)
      obtain ⟨hr1, hr2⟩ := hp; rw [hr1]; rw [hr2] at hH; clear hr1 hr2
      refine lv_iload X.x X.b (dk DX9_ringFrom_1 21 rfl) (lv_at hl 5 rfl) ?_
      refine lv_if_eq (tgt := 158) X.x X.b (dk DX9_ringFrom_1 22 rfl) (by decide) (fun c30 => ?_) (fun c30 => ?_)
      · replace hF := if_t hF c30
        refine lv_iconst (v := 0) X.x X.b (dk DX9_ringFrom_1 25 rfl) (by decide) ?_
        refine lv_iadd X.x X.b (dk DX9_ringFrom_1 26 rfl) ?_
        refine lv_topi (fun v31 e32 => ?_)
        replace hF := bnd_e hF e32
        refine lv_istore (lv' := [(11, .int v31), (0, .ref (q 7)), (1, .ref (q1 5)), (4, .int b4), (5, .int b5), (6, .int b6), (7, .int b7), (8, .long b8), (10, .int b10)]) X.x X.b (dk DX9_ringFrom_1 27 rfl) hl (by decide) rfl (fun ls hl => ?_)
        replace hl : lv_has ls 12 [(0, .ref (q 7)), (1, .ref (q1 5)), (4, .int b4), (5, .int b5), (6, .int b6), (7, .int b7), (8, .long b8), (10, .int b10), (11, .int v31)] := lv_sub hl [1, 2, 3, 4, 5, 6, 7, 8, 0] rfl
        refine lv_lload X.x X.b (dk DX9_ringFrom_1 28 rfl) (lv_at hl 6 rfl) ?_
        refine lv_lload X.x X.b (dk DX9_ringFrom_1 29 rfl) (lv_at hl 6 rfl) ?_
        refine lv_lconst (v := 1) X.x X.b (dk DX9_ringFrom_1 30 rfl) (by decide) ?_
        refine lv_lsub X.x X.b (dk DX9_ringFrom_1 31 rfl) ?_
        refine lv_land X.x X.b (dk DX9_ringFrom_1 32 rfl) ?_
        refine lv_topl (fun v33 e34 => ?_)
        replace hF := bnd_e hF e34
        refine lv_lstore (lv' := [(8, .long v33), (0, .ref (q 7)), (1, .ref (q1 5)), (4, .int b4), (5, .int b5), (6, .int b6), (7, .int b7), (10, .int b10), (11, .int v31)]) X.x X.b (dk DX9_ringFrom_1 33 rfl) hl (by decide) rfl (fun ls hl => ?_)
        replace hl : lv_has ls 12 [(0, .ref (q 7)), (1, .ref (q1 5)), (4, .int b4), (5, .int b5), (6, .int b6), (7, .int b7), (8, .long v33), (10, .int b10), (11, .int v31)] := lv_sub hl [1, 2, 3, 4, 5, 6, 0, 7, 8] rfl
        refine lv_iload X.x X.b (dk DX9_ringFrom_1 34 rfl) (lv_at hl 8 rfl) ?_
        refine lv_sipush (v := 128) X.x X.b (dk DX9_ringFrom_1 35 rfl) (by decide) ?_
        refine lv_icmp_ge (tgt := 206) X.x X.b (dk DX9_ringFrom_1 36 rfl) (by decide) (fun c35 => ?_) (fun c35 => ?_)
        · replace hF := if_t hF c35
          obtain ⟨v36, e37⟩ : ∃ y : Int32, y = b10 + 1 := ⟨_, rfl⟩
          replace hF := bnd_e hF e37
          refine lv_iinc (v := v36) (lv' := [(10, .int v36), (0, .ref (q 7)), (1, .ref (q1 5)), (4, .int b4), (5, .int b5), (6, .int b6), (7, .int b7), (8, .long v33), (11, .int v31)]) X.x X.b (dk DX9_ringFrom_1 50 rfl) hl (k := 7) rfl (by rw [e37]; rfl) (by decide) rfl (fun ls hl => ?_)
          replace hl : lv_has ls 12 [(0, .ref (q 7)), (1, .ref (q1 5)), (4, .int b4), (5, .int b5), (6, .int b6), (7, .int b7), (8, .long v33), (10, .int v36)] := lv_sub hl [1, 2, 3, 4, 5, 6, 7, 0] rfl
          refine lv_goto (tgt := 129) X.x X.b (dk DX9_ringFrom_1 51 rfl) (by decide) ?_
          exact (lp_l hF hx) _ _ _ hH (lv_sub hl [0, 1, 2, 3, 4, 5, 6, 7] rfl) K0
        · replace hF := if_f hF c35
          refine lv_iload X.x X.b (dk DX9_ringFrom_1 37 rfl) (lv_at hl 8 rfl) ?_
          refine lv_aload_n X.x X.b (dk DX9_ringFrom_1 38 rfl) rfl (lv_at hl 0 rfl) ?_
          refine og_getR (t := 0) OX9 X hq hH 4 (by decide) rfl kF_X9_27 (dk DX9_ringFrom_1 39 rfl) ?_
          refine lv_iload X.x X.b (dk DX9_ringFrom_1 40 rfl) (lv_at hl 4 rfl) ?_
          obtain ⟨c38, hF⟩ := gd hF
          refine og_iald X hq hH 4 (by decide) rfl (inb_in c38) (dk DX9_ringFrom_1 41 rfl) ?_
          refine lv_icmp_eq (tgt := 206) X.x X.b (dk DX9_ringFrom_1 42 rfl) (by decide) (fun c39 => ?_) (fun c39 => ?_)
          · replace hF := if_t hF c39
            obtain ⟨v40, e41⟩ : ∃ y : Int32, y = b10 + 1 := ⟨_, rfl⟩
            replace hF := bnd_e hF e41
            refine lv_iinc (v := v40) (lv' := [(10, .int v40), (0, .ref (q 7)), (1, .ref (q1 5)), (4, .int b4), (5, .int b5), (6, .int b6), (7, .int b7), (8, .long v33), (11, .int v31)]) X.x X.b (dk DX9_ringFrom_1 50 rfl) hl (k := 7) rfl (by rw [e41]; rfl) (by decide) rfl (fun ls hl => ?_)
            replace hl : lv_has ls 12 [(0, .ref (q 7)), (1, .ref (q1 5)), (4, .int b4), (5, .int b5), (6, .int b6), (7, .int b7), (8, .long v33), (10, .int v40)] := lv_sub hl [1, 2, 3, 4, 5, 6, 7, 0] rfl
            refine lv_goto (tgt := 129) X.x X.b (dk DX9_ringFrom_1 51 rfl) (by decide) ?_
            exact (lp_l hF hx) _ _ _ hH (lv_sub hl [0, 1, 2, 3, 4, 5, 6, 7] rfl) K0
          · replace hF := if_f hF c39
            refine lv_iload X.x X.b (dk DX9_ringFrom_1 43 rfl) (lv_at hl 2 rfl) ?_
            refine lv_aload_n X.x X.b (dk DX9_ringFrom_1 44 rfl) rfl (lv_at hl 0 rfl) ?_
            refine lv_iload X.x X.b (dk DX9_ringFrom_1 45 rfl) (lv_at hl 8 rfl) ?_
            refine lv_iload X.x X.b (dk DX9_ringFrom_1 46 rfl) (lv_at hl 4 rfl) ?_
            obtain ⟨x42, e43, hF⟩ := bd hF
            refine mr_ci0 hH ⟨rfl, rfl⟩ (mr_runV (As := [.int v31, .int b6]) (rest := [.int b4]) X hH (c_X9_reach hq e43) ((oset_at hq (Nat.le_refl _) ohas_N).trans (congrArg some ocell_N)) OX9.1 kM_X9_108 kI_X9_reach kS_X9_reach kN_X9 kC_X9_reach hd_X9_reach ⟨Nat.le_of_ble_eq_true rfl, Nat.le_of_ble_eq_true rfl⟩ rfl hl.1 (Nat.le_of_ble_eq_true rfl) (dk DX9_ringFrom_1 47 rfl) ⟨Nat.zero_le _, Nat.zero_le _⟩) (fun r h1 H locs hp hH => ?_)
            obtain ⟨hr1, hr2⟩ := hp; rw [hr1]; rw [hr2] at hH; clear hr1 hr2
            obtain ⟨v44, t45⟩ := x42
            try dsimp only at hF hH ⊢
            obtain ⟨x46, e47, hF⟩ := bd hF
            refine mr_ci0 hH ⟨rfl, rfl⟩ (mr_runS (As := [.int b4, .int v44]) (rest := []) X hH (c_J9_min_7cf53 e47) kM_X9_63 kT_J9_min_7cf53 kN_J9 kC_J9_min_7cf53 hd_J9_min_7cf53 ⟨Nat.le_of_ble_eq_true rfl, Nat.le_of_ble_eq_true rfl⟩ rfl hl.1 (Nat.le_of_ble_eq_true rfl) (dk DX9_ringFrom_1 48 rfl) ⟨Nat.zero_le _, Nat.zero_le _⟩) (fun r h1 H locs hp hH => ?_)
            obtain ⟨hr1, hr2⟩ := hp; rw [hr1]; rw [hr2] at hH; clear hr1 hr2
            refine lv_istore (lv' := [(4, .int x46), (0, .ref (q 7)), (1, .ref (q1 5)), (5, .int b5), (6, .int b6), (7, .int b7), (8, .long v33), (10, .int b10), (11, .int v31)]) X.x X.b (dk DX9_ringFrom_1 49 rfl) hl (by decide) rfl (fun ls hl => ?_)
            replace hl : lv_has ls 12 [(0, .ref (q 7)), (1, .ref (q1 5)), (4, .int x46), (5, .int b5), (6, .int b6), (7, .int b7), (8, .long v33), (10, .int b10)] := lv_sub hl [1, 2, 0, 3, 4, 5, 6, 7] rfl
            obtain ⟨v49, e50⟩ : ∃ y : Int32, y = b10 + 1 := ⟨_, rfl⟩
            replace hF := bnd_e hF e50
            refine lv_iinc (v := v49) (lv' := [(10, .int v49), (0, .ref (q 7)), (1, .ref (q1 5)), (4, .int x46), (5, .int b5), (6, .int b6), (7, .int b7), (8, .long v33)]) X.x X.b (dk DX9_ringFrom_1 50 rfl) hl (k := 7) rfl (by rw [e50]; rfl) (by decide) rfl (fun ls hl => ?_)
            replace hl : lv_has ls 12 [(0, .ref (q 7)), (1, .ref (q1 5)), (4, .int x46), (5, .int b5), (6, .int b6), (7, .int b7), (8, .long v33), (10, .int v49)] := lv_sub hl [1, 2, 3, 4, 5, 6, 7, 0] rfl
            refine lv_goto (tgt := 129) X.x X.b (dk DX9_ringFrom_1 51 rfl) (by decide) ?_
            exact (lp_l hF hx) _ _ _ hH (lv_sub hl [0, 1, 2, 3, 4, 5, 6, 7] rfl) K0
      · replace hF := if_f hF c30
        refine lv_bipush (v := 64) X.x X.b (dk DX9_ringFrom_1 23 rfl) (by decide) ?_
        refine lv_goto (tgt := 159) X.x X.b (dk DX9_ringFrom_1 24 rfl) (by decide) ?_
        refine lv_iadd X.x X.b (dk DX9_ringFrom_1 26 rfl) ?_
        refine lv_topi (fun v51 e52 => ?_)
        replace hF := bnd_e hF e52
        refine lv_istore (lv' := [(11, .int v51), (0, .ref (q 7)), (1, .ref (q1 5)), (4, .int b4), (5, .int b5), (6, .int b6), (7, .int b7), (8, .long b8), (10, .int b10)]) X.x X.b (dk DX9_ringFrom_1 27 rfl) hl (by decide) rfl (fun ls hl => ?_)
        replace hl : lv_has ls 12 [(0, .ref (q 7)), (1, .ref (q1 5)), (4, .int b4), (5, .int b5), (6, .int b6), (7, .int b7), (8, .long b8), (10, .int b10), (11, .int v51)] := lv_sub hl [1, 2, 3, 4, 5, 6, 7, 8, 0] rfl
        refine lv_lload X.x X.b (dk DX9_ringFrom_1 28 rfl) (lv_at hl 6 rfl) ?_
        refine lv_lload X.x X.b (dk DX9_ringFrom_1 29 rfl) (lv_at hl 6 rfl) ?_
        refine lv_lconst (v := 1) X.x X.b (dk DX9_ringFrom_1 30 rfl) (by decide) ?_
        refine lv_lsub X.x X.b (dk DX9_ringFrom_1 31 rfl) ?_
        refine lv_land X.x X.b (dk DX9_ringFrom_1 32 rfl) ?_
        refine lv_topl (fun v53 e54 => ?_)
        replace hF := bnd_e hF e54
        refine lv_lstore (lv' := [(8, .long v53), (0, .ref (q 7)), (1, .ref (q1 5)), (4, .int b4), (5, .int b5), (6, .int b6), (7, .int b7), (10, .int b10), (11, .int v51)]) X.x X.b (dk DX9_ringFrom_1 33 rfl) hl (by decide) rfl (fun ls hl => ?_)
        replace hl : lv_has ls 12 [(0, .ref (q 7)), (1, .ref (q1 5)), (4, .int b4), (5, .int b5), (6, .int b6), (7, .int b7), (8, .long v53), (10, .int b10), (11, .int v51)] := lv_sub hl [1, 2, 3, 4, 5, 6, 0, 7, 8] rfl
        refine lv_iload X.x X.b (dk DX9_ringFrom_1 34 rfl) (lv_at hl 8 rfl) ?_
        refine lv_sipush (v := 128) X.x X.b (dk DX9_ringFrom_1 35 rfl) (by decide) ?_
        refine lv_icmp_ge (tgt := 206) X.x X.b (dk DX9_ringFrom_1 36 rfl) (by decide) (fun c55 => ?_) (fun c55 => ?_)
        · replace hF := if_t hF c55
          obtain ⟨v56, e57⟩ : ∃ y : Int32, y = b10 + 1 := ⟨_, rfl⟩
          replace hF := bnd_e hF e57
          refine lv_iinc (v := v56) (lv' := [(10, .int v56), (0, .ref (q 7)), (1, .ref (q1 5)), (4, .int b4), (5, .int b5), (6, .int b6), (7, .int b7), (8, .long v53), (11, .int v51)]) X.x X.b (dk DX9_ringFrom_1 50 rfl) hl (k := 7) rfl (by rw [e57]; rfl) (by decide) rfl (fun ls hl => ?_)
          replace hl : lv_has ls 12 [(0, .ref (q 7)), (1, .ref (q1 5)), (4, .int b4), (5, .int b5), (6, .int b6), (7, .int b7), (8, .long v53), (10, .int v56)] := lv_sub hl [1, 2, 3, 4, 5, 6, 7, 0] rfl
          refine lv_goto (tgt := 129) X.x X.b (dk DX9_ringFrom_1 51 rfl) (by decide) ?_
          exact (lp_l hF hx) _ _ _ hH (lv_sub hl [0, 1, 2, 3, 4, 5, 6, 7] rfl) K0
        · replace hF := if_f hF c55
          refine lv_iload X.x X.b (dk DX9_ringFrom_1 37 rfl) (lv_at hl 8 rfl) ?_
          refine lv_aload_n X.x X.b (dk DX9_ringFrom_1 38 rfl) rfl (lv_at hl 0 rfl) ?_
          refine og_getR (t := 0) OX9 X hq hH 4 (by decide) rfl kF_X9_27 (dk DX9_ringFrom_1 39 rfl) ?_
          refine lv_iload X.x X.b (dk DX9_ringFrom_1 40 rfl) (lv_at hl 4 rfl) ?_
          obtain ⟨c58, hF⟩ := gd hF
          refine og_iald X hq hH 4 (by decide) rfl (inb_in c58) (dk DX9_ringFrom_1 41 rfl) ?_
          refine lv_icmp_eq (tgt := 206) X.x X.b (dk DX9_ringFrom_1 42 rfl) (by decide) (fun c59 => ?_) (fun c59 => ?_)
          · replace hF := if_t hF c59
            obtain ⟨v60, e61⟩ : ∃ y : Int32, y = b10 + 1 := ⟨_, rfl⟩
            replace hF := bnd_e hF e61
            refine lv_iinc (v := v60) (lv' := [(10, .int v60), (0, .ref (q 7)), (1, .ref (q1 5)), (4, .int b4), (5, .int b5), (6, .int b6), (7, .int b7), (8, .long v53), (11, .int v51)]) X.x X.b (dk DX9_ringFrom_1 50 rfl) hl (k := 7) rfl (by rw [e61]; rfl) (by decide) rfl (fun ls hl => ?_)
            replace hl : lv_has ls 12 [(0, .ref (q 7)), (1, .ref (q1 5)), (4, .int b4), (5, .int b5), (6, .int b6), (7, .int b7), (8, .long v53), (10, .int v60)] := lv_sub hl [1, 2, 3, 4, 5, 6, 7, 0] rfl
            refine lv_goto (tgt := 129) X.x X.b (dk DX9_ringFrom_1 51 rfl) (by decide) ?_
            exact (lp_l hF hx) _ _ _ hH (lv_sub hl [0, 1, 2, 3, 4, 5, 6, 7] rfl) K0
          · replace hF := if_f hF c59
            refine lv_iload X.x X.b (dk DX9_ringFrom_1 43 rfl) (lv_at hl 2 rfl) ?_
            refine lv_aload_n X.x X.b (dk DX9_ringFrom_1 44 rfl) rfl (lv_at hl 0 rfl) ?_
            refine lv_iload X.x X.b (dk DX9_ringFrom_1 45 rfl) (lv_at hl 8 rfl) ?_
            refine lv_iload X.x X.b (dk DX9_ringFrom_1 46 rfl) (lv_at hl 4 rfl) ?_
            obtain ⟨x62, e63, hF⟩ := bd hF
            refine mr_ci0 hH ⟨rfl, rfl⟩ (mr_runV (As := [.int v51, .int b6]) (rest := [.int b4]) X hH (c_X9_reach hq e63) ((oset_at hq (Nat.le_refl _) ohas_N).trans (congrArg some ocell_N)) OX9.1 kM_X9_108 kI_X9_reach kS_X9_reach kN_X9 kC_X9_reach hd_X9_reach ⟨Nat.le_of_ble_eq_true rfl, Nat.le_of_ble_eq_true rfl⟩ rfl hl.1 (Nat.le_of_ble_eq_true rfl) (dk DX9_ringFrom_1 47 rfl) ⟨Nat.zero_le _, Nat.zero_le _⟩) (fun r h1 H locs hp hH => ?_)
            obtain ⟨hr1, hr2⟩ := hp; rw [hr1]; rw [hr2] at hH; clear hr1 hr2
            obtain ⟨v64, t65⟩ := x62
            try dsimp only at hF hH ⊢
            obtain ⟨x66, e67, hF⟩ := bd hF
            refine mr_ci0 hH ⟨rfl, rfl⟩ (mr_runS (As := [.int b4, .int v64]) (rest := []) X hH (c_J9_min_7cf53 e67) kM_X9_63 kT_J9_min_7cf53 kN_J9 kC_J9_min_7cf53 hd_J9_min_7cf53 ⟨Nat.le_of_ble_eq_true rfl, Nat.le_of_ble_eq_true rfl⟩ rfl hl.1 (Nat.le_of_ble_eq_true rfl) (dk DX9_ringFrom_1 48 rfl) ⟨Nat.zero_le _, Nat.zero_le _⟩) (fun r h1 H locs hp hH => ?_)
            obtain ⟨hr1, hr2⟩ := hp; rw [hr1]; rw [hr2] at hH; clear hr1 hr2
            refine lv_istore (lv' := [(4, .int x66), (0, .ref (q 7)), (1, .ref (q1 5)), (5, .int b5), (6, .int b6), (7, .int b7), (8, .long v53), (10, .int b10), (11, .int v51)]) X.x X.b (dk DX9_ringFrom_1 49 rfl) hl (by decide) rfl (fun ls hl => ?_)
            replace hl : lv_has ls 12 [(0, .ref (q 7)), (1, .ref (q1 5)), (4, .int x66), (5, .int b5), (6, .int b6), (7, .int b7), (8, .long v53), (10, .int b10)] := lv_sub hl [1, 2, 0, 3, 4, 5, 6, 7] rfl
            obtain ⟨v69, e70⟩ : ∃ y : Int32, y = b10 + 1 := ⟨_, rfl⟩
            replace hF := bnd_e hF e70
            refine lv_iinc (v := v69) (lv' := [(10, .int v69), (0, .ref (q 7)), (1, .ref (q1 5)), (4, .int x66), (5, .int b5), (6, .int b6), (7, .int b7), (8, .long v53)]) X.x X.b (dk DX9_ringFrom_1 50 rfl) hl (k := 7) rfl (by rw [e70]; rfl) (by decide) rfl (fun ls hl => ?_)
            replace hl : lv_has ls 12 [(0, .ref (q 7)), (1, .ref (q1 5)), (4, .int x66), (5, .int b5), (6, .int b6), (7, .int b7), (8, .long v53), (10, .int v69)] := lv_sub hl [1, 2, 3, 4, 5, 6, 7, 0] rfl
            refine lv_goto (tgt := 129) X.x X.b (dk DX9_ringFrom_1 51 rfl) (by decide) ?_
            exact (lp_l hF hx) _ _ _ hH (lv_sub hl [0, 1, 2, 3, 4, 5, 6, 7] rfl) K0
set_option maxHeartbeats 4000000 in
set_option maxRecDepth 100000 in
theorem w_X9_ringFrom_40 {p : Program} {l : Launch} {e : Env} {s : State} {m : MethodId} {args : Array Value} {below : List Frame} {meth : Method} {c : Code} {Q : State → Prop} {G : mG} {h : mM} {q : Nat → Nat} {q1 : Nat → Nat} (hq : oinj LX9 q) (hq1 : oinj LX10 q1) (ha : oap [(LX9, q), (LX10, q1)]) (X : mX G p m c cX9_ringFrom 12 s args RX9) (s_o1 : OS) : ∀ (z : OS × Int32 × Int32) (r : OS × Int32), lpv (f_X9_ringFrom_40 s_o1) z = some r → ∀ (H : Heap) (locs : List Loc) (ls : Array Slot), mH G (oset LX9 G q z.1 (oset LX10 G q1 s_o1 h)) s.heap H locs → lv_has ls 12 [(0, .ref (q 7)), (1, .ref (q1 5)), (4, .int z.2.1), (5, .int z.2.2)] → (∀ (H : Heap) (locs : List Loc) (ls : Array Slot), mH G (oset LX9 G q r.1 (oset LX10 G q1 s_o1 h)) s.heap H locs → lv_has ls 12 [(4, .int r.2)] → W p l e rm_X9_ringFrom s m args below meth c H locs 0 0 Q (F0 m 218 ls [])) → W p l e rm_X9_ringFrom s m args below meth c H locs 0 0 Q (F0 m 40 ls []) := by
  refine lpv_rec ?_
  intro z r x hF hx H locs ls hH hl K0
  obtain ⟨s_t, b4, b5⟩ := z
  dsimp only [f_X9_ringFrom_40] at hF
  try dsimp only at hH hl
  refine lv_iload X.x X.b (dk DX9_ringFrom_0 26 rfl) (lv_at hl 3 rfl) ?_
  refine lv_aload_n X.x X.b (dk DX9_ringFrom_0 27 rfl) rfl (lv_at hl 0 rfl) ?_
  refine og_getI OX9 X hq hH 6 (by decide) rfl kF_X9_99 (dk DX9_ringFrom_0 28 rfl) ?_
  refine lv_icmp_ge (tgt := 218) X.x X.b (dk DX9_ringFrom_0 29 rfl) (by decide) (fun c13 => ?_) (fun c13 => ?_)
  · replace hF := if_t hF c13
    have hr9 := lp_r hF hx
    subst hr9
    exact K0 _ _ _ hH (lv_sub hl [2] rfl)
  · replace hF := if_f hF c13
    refine lv_iload X.x X.b (dk DX9_ringFrom_0 30 rfl) (lv_at hl 3 rfl) ?_
    refine lv_sipush (v := 128) X.x X.b (dk DX9_ringFrom_0 31 rfl) (by decide) ?_
    refine lv_icmp_ge (tgt := 218) X.x X.b (dk DX9_ringFrom_0 32 rfl) (by decide) (fun c14 => ?_) (fun c14 => ?_)
    · replace hF := if_t hF c14
      have hr9 := lp_r hF hx
      subst hr9
      exact K0 _ _ _ hH (lv_sub hl [2] rfl)
    · replace hF := if_f hF c14
      refine lv_iconst (v := 2) X.x X.b (dk DX9_ringFrom_0 33 rfl) (by decide) ?_
      refine lv_aload_n X.x X.b (dk DX9_ringFrom_0 34 rfl) rfl (lv_at hl 0 rfl) ?_
      refine og_getR (t := 0) OX9 X hq hH 3 (by decide) rfl kF_X9_23 (dk DX9_ringFrom_0 35 rfl) ?_
      refine lv_aload_n X.x X.b (dk DX9_ringFrom_0 36 rfl) rfl (lv_at hl 0 rfl) ?_
      refine og_getR (t := 0) OX9 X hq hH 5 (by decide) rfl kF_X9_30 (dk DX9_ringFrom_0 37 rfl) ?_
      refine lv_iload X.x X.b (dk DX9_ringFrom_0 38 rfl) (lv_at hl 3 rfl) ?_
      obtain ⟨c15, hF⟩ := gd hF
      refine og_iald X hq hH 5 (by decide) rfl (inb_in c15) (dk DX9_ringFrom_0 39 rfl) ?_
      obtain ⟨c16, hF⟩ := gd hF
      refine og_iald X hq hH 3 (by decide) rfl (inb_in c16) (dk DX9_ringFrom_0 40 rfl) ?_
      refine lv_imul X.x X.b (dk DX9_ringFrom_0 41 rfl) ?_
      refine lv_iconst (v := 2) X.x X.b (dk DX9_ringFrom_0 42 rfl) (by decide) ?_
      refine lv_iadd X.x X.b (dk DX9_ringFrom_0 43 rfl) ?_
      refine lv_iload X.x X.b (dk DX9_ringFrom_0 44 rfl) (lv_at hl 2 rfl) ?_
      refine lv_icmp_ge (tgt := 218) X.x X.b (dk DX9_ringFrom_0 45 rfl) (by decide) (fun c17 => ?_) (fun c17 => ?_)
      · replace hF := if_t hF c17
        have hr9 := lp_r hF hx
        subst hr9
        exact K0 _ _ _ hH (lv_sub hl [2] rfl)
      · replace hF := if_f hF c17
        refine lv_aload_n X.x X.b (dk DX9_ringFrom_0 46 rfl) rfl (lv_at hl 0 rfl) ?_
        refine og_getR (t := 0) OX9 X hq hH 5 (by decide) rfl kF_X9_30 (dk DX9_ringFrom_0 47 rfl) ?_
        refine lv_iload X.x X.b (dk DX9_ringFrom_0 48 rfl) (lv_at hl 3 rfl) ?_
        refine og_iald X hq hH 5 (by decide) rfl (inb_in c15) (dk DX9_ringFrom_0 49 rfl) ?_
        refine lv_topi (fun v18 e19 => ?_)
        replace hF := bnd_e hF e19
        refine lv_istore (lv' := [(6, .int v18), (0, .ref (q 7)), (1, .ref (q1 5)), (4, .int b4), (5, .int b5)]) X.x X.b (dk DX9_ringFrom_0 50 rfl) hl (by decide) rfl (fun ls hl => ?_)
        replace hl : lv_has ls 12 [(0, .ref (q 7)), (1, .ref (q1 5)), (4, .int b4), (5, .int b5), (6, .int v18)] := lv_sub hl [1, 2, 3, 4, 0] rfl
        refine lv_iload X.x X.b (dk DX9_ringFrom_0 51 rfl) (lv_at hl 4 rfl) ?_
        refine lv_bipush (v := 64) X.x X.b (dk DX9_ringFrom_0 52 rfl) (by decide) ?_
        refine lv_icmp_ge (tgt := 98) X.x X.b (dk DX9_ringFrom_0 53 rfl) (by decide) (fun c20 => ?_) (fun c20 => ?_)
        · replace hF := if_t hF c20
          refine lv_iconst (v := 0) X.x X.b (dk DX9_ringFrom_0 56 rfl) (by decide) ?_
          refine lv_istore (lv' := [(7, .int 0), (0, .ref (q 7)), (1, .ref (q1 5)), (4, .int b4), (5, .int b5), (6, .int v18)]) X.x X.b (dk DX9_ringFrom_0 57 rfl) hl (by decide) rfl (fun ls hl => ?_)
          replace hl : lv_has ls 12 [(0, .ref (q 7)), (1, .ref (q1 5)), (4, .int b4), (5, .int b5), (6, .int v18), (7, .int 0)] := lv_sub hl [1, 2, 3, 4, 5, 0] rfl
          refine lv_iload X.x X.b (dk DX9_ringFrom_0 58 rfl) (lv_at hl 5 rfl) ?_
          refine lv_if_eq (tgt := 115) X.x X.b (dk DX9_ringFrom_0 59 rfl) (by decide) (fun c21 => ?_) (fun c21 => ?_)
          · replace hF := if_t hF c21
            refine lv_aload_n X.x X.b (dk DX9_ringFrom_1 4 rfl) rfl (lv_at hl 1 rfl) ?_
            refine lv_iload X.x X.b (dk DX9_ringFrom_1 5 rfl) (lv_at hl 4 rfl) ?_
            refine lv_bipush (v := 64) X.x X.b (dk DX9_ringFrom_1 6 rfl) (by decide) ?_
            refine lv_isub X.x X.b (dk DX9_ringFrom_1 7 rfl) ?_
            obtain ⟨x22, e23, hF⟩ := bd hF
            refine mr_cl0 (mH_perm (l1 := [(LX9, q, s_t), (LX10, q1, s_o1)]) (l2 := [(LX10, q1, s_o1), (LX9, q, s_t)]) ha [1, 0] [1, 0] rfl rfl rfl hH) ⟨rfl, rfl⟩ (mr_runV (As := [.int (v18 - 64)]) (rest := []) X (mH_perm (l1 := [(LX9, q, s_t), (LX10, q1, s_o1)]) (l2 := [(LX10, q1, s_o1), (LX9, q, s_t)]) ha [1, 0] [1, 0] rfl rfl rfl hH) (c_X10_setAt hq1 e23) ((oset_at hq1 (Nat.le_refl _) ohas_N).trans (congrArg some ocell_N)) OX10.1 kM_X9_105 kI_X10_setAt kS_X10_setAt kN_X10 kC_X10_setAt hd_X10_setAt ⟨Nat.le_of_ble_eq_true rfl, Nat.le_of_ble_eq_true rfl⟩ rfl hl.1 (Nat.le_of_ble_eq_true rfl) (dk DX9_ringFrom_1 8 rfl) ⟨Nat.zero_le _, Nat.zero_le _⟩) (fun r h1 H locs hp hH => ?_)
            obtain ⟨hr1, hr2⟩ := hp; rw [hr1]; rw [hr2] at hH; clear hr1 hr2
            replace hH : mH G (oset LX9 G q s_t (oset LX10 G q1 s_o1 h)) s.heap H locs := mH_unperm (l1 := [(LX9, q, s_t), (LX10, q1, s_o1)]) (l2 := [(LX10, q1, s_o1), (LX9, q, s_t)]) ha [1, 0] [1, 0] rfl rfl rfl hH
            refine lv_lstore (lv' := [(8, .long x22), (0, .ref (q 7)), (1, .ref (q1 5)), (4, .int b4), (5, .int b5), (6, .int v18), (7, .int 0)]) X.x X.b (dk DX9_ringFrom_1 9 rfl) hl (by decide) rfl (fun ls hl => ?_)
            replace hl : lv_has ls 12 [(0, .ref (q 7)), (1, .ref (q1 5)), (4, .int b4), (5, .int b5), (6, .int v18), (7, .int 0), (8, .long x22)] := lv_sub hl [1, 2, 3, 4, 5, 6, 0] rfl
            refine lv_iconst (v := 0) X.x X.b (dk DX9_ringFrom_1 10 rfl) (by decide) ?_
            refine lv_istore (lv' := [(10, .int 0), (0, .ref (q 7)), (1, .ref (q1 5)), (4, .int b4), (5, .int b5), (6, .int v18), (7, .int 0), (8, .long x22)]) X.x X.b (dk DX9_ringFrom_1 11 rfl) hl (by decide) rfl (fun ls hl => ?_)
            replace hl : lv_has ls 12 [(0, .ref (q 7)), (1, .ref (q1 5)), (4, .int b4), (5, .int b5), (6, .int v18), (7, .int 0), (8, .long x22), (10, .int 0)] := lv_sub hl [1, 2, 3, 4, 5, 6, 7, 0] rfl
            obtain ⟨x71, e72, hF⟩ := bd hF
            replace hl : lv_has ls 12 [(0, .ref (q 7)), (1, .ref (q1 5)), (4, .int b4), (5, .int b5), (6, .int v18), (7, .int 0), (8, .long x22), (10, .int 0)] := lv_sub hl [0, 1, 2, 3, 4, 5, 6, 7] rfl
            obtain ⟨t73, v74⟩ := x71
            try dsimp only at hF
            refine w_X9_ringFrom_129 hq hq1 ha X s_o1 b5 v18 0 _ _ e72 _ _ _ hH hl (fun H locs ls hH hl => ?_)
            try dsimp only at hH hl
            obtain ⟨v75, e76⟩ : ∃ y : Int32, y = b5 + 1 := ⟨_, rfl⟩
            replace hF := bnd_e hF e76
            refine lv_iinc (v := v75) (lv' := [(5, .int v75), (0, .ref (q 7)), (1, .ref (q1 5)), (4, .int v74)]) X.x X.b (dk DX9_ringFrom_1 52 rfl) hl (k := 3) rfl (by rw [e76]; rfl) (by decide) rfl (fun ls hl => ?_)
            replace hl : lv_has ls 12 [(0, .ref (q 7)), (1, .ref (q1 5)), (4, .int v74), (5, .int v75)] := lv_sub hl [1, 2, 3, 0] rfl
            refine lv_goto (tgt := 40) X.x X.b (dk DX9_ringFrom_1 53 rfl) (by decide) ?_
            exact (lp_l hF hx) _ _ _ hH (lv_sub hl [0, 1, 2, 3] rfl) K0
          · replace hF := if_f hF c21
            refine lv_aload_n X.x X.b (dk DX9_ringFrom_1 0 rfl) rfl (lv_at hl 1 rfl) ?_
            refine lv_iload X.x X.b (dk DX9_ringFrom_1 1 rfl) (lv_at hl 4 rfl) ?_
            obtain ⟨x77, e78, hF⟩ := bd hF
            refine mr_cl0 (mH_perm (l1 := [(LX9, q, s_t), (LX10, q1, s_o1)]) (l2 := [(LX10, q1, s_o1), (LX9, q, s_t)]) ha [1, 0] [1, 0] rfl rfl rfl hH) ⟨rfl, rfl⟩ (mr_runV (As := [.int v18]) (rest := []) X (mH_perm (l1 := [(LX9, q, s_t), (LX10, q1, s_o1)]) (l2 := [(LX10, q1, s_o1), (LX9, q, s_t)]) ha [1, 0] [1, 0] rfl rfl rfl hH) (c_X10_throughAt hq1 e78) ((oset_at hq1 (Nat.le_refl _) ohas_N).trans (congrArg some ocell_N)) OX10.1 kM_X9_102 kI_X10_throughAt kS_X10_throughAt kN_X10 kC_X10_throughAt hd_X10_throughAt ⟨Nat.le_of_ble_eq_true rfl, Nat.le_of_ble_eq_true rfl⟩ rfl hl.1 (Nat.le_of_ble_eq_true rfl) (dk DX9_ringFrom_1 2 rfl) ⟨Nat.zero_le _, Nat.zero_le _⟩) (fun r h1 H locs hp hH => ?_)
            obtain ⟨hr1, hr2⟩ := hp; rw [hr1]; rw [hr2] at hH; clear hr1 hr2
            replace hH : mH G (oset LX9 G q s_t (oset LX10 G q1 s_o1 h)) s.heap H locs := mH_unperm (l1 := [(LX9, q, s_t), (LX10, q1, s_o1)]) (l2 := [(LX10, q1, s_o1), (LX9, q, s_t)]) ha [1, 0] [1, 0] rfl rfl rfl hH
            refine lv_goto (tgt := 124) X.x X.b (dk DX9_ringFrom_1 3 rfl) (by decide) ?_
            refine lv_lstore (lv' := [(8, .long x77), (0, .ref (q 7)), (1, .ref (q1 5)), (4, .int b4), (5, .int b5), (6, .int v18), (7, .int 0)]) X.x X.b (dk DX9_ringFrom_1 9 rfl) hl (by decide) rfl (fun ls hl => ?_)
            replace hl : lv_has ls 12 [(0, .ref (q 7)), (1, .ref (q1 5)), (4, .int b4), (5, .int b5), (6, .int v18), (7, .int 0), (8, .long x77)] := lv_sub hl [1, 2, 3, 4, 5, 6, 0] rfl
            refine lv_iconst (v := 0) X.x X.b (dk DX9_ringFrom_1 10 rfl) (by decide) ?_
            refine lv_istore (lv' := [(10, .int 0), (0, .ref (q 7)), (1, .ref (q1 5)), (4, .int b4), (5, .int b5), (6, .int v18), (7, .int 0), (8, .long x77)]) X.x X.b (dk DX9_ringFrom_1 11 rfl) hl (by decide) rfl (fun ls hl => ?_)
            replace hl : lv_has ls 12 [(0, .ref (q 7)), (1, .ref (q1 5)), (4, .int b4), (5, .int b5), (6, .int v18), (7, .int 0), (8, .long x77), (10, .int 0)] := lv_sub hl [1, 2, 3, 4, 5, 6, 7, 0] rfl
            obtain ⟨x80, e81, hF⟩ := bd hF
            replace hl : lv_has ls 12 [(0, .ref (q 7)), (1, .ref (q1 5)), (4, .int b4), (5, .int b5), (6, .int v18), (7, .int 0), (8, .long x77), (10, .int 0)] := lv_sub hl [0, 1, 2, 3, 4, 5, 6, 7] rfl
            obtain ⟨t82, v83⟩ := x80
            try dsimp only at hF
            refine w_X9_ringFrom_129 hq hq1 ha X s_o1 b5 v18 0 _ _ e81 _ _ _ hH hl (fun H locs ls hH hl => ?_)
            try dsimp only at hH hl
            obtain ⟨v84, e85⟩ : ∃ y : Int32, y = b5 + 1 := ⟨_, rfl⟩
            replace hF := bnd_e hF e85
            refine lv_iinc (v := v84) (lv' := [(5, .int v84), (0, .ref (q 7)), (1, .ref (q1 5)), (4, .int v83)]) X.x X.b (dk DX9_ringFrom_1 52 rfl) hl (k := 3) rfl (by rw [e85]; rfl) (by decide) rfl (fun ls hl => ?_)
            replace hl : lv_has ls 12 [(0, .ref (q 7)), (1, .ref (q1 5)), (4, .int v83), (5, .int v84)] := lv_sub hl [1, 2, 3, 0] rfl
            refine lv_goto (tgt := 40) X.x X.b (dk DX9_ringFrom_1 53 rfl) (by decide) ?_
            exact (lp_l hF hx) _ _ _ hH (lv_sub hl [0, 1, 2, 3] rfl) K0
        · replace hF := if_f hF c20
          refine lv_iconst (v := 1) X.x X.b (dk DX9_ringFrom_0 54 rfl) (by decide) ?_
          refine lv_goto (tgt := 99) X.x X.b (dk DX9_ringFrom_0 55 rfl) (by decide) ?_
          refine lv_istore (lv' := [(7, .int 1), (0, .ref (q 7)), (1, .ref (q1 5)), (4, .int b4), (5, .int b5), (6, .int v18)]) X.x X.b (dk DX9_ringFrom_0 57 rfl) hl (by decide) rfl (fun ls hl => ?_)
          replace hl : lv_has ls 12 [(0, .ref (q 7)), (1, .ref (q1 5)), (4, .int b4), (5, .int b5), (6, .int v18), (7, .int 1)] := lv_sub hl [1, 2, 3, 4, 5, 0] rfl
          refine lv_iload X.x X.b (dk DX9_ringFrom_0 58 rfl) (lv_at hl 5 rfl) ?_
          refine lv_if_eq (tgt := 115) X.x X.b (dk DX9_ringFrom_0 59 rfl) (by decide) (fun c86 => ?_) (fun c86 => ?_)
          · replace hF := if_t hF c86
            refine lv_aload_n X.x X.b (dk DX9_ringFrom_1 4 rfl) rfl (lv_at hl 1 rfl) ?_
            refine lv_iload X.x X.b (dk DX9_ringFrom_1 5 rfl) (lv_at hl 4 rfl) ?_
            refine lv_bipush (v := 64) X.x X.b (dk DX9_ringFrom_1 6 rfl) (by decide) ?_
            refine lv_isub X.x X.b (dk DX9_ringFrom_1 7 rfl) ?_
            obtain ⟨x87, e88, hF⟩ := bd hF
            refine mr_cl0 (mH_perm (l1 := [(LX9, q, s_t), (LX10, q1, s_o1)]) (l2 := [(LX10, q1, s_o1), (LX9, q, s_t)]) ha [1, 0] [1, 0] rfl rfl rfl hH) ⟨rfl, rfl⟩ (mr_runV (As := [.int (v18 - 64)]) (rest := []) X (mH_perm (l1 := [(LX9, q, s_t), (LX10, q1, s_o1)]) (l2 := [(LX10, q1, s_o1), (LX9, q, s_t)]) ha [1, 0] [1, 0] rfl rfl rfl hH) (c_X10_setAt hq1 e88) ((oset_at hq1 (Nat.le_refl _) ohas_N).trans (congrArg some ocell_N)) OX10.1 kM_X9_105 kI_X10_setAt kS_X10_setAt kN_X10 kC_X10_setAt hd_X10_setAt ⟨Nat.le_of_ble_eq_true rfl, Nat.le_of_ble_eq_true rfl⟩ rfl hl.1 (Nat.le_of_ble_eq_true rfl) (dk DX9_ringFrom_1 8 rfl) ⟨Nat.zero_le _, Nat.zero_le _⟩) (fun r h1 H locs hp hH => ?_)
            obtain ⟨hr1, hr2⟩ := hp; rw [hr1]; rw [hr2] at hH; clear hr1 hr2
            replace hH : mH G (oset LX9 G q s_t (oset LX10 G q1 s_o1 h)) s.heap H locs := mH_unperm (l1 := [(LX9, q, s_t), (LX10, q1, s_o1)]) (l2 := [(LX10, q1, s_o1), (LX9, q, s_t)]) ha [1, 0] [1, 0] rfl rfl rfl hH
            refine lv_lstore (lv' := [(8, .long x87), (0, .ref (q 7)), (1, .ref (q1 5)), (4, .int b4), (5, .int b5), (6, .int v18), (7, .int 1)]) X.x X.b (dk DX9_ringFrom_1 9 rfl) hl (by decide) rfl (fun ls hl => ?_)
            replace hl : lv_has ls 12 [(0, .ref (q 7)), (1, .ref (q1 5)), (4, .int b4), (5, .int b5), (6, .int v18), (7, .int 1), (8, .long x87)] := lv_sub hl [1, 2, 3, 4, 5, 6, 0] rfl
            refine lv_iconst (v := 0) X.x X.b (dk DX9_ringFrom_1 10 rfl) (by decide) ?_
            refine lv_istore (lv' := [(10, .int 0), (0, .ref (q 7)), (1, .ref (q1 5)), (4, .int b4), (5, .int b5), (6, .int v18), (7, .int 1), (8, .long x87)]) X.x X.b (dk DX9_ringFrom_1 11 rfl) hl (by decide) rfl (fun ls hl => ?_)
            replace hl : lv_has ls 12 [(0, .ref (q 7)), (1, .ref (q1 5)), (4, .int b4), (5, .int b5), (6, .int v18), (7, .int 1), (8, .long x87), (10, .int 0)] := lv_sub hl [1, 2, 3, 4, 5, 6, 7, 0] rfl
            obtain ⟨x90, e91, hF⟩ := bd hF
            replace hl : lv_has ls 12 [(0, .ref (q 7)), (1, .ref (q1 5)), (4, .int b4), (5, .int b5), (6, .int v18), (7, .int 1), (8, .long x87), (10, .int 0)] := lv_sub hl [0, 1, 2, 3, 4, 5, 6, 7] rfl
            obtain ⟨t92, v93⟩ := x90
            try dsimp only at hF
            refine w_X9_ringFrom_129 hq hq1 ha X s_o1 b5 v18 1 _ _ e91 _ _ _ hH hl (fun H locs ls hH hl => ?_)
            try dsimp only at hH hl
            obtain ⟨v94, e95⟩ : ∃ y : Int32, y = b5 + 1 := ⟨_, rfl⟩
            replace hF := bnd_e hF e95
            refine lv_iinc (v := v94) (lv' := [(5, .int v94), (0, .ref (q 7)), (1, .ref (q1 5)), (4, .int v93)]) X.x X.b (dk DX9_ringFrom_1 52 rfl) hl (k := 3) rfl (by rw [e95]; rfl) (by decide) rfl (fun ls hl => ?_)
            replace hl : lv_has ls 12 [(0, .ref (q 7)), (1, .ref (q1 5)), (4, .int v93), (5, .int v94)] := lv_sub hl [1, 2, 3, 0] rfl
            refine lv_goto (tgt := 40) X.x X.b (dk DX9_ringFrom_1 53 rfl) (by decide) ?_
            exact (lp_l hF hx) _ _ _ hH (lv_sub hl [0, 1, 2, 3] rfl) K0
          · replace hF := if_f hF c86
            refine lv_aload_n X.x X.b (dk DX9_ringFrom_1 0 rfl) rfl (lv_at hl 1 rfl) ?_
            refine lv_iload X.x X.b (dk DX9_ringFrom_1 1 rfl) (lv_at hl 4 rfl) ?_
            obtain ⟨x96, e97, hF⟩ := bd hF
            refine mr_cl0 (mH_perm (l1 := [(LX9, q, s_t), (LX10, q1, s_o1)]) (l2 := [(LX10, q1, s_o1), (LX9, q, s_t)]) ha [1, 0] [1, 0] rfl rfl rfl hH) ⟨rfl, rfl⟩ (mr_runV (As := [.int v18]) (rest := []) X (mH_perm (l1 := [(LX9, q, s_t), (LX10, q1, s_o1)]) (l2 := [(LX10, q1, s_o1), (LX9, q, s_t)]) ha [1, 0] [1, 0] rfl rfl rfl hH) (c_X10_throughAt hq1 e97) ((oset_at hq1 (Nat.le_refl _) ohas_N).trans (congrArg some ocell_N)) OX10.1 kM_X9_102 kI_X10_throughAt kS_X10_throughAt kN_X10 kC_X10_throughAt hd_X10_throughAt ⟨Nat.le_of_ble_eq_true rfl, Nat.le_of_ble_eq_true rfl⟩ rfl hl.1 (Nat.le_of_ble_eq_true rfl) (dk DX9_ringFrom_1 2 rfl) ⟨Nat.zero_le _, Nat.zero_le _⟩) (fun r h1 H locs hp hH => ?_)
            obtain ⟨hr1, hr2⟩ := hp; rw [hr1]; rw [hr2] at hH; clear hr1 hr2
            replace hH : mH G (oset LX9 G q s_t (oset LX10 G q1 s_o1 h)) s.heap H locs := mH_unperm (l1 := [(LX9, q, s_t), (LX10, q1, s_o1)]) (l2 := [(LX10, q1, s_o1), (LX9, q, s_t)]) ha [1, 0] [1, 0] rfl rfl rfl hH
            refine lv_goto (tgt := 124) X.x X.b (dk DX9_ringFrom_1 3 rfl) (by decide) ?_
            refine lv_lstore (lv' := [(8, .long x96), (0, .ref (q 7)), (1, .ref (q1 5)), (4, .int b4), (5, .int b5), (6, .int v18), (7, .int 1)]) X.x X.b (dk DX9_ringFrom_1 9 rfl) hl (by decide) rfl (fun ls hl => ?_)
            replace hl : lv_has ls 12 [(0, .ref (q 7)), (1, .ref (q1 5)), (4, .int b4), (5, .int b5), (6, .int v18), (7, .int 1), (8, .long x96)] := lv_sub hl [1, 2, 3, 4, 5, 6, 0] rfl
            refine lv_iconst (v := 0) X.x X.b (dk DX9_ringFrom_1 10 rfl) (by decide) ?_
            refine lv_istore (lv' := [(10, .int 0), (0, .ref (q 7)), (1, .ref (q1 5)), (4, .int b4), (5, .int b5), (6, .int v18), (7, .int 1), (8, .long x96)]) X.x X.b (dk DX9_ringFrom_1 11 rfl) hl (by decide) rfl (fun ls hl => ?_)
            replace hl : lv_has ls 12 [(0, .ref (q 7)), (1, .ref (q1 5)), (4, .int b4), (5, .int b5), (6, .int v18), (7, .int 1), (8, .long x96), (10, .int 0)] := lv_sub hl [1, 2, 3, 4, 5, 6, 7, 0] rfl
            obtain ⟨x99, e100, hF⟩ := bd hF
            replace hl : lv_has ls 12 [(0, .ref (q 7)), (1, .ref (q1 5)), (4, .int b4), (5, .int b5), (6, .int v18), (7, .int 1), (8, .long x96), (10, .int 0)] := lv_sub hl [0, 1, 2, 3, 4, 5, 6, 7] rfl
            obtain ⟨t101, v102⟩ := x99
            try dsimp only at hF
            refine w_X9_ringFrom_129 hq hq1 ha X s_o1 b5 v18 1 _ _ e100 _ _ _ hH hl (fun H locs ls hH hl => ?_)
            try dsimp only at hH hl
            obtain ⟨v103, e104⟩ : ∃ y : Int32, y = b5 + 1 := ⟨_, rfl⟩
            replace hF := bnd_e hF e104
            refine lv_iinc (v := v103) (lv' := [(5, .int v103), (0, .ref (q 7)), (1, .ref (q1 5)), (4, .int v102)]) X.x X.b (dk DX9_ringFrom_1 52 rfl) hl (k := 3) rfl (by rw [e104]; rfl) (by decide) rfl (fun ls hl => ?_)
            replace hl : lv_has ls 12 [(0, .ref (q 7)), (1, .ref (q1 5)), (4, .int v102), (5, .int v103)] := lv_sub hl [1, 2, 3, 0] rfl
            refine lv_goto (tgt := 40) X.x X.b (dk DX9_ringFrom_1 53 rfl) (by decide) ?_
            exact (lp_l hF hx) _ _ _ hH (lv_sub hl [0, 1, 2, 3] rfl) K0
set_option maxHeartbeats 4000000 in
set_option maxRecDepth 100000 in
theorem c_X9_ringFrom {l : Launch} {G : mG} {h : mM} {q : Nat → Nat} {q1 : Nat → Nat} (hq : oinj LX9 q) (hq1 : oinj LX10 q1) (ha : oap [(LX9, q), (LX10, q1)]) {st : OS} {st1 : OS} {a1 : Int32} {a2 : Int32} {x : Int32 × OS} (hF : f_X9_ringFrom st st1 a1 a2 = some x) : cQ l G yX9_ringFrom cX9_ringFrom 12 (some FieldType.int) rm_X9_ringFrom [.ref (q 7), .ref (q1 5), .int a1, .int a2] (oset LX9 G q st (oset LX10 G q1 st1 h)) (mQi G (fun r h1 => r = x.1 ∧ h1 = oset LX9 G q x.2 (oset LX10 G q1 st1 h))) := by
  refine mp_of (by decide +kernel) (Nat.le_of_ble_eq_true rfl) ?_
  intro p e s m below meth c X hr hlk hH hname ls hl
  dsimp only [f_X9_ringFrom] at hF
  replace hl : lv_has ls 12 [(0, .ref (q 7)), (1, .ref (q1 5)), (2, .int a1), (3, .int a2)] := hl
  refine lv_aload_n X.x X.b (dk DX9_ringFrom_0 0 rfl) rfl (lv_at hl 0 rfl) ?_
  refine og_getR (t := 0) OX9 X hq hH 3 (by decide) rfl kF_X9_23 (dk DX9_ringFrom_0 1 rfl) ?_
  refine lv_iconst (v := (-1)) X.x X.b (dk DX9_ringFrom_0 2 rfl) (by decide) ?_
  refine mr_cv0 hH ⟨rfl, rfl⟩ (mr_runS (As := [.ref (q 3), .int ((-1))]) (rest := []) X hH (c_J7_fill_53178 ((oset_at hq (k := 3) (by decide) rfl).trans (congrArg some (oc_k (t := 2) (n := 128) (by decide) rfl))) (by decide) ((-1))) kM_X9_93 kT_J7_fill_53178 kN_J7 kC_J7_fill_53178 hd_J7_fill_53178 ⟨Nat.le_of_ble_eq_true rfl, Nat.le_of_ble_eq_true rfl⟩ rfl hl.1 (Nat.le_of_ble_eq_true rfl) (dk DX9_ringFrom_0 3 rfl) ⟨Nat.zero_le _, Nat.zero_le _⟩) (fun h1 H locs hp hH => ?_)
  rw [hp, oup_A hq 3 (by decide) rfl] at hH; clear hp
  obtain ⟨t1, e2⟩ : ∃ y, y = oA st 3 (fillF 128 ((-1)) (st.2.2.1 3)) := ⟨_, rfl⟩
  rw [← e2] at hH
  replace hF := bnd_e hF e2
  refine lv_aload_n X.x X.b (dk DX9_ringFrom_0 4 rfl) rfl (lv_at hl 0 rfl) ?_
  refine og_getR (t := 0) OX9 X hq hH 5 (by decide) rfl kF_X9_30 (dk DX9_ringFrom_0 5 rfl) ?_
  refine lv_iconst (v := 0) X.x X.b (dk DX9_ringFrom_0 6 rfl) (by decide) ?_
  refine lv_iload_n X.x X.b (dk DX9_ringFrom_0 7 rfl) rfl (lv_at hl 2 rfl) ?_
  obtain ⟨c3, hF⟩ := gd hF
  refine og_iast X hq hH 5 (by decide) rfl (inb_in c3) (dk DX9_ringFrom_0 8 rfl) (fun H locs hH => ?_)
  obtain ⟨t4, e5⟩ : ∃ y, y = oA t1 5 (upd (t1.2.2.1 5) (0 : Int32).toNatClampNeg a1) := ⟨_, rfl⟩
  rw [← e5] at hH
  replace hF := bnd_e hF e5
  refine lv_aload_n X.x X.b (dk DX9_ringFrom_0 9 rfl) rfl (lv_at hl 0 rfl) ?_
  refine og_getR (t := 0) OX9 X hq hH 4 (by decide) rfl kF_X9_27 (dk DX9_ringFrom_0 10 rfl) ?_
  refine lv_iload_n X.x X.b (dk DX9_ringFrom_0 11 rfl) rfl (lv_at hl 2 rfl) ?_
  refine lv_iconst (v := (-1)) X.x X.b (dk DX9_ringFrom_0 12 rfl) (by decide) ?_
  obtain ⟨c6, hF⟩ := gd hF
  refine og_iast X hq hH 4 (by decide) rfl (inb_in c6) (dk DX9_ringFrom_0 13 rfl) (fun H locs hH => ?_)
  obtain ⟨t7, e8⟩ : ∃ y, y = oA t4 4 (upd (t4.2.2.1 4) (a1 : Int32).toNatClampNeg ((-1))) := ⟨_, rfl⟩
  rw [← e8] at hH
  replace hF := bnd_e hF e8
  refine lv_aload_n X.x X.b (dk DX9_ringFrom_0 14 rfl) rfl (lv_at hl 0 rfl) ?_
  refine og_getR (t := 0) OX9 X hq hH 3 (by decide) rfl kF_X9_23 (dk DX9_ringFrom_0 15 rfl) ?_
  refine lv_iload_n X.x X.b (dk DX9_ringFrom_0 16 rfl) rfl (lv_at hl 2 rfl) ?_
  refine lv_iconst (v := 0) X.x X.b (dk DX9_ringFrom_0 17 rfl) (by decide) ?_
  refine og_iast X hq hH 3 (by decide) rfl (inb_in c6) (dk DX9_ringFrom_0 18 rfl) (fun H locs hH => ?_)
  obtain ⟨t9, e10⟩ : ∃ y, y = oA t7 3 (upd (t7.2.2.1 3) (a1 : Int32).toNatClampNeg 0) := ⟨_, rfl⟩
  rw [← e10] at hH
  replace hF := bnd_e hF e10
  refine lv_aload_n X.x X.b (dk DX9_ringFrom_0 19 rfl) rfl (lv_at hl 0 rfl) ?_
  refine lv_iconst (v := 1) X.x X.b (dk DX9_ringFrom_0 20 rfl) (by decide) ?_
  refine og_putI OX9 X hq hH 6 (by decide) rfl kF_X9_99 rfl rfl rfl (dk DX9_ringFrom_0 21 rfl) (fun H locs hH => ?_)
  obtain ⟨t11, e12⟩ : ∃ y, y = oI t9 6 1 := ⟨_, rfl⟩
  rw [← e12] at hH
  replace hF := bnd_e hF e12
  refine lv_iload_n X.x X.b (dk DX9_ringFrom_0 22 rfl) rfl (lv_at hl 3 rfl) ?_
  refine lv_istore (lv' := [(4, .int a2), (0, .ref (q 7)), (1, .ref (q1 5)), (2, .int a1), (3, .int a2)]) X.x X.b (dk DX9_ringFrom_0 23 rfl) hl (by decide) rfl (fun ls hl => ?_)
  replace hl : lv_has ls 12 [(0, .ref (q 7)), (1, .ref (q1 5)), (4, .int a2)] := lv_sub hl [1, 2, 0] rfl
  refine lv_iconst (v := 0) X.x X.b (dk DX9_ringFrom_0 24 rfl) (by decide) ?_
  refine lv_istore (lv' := [(5, .int 0), (0, .ref (q 7)), (1, .ref (q1 5)), (4, .int a2)]) X.x X.b (dk DX9_ringFrom_0 25 rfl) hl (by decide) rfl (fun ls hl => ?_)
  replace hl : lv_has ls 12 [(0, .ref (q 7)), (1, .ref (q1 5)), (4, .int a2), (5, .int 0)] := lv_sub hl [1, 2, 3, 0] rfl
  obtain ⟨x105, e106, hF⟩ := bd hF
  replace hl : lv_has ls 12 [(0, .ref (q 7)), (1, .ref (q1 5)), (4, .int a2), (5, .int 0)] := lv_sub hl [0, 1, 2, 3] rfl
  obtain ⟨t107, v108⟩ := x105
  try dsimp only at hF
  refine w_X9_ringFrom_40 hq hq1 ha X st1 _ _ e106 _ _ _ hH hl (fun H locs ls hH hl => ?_)
  try dsimp only at hH hl
  refine lv_iload X.x X.b (dk DX9_ringFrom_1 54 rfl) (lv_at hl 0 rfl) ?_
  cases sm hF
  exact mr_iret X hr hlk hH ⟨rfl, rfl⟩ (dk DX9_ringFrom_1 55 rfl)
-- X9_shortestRing
abbrev rm_X9_shortestRing : Room := { frames := 3, cells := 0, slots := 0, locals := 74 }
theorem hd_X9_shortestRing : mHd yX9_shortestRing 1 := ⟨by decide +kernel, by decide +kernel, by decide +kernel⟩
theorem DX9_shortestRing_0 : ∀ t ∈ ([(0, .sipush 1000, 3), (3, .istore_n 2, 1), (4, .iconst 0, 1), (5, .istore_n 3, 1), (6, .iload_n 3, 1), (7, .aload_n 1, 1), (8, .getfield 33, 3), (11, .if_icmp .ge 23, 3), (14, .iload_n 3, 1), (15, .bipush 64, 2), (17, .if_icmp .ge 17, 3), (20, .aload_n 0, 1), (21, .aload_n 1, 1), (22, .iload_n 3, 1), (23, .iload_n 2, 1), (24, .invokevirtual 89, 3), (27, .istore_n 2, 1), (28, .iinc 3 1, 3), (31, .goto (-25), 3), (34, .iload_n 2, 1), (35, .sipush 1000, 3), (38, .if_icmp .ne 7, 3), (41, .iconst (-1), 1), (42, .goto 4, 3), (45, .iload_n 2, 1), (46, .ireturn, 1)] : List (Nat × Instr × Nat)), decode cX9_shortestRing t.1 = .ok (t.2.1, t.2.2) := by decide +kernel
noncomputable def f_X9_shortestRing_6 (s_o1 : OS) : (OS × Int32 × Int32) → Option ((OS × Int32 × Int32) ⊕ (OS × Int32)) := fun z => match z with | (s_t, b2, b3) => (if (s_o1.1 0) ≤ b3 then some (.inr ((s_t, b2))) else (if 64 ≤ b3 then some (.inr ((s_t, b2))) else (f_X9_ringFrom s_t s_o1 b3 b2).bind (fun x3 => match x3 with | (v5, t6) => bnd (b3 + 1 : Int32) (fun v7 => some (.inl ((t6, v5, v7)))))))
noncomputable def f_X9_shortestRing (st : OS) (st1 : OS) : Option (Int32 × OS) := (lpv (f_X9_shortestRing_6 st1) ((st, 1000, 0))).bind (fun x9 => match x9 with | (t11, v12) => (if v12 = 1000 then some (((-1), t11)) else some ((v12, t11))))
set_option maxHeartbeats 4000000 in
set_option maxRecDepth 100000 in
theorem w_X9_shortestRing_6 {p : Program} {l : Launch} {e : Env} {s : State} {m : MethodId} {args : Array Value} {below : List Frame} {meth : Method} {c : Code} {Q : State → Prop} {G : mG} {h : mM} {q : Nat → Nat} {q1 : Nat → Nat} (hq : oinj LX9 q) (hq1 : oinj LX10 q1) (ha : oap [(LX9, q), (LX10, q1)]) (X : mX G p m c cX9_shortestRing 4 s args RX9) (s_o1 : OS) : ∀ (z : OS × Int32 × Int32) (r : OS × Int32), lpv (f_X9_shortestRing_6 s_o1) z = some r → ∀ (H : Heap) (locs : List Loc) (ls : Array Slot), mH G (oset LX9 G q z.1 (oset LX10 G q1 s_o1 h)) s.heap H locs → lv_has ls 4 [(0, .ref (q 7)), (1, .ref (q1 5)), (2, .int z.2.1), (3, .int z.2.2)] → (∀ (H : Heap) (locs : List Loc) (ls : Array Slot), mH G (oset LX9 G q r.1 (oset LX10 G q1 s_o1 h)) s.heap H locs → lv_has ls 4 [(2, .int r.2)] → W p l e rm_X9_shortestRing s m args below meth c H locs 0 0 Q (F0 m 34 ls [])) → W p l e rm_X9_shortestRing s m args below meth c H locs 0 0 Q (F0 m 6 ls []) := by
  refine lpv_rec ?_
  intro z r x hF hx H locs ls hH hl K0
  obtain ⟨s_t, b2, b3⟩ := z
  dsimp only [f_X9_shortestRing_6] at hF
  try dsimp only at hH hl
  refine lv_iload_n X.x X.b (dk DX9_shortestRing_0 4 rfl) rfl (lv_at hl 3 rfl) ?_
  refine lv_aload_n X.x X.b (dk DX9_shortestRing_0 5 rfl) rfl (lv_at hl 1 rfl) ?_
  refine og_getIN OX10 X hq1 (mH_perm (l1 := [(LX9, q, s_t), (LX10, q1, s_o1)]) (l2 := [(LX10, q1, s_o1), (LX9, q, s_t)]) ha [1, 0] [1, 0] rfl rfl rfl hH) 0 (by decide) rfl kFN_X9_33 (dk DX9_shortestRing_0 6 rfl) ?_
  refine lv_icmp_ge (tgt := 34) X.x X.b (dk DX9_shortestRing_0 7 rfl) (by decide) (fun c1 => ?_) (fun c1 => ?_)
  · replace hF := if_t hF c1
    have hr9 := lp_r hF hx
    subst hr9
    exact K0 _ _ _ hH (lv_sub hl [2] rfl)
  · replace hF := if_f hF c1
    refine lv_iload_n X.x X.b (dk DX9_shortestRing_0 8 rfl) rfl (lv_at hl 3 rfl) ?_
    refine lv_bipush (v := 64) X.x X.b (dk DX9_shortestRing_0 9 rfl) (by decide) ?_
    refine lv_icmp_ge (tgt := 34) X.x X.b (dk DX9_shortestRing_0 10 rfl) (by decide) (fun c2 => ?_) (fun c2 => ?_)
    · replace hF := if_t hF c2
      have hr9 := lp_r hF hx
      subst hr9
      exact K0 _ _ _ hH (lv_sub hl [2] rfl)
    · replace hF := if_f hF c2
      refine lv_aload_n X.x X.b (dk DX9_shortestRing_0 11 rfl) rfl (lv_at hl 0 rfl) ?_
      refine lv_aload_n X.x X.b (dk DX9_shortestRing_0 12 rfl) rfl (lv_at hl 1 rfl) ?_
      refine lv_iload_n X.x X.b (dk DX9_shortestRing_0 13 rfl) rfl (lv_at hl 3 rfl) ?_
      refine lv_iload_n X.x X.b (dk DX9_shortestRing_0 14 rfl) rfl (lv_at hl 2 rfl) ?_
      obtain ⟨x3, e4, hF⟩ := bd hF
      refine mr_ci0 hH ⟨rfl, rfl⟩ (mr_runV (As := [.ref (q1 5), .int b3, .int b2]) (rest := []) X hH (c_X9_ringFrom hq hq1 ha e4) ((oset_at hq (Nat.le_refl _) ohas_N).trans (congrArg some ocell_N)) OX9.1 kM_X9_89 kI_X9_ringFrom kS_X9_ringFrom kN_X9 kC_X9_ringFrom hd_X9_ringFrom ⟨Nat.le_of_ble_eq_true rfl, Nat.le_of_ble_eq_true rfl⟩ rfl hl.1 (Nat.le_of_ble_eq_true rfl) (dk DX9_shortestRing_0 15 rfl) ⟨Nat.zero_le _, Nat.zero_le _⟩) (fun r h1 H locs hp hH => ?_)
      obtain ⟨hr1, hr2⟩ := hp; rw [hr1]; rw [hr2] at hH; clear hr1 hr2
      obtain ⟨v5, t6⟩ := x3
      try dsimp only at hF hH ⊢
      refine lv_istore_n (lv' := [(2, .int v5), (0, .ref (q 7)), (1, .ref (q1 5)), (3, .int b3)]) X.x X.b (dk DX9_shortestRing_0 16 rfl) rfl hl (by decide) rfl (fun ls hl => ?_)
      replace hl : lv_has ls 4 [(0, .ref (q 7)), (1, .ref (q1 5)), (2, .int v5), (3, .int b3)] := lv_sub hl [1, 2, 0, 3] rfl
      obtain ⟨v7, e8⟩ : ∃ y : Int32, y = b3 + 1 := ⟨_, rfl⟩
      replace hF := bnd_e hF e8
      refine lv_iinc (v := v7) (lv' := [(3, .int v7), (0, .ref (q 7)), (1, .ref (q1 5)), (2, .int v5)]) X.x X.b (dk DX9_shortestRing_0 17 rfl) hl (k := 3) rfl (by rw [e8]; rfl) (by decide) rfl (fun ls hl => ?_)
      replace hl : lv_has ls 4 [(0, .ref (q 7)), (1, .ref (q1 5)), (2, .int v5), (3, .int v7)] := lv_sub hl [1, 2, 3, 0] rfl
      refine lv_goto (tgt := 6) X.x X.b (dk DX9_shortestRing_0 18 rfl) (by decide) ?_
      exact (lp_l hF hx) _ _ _ hH (lv_sub hl [0, 1, 2, 3] rfl) K0
set_option maxHeartbeats 4000000 in
set_option maxRecDepth 100000 in
theorem c_X9_shortestRing {l : Launch} {G : mG} {h : mM} {q : Nat → Nat} {q1 : Nat → Nat} (hq : oinj LX9 q) (hq1 : oinj LX10 q1) (ha : oap [(LX9, q), (LX10, q1)]) {st : OS} {st1 : OS} {x : Int32 × OS} (hF : f_X9_shortestRing st st1 = some x) : cQ l G yX9_shortestRing cX9_shortestRing 4 (some FieldType.int) rm_X9_shortestRing [.ref (q 7), .ref (q1 5)] (oset LX9 G q st (oset LX10 G q1 st1 h)) (mQi G (fun r h1 => r = x.1 ∧ h1 = oset LX9 G q x.2 (oset LX10 G q1 st1 h))) := by
  refine mp_of (by decide +kernel) (Nat.le_of_ble_eq_true rfl) ?_
  intro p e s m below meth c X hr hlk hH hname ls hl
  dsimp only [f_X9_shortestRing] at hF
  replace hl : lv_has ls 4 [(0, .ref (q 7)), (1, .ref (q1 5))] := hl
  refine lv_sipush (v := 1000) X.x X.b (dk DX9_shortestRing_0 0 rfl) (by decide) ?_
  refine lv_istore_n (lv' := [(2, .int 1000), (0, .ref (q 7)), (1, .ref (q1 5))]) X.x X.b (dk DX9_shortestRing_0 1 rfl) rfl hl (by decide) rfl (fun ls hl => ?_)
  replace hl : lv_has ls 4 [(0, .ref (q 7)), (1, .ref (q1 5)), (2, .int 1000)] := lv_sub hl [1, 2, 0] rfl
  refine lv_iconst (v := 0) X.x X.b (dk DX9_shortestRing_0 2 rfl) (by decide) ?_
  refine lv_istore_n (lv' := [(3, .int 0), (0, .ref (q 7)), (1, .ref (q1 5)), (2, .int 1000)]) X.x X.b (dk DX9_shortestRing_0 3 rfl) rfl hl (by decide) rfl (fun ls hl => ?_)
  replace hl : lv_has ls 4 [(0, .ref (q 7)), (1, .ref (q1 5)), (2, .int 1000), (3, .int 0)] := lv_sub hl [1, 2, 3, 0] rfl
  obtain ⟨x9, e10, hF⟩ := bd hF
  replace hl : lv_has ls 4 [(0, .ref (q 7)), (1, .ref (q1 5)), (2, .int 1000), (3, .int 0)] := lv_sub hl [0, 1, 2, 3] rfl
  obtain ⟨t11, v12⟩ := x9
  try dsimp only at hF
  refine w_X9_shortestRing_6 hq hq1 ha X st1 _ _ e10 _ _ _ hH hl (fun H locs ls hH hl => ?_)
  try dsimp only at hH hl
  refine lv_iload_n X.x X.b (dk DX9_shortestRing_0 19 rfl) rfl (lv_at hl 0 rfl) ?_
  refine lv_sipush (v := 1000) X.x X.b (dk DX9_shortestRing_0 20 rfl) (by decide) ?_
  refine lv_icmp_ne (tgt := 45) X.x X.b (dk DX9_shortestRing_0 21 rfl) (by decide) (fun c13 => ?_) (fun c13 => ?_)
  · replace hF := if_f hF c13
    refine lv_iload_n X.x X.b (dk DX9_shortestRing_0 24 rfl) rfl (lv_at hl 0 rfl) ?_
    cases sm hF
    exact mr_iret X hr hlk hH ⟨rfl, rfl⟩ (dk DX9_shortestRing_0 25 rfl)
  · replace hF := if_t hF c13
    refine lv_iconst (v := (-1)) X.x X.b (dk DX9_shortestRing_0 22 rfl) (by decide) ?_
    refine lv_goto (tgt := 46) X.x X.b (dk DX9_shortestRing_0 23 rfl) (by decide) ?_
    cases sm hF
    exact mr_iret X hr hlk hH ⟨rfl, rfl⟩ (dk DX9_shortestRing_0 25 rfl)
