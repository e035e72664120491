-- X8_markLines
abbrev rm_X8_markLines : Room := { frames := 2, cells := 0, slots := 0, locals := 51 }
theorem hd_X8_markLines : mHd yX8_markLines 1 := ⟨by decide +kernel, by decide +kernel, by decide +kernel⟩
theorem DX8_markLines_0 : ∀ t ∈ ([(0, .iconst 0, 1), (1, .istore_n 2, 1), (2, .iload_n 2, 1), (3, .aload_n 0, 1), (4, .getfield 84, 3), (7, .if_icmp .ge 57, 3), (10, .iload_n 2, 1), (11, .bipush 64, 2), (13, .if_icmp .ge 51, 3), (16, .aload_n 0, 1), (17, .getfield 36, 3), (20, .iload_n 2, 1), (21, .aload_n 0, 1), (22, .iload_n 1, 1), (23, .aload_n 0, 1), (24, .getfield 30, 3), (27, .aload_n 0, 1), (28, .getfield 13, 3), (31, .iload_n 2, 1), (32, .laload, 1), (33, .invokevirtual 158, 3), (36, .lastore, 1), (37, .aload_n 0, 1), (38, .getfield 39, 3), (41, .iload_n 2, 1), (42, .aload_n 0, 1), (43, .iload_n 1, 1), (44, .aload_n 0, 1), (45, .getfield 33, 3), (48, .aload_n 0, 1), (49, .getfield 17, 3), (52, .iload_n 2, 1), (53, .laload, 1), (54, .invokevirtual 158, 3), (57, .lastore, 1), (58, .iinc 2 1, 3), (61, .goto (-59), 3), (64, .return_, 1)] : List (Nat × Instr × Nat)), decode cX8_markLines t.1 = .ok (t.2.1, t.2.2) := by decide +kernel
noncomputable def f_X8_markLines_2 (b1 : Int32) : (OS × Int32) → Option ((OS × Int32) ⊕ (OS)) := fun z => match z with | (s_t, b2) => (if (s_t.1 1) ≤ b2 then some (.inr s_t) else (if 64 ≤ b2 then some (.inr s_t) else if inb b2 64 = true then (f_X8_markOf s_t 7 1088 b1 (s_t.2.2.2 2 (b2 : Int32).toNatClampNeg)).bind (fun x4 => bnd (oB s_t 9 (vp_updL (s_t.2.2.2 9) (b2 : Int32).toNatClampNeg x4)) (fun t7 => (f_X8_markOf t7 8 1088 b1 (t7.2.2.2 3 (b2 : Int32).toNatClampNeg)).bind (fun x9 => bnd (oB t7 10 (vp_updL (t7.2.2.2 10) (b2 : Int32).toNatClampNeg x9)) (fun t12 => bnd (b2 + 1 : Int32) (fun v14 => some (.inl ((t12, v14)))))))) else none))
noncomputable def f_X8_markLines (st : OS) (a0 : Int32) : Option (OS) := (lpv (f_X8_markLines_2 a0) ((st, 0))).bind (fun x16 => some x16)
set_option maxHeartbeats 4000000 in
set_option maxRecDepth 100000 in
theorem w_X8_markLines_2 {p : Program} {l : Launch} {e : Env} {s : State} {m : MethodId} {args : Array Value} {below : List Frame} {meth : Method} {c : Code} {Q : State → Prop} {G : mG} {h : mM} {q : Nat → Nat} (hq : oinj LX8 q) (X : mX G p m c cX8_markLines 3 s args RX8) (b1 : Int32) : ∀ (z : OS × Int32) (r : OS), lpv (f_X8_markLines_2 b1) z = some r → ∀ (H : Heap) (locs : List Loc) (ls : Array Slot), mH G (oset LX8 G q z.1 h) s.heap H locs → lv_has ls 3 [(0, .ref (q 15)), (1, .int b1), (2, .int z.2)] → (∀ (H : Heap) (locs : List Loc) (ls : Array Slot), mH G (oset LX8 G q r h) s.heap H locs → lv_has ls 3 [] → W p l e rm_X8_markLines s m args below meth c H locs 0 0 Q (F0 m 64 ls [])) → W p l e rm_X8_markLines s m args below meth c H locs 0 0 Q (F0 m 2 ls []) := by
  refine lpv_rec ?_
  intro z r x hF hx H locs ls hH hl K0
  obtain ⟨s_t, b2⟩ := z
  dsimp only [f_X8_markLines_2] at hF
  try dsimp only at hH hl
  refine lv_iload_n X.x X.b (dk DX8_markLines_0 2 rfl) rfl (lv_at hl 2 rfl) ?_
  refine lv_aload_n X.x X.b (dk DX8_markLines_0 3 rfl) rfl (lv_at hl 0 rfl) ?_
  refine og_getI OX8 X hq hH 1 (by decide) rfl kF_X8_84 (dk DX8_markLines_0 4 rfl) ?_
  refine lv_icmp_ge (tgt := 64) X.x X.b (dk DX8_markLines_0 5 rfl) (by decide) (fun c1 => ?_) (fun c1 => ?_)
  · replace hF := if_t hF c1
    have hr9 := lp_r hF hx
    subst hr9
    exact K0 _ _ _ hH (lv_sub hl [] rfl)
  · replace hF := if_f hF c1
    refine lv_iload_n X.x X.b (dk DX8_markLines_0 6 rfl) rfl (lv_at hl 2 rfl) ?_
    refine lv_bipush (v := 64) X.x X.b (dk DX8_markLines_0 7 rfl) (by decide) ?_
    refine lv_icmp_ge (tgt := 64) X.x X.b (dk DX8_markLines_0 8 rfl) (by decide) (fun c2 => ?_) (fun c2 => ?_)
    · replace hF := if_t hF c2
      have hr9 := lp_r hF hx
      subst hr9
      exact K0 _ _ _ hH (lv_sub hl [] rfl)
    · replace hF := if_f hF c2
      refine lv_aload_n X.x X.b (dk DX8_markLines_0 9 rfl) rfl (lv_at hl 0 rfl) ?_
      refine og_getR (t := 1) OX8 X hq hH 9 (by decide) rfl kF_X8_36 (dk DX8_markLines_0 10 rfl) ?_
      refine lv_iload_n X.x X.b (dk DX8_markLines_0 11 rfl) rfl (lv_at hl 2 rfl) ?_
      refine lv_aload_n X.x X.b (dk DX8_markLines_0 12 rfl) rfl (lv_at hl 0 rfl) ?_
      refine lv_iload_n X.x X.b (dk DX8_markLines_0 13 rfl) rfl (lv_at hl 1 rfl) ?_
      refine lv_aload_n X.x X.b (dk DX8_markLines_0 14 rfl) rfl (lv_at hl 0 rfl) ?_
      refine og_getR (t := 1) OX8 X hq hH 7 (by decide) rfl kF_X8_30 (dk DX8_markLines_0 15 rfl) ?_
      refine lv_aload_n X.x X.b (dk DX8_markLines_0 16 rfl) rfl (lv_at hl 0 rfl) ?_
      refine og_getR (t := 1) OX8 X hq hH 2 (by decide) rfl kF_X8_13 (dk DX8_markLines_0 17 rfl) ?_
      refine lv_iload_n X.x X.b (dk DX8_markLines_0 18 rfl) rfl (lv_at hl 2 rfl) ?_
      obtain ⟨c3, hF⟩ := gd hF
      refine og_lald X hq hH 2 (by decide) rfl (inb_in c3) (dk DX8_markLines_0 19 rfl) ?_
      obtain ⟨x4, e5, hF⟩ := bd hF
      refine mr_cl0 hH ⟨rfl, rfl⟩ (mr_runV (As := [.int b1, .ref (q 7), .long (s_t.2.2.2 2 (b2 : Int32).toNatClampNeg)]) (rest := [.int b2, .ref (q 9)]) X hH (c_X8_markOf hq (by decide) rfl e5) ((oset_at hq (Nat.le_refl _) ohas_N).trans (congrArg some ocell_N)) OX8.1 kM_X8_158 kI_X8_markOf kS_X8_markOf kN_X8 kC_X8_markOf hd_X8_markOf ⟨Nat.le_of_ble_eq_true rfl, Nat.le_of_ble_eq_true rfl⟩ rfl hl.1 (Nat.le_of_ble_eq_true rfl) (dk DX8_markLines_0 20 rfl) ⟨Nat.zero_le _, Nat.zero_le _⟩) (fun r h1 H locs hp hH => ?_)
      obtain ⟨hr1, hr2⟩ := hp; rw [hr1]; rw [hr2] at hH; clear hr1 hr2
      refine og_last X hq hH 9 (by decide) rfl (inb_in c3) (dk DX8_markLines_0 21 rfl) (fun H locs hH => ?_)
      obtain ⟨t7, e8⟩ : ∃ y, y = oB s_t 9 (vp_updL (s_t.2.2.2 9) (b2 : Int32).toNatClampNeg x4) := ⟨_, rfl⟩
      rw [← e8] at hH
      replace hF := bnd_e hF e8
      refine lv_aload_n X.x X.b (dk DX8_markLines_0 22 rfl) rfl (lv_at hl 0 rfl) ?_
      refine og_getR (t := 1) OX8 X hq hH 10 (by decide) rfl kF_X8_39 (dk DX8_markLines_0 23 rfl) ?_
      refine lv_iload_n X.x X.b (dk DX8_markLines_0 24 rfl) rfl (lv_at hl 2 rfl) ?_
      refine lv_aload_n X.x X.b (dk DX8_markLines_0 25 rfl) rfl (lv_at hl 0 rfl) ?_
      refine lv_iload_n X.x X.b (dk DX8_markLines_0 26 rfl) rfl (lv_at hl 1 rfl) ?_
      refine lv_aload_n X.x X.b (dk DX8_markLines_0 27 rfl) rfl (lv_at hl 0 rfl) ?_
      refine og_getR (t := 1) OX8 X hq hH 8 (by decide) rfl kF_X8_33 (dk DX8_markLines_0 28 rfl) ?_
      refine lv_aload_n X.x X.b (dk DX8_markLines_0 29 rfl) rfl (lv_at hl 0 rfl) ?_
      refine og_getR (t := 1) OX8 X hq hH 3 (by decide) rfl kF_X8_17 (dk DX8_markLines_0 30 rfl) ?_
      refine lv_iload_n X.x X.b (dk DX8_markLines_0 31 rfl) rfl (lv_at hl 2 rfl) ?_
      refine og_lald X hq hH 3 (by decide) rfl (inb_in c3) (dk DX8_markLines_0 32 rfl) ?_
      obtain ⟨x9, e10, hF⟩ := bd hF
      refine mr_cl0 hH ⟨rfl, rfl⟩ (mr_runV (As := [.int b1, .ref (q 8), .long (t7.2.2.2 3 (b2 : Int32).toNatClampNeg)]) (rest := [.int b2, .ref (q 10)]) X hH (c_X8_markOf hq (by decide) rfl e10) ((oset_at hq (Nat.le_refl _) ohas_N).trans (congrArg some ocell_N)) OX8.1 kM_X8_158 kI_X8_markOf kS_X8_markOf kN_X8 kC_X8_markOf hd_X8_markOf ⟨Nat.le_of_ble_eq_true rfl, Nat.le_of_ble_eq_true rfl⟩ rfl hl.1 (Nat.le_of_ble_eq_true rfl) (dk DX8_markLines_0 33 rfl) ⟨Nat.zero_le _, Nat.zero_le _⟩) (fun r h1 H locs hp hH => ?_)
      obtain ⟨hr1, hr2⟩ := hp; rw [hr1]; rw [hr2] at hH; clear hr1 hr2
      refine og_last X hq hH 10 (by decide) rfl (inb_in c3) (dk DX8_markLines_0 34 rfl) (fun H locs hH => ?_)
      obtain ⟨t12, e13⟩ : ∃ y, y = oB t7 10 (vp_updL (t7.2.2.2 10) (b2 : Int32).toNatClampNeg x9) := ⟨_, rfl⟩
      rw [← e13] at hH
      replace hF := bnd_e hF e13
      obtain ⟨v14, e15⟩ : ∃ y : Int32, y = b2 + 1 := ⟨_, rfl⟩
      replace hF := bnd_e hF e15
      refine lv_iinc (v := v14) (lv' := [(2, .int v14), (0, .ref (q 15)), (1, .int b1)]) X.x X.b (dk DX8_markLines_0 35 rfl) hl (k := 2) rfl (by rw [e15]; rfl) (by decide) rfl (fun ls hl => ?_)
      replace hl : lv_has ls 3 [(0, .ref (q 15)), (1, .int b1), (2, .int v14)] := lv_sub hl [1, 2, 0] rfl
      refine lv_goto (tgt := 2) X.x X.b (dk DX8_markLines_0 36 rfl) (by decide) ?_
      exact (lp_l hF hx) _ _ _ hH (lv_sub hl [0, 1, 2] rfl) K0
set_option maxHeartbeats 4000000 in
set_option maxRecDepth 100000 in
theorem c_X8_markLines {l : Launch} {G : mG} {h : mM} {q : Nat → Nat} (hq : oinj LX8 q) {st : OS} {a0 : Int32} {x : OS} (hF : f_X8_markLines st a0 = some x) : cQ l G yX8_markLines cX8_markLines 3 none rm_X8_markLines [.ref (q 15), .int a0] (oset LX8 G q st h) (mQv G (fun h1 => h1 = oset LX8 G q x h)) := by
  refine mp_of (by decide +kernel) (Nat.le_of_ble_eq_true rfl) ?_
  intro p e s m below meth c X hr hlk hH hname ls hl
  dsimp only [f_X8_markLines] at hF
  replace hl : lv_has ls 3 [(0, .ref (q 15)), (1, .int a0)] := hl
  refine lv_iconst (v := 0) X.x X.b (dk DX8_markLines_0 0 rfl) (by decide) ?_
  refine lv_istore_n (lv' := [(2, .int 0), (0, .ref (q 15)), (1, .int a0)]) X.x X.b (dk DX8_markLines_0 1 rfl) rfl hl (by decide) rfl (fun ls hl => ?_)
  replace hl : lv_has ls 3 [(0, .ref (q 15)), (1, .int a0), (2, .int 0)] := lv_sub hl [1, 2, 0] rfl
  obtain ⟨x16, e17, hF⟩ := bd hF
  replace hl : lv_has ls 3 [(0, .ref (q 15)), (1, .int a0), (2, .int 0)] := lv_sub hl [0, 1, 2] rfl
  refine w_X8_markLines_2 hq X a0 _ _ e17 _ _ _ hH hl (fun H locs ls hH hl => ?_)
  cases sm hF
  exact mr_vret X hr hlk hH rfl (dk DX8_markLines_0 37 rfl)
-- X8_markedSo
abbrev rm_X8_markedSo : Room := { frames := 2, cells := 0, slots := 0, locals := 43 }
theorem hd_X8_markedSo : mHd yX8_markedSo 3 := ⟨by decide +kernel, by decide +kernel, by decide +kernel⟩
theorem DX8_markedSo_0 : ∀ t ∈ ([(0, .lconst 0, 1), (1, .lstore 5, 2), (3, .lload_n 0, 1), (4, .lstore 7, 2), (6, .iconst 0, 1), (7, .istore 9, 2), (9, .iload 9, 2), (11, .bipush 64, 2), (13, .if_icmp .ge 57, 3), (16, .lload 7, 2), (18, .lconst 0, 1), (19, .lcmp, 1), (20, .ifCond .eq 50, 3), (23, .lload 7, 2), (25, .invokestatic 166, 3), (28, .istore 10, 2), (30, .lload 7, 2), (32, .lload 7, 2), (34, .lconst 1, 1), (35, .lsub, 1), (36, .land, 1), (37, .lstore 7, 2), (39, .iload 10, 2), (41, .aload_n 2, 1), (42, .arraylength, 1), (43, .if_icmp .ge 21, 3), (46, .aload_n 2, 1), (47, .iload 10, 2), (49, .laload, 1), (50, .lload_n 3, 1), (51, .lcmp, 1), (52, .ifCond .ne 12, 3), (55, .lload 5, 2), (57, .lconst 1, 1), (58, .iload 10, 2), (60, .lshl, 1), (61, .lor, 1), (62, .lstore 5, 2), (64, .iinc 9 1, 3), (67, .goto (-58), 3), (70, .lload 5, 2), (72, .lreturn, 1)] : List (Nat × Instr × Nat)), decode cX8_markedSo t.1 = .ok (t.2.1, t.2.2) := by decide +kernel
noncomputable def f_X8_markedSo_9 (na1 : Nat) (fa1 : Nat → Int64) (b3 : Int64) : (Int64 × Int64 × Int32) → Option ((Int64 × Int64 × Int32) ⊕ (Int64)) := fun z => match z with | (b5, b7, b9) => (if 64 ≤ b9 then some (.inr b5) else (if (lg_cmp b7 0) = 0 then some (.inr b5) else (f_J13_numberOfTrailingZeros_95d88 b7).bind (fun x3 => bnd (b7 &&& (b7 - 1) : Int64) (fun v6 => (if (nI na1) ≤ x3 then bnd (b9 + 1 : Int32) (fun v9 => some (.inl ((b5, v6, v9)))) else if inb x3 na1 = true then (if (lg_cmp (fa1 (x3 : Int32).toNatClampNeg) b3) = 0 then bnd (b5 ||| (((1 : Int64)) <<< ((x3 : Int32).toInt64 &&& 63)) : Int64) (fun v15 => bnd (b9 + 1 : Int32) (fun v17 => some (.inl ((v15, v6, v17))))) else bnd (b9 + 1 : Int32) (fun v13 => some (.inl ((b5, v6, v13))))) else none)))))
noncomputable def f_X8_markedSo (na1 : Nat) (fa1 : Nat → Int64) (a0 : Int64) (a2 : Int64) : Option (Int64) := (lpv (f_X8_markedSo_9 na1 fa1 a2) ((0, a0, 0))).bind (fun x19 => some x19)
set_option maxHeartbeats 4000000 in
set_option maxRecDepth 100000 in
theorem w_X8_markedSo_9 {p : Program} {l : Launch} {e : Env} {s : State} {m : MethodId} {args : Array Value} {below : List Frame} {meth : Method} {c : Code} {Q : State → Prop} {G : mG} {h : mM} {a1 : Nat} {na1 : Nat} {fa1 : Nat → Int64} (ha1 : h a1 = some (aJ G na1 fa1)) (X : mX G p m c cX8_markedSo 11 s args RX8) (b3 : Int64) : ∀ (z : Int64 × Int64 × Int32) (r : Int64), lpv (f_X8_markedSo_9 na1 fa1 b3) z = some r → ∀ (H : Heap) (locs : List Loc) (ls : Array Slot), mH G (h) s.heap H locs → lv_has ls 11 [(2, .ref a1), (3, .long b3), (5, .long z.1), (7, .long z.2.1), (9, .int z.2.2)] → (∀ (H : Heap) (locs : List Loc) (ls : Array Slot), mH G (h) s.heap H locs → lv_has ls 11 [(5, .long r)] → W p l e rm_X8_markedSo s m args below meth c H locs 0 0 Q (F0 m 70 ls [])) → W p l e rm_X8_markedSo s m args below meth c H locs 0 0 Q (F0 m 9 ls []) := by
  refine lpv_rec ?_
  intro z r x hF hx H locs ls hH hl K0
  obtain ⟨b5, b7, b9⟩ := z
  dsimp only [f_X8_markedSo_9] at hF
  try dsimp only at hH hl
  refine lv_iload X.x X.b (dk DX8_markedSo_0 6 rfl) (lv_at hl 4 rfl) ?_
  refine lv_bipush (v := 64) X.x X.b (dk DX8_markedSo_0 7 rfl) (by decide) ?_
  refine lv_icmp_ge (tgt := 70) X.x X.b (dk DX8_markedSo_0 8 rfl) (by decide) (fun c1 => ?_) (fun c1 => ?_)
  · replace hF := if_t hF c1
    have hr9 := lp_r hF hx
    subst hr9
    exact K0 _ _ _ hH (lv_sub hl [2] rfl)
  · replace hF := if_f hF c1
    refine lv_lload X.x X.b (dk DX8_markedSo_0 9 rfl) (lv_at hl 3 rfl) ?_
    refine lv_lconst (v := 0) X.x X.b (dk DX8_markedSo_0 10 rfl) (by decide) ?_
    refine W.lcmp X.x X.b (dk DX8_markedSo_0 11 rfl) ?_
    refine lv_if_eq (tgt := 70) X.x X.b (dk DX8_markedSo_0 12 rfl) (by decide) (fun c2 => ?_) (fun c2 => ?_)
    · replace hF := if_t hF c2
      have hr9 := lp_r hF hx
      subst hr9
      exact K0 _ _ _ hH (lv_sub hl [2] rfl)
    · replace hF := if_f hF c2
      refine lv_lload X.x X.b (dk DX8_markedSo_0 13 rfl) (lv_at hl 3 rfl) ?_
      obtain ⟨x3, e4, hF⟩ := bd hF
      refine mr_ci0 hH ⟨rfl, rfl⟩ (mr_runS (As := [.long b7]) (rest := []) X hH (c_J13_numberOfTrailingZeros_95d88 e4) kM_X8_166 kT_J13_numberOfTrailingZeros_95d88 kN_J13 kC_J13_numberOfTrailingZeros_95d88 hd_J13_numberOfTrailingZeros_95d88 ⟨Nat.le_of_ble_eq_true rfl, Nat.le_of_ble_eq_true rfl⟩ rfl hl.1 (Nat.le_of_ble_eq_true rfl) (dk DX8_markedSo_0 14 rfl) ⟨Nat.zero_le _, Nat.zero_le _⟩) (fun r h1 H locs hp hH => ?_)
      obtain ⟨hr1, hr2⟩ := hp; rw [hr1]; rw [hr2] at hH; clear hr1 hr2
      refine lv_istore (lv' := [(10, .int x3), (2, .ref a1), (3, .long b3), (5, .long b5), (7, .long b7), (9, .int b9)]) X.x X.b (dk DX8_markedSo_0 15 rfl) hl (by decide) rfl (fun ls hl => ?_)
      replace hl : lv_has ls 11 [(2, .ref a1), (3, .long b3), (5, .long b5), (7, .long b7), (9, .int b9), (10, .int x3)] := lv_sub hl [1, 2, 3, 4, 5, 0] rfl
      refine lv_lload X.x X.b (dk DX8_markedSo_0 16 rfl) (lv_at hl 3 rfl) ?_
      refine lv_lload X.x X.b (dk DX8_markedSo_0 17 rfl) (lv_at hl 3 rfl) ?_
      refine lv_lconst (v := 1) X.x X.b (dk DX8_markedSo_0 18 rfl) (by decide) ?_
      refine lv_lsub X.x X.b (dk DX8_markedSo_0 19 rfl) ?_
      refine lv_land X.x X.b (dk DX8_markedSo_0 20 rfl) ?_
      refine lv_topl (fun v6 e7 => ?_)
      replace hF := bnd_e hF e7
      refine lv_lstore (lv' := [(7, .long v6), (2, .ref a1), (3, .long b3), (5, .long b5), (9, .int b9), (10, .int x3)]) X.x X.b (dk DX8_markedSo_0 21 rfl) hl (by decide) rfl (fun ls hl => ?_)
      replace hl : lv_has ls 11 [(2, .ref a1), (3, .long b3), (5, .long b5), (7, .long v6), (9, .int b9), (10, .int x3)] := lv_sub hl [1, 2, 3, 0, 4, 5] rfl
      refine lv_iload X.x X.b (dk DX8_markedSo_0 22 rfl) (lv_at hl 5 rfl) ?_
      refine lv_aload_n X.x X.b (dk DX8_markedSo_0 23 rfl) rfl (lv_at hl 0 rfl) ?_
      refine va_alen (v := nI na1) X.x X.b X.2.1 (hH.1.one ha1) 0 1 rfl rfl rfl (dk DX8_markedSo_0 24 rfl) ?_
      refine lv_icmp_ge (tgt := 64) X.x X.b (dk DX8_markedSo_0 25 rfl) (by decide) (fun c8 => ?_) (fun c8 => ?_)
      · replace hF := if_t hF c8
        obtain ⟨v9, e10⟩ : ∃ y : Int32, y = b9 + 1 := ⟨_, rfl⟩
        replace hF := bnd_e hF e10
        refine lv_iinc (v := v9) (lv' := [(9, .int v9), (2, .ref a1), (3, .long b3), (5, .long b5), (7, .long v6), (10, .int x3)]) X.x X.b (dk DX8_markedSo_0 38 rfl) hl (k := 4) rfl (by rw [e10]; rfl) (by decide) rfl (fun ls hl => ?_)
        replace hl : lv_has ls 11 [(2, .ref a1), (3, .long b3), (5, .long b5), (7, .long v6), (9, .int v9)] := lv_sub hl [1, 2, 3, 4, 0] rfl
        refine lv_goto (tgt := 9) X.x X.b (dk DX8_markedSo_0 39 rfl) (by decide) ?_
        exact (lp_l hF hx) _ _ _ hH (lv_sub hl [0, 1, 2, 3, 4] rfl) K0
      · replace hF := if_f hF c8
        refine lv_aload_n X.x X.b (dk DX8_markedSo_0 26 rfl) rfl (lv_at hl 0 rfl) ?_
        refine lv_iload X.x X.b (dk DX8_markedSo_0 27 rfl) (lv_at hl 5 rfl) ?_
        obtain ⟨c11, hF⟩ := gd hF
        refine mr_lald X hH ha1 (inb_in c11) (dk DX8_markedSo_0 28 rfl) ?_
        refine lv_lload_n X.x X.b (dk DX8_markedSo_0 29 rfl) rfl (lv_at hl 1 rfl) ?_
        refine W.lcmp X.x X.b (dk DX8_markedSo_0 30 rfl) ?_
        refine lv_if_ne (tgt := 64) X.x X.b (dk DX8_markedSo_0 31 rfl) (by decide) (fun c12 => ?_) (fun c12 => ?_)
        · replace hF := if_f hF c12
          obtain ⟨v13, e14⟩ : ∃ y : Int32, y = b9 + 1 := ⟨_, rfl⟩
          replace hF := bnd_e hF e14
          refine lv_iinc (v := v13) (lv' := [(9, .int v13), (2, .ref a1), (3, .long b3), (5, .long b5), (7, .long v6), (10, .int x3)]) X.x X.b (dk DX8_markedSo_0 38 rfl) hl (k := 4) rfl (by rw [e14]; rfl) (by decide) rfl (fun ls hl => ?_)
          replace hl : lv_has ls 11 [(2, .ref a1), (3, .long b3), (5, .long b5), (7, .long v6), (9, .int v13)] := lv_sub hl [1, 2, 3, 4, 0] rfl
          refine lv_goto (tgt := 9) X.x X.b (dk DX8_markedSo_0 39 rfl) (by decide) ?_
          exact (lp_l hF hx) _ _ _ hH (lv_sub hl [0, 1, 2, 3, 4] rfl) K0
        · replace hF := if_t hF c12
          refine lv_lload X.x X.b (dk DX8_markedSo_0 32 rfl) (lv_at hl 2 rfl) ?_
          refine lv_lconst (v := 1) X.x X.b (dk DX8_markedSo_0 33 rfl) (by decide) ?_
          refine lv_iload X.x X.b (dk DX8_markedSo_0 34 rfl) (lv_at hl 5 rfl) ?_
          refine lv_lshl X.x X.b (dk DX8_markedSo_0 35 rfl) rfl ?_
          refine lv_lor X.x X.b (dk DX8_markedSo_0 36 rfl) ?_
          refine lv_topl (fun v15 e16 => ?_)
          replace hF := bnd_e hF e16
          refine lv_lstore (lv' := [(5, .long v15), (2, .ref a1), (3, .long b3), (7, .long v6), (9, .int b9), (10, .int x3)]) X.x X.b (dk DX8_markedSo_0 37 rfl) hl (by decide) rfl (fun ls hl => ?_)
          replace hl : lv_has ls 11 [(2, .ref a1), (3, .long b3), (5, .long v15), (7, .long v6), (9, .int b9)] := lv_sub hl [1, 2, 0, 3, 4] rfl
          obtain ⟨v17, e18⟩ : ∃ y : Int32, y = b9 + 1 := ⟨_, rfl⟩
          replace hF := bnd_e hF e18
          refine lv_iinc (v := v17) (lv' := [(9, .int v17), (2, .ref a1), (3, .long b3), (5, .long v15), (7, .long v6)]) X.x X.b (dk DX8_markedSo_0 38 rfl) hl (k := 4) rfl (by rw [e18]; rfl) (by decide) rfl (fun ls hl => ?_)
          replace hl : lv_has ls 11 [(2, .ref a1), (3, .long b3), (5, .long v15), (7, .long v6), (9, .int v17)] := lv_sub hl [1, 2, 3, 4, 0] rfl
          refine lv_goto (tgt := 9) X.x X.b (dk DX8_markedSo_0 39 rfl) (by decide) ?_
          exact (lp_l hF hx) _ _ _ hH (lv_sub hl [0, 1, 2, 3, 4] rfl) K0
set_option maxHeartbeats 4000000 in
set_option maxRecDepth 100000 in
theorem c_X8_markedSo {l : Launch} {G : mG} {h : mM} {a1 : Nat} {na1 : Nat} {fa1 : Nat → Int64} (ha1 : h a1 = some (aJ G na1 fa1)) {a0 : Int64} {a2 : Int64} {x : Int64} (hF : f_X8_markedSo na1 fa1 a0 a2 = some x) : cQ l G yX8_markedSo cX8_markedSo 11 (some FieldType.long) rm_X8_markedSo [.long a0, .ref a1, .long a2] (h) (mQl G (fun r h1 => r = x ∧ h1 = h)) := by
  refine mp_of (by decide +kernel) (Nat.le_of_ble_eq_true rfl) ?_
  intro p e s m below meth c X hr hlk hH hname ls hl
  dsimp only [f_X8_markedSo] at hF
  replace hl : lv_has ls 11 [(0, .long a0), (2, .ref a1), (3, .long a2)] := hl
  refine lv_lconst (v := 0) X.x X.b (dk DX8_markedSo_0 0 rfl) (by decide) ?_
  refine lv_lstore (lv' := [(5, .long 0), (0, .long a0), (2, .ref a1), (3, .long a2)]) X.x X.b (dk DX8_markedSo_0 1 rfl) hl (by decide) rfl (fun ls hl => ?_)
  replace hl : lv_has ls 11 [(0, .long a0), (2, .ref a1), (3, .long a2), (5, .long 0)] := lv_sub hl [1, 2, 3, 0] rfl
  refine lv_lload_n X.x X.b (dk DX8_markedSo_0 2 rfl) rfl (lv_at hl 0 rfl) ?_
  refine lv_lstore (lv' := [(7, .long a0), (0, .long a0), (2, .ref a1), (3, .long a2), (5, .long 0)]) X.x X.b (dk DX8_markedSo_0 3 rfl) hl (by decide) rfl (fun ls hl => ?_)
  replace hl : lv_has ls 11 [(2, .ref a1), (3, .long a2), (5, .long 0), (7, .long a0)] := lv_sub hl [2, 3, 4, 0] rfl
  refine lv_iconst (v := 0) X.x X.b (dk DX8_markedSo_0 4 rfl) (by decide) ?_
  refine lv_istore (lv' := [(9, .int 0), (2, .ref a1), (3, .long a2), (5, .long 0), (7, .long a0)]) X.x X.b (dk DX8_markedSo_0 5 rfl) hl (by decide) rfl (fun ls hl => ?_)
  replace hl : lv_has ls 11 [(2, .ref a1), (3, .long a2), (5, .long 0), (7, .long a0), (9, .int 0)] := lv_sub hl [1, 2, 3, 4, 0] rfl
  obtain ⟨x19, e20, hF⟩ := bd hF
  replace hl : lv_has ls 11 [(2, .ref a1), (3, .long a2), (5, .long 0), (7, .long a0), (9, .int 0)] := lv_sub hl [0, 1, 2, 3, 4] rfl
  refine w_X8_markedSo_9 ha1 X a2 _ _ e20 _ _ _ hH hl (fun H locs ls hH hl => ?_)
  refine lv_lload X.x X.b (dk DX8_markedSo_0 40 rfl) (lv_at hl 0 rfl) ?_
  cases sm hF
  exact mr_lret X hr hlk hH ⟨rfl, rfl⟩ (dk DX8_markedSo_0 41 rfl)
-- X8_split
abbrev rm_X8_split : Room := { frames := 0, cells := 0, slots := 0, locals := 0 }
theorem hd_X8_split : mHd yX8_split 4 := ⟨by decide +kernel, by decide +kernel, by decide +kernel⟩
theorem DX8_split_0 : ∀ t ∈ ([(0, .iload_n 1, 1), (1, .bipush 64, 2), (3, .imul, 1), (4, .iload_n 2, 1), (5, .iadd, 1), (6, .istore 7, 2), (8, .lload_n 3, 1), (9, .aload_n 0, 1), (10, .getfield 30, 3), (13, .iload 7, 2), (15, .laload, 1), (16, .lcmp, 1), (17, .ifCond .eq 14, 3), (20, .aload_n 0, 1), (21, .getfield 26, 3), (24, .iload_n 1, 1), (25, .iaload, 1), (26, .bipush 64, 2), (28, .if_icmp .lt 4, 3), (31, .return_, 1), (32, .iload_n 1, 1), (33, .bipush 64, 2), (35, .imul, 1), (36, .aload_n 0, 1), (37, .getfield 26, 3), (40, .iload_n 1, 1), (41, .iaload, 1), (42, .iadd, 1), (43, .istore 8, 2), (45, .aload_n 0, 1), (46, .getfield 30, 3), (49, .iload 8, 2), (51, .aload_n 0, 1), (52, .getfield 30, 3), (55, .iload 7, 2), (57, .laload, 1), (58, .lload_n 3, 1), (59, .ldc2_w 121, 3), (62, .lxor, 1), (63, .land, 1), (64, .lastore, 1), (65, .aload_n 0, 1), (66, .getfield 33, 3), (69, .iload 8, 2), (71, .aload_n 0, 1), (72, .getfield 33, 3), (75, .iload 7, 2), (77, .laload, 1), (78, .lload 5, 2), (80, .ldc2_w 121, 3), (83, .lxor, 1), (84, .land, 1), (85, .lastore, 1), (86, .aload_n 0, 1), (87, .getfield 30, 3), (90, .iload 7, 2), (92, .lload_n 3, 1), (93, .lastore, 1), (94, .aload_n 0, 1), (95, .getfield 33, 3)] : List (Nat × Instr × Nat)), decode cX8_split t.1 = .ok (t.2.1, t.2.2) := by decide +kernel
theorem DX8_split_1 : ∀ t ∈ ([(98, .iload 7, 2), (100, .lload 5, 2), (102, .lastore, 1), (103, .aload_n 0, 1), (104, .getfield 26, 3), (107, .iload_n 1, 1), (108, .dup2, 1), (109, .iaload, 1), (110, .iconst 1, 1), (111, .iadd, 1), (112, .iastore, 1), (113, .return_, 1)] : List (Nat × Instr × Nat)), decode cX8_split t.1 = .ok (t.2.1, t.2.2) := by decide +kernel
noncomputable def f_X8_split (st : OS) (a0 : Int32) (a1 : Int32) (a2 : Int64) (a3 : Int64) : Option (OS) := bnd ((a0 * 64) + a1 : Int32) (fun v1 => if inb v1 1088 = true then (if (lg_cmp a2 (st.2.2.2 7 (v1 : Int32).toNatClampNeg)) = 0 then some st else if inb a0 17 = true then (if (st.2.2.1 6 (a0 : Int32).toNatClampNeg) < 64 then bnd ((a0 * 64) + (st.2.2.1 6 (a0 : Int32).toNatClampNeg) : Int32) (fun v7 => if inb v7 1088 = true then bnd (oB st 7 (vp_updL (st.2.2.2 7) (v7 : Int32).toNatClampNeg ((st.2.2.2 7 (v1 : Int32).toNatClampNeg) &&& (a2 ^^^ ((-1)))))) (fun t10 => bnd (oB t10 8 (vp_updL (t10.2.2.2 8) (v7 : Int32).toNatClampNeg ((t10.2.2.2 8 (v1 : Int32).toNatClampNeg) &&& (a3 ^^^ ((-1)))))) (fun t12 => bnd (oB t12 7 (vp_updL (t12.2.2.2 7) (v1 : Int32).toNatClampNeg a2)) (fun t14 => bnd (oB t14 8 (vp_updL (t14.2.2.2 8) (v1 : Int32).toNatClampNeg a3)) (fun t16 => bnd (oA t16 6 (upd (t16.2.2.1 6) (a0 : Int32).toNatClampNeg ((t16.2.2.1 6 (a0 : Int32).toNatClampNeg) + 1))) (fun t18 => some t18))))) else none) else some st) else none) else none)
set_option maxHeartbeats 4000000 in
set_option maxRecDepth 100000 in
theorem c_X8_split {l : Launch} {G : mG} {h : mM} {q : Nat → Nat} (hq : oinj LX8 q) {st : OS} {a0 : Int32} {a1 : Int32} {a2 : Int64} {a3 : Int64} {x : OS} (hF : f_X8_split st a0 a1 a2 a3 = some x) : cQ l G yX8_split cX8_split 9 none rm_X8_split [.ref (q 15), .int a0, .int a1, .long a2, .long a3] (oset LX8 G q st h) (mQv G (fun h1 => h1 = oset LX8 G q x h)) := by
  refine mp_of (by decide +kernel) (Nat.le_of_ble_eq_true rfl) ?_
  intro p e s m below meth c X hr hlk hH hname ls hl
  dsimp only [f_X8_split] at hF
  replace hl : lv_has ls 9 [(0, .ref (q 15)), (1, .int a0), (2, .int a1), (3, .long a2), (5, .long a3)] := hl
  refine lv_iload_n X.x X.b (dk DX8_split_0 0 rfl) rfl (lv_at hl 1 rfl) ?_
  refine lv_bipush (v := 64) X.x X.b (dk DX8_split_0 1 rfl) (by decide) ?_
  refine lv_imul X.x X.b (dk DX8_split_0 2 rfl) ?_
  refine lv_iload_n X.x X.b (dk DX8_split_0 3 rfl) rfl (lv_at hl 2 rfl) ?_
  refine lv_iadd X.x X.b (dk DX8_split_0 4 rfl) ?_
  refine lv_topi (fun v1 e2 => ?_)
  replace hF := bnd_e hF e2
  refine lv_istore (lv' := [(7, .int v1), (0, .ref (q 15)), (1, .int a0), (2, .int a1), (3, .long a2), (5, .long a3)]) X.x X.b (dk DX8_split_0 5 rfl) hl (by decide) rfl (fun ls hl => ?_)
  replace hl : lv_has ls 9 [(0, .ref (q 15)), (1, .int a0), (3, .long a2), (5, .long a3), (7, .int v1)] := lv_sub hl [1, 2, 4, 5, 0] rfl
  refine lv_lload_n X.x X.b (dk DX8_split_0 6 rfl) rfl (lv_at hl 2 rfl) ?_
  refine lv_aload_n X.x X.b (dk DX8_split_0 7 rfl) rfl (lv_at hl 0 rfl) ?_
  refine og_getR (t := 1) OX8 X hq hH 7 (by decide) rfl kF_X8_30 (dk DX8_split_0 8 rfl) ?_
  refine lv_iload X.x X.b (dk DX8_split_0 9 rfl) (lv_at hl 4 rfl) ?_
  obtain ⟨c3, hF⟩ := gd hF
  refine og_lald X hq hH 7 (by decide) rfl (inb_in c3) (dk DX8_split_0 10 rfl) ?_
  refine W.lcmp X.x X.b (dk DX8_split_0 11 rfl) ?_
  refine lv_if_eq (tgt := 31) X.x X.b (dk DX8_split_0 12 rfl) (by decide) (fun c4 => ?_) (fun c4 => ?_)
  · replace hF := if_t hF c4
    cases sm hF
    exact mr_vret X hr hlk hH rfl (dk DX8_split_0 19 rfl)
  · replace hF := if_f hF c4
    refine lv_aload_n X.x X.b (dk DX8_split_0 13 rfl) rfl (lv_at hl 0 rfl) ?_
    refine og_getR (t := 0) OX8 X hq hH 6 (by decide) rfl kF_X8_26 (dk DX8_split_0 14 rfl) ?_
    refine lv_iload_n X.x X.b (dk DX8_split_0 15 rfl) rfl (lv_at hl 1 rfl) ?_
    obtain ⟨c5, hF⟩ := gd hF
    refine og_iald X hq hH 6 (by decide) rfl (inb_in c5) (dk DX8_split_0 16 rfl) ?_
    refine lv_bipush (v := 64) X.x X.b (dk DX8_split_0 17 rfl) (by decide) ?_
    refine lv_icmp_lt (tgt := 32) X.x X.b (dk DX8_split_0 18 rfl) (by decide) (fun c6 => ?_) (fun c6 => ?_)
    · replace hF := if_t hF c6
      refine lv_iload_n X.x X.b (dk DX8_split_0 20 rfl) rfl (lv_at hl 1 rfl) ?_
      refine lv_bipush (v := 64) X.x X.b (dk DX8_split_0 21 rfl) (by decide) ?_
      refine lv_imul X.x X.b (dk DX8_split_0 22 rfl) ?_
      refine lv_aload_n X.x X.b (dk DX8_split_0 23 rfl) rfl (lv_at hl 0 rfl) ?_
      refine og_getR (t := 0) OX8 X hq hH 6 (by decide) rfl kF_X8_26 (dk DX8_split_0 24 rfl) ?_
      refine lv_iload_n X.x X.b (dk DX8_split_0 25 rfl) rfl (lv_at hl 1 rfl) ?_
      refine og_iald X hq hH 6 (by decide) rfl (inb_in c5) (dk DX8_split_0 26 rfl) ?_
      refine lv_iadd X.x X.b (dk DX8_split_0 27 rfl) ?_
      refine lv_topi (fun v7 e8 => ?_)
      replace hF := bnd_e hF e8
      refine lv_istore (lv' := [(8, .int v7), (0, .ref (q 15)), (1, .int a0), (3, .long a2), (5, .long a3), (7, .int v1)]) X.x X.b (dk DX8_split_0 28 rfl) hl (by decide) rfl (fun ls hl => ?_)
      replace hl : lv_has ls 9 [(0, .ref (q 15)), (1, .int a0), (3, .long a2), (5, .long a3), (7, .int v1), (8, .int v7)] := lv_sub hl [1, 2, 3, 4, 5, 0] rfl
      refine lv_aload_n X.x X.b (dk DX8_split_0 29 rfl) rfl (lv_at hl 0 rfl) ?_
      refine og_getR (t := 1) OX8 X hq hH 7 (by decide) rfl kF_X8_30 (dk DX8_split_0 30 rfl) ?_
      refine lv_iload X.x X.b (dk DX8_split_0 31 rfl) (lv_at hl 5 rfl) ?_
      refine lv_aload_n X.x X.b (dk DX8_split_0 32 rfl) rfl (lv_at hl 0 rfl) ?_
      refine og_getR (t := 1) OX8 X hq hH 7 (by decide) rfl kF_X8_30 (dk DX8_split_0 33 rfl) ?_
      refine lv_iload X.x X.b (dk DX8_split_0 34 rfl) (lv_at hl 4 rfl) ?_
      refine og_lald X hq hH 7 (by decide) rfl (inb_in c3) (dk DX8_split_0 35 rfl) ?_
      refine lv_lload_n X.x X.b (dk DX8_split_0 36 rfl) rfl (lv_at hl 2 rfl) ?_
      refine lv_ldc2 (v := (-1)) X.x X.b X.ow (X.ts _ kK_X8_121) (dk DX8_split_0 37 rfl) ?_
      refine lv_lxor X.x X.b (dk DX8_split_0 38 rfl) ?_
      refine lv_land X.x X.b (dk DX8_split_0 39 rfl) ?_
      obtain ⟨c9, hF⟩ := gd hF
      refine og_last X hq hH 7 (by decide) rfl (inb_in c9) (dk DX8_split_0 40 rfl) (fun H locs hH => ?_)
      obtain ⟨t10, e11⟩ : ∃ y, y = oB st 7 (vp_updL (st.2.2.2 7) (v7 : Int32).toNatClampNeg ((st.2.2.2 7 (v1 : Int32).toNatClampNeg) &&& (a2 ^^^ ((-1))))) := ⟨_, rfl⟩
      rw [← e11] at hH
      replace hF := bnd_e hF e11
      refine lv_aload_n X.x X.b (dk DX8_split_0 41 rfl) rfl (lv_at hl 0 rfl) ?_
      refine og_getR (t := 1) OX8 X hq hH 8 (by decide) rfl kF_X8_33 (dk DX8_split_0 42 rfl) ?_
      refine lv_iload X.x X.b (dk DX8_split_0 43 rfl) (lv_at hl 5 rfl) ?_
      refine lv_aload_n X.x X.b (dk DX8_split_0 44 rfl) rfl (lv_at hl 0 rfl) ?_
      refine og_getR (t := 1) OX8 X hq hH 8 (by decide) rfl kF_X8_33 (dk DX8_split_0 45 rfl) ?_
      refine lv_iload X.x X.b (dk DX8_split_0 46 rfl) (lv_at hl 4 rfl) ?_
      refine og_lald X hq hH 8 (by decide) rfl (inb_in c3) (dk DX8_split_0 47 rfl) ?_
      refine lv_lload X.x X.b (dk DX8_split_0 48 rfl) (lv_at hl 3 rfl) ?_
      refine lv_ldc2 (v := (-1)) X.x X.b X.ow (X.ts _ kK_X8_121) (dk DX8_split_0 49 rfl) ?_
      refine lv_lxor X.x X.b (dk DX8_split_0 50 rfl) ?_
      refine lv_land X.x X.b (dk DX8_split_0 51 rfl) ?_
      refine og_last X hq hH 8 (by decide) rfl (inb_in c9) (dk DX8_split_0 52 rfl) (fun H locs hH => ?_)
      obtain ⟨t12, e13⟩ : ∃ y, y = oB t10 8 (vp_updL (t10.2.2.2 8) (v7 : Int32).toNatClampNeg ((t10.2.2.2 8 (v1 : Int32).toNatClampNeg) &&& (a3 ^^^ ((-1))))) := ⟨_, rfl⟩
      rw [← e13] at hH
      replace hF := bnd_e hF e13
      refine lv_aload_n X.x X.b (dk DX8_split_0 53 rfl) rfl (lv_at hl 0 rfl) ?_
      refine og_getR (t := 1) OX8 X hq hH 7 (by decide) rfl kF_X8_30 (dk DX8_split_0 54 rfl) ?_
      refine lv_iload X.x X.b (dk DX8_split_0 55 rfl) (lv_at hl 4 rfl) ?_
      refine lv_lload_n X.x X.b (dk DX8_split_0 56 rfl) rfl (lv_at hl 2 rfl) ?_
      refine og_last X hq hH 7 (by decide) rfl (inb_in c3) (dk DX8_split_0 57 rfl) (fun H locs hH => ?_)
      obtain ⟨t14, e15⟩ : ∃ y, y = oB t12 7 (vp_updL (t12.2.2.2 7) (v1 : Int32).toNatClampNeg a2) := ⟨_, rfl⟩
      rw [← e15] at hH
      replace hF := bnd_e hF e15
      refine lv_aload_n X.x X.b (dk DX8_split_0 58 rfl) rfl (lv_at hl 0 rfl) ?_
      refine og_getR (t := 1) OX8 X hq hH 8 (by decide) rfl kF_X8_33 (dk DX8_split_0 59 rfl) ?_
      refine lv_iload X.x X.b (dk DX8_split_1 0 rfl) (lv_at hl 4 rfl) ?_
      refine lv_lload X.x X.b (dk DX8_split_1 1 rfl) (lv_at hl 3 rfl) ?_
      refine og_last X hq hH 8 (by decide) rfl (inb_in c3) (dk DX8_split_1 2 rfl) (fun H locs hH => ?_)
      obtain ⟨t16, e17⟩ : ∃ y, y = oB t14 8 (vp_updL (t14.2.2.2 8) (v1 : Int32).toNatClampNeg a3) := ⟨_, rfl⟩
      rw [← e17] at hH
      replace hF := bnd_e hF e17
      refine lv_aload_n X.x X.b (dk DX8_split_1 3 rfl) rfl (lv_at hl 0 rfl) ?_
      refine og_getR (t := 0) OX8 X hq hH 6 (by decide) rfl kF_X8_26 (dk DX8_split_1 4 rfl) ?_
      refine lv_iload_n X.x X.b (dk DX8_split_1 5 rfl) rfl (lv_at hl 1 rfl) ?_
      refine lv_dup2_11 X.x X.b (dk DX8_split_1 6 rfl) rfl rfl ?_
      refine og_iald X hq hH 6 (by decide) rfl (inb_in c5) (dk DX8_split_1 7 rfl) ?_
      refine lv_iconst (v := 1) X.x X.b (dk DX8_split_1 8 rfl) (by decide) ?_
      refine lv_iadd X.x X.b (dk DX8_split_1 9 rfl) ?_
      refine og_iast X hq hH 6 (by decide) rfl (inb_in c5) (dk DX8_split_1 10 rfl) (fun H locs hH => ?_)
      obtain ⟨t18, e19⟩ : ∃ y, y = oA t16 6 (upd (t16.2.2.1 6) (a0 : Int32).toNatClampNeg ((t16.2.2.1 6 (a0 : Int32).toNatClampNeg) + 1)) := ⟨_, rfl⟩
      rw [← e19] at hH
      replace hF := bnd_e hF e19
      cases sm hF
      exact mr_vret X hr hlk hH rfl (dk DX8_split_1 11 rfl)
    · replace hF := if_f hF c6
      cases sm hF
      exact mr_vret X hr hlk hH rfl (dk DX8_split_0 19 rfl)
-- X8_partByMarks
abbrev rm_X8_partByMarks : Room := { frames := 3, cells := 0, slots := 0, locals := 73 }
theorem hd_X8_partByMarks : mHd yX8_partByMarks 1 := ⟨by decide +kernel, by decide +kernel, by decide +kernel⟩
theorem DX8_partByMarks_0 : ∀ t ∈ ([(0, .iconst 0, 1), (1, .istore_n 2, 1), (2, .iload_n 2, 1), (3, .aload_n 0, 1), (4, .getfield 26, 3), (7, .iload_n 1, 1), (8, .iaload, 1), (9, .if_icmp .ge 116, 3), (12, .iload_n 2, 1), (13, .bipush 64, 2), (15, .if_icmp .ge 110, 3), (18, .iload_n 1, 1), (19, .bipush 64, 2), (21, .imul, 1), (22, .iload_n 2, 1), (23, .iadd, 1), (24, .istore_n 3, 1), (25, .aload_n 0, 1), (26, .getfield 30, 3), (29, .iload_n 3, 1), (30, .laload, 1), (31, .invokestatic 103, 3), (34, .istore 4, 2), (36, .iload 4, 2), (38, .ifCond .lt 10, 3), (41, .iload 4, 2), (43, .bipush 64, 2), (45, .if_icmp .lt 5, 3), (48, .iconst 0, 1), (49, .ireturn, 1), (50, .aload_n 0, 1), (51, .getfield 30, 3), (54, .iload_n 3, 1), (55, .laload, 1), (56, .aload_n 0, 1), (57, .getfield 36, 3), (60, .aload_n 0, 1), (61, .getfield 36, 3), (64, .iload 4, 2), (66, .laload, 1), (67, .invokestatic 162, 3), (70, .lstore 5, 2), (72, .aload_n 0, 1), (73, .getfield 33, 3), (76, .iload_n 3, 1), (77, .laload, 1), (78, .aload_n 0, 1), (79, .getfield 39, 3), (82, .aload_n 0, 1), (83, .getfield 36, 3), (86, .iload 4, 2), (88, .laload, 1), (89, .invokestatic 162, 3), (92, .lstore 7, 2), (94, .lload 5, 2), (96, .invokestatic 123, 3), (99, .lload 7, 2), (101, .invokestatic 123, 3), (104, .if_icmp .eq 5, 3), (107, .iconst 0, 1)] : List (Nat × Instr × Nat)), decode cX8_partByMarks t.1 = .ok (t.2.1, t.2.2) := by decide +kernel
theorem DX8_partByMarks_1 : ∀ t ∈ ([(108, .ireturn, 1), (109, .aload_n 0, 1), (110, .iload_n 1, 1), (111, .iload_n 2, 1), (112, .lload 5, 2), (114, .lload 7, 2), (116, .invokevirtual 145, 3), (119, .iinc 2 1, 3), (122, .goto (-120), 3), (125, .iconst 1, 1), (126, .ireturn, 1)] : List (Nat × Instr × Nat)), decode cX8_partByMarks t.1 = .ok (t.2.1, t.2.2) := by decide +kernel
noncomputable def f_X8_partByMarks_2 (b1 : Int32) : (OS × Int32) → Option ((OS × Int32) ⊕ (Nat × OS)) := fun z => match z with | (s_t, b2) => if inb b1 17 = true then (if (s_t.2.2.1 6 (b1 : Int32).toNatClampNeg) ≤ b2 then some (.inr ((2, s_t))) else (if 64 ≤ b2 then some (.inr ((2, s_t))) else bnd ((b1 * 64) + b2 : Int32) (fun v4 => if inb v4 1088 = true then (f_X10_lowest (s_t.2.2.2 7 (v4 : Int32).toNatClampNeg)).bind (fun x7 => (if x7 < 0 then some (.inr ((0, s_t))) else (if x7 < 64 then if inb x7 64 = true then (f_X8_markedSo 64 ((s_t.2.2.2 9)) (s_t.2.2.2 7 (v4 : Int32).toNatClampNeg) (s_t.2.2.2 9 (x7 : Int32).toNatClampNeg)).bind (fun x13 => (f_X8_markedSo 64 ((s_t.2.2.2 10)) (s_t.2.2.2 8 (v4 : Int32).toNatClampNeg) (s_t.2.2.2 9 (x7 : Int32).toNatClampNeg)).bind (fun x16 => (f_J13_bitCount_95d88 x13).bind (fun x19 => (f_J13_bitCount_95d88 x16).bind (fun x22 => (if x19 = x22 then (f_X8_split s_t b1 b2 x13 x16).bind (fun x26 => bnd (b2 + 1 : Int32) (fun v29 => some (.inl ((x26, v29))))) else some (.inr ((1, s_t)))))))) else none else some (.inr ((0, s_t)))))) else none))) else none
noncomputable def f_X8_partByMarks (st : OS) (a0 : Int32) : Option (Int32 × OS) := (lpv (f_X8_partByMarks_2 a0) ((st, 0))).bind (fun x31 => match x31 with | (k34, t33) => (if k34 = 0 then some ((0, t33)) else (if k34 = 1 then some ((0, t33)) else some ((1, t33)))))
set_option maxHeartbeats 4000000 in
set_option maxRecDepth 100000 in
theorem w_X8_partByMarks_2 {p : Program} {l : Launch} {e : Env} {s : State} {m : MethodId} {args : Array Value} {below : List Frame} {meth : Method} {c : Code} {Q : State → Prop} {G : mG} {h : mM} {q : Nat → Nat} (hq : oinj LX8 q) (X : mX G p m c cX8_partByMarks 9 s args RX8) (b1 : Int32) : ∀ (z : OS × Int32) (r : Nat × OS), lpv (f_X8_partByMarks_2 b1) z = some r → ∀ (H : Heap) (locs : List Loc) (ls : Array Slot), mH G (oset LX8 G q z.1 h) s.heap H locs → lv_has ls 9 [(0, .ref (q 15)), (1, .int b1), (2, .int z.2)] → (r.1 = 0 → ∀ (H : Heap) (locs : List Loc) (ls : Array Slot), mH G (oset LX8 G q r.2 h) s.heap H locs → lv_has ls 9 [] → W p l e rm_X8_partByMarks s m args below meth c H locs 0 0 Q (F0 m 48 ls [])) → (r.1 = 1 → ∀ (H : Heap) (locs : List Loc) (ls : Array Slot), mH G (oset LX8 G q r.2 h) s.heap H locs → lv_has ls 9 [] → W p l e rm_X8_partByMarks s m args below meth c H locs 0 0 Q (F0 m 107 ls [])) → (r.1 = 2 → ∀ (H : Heap) (locs : List Loc) (ls : Array Slot), mH G (oset LX8 G q r.2 h) s.heap H locs → lv_has ls 9 [] → W p l e rm_X8_partByMarks s m args below meth c H locs 0 0 Q (F0 m 125 ls [])) → W p l e rm_X8_partByMarks s m args below meth c H locs 0 0 Q (F0 m 2 ls []) := by
  refine lpv_rec ?_
  intro z r x hF hx H locs ls hH hl K0 K1 K2
  obtain ⟨s_t, b2⟩ := z
  dsimp only [f_X8_partByMarks_2] at hF
  try dsimp only at hH hl
  refine lv_iload_n X.x X.b (dk DX8_partByMarks_0 2 rfl) rfl (lv_at hl 2 rfl) ?_
  refine lv_aload_n X.x X.b (dk DX8_partByMarks_0 3 rfl) rfl (lv_at hl 0 rfl) ?_
  refine og_getR (t := 0) OX8 X hq hH 6 (by decide) rfl kF_X8_26 (dk DX8_partByMarks_0 4 rfl) ?_
  refine lv_iload_n X.x X.b (dk DX8_partByMarks_0 5 rfl) rfl (lv_at hl 1 rfl) ?_
  obtain ⟨c1, hF⟩ := gd hF
  refine og_iald X hq hH 6 (by decide) rfl (inb_in c1) (dk DX8_partByMarks_0 6 rfl) ?_
  refine lv_icmp_ge (tgt := 125) X.x X.b (dk DX8_partByMarks_0 7 rfl) (by decide) (fun c2 => ?_) (fun c2 => ?_)
  · replace hF := if_t hF c2
    have hr9 := lp_r hF hx
    subst hr9
    exact K2 rfl _ _ _ hH (lv_sub hl [] rfl)
  · replace hF := if_f hF c2
    refine lv_iload_n X.x X.b (dk DX8_partByMarks_0 8 rfl) rfl (lv_at hl 2 rfl) ?_
    refine lv_bipush (v := 64) X.x X.b (dk DX8_partByMarks_0 9 rfl) (by decide) ?_
    refine lv_icmp_ge (tgt := 125) X.x X.b (dk DX8_partByMarks_0 10 rfl) (by decide) (fun c3 => ?_) (fun c3 => ?_)
    · replace hF := if_t hF c3
      have hr9 := lp_r hF hx
      subst hr9
      exact K2 rfl _ _ _ hH (lv_sub hl [] rfl)
    · replace hF := if_f hF c3
      refine lv_iload_n X.x X.b (dk DX8_partByMarks_0 11 rfl) rfl (lv_at hl 1 rfl) ?_
      refine lv_bipush (v := 64) X.x X.b (dk DX8_partByMarks_0 12 rfl) (by decide) ?_
      refine lv_imul X.x X.b (dk DX8_partByMarks_0 13 rfl) ?_
      refine lv_iload_n X.x X.b (dk DX8_partByMarks_0 14 rfl) rfl (lv_at hl 2 rfl) ?_
      refine lv_iadd X.x X.b (dk DX8_partByMarks_0 15 rfl) ?_
      refine lv_topi (fun v4 e5 => ?_)
      replace hF := bnd_e hF e5
      refine lv_istore_n (lv' := [(3, .int v4), (0, .ref (q 15)), (1, .int b1), (2, .int b2)]) X.x X.b (dk DX8_partByMarks_0 16 rfl) rfl hl (by decide) rfl (fun ls hl => ?_)
      replace hl : lv_has ls 9 [(0, .ref (q 15)), (1, .int b1), (2, .int b2), (3, .int v4)] := lv_sub hl [1, 2, 3, 0] rfl
      refine lv_aload_n X.x X.b (dk DX8_partByMarks_0 17 rfl) rfl (lv_at hl 0 rfl) ?_
      refine og_getR (t := 1) OX8 X hq hH 7 (by decide) rfl kF_X8_30 (dk DX8_partByMarks_0 18 rfl) ?_
      refine lv_iload_n X.x X.b (dk DX8_partByMarks_0 19 rfl) rfl (lv_at hl 3 rfl) ?_
      obtain ⟨c6, hF⟩ := gd hF
      refine og_lald X hq hH 7 (by decide) rfl (inb_in c6) (dk DX8_partByMarks_0 20 rfl) ?_
      obtain ⟨x7, e8, hF⟩ := bd hF
      refine mr_ci0 hH ⟨rfl, rfl⟩ (mr_runS (As := [.long (s_t.2.2.2 7 (v4 : Int32).toNatClampNeg)]) (rest := []) X hH (c_X10_lowest e8) kM_X8_103 kT_X10_lowest kN_X10 kC_X10_lowest hd_X10_lowest ⟨Nat.le_of_ble_eq_true rfl, Nat.le_of_ble_eq_true rfl⟩ rfl hl.1 (Nat.le_of_ble_eq_true rfl) (dk DX8_partByMarks_0 21 rfl) ⟨Nat.zero_le _, Nat.zero_le _⟩) (fun r h1 H locs hp hH => ?_)
      obtain ⟨hr1, hr2⟩ := hp; rw [hr1]; rw [hr2] at hH; clear hr1 hr2
      refine lv_istore (lv' := [(4, .int x7), (0, .ref (q 15)), (1, .int b1), (2, .int b2), (3, .int v4)]) X.x X.b (dk DX8_partByMarks_0 22 rfl) hl (by decide) rfl (fun ls hl => ?_)
      replace hl : lv_has ls 9 [(0, .ref (q 15)), (1, .int b1), (2, .int b2), (3, .int v4), (4, .int x7)] := lv_sub hl [1, 2, 3, 4, 0] rfl
      refine lv_iload X.x X.b (dk DX8_partByMarks_0 23 rfl) (lv_at hl 4 rfl) ?_
      refine lv_if_lt (tgt := 48) X.x X.b (dk DX8_partByMarks_0 24 rfl) (by decide) (fun c10 => ?_) (fun c10 => ?_)
      · replace hF := if_t hF c10
        have hr9 := lp_r hF hx
        subst hr9
        exact K0 rfl _ _ _ hH (lv_sub hl [] rfl)
      · replace hF := if_f hF c10
        refine lv_iload X.x X.b (dk DX8_partByMarks_0 25 rfl) (lv_at hl 4 rfl) ?_
        refine lv_bipush (v := 64) X.x X.b (dk DX8_partByMarks_0 26 rfl) (by decide) ?_
        refine lv_icmp_lt (tgt := 50) X.x X.b (dk DX8_partByMarks_0 27 rfl) (by decide) (fun c11 => ?_) (fun c11 => ?_)
        · replace hF := if_t hF c11
          refine lv_aload_n X.x X.b (dk DX8_partByMarks_0 30 rfl) rfl (lv_at hl 0 rfl) ?_
          refine og_getR (t := 1) OX8 X hq hH 7 (by decide) rfl kF_X8_30 (dk DX8_partByMarks_0 31 rfl) ?_
          refine lv_iload_n X.x X.b (dk DX8_partByMarks_0 32 rfl) rfl (lv_at hl 3 rfl) ?_
          refine og_lald X hq hH 7 (by decide) rfl (inb_in c6) (dk DX8_partByMarks_0 33 rfl) ?_
          refine lv_aload_n X.x X.b (dk DX8_partByMarks_0 34 rfl) rfl (lv_at hl 0 rfl) ?_
          refine og_getR (t := 1) OX8 X hq hH 9 (by decide) rfl kF_X8_36 (dk DX8_partByMarks_0 35 rfl) ?_
          refine lv_aload_n X.x X.b (dk DX8_partByMarks_0 36 rfl) rfl (lv_at hl 0 rfl) ?_
          refine og_getR (t := 1) OX8 X hq hH 9 (by decide) rfl kF_X8_36 (dk DX8_partByMarks_0 37 rfl) ?_
          refine lv_iload X.x X.b (dk DX8_partByMarks_0 38 rfl) (lv_at hl 4 rfl) ?_
          obtain ⟨c12, hF⟩ := gd hF
          refine og_lald X hq hH 9 (by decide) rfl (inb_in c12) (dk DX8_partByMarks_0 39 rfl) ?_
          obtain ⟨x13, e14, hF⟩ := bd hF
          refine mr_cl0 hH ⟨rfl, rfl⟩ (mr_runS (As := [.long (s_t.2.2.2 7 (v4 : Int32).toNatClampNeg), .ref (q 9), .long (s_t.2.2.2 9 (x7 : Int32).toNatClampNeg)]) (rest := []) X hH (c_X8_markedSo ((oset_at hq (k := 9) (by decide) rfl).trans (congrArg some (oc_k (t := 3) (n := 64) (by decide) rfl))) e14) kM_X8_162 kT_X8_markedSo kN_X8 kC_X8_markedSo hd_X8_markedSo ⟨Nat.le_of_ble_eq_true rfl, Nat.le_of_ble_eq_true rfl⟩ rfl hl.1 (Nat.le_of_ble_eq_true rfl) (dk DX8_partByMarks_0 40 rfl) ⟨Nat.zero_le _, Nat.zero_le _⟩) (fun r h1 H locs hp hH => ?_)
          obtain ⟨hr1, hr2⟩ := hp; rw [hr1]; rw [hr2] at hH; clear hr1 hr2
          refine lv_lstore (lv' := [(5, .long x13), (0, .ref (q 15)), (1, .int b1), (2, .int b2), (3, .int v4), (4, .int x7)]) X.x X.b (dk DX8_partByMarks_0 41 rfl) hl (by decide) rfl (fun ls hl => ?_)
          replace hl : lv_has ls 9 [(0, .ref (q 15)), (1, .int b1), (2, .int b2), (3, .int v4), (4, .int x7), (5, .long x13)] := lv_sub hl [1, 2, 3, 4, 5, 0] rfl
          refine lv_aload_n X.x X.b (dk DX8_partByMarks_0 42 rfl) rfl (lv_at hl 0 rfl) ?_
          refine og_getR (t := 1) OX8 X hq hH 8 (by decide) rfl kF_X8_33 (dk DX8_partByMarks_0 43 rfl) ?_
          refine lv_iload_n X.x X.b (dk DX8_partByMarks_0 44 rfl) rfl (lv_at hl 3 rfl) ?_
          refine og_lald X hq hH 8 (by decide) rfl (inb_in c6) (dk DX8_partByMarks_0 45 rfl) ?_
          refine lv_aload_n X.x X.b (dk DX8_partByMarks_0 46 rfl) rfl (lv_at hl 0 rfl) ?_
          refine og_getR (t := 1) OX8 X hq hH 10 (by decide) rfl kF_X8_39 (dk DX8_partByMarks_0 47 rfl) ?_
          refine lv_aload_n X.x X.b (dk DX8_partByMarks_0 48 rfl) rfl (lv_at hl 0 rfl) ?_
          refine og_getR (t := 1) OX8 X hq hH 9 (by decide) rfl kF_X8_36 (dk DX8_partByMarks_0 49 rfl) ?_
          refine lv_iload X.x X.b (dk DX8_partByMarks_0 50 rfl) (lv_at hl 4 rfl) ?_
          refine og_lald X hq hH 9 (by decide) rfl (inb_in c12) (dk DX8_partByMarks_0 51 rfl) ?_
          obtain ⟨x16, e17, hF⟩ := bd hF
          refine mr_cl0 hH ⟨rfl, rfl⟩ (mr_runS (As := [.long (s_t.2.2.2 8 (v4 : Int32).toNatClampNeg), .ref (q 10), .long (s_t.2.2.2 9 (x7 : Int32).toNatClampNeg)]) (rest := []) X hH (c_X8_markedSo ((oset_at hq (k := 10) (by decide) rfl).trans (congrArg some (oc_k (t := 3) (n := 64) (by decide) rfl))) e17) kM_X8_162 kT_X8_markedSo kN_X8 kC_X8_markedSo hd_X8_markedSo ⟨Nat.le_of_ble_eq_true rfl, Nat.le_of_ble_eq_true rfl⟩ rfl hl.1 (Nat.le_of_ble_eq_true rfl) (dk DX8_partByMarks_0 52 rfl) ⟨Nat.zero_le _, Nat.zero_le _⟩) (fun r h1 H locs hp hH => ?_)
          obtain ⟨hr1, hr2⟩ := hp; rw [hr1]; rw [hr2] at hH; clear hr1 hr2
          refine lv_lstore (lv' := [(7, .long x16), (0, .ref (q 15)), (1, .int b1), (2, .int b2), (3, .int v4), (4, .int x7), (5, .long x13)]) X.x X.b (dk DX8_partByMarks_0 53 rfl) hl (by decide) rfl (fun ls hl => ?_)
          replace hl : lv_has ls 9 [(0, .ref (q 15)), (1, .int b1), (2, .int b2), (5, .long x13), (7, .long x16)] := lv_sub hl [1, 2, 3, 6, 0] rfl
          refine lv_lload X.x X.b (dk DX8_partByMarks_0 54 rfl) (lv_at hl 3 rfl) ?_
          obtain ⟨x19, e20, hF⟩ := bd hF
          refine mr_ci0 hH ⟨rfl, rfl⟩ (mr_runS (As := [.long x13]) (rest := []) X hH (c_J13_bitCount_95d88 e20) kM_X8_123 kT_J13_bitCount_95d88 kN_J13 kC_J13_bitCount_95d88 hd_J13_bitCount_95d88 ⟨Nat.le_of_ble_eq_true rfl, Nat.le_of_ble_eq_true rfl⟩ rfl hl.1 (Nat.le_of_ble_eq_true rfl) (dk DX8_partByMarks_0 55 rfl) ⟨Nat.zero_le _, Nat.zero_le _⟩) (fun r h1 H locs hp hH => ?_)
          obtain ⟨hr1, hr2⟩ := hp; rw [hr1]; rw [hr2] at hH; clear hr1 hr2
          refine lv_lload X.x X.b (dk DX8_partByMarks_0 56 rfl) (lv_at hl 4 rfl) ?_
          obtain ⟨x22, e23, hF⟩ := bd hF
          refine mr_ci0 hH ⟨rfl, rfl⟩ (mr_runS (As := [.long x16]) (rest := [.int x19]) X hH (c_J13_bitCount_95d88 e23) kM_X8_123 kT_J13_bitCount_95d88 kN_J13 kC_J13_bitCount_95d88 hd_J13_bitCount_95d88 ⟨Nat.le_of_ble_eq_true rfl, Nat.le_of_ble_eq_true rfl⟩ rfl hl.1 (Nat.le_of_ble_eq_true rfl) (dk DX8_partByMarks_0 57 rfl) ⟨Nat.zero_le _, Nat.zero_le _⟩) (fun r h1 H locs hp hH => ?_)
          obtain ⟨hr1, hr2⟩ := hp; rw [hr1]; rw [hr2] at hH; clear hr1 hr2
          refine lv_icmp_eq (tgt := 109) X.x X.b (dk DX8_partByMarks_0 58 rfl) (by decide) (fun c25 => ?_) (fun c25 => ?_)
          · replace hF := if_t hF c25
            refine lv_aload_n X.x X.b (dk DX8_partByMarks_1 1 rfl) rfl (lv_at hl 0 rfl) ?_
            refine lv_iload_n X.x X.b (dk DX8_partByMarks_1 2 rfl) rfl (lv_at hl 1 rfl) ?_
            refine lv_iload_n X.x X.b (dk DX8_partByMarks_1 3 rfl) rfl (lv_at hl 2 rfl) ?_
            refine lv_lload X.x X.b (dk DX8_partByMarks_1 4 rfl) (lv_at hl 3 rfl) ?_
            refine lv_lload X.x X.b (dk DX8_partByMarks_1 5 rfl) (lv_at hl 4 rfl) ?_
            obtain ⟨x26, e27, hF⟩ := bd hF
            refine mr_cv0 hH ⟨rfl, rfl⟩ (mr_runV (As := [.int b1, .int b2, .long x13, .long x16]) (rest := []) X hH (c_X8_split hq e27) ((oset_at hq (Nat.le_refl _) ohas_N).trans (congrArg some ocell_N)) OX8.1 kM_X8_145 kI_X8_split kS_X8_split kN_X8 kC_X8_split hd_X8_split ⟨Nat.le_of_ble_eq_true rfl, Nat.le_of_ble_eq_true rfl⟩ rfl hl.1 (Nat.le_of_ble_eq_true rfl) (dk DX8_partByMarks_1 6 rfl) ⟨Nat.zero_le _, Nat.zero_le _⟩) (fun h1 H locs hp hH => ?_)
            rw [hp] at hH; clear hp
            obtain ⟨v29, e30⟩ : ∃ y : Int32, y = b2 + 1 := ⟨_, rfl⟩
            replace hF := bnd_e hF e30
            refine lv_iinc (v := v29) (lv' := [(2, .int v29), (0, .ref (q 15)), (1, .int b1), (5, .long x13), (7, .long x16)]) X.x X.b (dk DX8_partByMarks_1 7 rfl) hl (k := 2) rfl (by rw [e30]; rfl) (by decide) rfl (fun ls hl => ?_)
            replace hl : lv_has ls 9 [(0, .ref (q 15)), (1, .int b1), (2, .int v29)] := lv_sub hl [1, 2, 0] rfl
            refine lv_goto (tgt := 2) X.x X.b (dk DX8_partByMarks_1 8 rfl) (by decide) ?_
            exact (lp_l hF hx) _ _ _ hH (lv_sub hl [0, 1, 2] rfl) K0 K1 K2
          · replace hF := if_f hF c25
            have hr9 := lp_r hF hx
            subst hr9
            exact K1 rfl _ _ _ hH (lv_sub hl [] rfl)
        · replace hF := if_f hF c11
          have hr9 := lp_r hF hx
          subst hr9
          exact K0 rfl _ _ _ hH (lv_sub hl [] rfl)
set_option maxHeartbeats 4000000 in
set_option maxRecDepth 100000 in
theorem c_X8_partByMarks {l : Launch} {G : mG} {h : mM} {q : Nat → Nat} (hq : oinj LX8 q) {st : OS} {a0 : Int32} {x : Int32 × OS} (hF : f_X8_partByMarks st a0 = some x) : cQ l G yX8_partByMarks cX8_partByMarks 9 (some FieldType.boolean) rm_X8_partByMarks [.ref (q 15), .int a0] (oset LX8 G q st h) (mQi G (fun r h1 => r = x.1 ∧ h1 = oset LX8 G q x.2 h)) := by
  refine mp_of (by decide +kernel) (Nat.le_of_ble_eq_true rfl) ?_
  intro p e s m below meth c X hr hlk hH hname ls hl
  dsimp only [f_X8_partByMarks] at hF
  replace hl : lv_has ls 9 [(0, .ref (q 15)), (1, .int a0)] := hl
  refine lv_iconst (v := 0) X.x X.b (dk DX8_partByMarks_0 0 rfl) (by decide) ?_
  refine lv_istore_n (lv' := [(2, .int 0), (0, .ref (q 15)), (1, .int a0)]) X.x X.b (dk DX8_partByMarks_0 1 rfl) rfl hl (by decide) rfl (fun ls hl => ?_)
  replace hl : lv_has ls 9 [(0, .ref (q 15)), (1, .int a0), (2, .int 0)] := lv_sub hl [1, 2, 0] rfl
  obtain ⟨x31, e32, hF⟩ := bd hF
  replace hl : lv_has ls 9 [(0, .ref (q 15)), (1, .int a0), (2, .int 0)] := lv_sub hl [0, 1, 2] rfl
  obtain ⟨k34, t33⟩ := x31
  try dsimp only at hF
  refine w_X8_partByMarks_2 hq X a0 _ _ e32 _ _ _ hH hl (fun hk H locs ls hH hl => ?_) (fun hk H locs ls hH hl => ?_) (fun hk H locs ls hH hl => ?_)
  · try dsimp only at hH hl
    try dsimp only at hk
    subst hk
    replace hF := if_t hF rfl
    refine lv_iconst (v := 0) X.x X.b (dk DX8_partByMarks_0 28 rfl) (by decide) ?_
    cases sm hF
    exact mr_zret X hr hlk hH rfl ⟨rfl, rfl⟩ (dk DX8_partByMarks_0 29 rfl)
  · try dsimp only at hH hl
    try dsimp only at hk
    subst hk
    replace hF := if_f hF (by decide)
    replace hF := if_t hF rfl
    refine lv_iconst (v := 0) X.x X.b (dk DX8_partByMarks_0 59 rfl) (by decide) ?_
    cases sm hF
    exact mr_zret X hr hlk hH rfl ⟨rfl, rfl⟩ (dk DX8_partByMarks_1 0 rfl)
  · try dsimp only at hH hl
    try dsimp only at hk
    subst hk
    replace hF := if_f hF (by decide)
    replace hF := if_f hF (by decide)
    refine lv_iconst (v := 1) X.x X.b (dk DX8_partByMarks_1 9 rfl) (by decide) ?_
    cases sm hF
    exact mr_zret X hr hlk hH rfl ⟨rfl, rfl⟩ (dk DX8_partByMarks_1 10 rfl)
-- X8_markPoints
abbrev rm_X8_markPoints : Room := { frames := 2, cells := 0, slots := 0, locals := 51 }
theorem hd_X8_markPoints : mHd yX8_markPoints 0 := ⟨by decide +kernel, by decide +kernel, by decide +kernel⟩
theorem DX8_markPoints_0 : ∀ t ∈ ([(0, .iconst 0, 1), (1, .istore_n 1, 1), (2, .iload_n 1, 1), (3, .aload_n 0, 1), (4, .getfield 83, 3), (7, .if_icmp .ge 59, 3), (10, .iload_n 1, 1), (11, .bipush 16, 2), (13, .if_icmp .ge 53, 3), (16, .aload_n 0, 1), (17, .getfield 36, 3), (20, .iload_n 1, 1), (21, .aload_n 0, 1), (22, .bipush 16, 2), (24, .aload_n 0, 1), (25, .getfield 30, 3), (28, .aload_n 0, 1), (29, .getfield 20, 3), (32, .iload_n 1, 1), (33, .laload, 1), (34, .invokevirtual 158, 3), (37, .lastore, 1), (38, .aload_n 0, 1), (39, .getfield 39, 3), (42, .iload_n 1, 1), (43, .aload_n 0, 1), (44, .bipush 16, 2), (46, .aload_n 0, 1), (47, .getfield 33, 3), (50, .aload_n 0, 1), (51, .getfield 23, 3), (54, .iload_n 1, 1), (55, .laload, 1), (56, .invokevirtual 158, 3), (59, .lastore, 1), (60, .iinc 1 1, 3), (63, .goto (-61), 3), (66, .return_, 1)] : List (Nat × Instr × Nat)), decode cX8_markPoints t.1 = .ok (t.2.1, t.2.2) := by decide +kernel
noncomputable def f_X8_markPoints_2 : (OS × Int32) → Option ((OS × Int32) ⊕ (OS)) := fun z => match z with | (s_t, b1) => (if (s_t.1 0) ≤ b1 then some (.inr s_t) else (if 16 ≤ b1 then some (.inr s_t) else if inb b1 16 = true then (f_X8_markOf s_t 7 1088 16 (s_t.2.2.2 4 (b1 : Int32).toNatClampNeg)).bind (fun x4 => if inb b1 64 = true then bnd (oB s_t 9 (vp_updL (s_t.2.2.2 9) (b1 : Int32).toNatClampNeg x4)) (fun t8 => (f_X8_markOf t8 8 1088 16 (t8.2.2.2 5 (b1 : Int32).toNatClampNeg)).bind (fun x10 => bnd (oB t8 10 (vp_updL (t8.2.2.2 10) (b1 : Int32).toNatClampNeg x10)) (fun t13 => bnd (b1 + 1 : Int32) (fun v15 => some (.inl ((t13, v15))))))) else none) else none))
noncomputable def f_X8_markPoints (st : OS) : Option (OS) := (lpv (f_X8_markPoints_2) ((st, 0))).bind (fun x17 => some x17)
set_option maxHeartbeats 4000000 in
set_option maxRecDepth 100000 in
theorem w_X8_markPoints_2 {p : Program} {l : Launch} {e : Env} {s : State} {m : MethodId} {args : Array Value} {below : List Frame} {meth : Method} {c : Code} {Q : State → Prop} {G : mG} {h : mM} {q : Nat → Nat} (hq : oinj LX8 q) (X : mX G p m c cX8_markPoints 2 s args RX8) : ∀ (z : OS × Int32) (r : OS), lpv (f_X8_markPoints_2) z = some r → ∀ (H : Heap) (locs : List Loc) (ls : Array Slot), mH G (oset LX8 G q z.1 h) s.heap H locs → lv_has ls 2 [(0, .ref (q 15)), (1, .int z.2)] → (∀ (H : Heap) (locs : List Loc) (ls : Array Slot), mH G (oset LX8 G q r h) s.heap H locs → lv_has ls 2 [] → W p l e rm_X8_markPoints s m args below meth c H locs 0 0 Q (F0 m 66 ls [])) → W p l e rm_X8_markPoints s m args below meth c H locs 0 0 Q (F0 m 2 ls []) := by
  refine lpv_rec ?_
  intro z r x hF hx H locs ls hH hl K0
  obtain ⟨s_t, b1⟩ := z
  dsimp only [f_X8_markPoints_2] at hF
  try dsimp only at hH hl
  refine lv_iload_n X.x X.b (dk DX8_markPoints_0 2 rfl) rfl (lv_at hl 1 rfl) ?_
  refine lv_aload_n X.x X.b (dk DX8_markPoints_0 3 rfl) rfl (lv_at hl 0 rfl) ?_
  refine og_getI OX8 X hq hH 0 (by decide) rfl kF_X8_83 (dk DX8_markPoints_0 4 rfl) ?_
  refine lv_icmp_ge (tgt := 66) X.x X.b (dk DX8_markPoints_0 5 rfl) (by decide) (fun c1 => ?_) (fun c1 => ?_)
  · replace hF := if_t hF c1
    have hr9 := lp_r hF hx
    subst hr9
    exact K0 _ _ _ hH (lv_sub hl [] rfl)
  · replace hF := if_f hF c1
    refine lv_iload_n X.x X.b (dk DX8_markPoints_0 6 rfl) rfl (lv_at hl 1 rfl) ?_
    refine lv_bipush (v := 16) X.x X.b (dk DX8_markPoints_0 7 rfl) (by decide) ?_
    refine lv_icmp_ge (tgt := 66) X.x X.b (dk DX8_markPoints_0 8 rfl) (by decide) (fun c2 => ?_) (fun c2 => ?_)
    · replace hF := if_t hF c2
      have hr9 := lp_r hF hx
      subst hr9
      exact K0 _ _ _ hH (lv_sub hl [] rfl)
    · replace hF := if_f hF c2
      refine lv_aload_n X.x X.b (dk DX8_markPoints_0 9 rfl) rfl (lv_at hl 0 rfl) ?_
      refine og_getR (t := 1) OX8 X hq hH 9 (by decide) rfl kF_X8_36 (dk DX8_markPoints_0 10 rfl) ?_
      refine lv_iload_n X.x X.b (dk DX8_markPoints_0 11 rfl) rfl (lv_at hl 1 rfl) ?_
      refine lv_aload_n X.x X.b (dk DX8_markPoints_0 12 rfl) rfl (lv_at hl 0 rfl) ?_
      refine lv_bipush (v := 16) X.x X.b (dk DX8_markPoints_0 13 rfl) (by decide) ?_
      refine lv_aload_n X.x X.b (dk DX8_markPoints_0 14 rfl) rfl (lv_at hl 0 rfl) ?_
      refine og_getR (t := 1) OX8 X hq hH 7 (by decide) rfl kF_X8_30 (dk DX8_markPoints_0 15 rfl) ?_
      refine lv_aload_n X.x X.b (dk DX8_markPoints_0 16 rfl) rfl (lv_at hl 0 rfl) ?_
      refine og_getR (t := 1) OX8 X hq hH 4 (by decide) rfl kF_X8_20 (dk DX8_markPoints_0 17 rfl) ?_
      refine lv_iload_n X.x X.b (dk DX8_markPoints_0 18 rfl) rfl (lv_at hl 1 rfl) ?_
      obtain ⟨c3, hF⟩ := gd hF
      refine og_lald X hq hH 4 (by decide) rfl (inb_in c3) (dk DX8_markPoints_0 19 rfl) ?_
      obtain ⟨x4, e5, hF⟩ := bd hF
      refine mr_cl0 hH ⟨rfl, rfl⟩ (mr_runV (As := [.int 16, .ref (q 7), .long (s_t.2.2.2 4 (b1 : Int32).toNatClampNeg)]) (rest := [.int b1, .ref (q 9)]) X hH (c_X8_markOf hq (by decide) rfl e5) ((oset_at hq (Nat.le_refl _) ohas_N).trans (congrArg some ocell_N)) OX8.1 kM_X8_158 kI_X8_markOf kS_X8_markOf kN_X8 kC_X8_markOf hd_X8_markOf ⟨Nat.le_of_ble_eq_true rfl, Nat.le_of_ble_eq_true rfl⟩ rfl hl.1 (Nat.le_of_ble_eq_true rfl) (dk DX8_markPoints_0 20 rfl) ⟨Nat.zero_le _, Nat.zero_le _⟩) (fun r h1 H locs hp hH => ?_)
      obtain ⟨hr1, hr2⟩ := hp; rw [hr1]; rw [hr2] at hH; clear hr1 hr2
      obtain ⟨c7, hF⟩ := gd hF
      refine og_last X hq hH 9 (by decide) rfl (inb_in c7) (dk DX8_markPoints_0 21 rfl) (fun H locs hH => ?_)
      obtain ⟨t8, e9⟩ : ∃ y, y = oB s_t 9 (vp_updL (s_t.2.2.2 9) (b1 : Int32).toNatClampNeg x4) := ⟨_, rfl⟩
      rw [← e9] at hH
      replace hF := bnd_e hF e9
      refine lv_aload_n X.x X.b (dk DX8_markPoints_0 22 rfl) rfl (lv_at hl 0 rfl) ?_
      refine og_getR (t := 1) OX8 X hq hH 10 (by decide) rfl kF_X8_39 (dk DX8_markPoints_0 23 rfl) ?_
      refine lv_iload_n X.x X.b (dk DX8_markPoints_0 24 rfl) rfl (lv_at hl 1 rfl) ?_
      refine lv_aload_n X.x X.b (dk DX8_markPoints_0 25 rfl) rfl (lv_at hl 0 rfl) ?_
      refine lv_bipush (v := 16) X.x X.b (dk DX8_markPoints_0 26 rfl) (by decide) ?_
      refine lv_aload_n X.x X.b (dk DX8_markPoints_0 27 rfl) rfl (lv_at hl 0 rfl) ?_
      refine og_getR (t := 1) OX8 X hq hH 8 (by decide) rfl kF_X8_33 (dk DX8_markPoints_0 28 rfl) ?_
      refine lv_aload_n X.x X.b (dk DX8_markPoints_0 29 rfl) rfl (lv_at hl 0 rfl) ?_
      refine og_getR (t := 1) OX8 X hq hH 5 (by decide) rfl kF_X8_23 (dk DX8_markPoints_0 30 rfl) ?_
      refine lv_iload_n X.x X.b (dk DX8_markPoints_0 31 rfl) rfl (lv_at hl 1 rfl) ?_
      refine og_lald X hq hH 5 (by decide) rfl (inb_in c3) (dk DX8_markPoints_0 32 rfl) ?_
      obtain ⟨x10, e11, hF⟩ := bd hF
      refine mr_cl0 hH ⟨rfl, rfl⟩ (mr_runV (As := [.int 16, .ref (q 8), .long (t8.2.2.2 5 (b1 : Int32).toNatClampNeg)]) (rest := [.int b1, .ref (q 10)]) X hH (c_X8_markOf hq (by decide) rfl e11) ((oset_at hq (Nat.le_refl _) ohas_N).trans (congrArg some ocell_N)) OX8.1 kM_X8_158 kI_X8_markOf kS_X8_markOf kN_X8 kC_X8_markOf hd_X8_markOf ⟨Nat.le_of_ble_eq_true rfl, Nat.le_of_ble_eq_true rfl⟩ rfl hl.1 (Nat.le_of_ble_eq_true rfl) (dk DX8_markPoints_0 33 rfl) ⟨Nat.zero_le _, Nat.zero_le _⟩) (fun r h1 H locs hp hH => ?_)
      obtain ⟨hr1, hr2⟩ := hp; rw [hr1]; rw [hr2] at hH; clear hr1 hr2
      refine og_last X hq hH 10 (by decide) rfl (inb_in c7) (dk DX8_markPoints_0 34 rfl) (fun H locs hH => ?_)
      obtain ⟨t13, e14⟩ : ∃ y, y = oB t8 10 (vp_updL (t8.2.2.2 10) (b1 : Int32).toNatClampNeg x10) := ⟨_, rfl⟩
      rw [← e14] at hH
      replace hF := bnd_e hF e14
      obtain ⟨v15, e16⟩ : ∃ y : Int32, y = b1 + 1 := ⟨_, rfl⟩
      replace hF := bnd_e hF e16
      refine lv_iinc (v := v15) (lv' := [(1, .int v15), (0, .ref (q 15))]) X.x X.b (dk DX8_markPoints_0 35 rfl) hl (k := 1) rfl (by rw [e16]; rfl) (by decide) rfl (fun ls hl => ?_)
      replace hl : lv_has ls 2 [(0, .ref (q 15)), (1, .int v15)] := lv_sub hl [1, 0] rfl
      refine lv_goto (tgt := 2) X.x X.b (dk DX8_markPoints_0 36 rfl) (by decide) ?_
      exact (lp_l hF hx) _ _ _ hH (lv_sub hl [0, 1] rfl) K0
set_option maxHeartbeats 4000000 in
set_option maxRecDepth 100000 in
theorem c_X8_markPoints {l : Launch} {G : mG} {h : mM} {q : Nat → Nat} (hq : oinj LX8 q) {st : OS} {x : OS} (hF : f_X8_markPoints st = some x) : cQ l G yX8_markPoints cX8_markPoints 2 none rm_X8_markPoints [.ref (q 15)] (oset LX8 G q st h) (mQv G (fun h1 => h1 = oset LX8 G q x h)) := by
  refine mp_of (by decide +kernel) (Nat.le_of_ble_eq_true rfl) ?_
  intro p e s m below meth c X hr hlk hH hname ls hl
  dsimp only [f_X8_markPoints] at hF
  replace hl : lv_has ls 2 [(0, .ref (q 15))] := hl
  refine lv_iconst (v := 0) X.x X.b (dk DX8_markPoints_0 0 rfl) (by decide) ?_
  refine lv_istore_n (lv' := [(1, .int 0), (0, .ref (q 15))]) X.x X.b (dk DX8_markPoints_0 1 rfl) rfl hl (by decide) rfl (fun ls hl => ?_)
  replace hl : lv_has ls 2 [(0, .ref (q 15)), (1, .int 0)] := lv_sub hl [1, 0] rfl
  obtain ⟨x17, e18, hF⟩ := bd hF
  replace hl : lv_has ls 2 [(0, .ref (q 15)), (1, .int 0)] := lv_sub hl [0, 1] rfl
  refine w_X8_markPoints_2 hq X _ _ e18 _ _ _ hH hl (fun H locs ls hH hl => ?_)
  cases sm hF
  exact mr_vret X hr hlk hH rfl (dk DX8_markPoints_0 37 rfl)
-- X8_settleKinds
abbrev rm_X8_settleKinds : Room := { frames := 4, cells := 0, slots := 0, locals := 101 }
theorem hd_X8_settleKinds : mHd yX8_settleKinds 1 := ⟨by decide +kernel, by decide +kernel, by decide +kernel⟩
theorem DX8_settleKinds_0 : ∀ t ∈ ([(0, .iconst 0, 1), (1, .istore_n 2, 1), (2, .iload_n 2, 1), (3, .bipush 16, 2), (5, .if_icmp .gt 68, 3), (8, .aload_n 0, 1), (9, .getfield 26, 3), (12, .iload_n 1, 1), (13, .iaload, 1), (14, .istore_n 3, 1), (15, .aload_n 0, 1), (16, .bipush 16, 2), (18, .aload_n 0, 1), (19, .getfield 84, 3), (22, .invokevirtual 92, 3), (25, .aload_n 0, 1), (26, .iload_n 1, 1), (27, .invokevirtual 149, 3), (30, .aload_n 0, 1), (31, .bipush 16, 2), (33, .invokevirtual 152, 3), (36, .ifCond .ne 5, 3), (39, .iconst 0, 1), (40, .ireturn, 1), (41, .aload_n 0, 1), (42, .invokevirtual 155, 3), (45, .aload_n 0, 1), (46, .iload_n 1, 1), (47, .invokevirtual 152, 3), (50, .ifCond .ne 5, 3), (53, .iconst 0, 1), (54, .ireturn, 1), (55, .aload_n 0, 1), (56, .getfield 26, 3), (59, .iload_n 1, 1), (60, .iaload, 1), (61, .iload_n 3, 1), (62, .if_icmp .ne 5, 3), (65, .iconst 1, 1), (66, .ireturn, 1), (67, .iinc 2 1, 3), (70, .goto (-68), 3), (73, .iconst 1, 1), (74, .ireturn, 1)] : List (Nat × Instr × Nat)), decode cX8_settleKinds t.1 = .ok (t.2.1, t.2.2) := by decide +kernel
noncomputable def f_X8_settleKinds_2 (b1 : Int32) : (OS × Int32) → Option ((OS × Int32) ⊕ (Nat × OS)) := fun z => match z with | (s_t, b2) => (if 16 < b2 then some (.inr ((3, s_t))) else if inb b1 17 = true then bnd (s_t.2.2.1 6 (b1 : Int32).toNatClampNeg : Int32) (fun v3 => (f_X8_becomeOneKind s_t 16 (s_t.1 1)).bind (fun x5 => (f_X8_markLines x5 b1).bind (fun x8 => (f_X8_partByMarks x8 16).bind (fun x11 => match x11 with | (v13, t14) => (if v13 = 0 then some (.inr ((0, t14))) else (f_X8_markPoints t14).bind (fun x16 => (f_X8_partByMarks x16 b1).bind (fun x19 => match x19 with | (v21, t22) => (if v21 = 0 then some (.inr ((1, t22))) else (if (t22.2.2.1 6 (b1 : Int32).toNatClampNeg) = v3 then some (.inr ((2, t22))) else bnd (b2 + 1 : Int32) (fun v25 => some (.inl ((t22, v25))))))))))))) else none)
noncomputable def f_X8_settleKinds (st : OS) (a0 : Int32) : Option (Int32 × OS) := (lpv (f_X8_settleKinds_2 a0) ((st, 0))).bind (fun x27 => match x27 with | (k30, t29) => (if k30 = 0 then some ((0, t29)) else (if k30 = 1 then some ((0, t29)) else (if k30 = 2 then some ((1, t29)) else some ((1, t29))))))
set_option maxHeartbeats 4000000 in
set_option maxRecDepth 100000 in
theorem w_X8_settleKinds_2 {p : Program} {l : Launch} {e : Env} {s : State} {m : MethodId} {args : Array Value} {below : List Frame} {meth : Method} {c : Code} {Q : State → Prop} {G : mG} {h : mM} {q : Nat → Nat} (hq : oinj LX8 q) (X : mX G p m c cX8_settleKinds 4 s args RX8) (b1 : Int32) : ∀ (z : OS × Int32) (r : Nat × OS), lpv (f_X8_settleKinds_2 b1) z = some r → ∀ (H : Heap) (locs : List Loc) (ls : Array Slot), mH G (oset LX8 G q z.1 h) s.heap H locs → lv_has ls 4 [(0, .ref (q 15)), (1, .int b1), (2, .int z.2)] → (r.1 = 0 → ∀ (H : Heap) (locs : List Loc) (ls : Array Slot), mH G (oset LX8 G q r.2 h) s.heap H locs → lv_has ls 4 [] → W p l e rm_X8_settleKinds s m args below meth c H locs 0 0 Q (F0 m 39 ls [])) → (r.1 = 1 → ∀ (H : Heap) (locs : List Loc) (ls : Array Slot), mH G (oset LX8 G q r.2 h) s.heap H locs → lv_has ls 4 [] → W p l e rm_X8_settleKinds s m args below meth c H locs 0 0 Q (F0 m 53 ls [])) → (r.1 = 2 → ∀ (H : Heap) (locs : List Loc) (ls : Array Slot), mH G (oset LX8 G q r.2 h) s.heap H locs → lv_has ls 4 [] → W p l e rm_X8_settleKinds s m args below meth c H locs 0 0 Q (F0 m 65 ls [])) → (r.1 = 3 → ∀ (H : Heap) (locs : List Loc) (ls : Array Slot), mH G (oset LX8 G q r.2 h) s.heap H locs → lv_has ls 4 [] → W p l e rm_X8_settleKinds s m args below meth c H locs 0 0 Q (F0 m 73 ls [])) → W p l e rm_X8_settleKinds s m args below meth c H locs 0 0 Q (F0 m 2 ls []) := by
  refine lpv_rec ?_
  intro z r x hF hx H locs ls hH hl K0 K1 K2 K3
  obtain ⟨s_t, b2⟩ := z
  dsimp only [f_X8_settleKinds_2] at hF
  try dsimp only at hH hl
  refine lv_iload_n X.x X.b (dk DX8_settleKinds_0 2 rfl) rfl (lv_at hl 2 rfl) ?_
  refine lv_bipush (v := 16) X.x X.b (dk DX8_settleKinds_0 3 rfl) (by decide) ?_
  refine lv_icmp_gt (tgt := 73) X.x X.b (dk DX8_settleKinds_0 4 rfl) (by decide) (fun c1 => ?_) (fun c1 => ?_)
  · replace hF := if_t hF c1
    have hr9 := lp_r hF hx
    subst hr9
    exact K3 rfl _ _ _ hH (lv_sub hl [] rfl)
  · replace hF := if_f hF c1
    refine lv_aload_n X.x X.b (dk DX8_settleKinds_0 5 rfl) rfl (lv_at hl 0 rfl) ?_
    refine og_getR (t := 0) OX8 X hq hH 6 (by decide) rfl kF_X8_26 (dk DX8_settleKinds_0 6 rfl) ?_
    refine lv_iload_n X.x X.b (dk DX8_settleKinds_0 7 rfl) rfl (lv_at hl 1 rfl) ?_
    obtain ⟨c2, hF⟩ := gd hF
    refine og_iald X hq hH 6 (by decide) rfl (inb_in c2) (dk DX8_settleKinds_0 8 rfl) ?_
    refine lv_topi (fun v3 e4 => ?_)
    replace hF := bnd_e hF e4
    refine lv_istore_n (lv' := [(3, .int v3), (0, .ref (q 15)), (1, .int b1), (2, .int b2)]) X.x X.b (dk DX8_settleKinds_0 9 rfl) rfl hl (by decide) rfl (fun ls hl => ?_)
    replace hl : lv_has ls 4 [(0, .ref (q 15)), (1, .int b1), (2, .int b2), (3, .int v3)] := lv_sub hl [1, 2, 3, 0] rfl
    refine lv_aload_n X.x X.b (dk DX8_settleKinds_0 10 rfl) rfl (lv_at hl 0 rfl) ?_
    refine lv_bipush (v := 16) X.x X.b (dk DX8_settleKinds_0 11 rfl) (by decide) ?_
    refine lv_aload_n X.x X.b (dk DX8_settleKinds_0 12 rfl) rfl (lv_at hl 0 rfl) ?_
    refine og_getI OX8 X hq hH 1 (by decide) rfl kF_X8_84 (dk DX8_settleKinds_0 13 rfl) ?_
    obtain ⟨x5, e6, hF⟩ := bd hF
    refine mr_cv0 hH ⟨rfl, rfl⟩ (mr_runV (As := [.int 16, .int (s_t.1 1)]) (rest := []) X hH (c_X8_becomeOneKind hq e6) ((oset_at hq (Nat.le_refl _) ohas_N).trans (congrArg some ocell_N)) OX8.1 kM_X8_92 kI_X8_becomeOneKind kS_X8_becomeOneKind kN_X8 kC_X8_becomeOneKind hd_X8_becomeOneKind ⟨Nat.le_of_ble_eq_true rfl, Nat.le_of_ble_eq_true rfl⟩ rfl hl.1 (Nat.le_of_ble_eq_true rfl) (dk DX8_settleKinds_0 14 rfl) ⟨Nat.zero_le _, Nat.zero_le _⟩) (fun h1 H locs hp hH => ?_)
    rw [hp] at hH; clear hp
    refine lv_aload_n X.x X.b (dk DX8_settleKinds_0 15 rfl) rfl (lv_at hl 0 rfl) ?_
    refine lv_iload_n X.x X.b (dk DX8_settleKinds_0 16 rfl) rfl (lv_at hl 1 rfl) ?_
    obtain ⟨x8, e9, hF⟩ := bd hF
    refine mr_cv0 hH ⟨rfl, rfl⟩ (mr_runV (As := [.int b1]) (rest := []) X hH (c_X8_markLines hq e9) ((oset_at hq (Nat.le_refl _) ohas_N).trans (congrArg some ocell_N)) OX8.1 kM_X8_149 kI_X8_markLines kS_X8_markLines kN_X8 kC_X8_markLines hd_X8_markLines ⟨Nat.le_of_ble_eq_true rfl, Nat.le_of_ble_eq_true rfl⟩ rfl hl.1 (Nat.le_of_ble_eq_true rfl) (dk DX8_settleKinds_0 17 rfl) ⟨Nat.zero_le _, Nat.zero_le _⟩) (fun h1 H locs hp hH => ?_)
    rw [hp] at hH; clear hp
    refine lv_aload_n X.x X.b (dk DX8_settleKinds_0 18 rfl) rfl (lv_at hl 0 rfl) ?_
    refine lv_bipush (v := 16) X.x X.b (dk DX8_settleKinds_0 19 rfl) (by decide) ?_
    obtain ⟨x11, e12, hF⟩ := bd hF
    refine mr_ci0 hH ⟨rfl, rfl⟩ (mr_runV (As := [.int 16]) (rest := []) X hH (c_X8_partByMarks hq e12) ((oset_at hq (Nat.le_refl _) ohas_N).trans (congrArg some ocell_N)) OX8.1 kM_X8_152 kI_X8_partByMarks kS_X8_partByMarks kN_X8 kC_X8_partByMarks hd_X8_partByMarks ⟨Nat.le_of_ble_eq_true rfl, Nat.le_of_ble_eq_true rfl⟩ rfl hl.1 (Nat.le_of_ble_eq_true rfl) (dk DX8_settleKinds_0 20 rfl) ⟨Nat.zero_le _, Nat.zero_le _⟩) (fun r h1 H locs hp hH => ?_)
    obtain ⟨hr1, hr2⟩ := hp; rw [hr1]; rw [hr2] at hH; clear hr1 hr2
    obtain ⟨v13, t14⟩ := x11
    try dsimp only at hF hH ⊢
    refine lv_if_ne (tgt := 41) X.x X.b (dk DX8_settleKinds_0 21 rfl) (by decide) (fun c15 => ?_) (fun c15 => ?_)
    · replace hF := if_f hF c15
      refine lv_aload_n X.x X.b (dk DX8_settleKinds_0 24 rfl) rfl (lv_at hl 0 rfl) ?_
      obtain ⟨x16, e17, hF⟩ := bd hF
      refine mr_cv0 hH ⟨rfl, rfl⟩ (mr_runV (As := []) (rest := []) X hH (c_X8_markPoints hq e17) ((oset_at hq (Nat.le_refl _) ohas_N).trans (congrArg some ocell_N)) OX8.1 kM_X8_155 kI_X8_markPoints kS_X8_markPoints kN_X8 kC_X8_markPoints hd_X8_markPoints ⟨Nat.le_of_ble_eq_true rfl, Nat.le_of_ble_eq_true rfl⟩ rfl hl.1 (Nat.le_of_ble_eq_true rfl) (dk DX8_settleKinds_0 25 rfl) ⟨Nat.zero_le _, Nat.zero_le _⟩) (fun h1 H locs hp hH => ?_)
      rw [hp] at hH; clear hp
      refine lv_aload_n X.x X.b (dk DX8_settleKinds_0 26 rfl) rfl (lv_at hl 0 rfl) ?_
      refine lv_iload_n X.x X.b (dk DX8_settleKinds_0 27 rfl) rfl (lv_at hl 1 rfl) ?_
      obtain ⟨x19, e20, hF⟩ := bd hF
      refine mr_ci0 hH ⟨rfl, rfl⟩ (mr_runV (As := [.int b1]) (rest := []) X hH (c_X8_partByMarks hq e20) ((oset_at hq (Nat.le_refl _) ohas_N).trans (congrArg some ocell_N)) OX8.1 kM_X8_152 kI_X8_partByMarks kS_X8_partByMarks kN_X8 kC_X8_partByMarks hd_X8_partByMarks ⟨Nat.le_of_ble_eq_true rfl, Nat.le_of_ble_eq_true rfl⟩ rfl hl.1 (Nat.le_of_ble_eq_true rfl) (dk DX8_settleKinds_0 28 rfl) ⟨Nat.zero_le _, Nat.zero_le _⟩) (fun r h1 H locs hp hH => ?_)
      obtain ⟨hr1, hr2⟩ := hp; rw [hr1]; rw [hr2] at hH; clear hr1 hr2
      obtain ⟨v21, t22⟩ := x19
      try dsimp only at hF hH ⊢
      refine lv_if_ne (tgt := 55) X.x X.b (dk DX8_settleKinds_0 29 rfl) (by decide) (fun c23 => ?_) (fun c23 => ?_)
      · replace hF := if_f hF c23
        refine lv_aload_n X.x X.b (dk DX8_settleKinds_0 32 rfl) rfl (lv_at hl 0 rfl) ?_
        refine og_getR (t := 0) OX8 X hq hH 6 (by decide) rfl kF_X8_26 (dk DX8_settleKinds_0 33 rfl) ?_
        refine lv_iload_n X.x X.b (dk DX8_settleKinds_0 34 rfl) rfl (lv_at hl 1 rfl) ?_
        refine og_iald X hq hH 6 (by decide) rfl (inb_in c2) (dk DX8_settleKinds_0 35 rfl) ?_
        refine lv_iload_n X.x X.b (dk DX8_settleKinds_0 36 rfl) rfl (lv_at hl 3 rfl) ?_
        refine lv_icmp_ne (tgt := 67) X.x X.b (dk DX8_settleKinds_0 37 rfl) (by decide) (fun c24 => ?_) (fun c24 => ?_)
        · replace hF := if_f hF c24
          obtain ⟨v25, e26⟩ : ∃ y : Int32, y = b2 + 1 := ⟨_, rfl⟩
          replace hF := bnd_e hF e26
          refine lv_iinc (v := v25) (lv' := [(2, .int v25), (0, .ref (q 15)), (1, .int b1), (3, .int v3)]) X.x X.b (dk DX8_settleKinds_0 40 rfl) hl (k := 2) rfl (by rw [e26]; rfl) (by decide) rfl (fun ls hl => ?_)
          replace hl : lv_has ls 4 [(0, .ref (q 15)), (1, .int b1), (2, .int v25)] := lv_sub hl [1, 2, 0] rfl
          refine lv_goto (tgt := 2) X.x X.b (dk DX8_settleKinds_0 41 rfl) (by decide) ?_
          exact (lp_l hF hx) _ _ _ hH (lv_sub hl [0, 1, 2] rfl) K0 K1 K2 K3
        · replace hF := if_t hF c24
          have hr9 := lp_r hF hx
          subst hr9
          exact K2 rfl _ _ _ hH (lv_sub hl [] rfl)
      · replace hF := if_t hF c23
        have hr9 := lp_r hF hx
        subst hr9
        exact K1 rfl _ _ _ hH (lv_sub hl [] rfl)
    · replace hF := if_t hF c15
      have hr9 := lp_r hF hx
      subst hr9
      exact K0 rfl _ _ _ hH (lv_sub hl [] rfl)
set_option maxHeartbeats 4000000 in
set_option maxRecDepth 100000 in
theorem c_X8_settleKinds {l : Launch} {G : mG} {h : mM} {q : Nat → Nat} (hq : oinj LX8 q) {st : OS} {a0 : Int32} {x : Int32 × OS} (hF : f_X8_settleKinds st a0 = some x) : cQ l G yX8_settleKinds cX8_settleKinds 4 (some FieldType.boolean) rm_X8_settleKinds [.ref (q 15), .int a0] (oset LX8 G q st h) (mQi G (fun r h1 => r = x.1 ∧ h1 = oset LX8 G q x.2 h)) := by
  refine mp_of (by decide +kernel) (Nat.le_of_ble_eq_true rfl) ?_
  intro p e s m below meth c X hr hlk hH hname ls hl
  dsimp only [f_X8_settleKinds] at hF
  replace hl : lv_has ls 4 [(0, .ref (q 15)), (1, .int a0)] := hl
  refine lv_iconst (v := 0) X.x X.b (dk DX8_settleKinds_0 0 rfl) (by decide) ?_
  refine lv_istore_n (lv' := [(2, .int 0), (0, .ref (q 15)), (1, .int a0)]) X.x X.b (dk DX8_settleKinds_0 1 rfl) rfl hl (by decide) rfl (fun ls hl => ?_)
  replace hl : lv_has ls 4 [(0, .ref (q 15)), (1, .int a0), (2, .int 0)] := lv_sub hl [1, 2, 0] rfl
  obtain ⟨x27, e28, hF⟩ := bd hF
  replace hl : lv_has ls 4 [(0, .ref (q 15)), (1, .int a0), (2, .int 0)] := lv_sub hl [0, 1, 2] rfl
  obtain ⟨k30, t29⟩ := x27
  try dsimp only at hF
  refine w_X8_settleKinds_2 hq X a0 _ _ e28 _ _ _ hH hl (fun hk H locs ls hH hl => ?_) (fun hk H locs ls hH hl => ?_) (fun hk H locs ls hH hl => ?_) (fun hk H locs ls hH hl => ?_)
  · try dsimp only at hH hl
    try dsimp only at hk
    subst hk
    replace hF := if_t hF rfl
    refine lv_iconst (v := 0) X.x X.b (dk DX8_settleKinds_0 22 rfl) (by decide) ?_
    cases sm hF
    exact mr_zret X hr hlk hH rfl ⟨rfl, rfl⟩ (dk DX8_settleKinds_0 23 rfl)
  · try dsimp only at hH hl
    try dsimp only at hk
    subst hk
    replace hF := if_f hF (by decide)
    replace hF := if_t hF rfl
    refine lv_iconst (v := 0) X.x X.b (dk DX8_settleKinds_0 30 rfl) (by decide) ?_
    cases sm hF
    exact mr_zret X hr hlk hH rfl ⟨rfl, rfl⟩ (dk DX8_settleKinds_0 31 rfl)
  · try dsimp only at hH hl
    try dsimp only at hk
    subst hk
    replace hF := if_f hF (by decide)
    replace hF := if_f hF (by decide)
    replace hF := if_t hF rfl
    refine lv_iconst (v := 1) X.x X.b (dk DX8_settleKinds_0 38 rfl) (by decide) ?_
    cases sm hF
    exact mr_zret X hr hlk hH rfl ⟨rfl, rfl⟩ (dk DX8_settleKinds_0 39 rfl)
  · try dsimp only at hH hl
    try dsimp only at hk
    subst hk
    replace hF := if_f hF (by decide)
    replace hF := if_f hF (by decide)
    replace hF := if_f hF (by decide)
    refine lv_iconst (v := 1) X.x X.b (dk DX8_settleKinds_0 42 rfl) (by decide) ?_
    cases sm hF
    exact mr_zret X hr hlk hH rfl ⟨rfl, rfl⟩ (dk DX8_settleKinds_0 43 rfl)
-- X8_undecided
abbrev rm_X8_undecided : Room := { frames := 1, cells := 0, slots := 0, locals := 21 }
theorem hd_X8_undecided : mHd yX8_undecided 1 := ⟨by decide +kernel, by decide +kernel, by decide +kernel⟩
theorem DX8_undecided_0 : ∀ t ∈ ([(0, .iconst (-1), 1), (1, .istore_n 2, 1), (2, .bipush 17, 2), (4, .istore_n 3, 1), (5, .iconst 0, 1), (6, .istore 4, 2), (8, .iload 4, 2), (10, .aload_n 0, 1), (11, .getfield 26, 3), (14, .iload_n 1, 1), (15, .iaload, 1), (16, .if_icmp .ge 51, 3), (19, .iload 4, 2), (21, .bipush 64, 2), (23, .if_icmp .ge 44, 3), (26, .aload_n 0, 1), (27, .getfield 30, 3), (30, .iload_n 1, 1), (31, .bipush 64, 2), (33, .imul, 1), (34, .iload 4, 2), (36, .iadd, 1), (37, .laload, 1), (38, .invokestatic 123, 3), (41, .istore 5, 2), (43, .iload 5, 2), (45, .iconst 1, 1), (46, .if_icmp .le 15, 3), (49, .iload 5, 2), (51, .iload_n 3, 1), (52, .if_icmp .ge 9, 3), (55, .iload 5, 2), (57, .istore_n 3, 1), (58, .iload 4, 2), (60, .istore_n 2, 1), (61, .iinc 4 1, 3), (64, .goto (-56), 3), (67, .iload_n 2, 1), (68, .ireturn, 1)] : List (Nat × Instr × Nat)), decode cX8_undecided t.1 = .ok (t.2.1, t.2.2) := by decide +kernel
noncomputable def f_X8_undecided_8 (s_t : OS) (b1 : Int32) : (Int32 × Int32 × Int32) → Option ((Int32 × Int32 × Int32) ⊕ (Int32)) := fun z => match z with | (b2, b3, b4) => if inb b1 17 = true then (if (s_t.2.2.1 6 (b1 : Int32).toNatClampNeg) ≤ b4 then some (.inr b2) else (if 64 ≤ b4 then some (.inr b2) else if inb ((b1 * 64) + b4) 1088 = true then (f_J13_bitCount_95d88 (s_t.2.2.2 7 ((b1 * 64) + b4 : Int32).toNatClampNeg)).bind (fun x5 => (if x5 ≤ 1 then bnd (b4 + 1 : Int32) (fun v9 => some (.inl ((b2, b3, v9)))) else (if b3 ≤ x5 then bnd (b4 + 1 : Int32) (fun v12 => some (.inl ((b2, b3, v12)))) else bnd (b4 + 1 : Int32) (fun v14 => some (.inl ((b4, x5, v14))))))) else none)) else none
noncomputable def f_X8_undecided (st : OS) (a0 : Int32) : Option (Int32) := (lpv (f_X8_undecided_8 st a0) (((-1), 17, 0))).bind (fun x16 => some x16)
set_option maxHeartbeats 4000000 in
set_option maxRecDepth 100000 in
theorem w_X8_undecided_8 {p : Program} {l : Launch} {e : Env} {s : State} {m : MethodId} {args : Array Value} {below : List Frame} {meth : Method} {c : Code} {Q : State → Prop} {G : mG} {h : mM} {q : Nat → Nat} (hq : oinj LX8 q) (X : mX G p m c cX8_undecided 6 s args RX8) (s_t : OS) (b1 : Int32) : ∀ (z : Int32 × Int32 × Int32) (r : Int32), lpv (f_X8_undecided_8 s_t b1) z = some r → ∀ (H : Heap) (locs : List Loc) (ls : Array Slot), mH G (oset LX8 G q s_t h) s.heap H locs → lv_has ls 6 [(0, .ref (q 15)), (1, .int b1), (2, .int z.1), (3, .int z.2.1), (4, .int z.2.2)] → (∀ (H : Heap) (locs : List Loc) (ls : Array Slot), mH G (oset LX8 G q s_t h) s.heap H locs → lv_has ls 6 [(2, .int r)] → W p l e rm_X8_undecided s m args below meth c H locs 0 0 Q (F0 m 67 ls [])) → W p l e rm_X8_undecided s m args below meth c H locs 0 0 Q (F0 m 8 ls []) := by
  refine lpv_rec ?_
  intro z r x hF hx H locs ls hH hl K0
  obtain ⟨b2, b3, b4⟩ := z
  dsimp only [f_X8_undecided_8] at hF
  try dsimp only at hH hl
  refine lv_iload X.x X.b (dk DX8_undecided_0 6 rfl) (lv_at hl 4 rfl) ?_
  refine lv_aload_n X.x X.b (dk DX8_undecided_0 7 rfl) rfl (lv_at hl 0 rfl) ?_
  refine og_getR (t := 0) OX8 X hq hH 6 (by decide) rfl kF_X8_26 (dk DX8_undecided_0 8 rfl) ?_
  refine lv_iload_n X.x X.b (dk DX8_undecided_0 9 rfl) rfl (lv_at hl 1 rfl) ?_
  obtain ⟨c1, hF⟩ := gd hF
  refine og_iald X hq hH 6 (by decide) rfl (inb_in c1) (dk DX8_undecided_0 10 rfl) ?_
  refine lv_icmp_ge (tgt := 67) X.x X.b (dk DX8_undecided_0 11 rfl) (by decide) (fun c2 => ?_) (fun c2 => ?_)
  · replace hF := if_t hF c2
    have hr9 := lp_r hF hx
    subst hr9
    exact K0 _ _ _ hH (lv_sub hl [2] rfl)
  · replace hF := if_f hF c2
    refine lv_iload X.x X.b (dk DX8_undecided_0 12 rfl) (lv_at hl 4 rfl) ?_
    refine lv_bipush (v := 64) X.x X.b (dk DX8_undecided_0 13 rfl) (by decide) ?_
    refine lv_icmp_ge (tgt := 67) X.x X.b (dk DX8_undecided_0 14 rfl) (by decide) (fun c3 => ?_) (fun c3 => ?_)
    · replace hF := if_t hF c3
      have hr9 := lp_r hF hx
      subst hr9
      exact K0 _ _ _ hH (lv_sub hl [2] rfl)
    · replace hF := if_f hF c3
      refine lv_aload_n X.x X.b (dk DX8_undecided_0 15 rfl) rfl (lv_at hl 0 rfl) ?_
      refine og_getR (t := 1) OX8 X hq hH 7 (by decide) rfl kF_X8_30 (dk DX8_undecided_0 16 rfl) ?_
      refine lv_iload_n X.x X.b (dk DX8_undecided_0 17 rfl) rfl (lv_at hl 1 rfl) ?_
      refine lv_bipush (v := 64) X.x X.b (dk DX8_undecided_0 18 rfl) (by decide) ?_
      refine lv_imul X.x X.b (dk DX8_undecided_0 19 rfl) ?_
      refine lv_iload X.x X.b (dk DX8_undecided_0 20 rfl) (lv_at hl 4 rfl) ?_
      refine lv_iadd X.x X.b (dk DX8_undecided_0 21 rfl) ?_
      obtain ⟨c4, hF⟩ := gd hF
      refine og_lald X hq hH 7 (by decide) rfl (inb_in c4) (dk DX8_undecided_0 22 rfl) ?_
      obtain ⟨x5, e6, hF⟩ := bd hF
      refine mr_ci0 hH ⟨rfl, rfl⟩ (mr_runS (As := [.long (s_t.2.2.2 7 ((b1 * 64) + b4 : Int32).toNatClampNeg)]) (rest := []) X hH (c_J13_bitCount_95d88 e6) kM_X8_123 kT_J13_bitCount_95d88 kN_J13 kC_J13_bitCount_95d88 hd_J13_bitCount_95d88 ⟨Nat.le_of_ble_eq_true rfl, Nat.le_of_ble_eq_true rfl⟩ rfl hl.1 (Nat.le_of_ble_eq_true rfl) (dk DX8_undecided_0 23 rfl) ⟨Nat.zero_le _, Nat.zero_le _⟩) (fun r h1 H locs hp hH => ?_)
      obtain ⟨hr1, hr2⟩ := hp; rw [hr1]; rw [hr2] at hH; clear hr1 hr2
      refine lv_istore (lv' := [(5, .int x5), (0, .ref (q 15)), (1, .int b1), (2, .int b2), (3, .int b3), (4, .int b4)]) X.x X.b (dk DX8_undecided_0 24 rfl) hl (by decide) rfl (fun ls hl => ?_)
      replace hl : lv_has ls 6 [(0, .ref (q 15)), (1, .int b1), (2, .int b2), (3, .int b3), (4, .int b4), (5, .int x5)] := lv_sub hl [1, 2, 3, 4, 5, 0] rfl
      refine lv_iload X.x X.b (dk DX8_undecided_0 25 rfl) (lv_at hl 5 rfl) ?_
      refine lv_iconst (v := 1) X.x X.b (dk DX8_undecided_0 26 rfl) (by decide) ?_
      refine lv_icmp_le (tgt := 61) X.x X.b (dk DX8_undecided_0 27 rfl) (by decide) (fun c8 => ?_) (fun c8 => ?_)
      · replace hF := if_t hF c8
        obtain ⟨v9, e10⟩ : ∃ y : Int32, y = b4 + 1 := ⟨_, rfl⟩
        replace hF := bnd_e hF e10
        refine lv_iinc (v := v9) (lv' := [(4, .int v9), (0, .ref (q 15)), (1, .int b1), (2, .int b2), (3, .int b3), (5, .int x5)]) X.x X.b (dk DX8_undecided_0 35 rfl) hl (k := 4) rfl (by rw [e10]; rfl) (by decide) rfl (fun ls hl => ?_)
        replace hl : lv_has ls 6 [(0, .ref (q 15)), (1, .int b1), (2, .int b2), (3, .int b3), (4, .int v9)] := lv_sub hl [1, 2, 3, 4, 0] rfl
        refine lv_goto (tgt := 8) X.x X.b (dk DX8_undecided_0 36 rfl) (by decide) ?_
        exact (lp_l hF hx) _ _ _ hH (lv_sub hl [0, 1, 2, 3, 4] rfl) K0
      · replace hF := if_f hF c8
        refine lv_iload X.x X.b (dk DX8_undecided_0 28 rfl) (lv_at hl 5 rfl) ?_
        refine lv_iload_n X.x X.b (dk DX8_undecided_0 29 rfl) rfl (lv_at hl 3 rfl) ?_
        refine lv_icmp_ge (tgt := 61) X.x X.b (dk DX8_undecided_0 30 rfl) (by decide) (fun c11 => ?_) (fun c11 => ?_)
        · replace hF := if_t hF c11
          obtain ⟨v12, e13⟩ : ∃ y : Int32, y = b4 + 1 := ⟨_, rfl⟩
          replace hF := bnd_e hF e13
          refine lv_iinc (v := v12) (lv' := [(4, .int v12), (0, .ref (q 15)), (1, .int b1), (2, .int b2), (3, .int b3), (5, .int x5)]) X.x X.b (dk DX8_undecided_0 35 rfl) hl (k := 4) rfl (by rw [e13]; rfl) (by decide) rfl (fun ls hl => ?_)
          replace hl : lv_has ls 6 [(0, .ref (q 15)), (1, .int b1), (2, .int b2), (3, .int b3), (4, .int v12)] := lv_sub hl [1, 2, 3, 4, 0] rfl
          refine lv_goto (tgt := 8) X.x X.b (dk DX8_undecided_0 36 rfl) (by decide) ?_
          exact (lp_l hF hx) _ _ _ hH (lv_sub hl [0, 1, 2, 3, 4] rfl) K0
        · replace hF := if_f hF c11
          refine lv_iload X.x X.b (dk DX8_undecided_0 31 rfl) (lv_at hl 5 rfl) ?_
          refine lv_istore_n (lv' := [(3, .int x5), (0, .ref (q 15)), (1, .int b1), (2, .int b2), (4, .int b4), (5, .int x5)]) X.x X.b (dk DX8_undecided_0 32 rfl) rfl hl (by decide) rfl (fun ls hl => ?_)
          replace hl : lv_has ls 6 [(0, .ref (q 15)), (1, .int b1), (3, .int x5), (4, .int b4)] := lv_sub hl [1, 2, 0, 4] rfl
          refine lv_iload X.x X.b (dk DX8_undecided_0 33 rfl) (lv_at hl 3 rfl) ?_
          refine lv_istore_n (lv' := [(2, .int b4), (0, .ref (q 15)), (1, .int b1), (3, .int x5), (4, .int b4)]) X.x X.b (dk DX8_undecided_0 34 rfl) rfl hl (by decide) rfl (fun ls hl => ?_)
          replace hl : lv_has ls 6 [(0, .ref (q 15)), (1, .int b1), (2, .int b4), (3, .int x5), (4, .int b4)] := lv_sub hl [1, 2, 0, 3, 4] rfl
          obtain ⟨v14, e15⟩ : ∃ y : Int32, y = b4 + 1 := ⟨_, rfl⟩
          replace hF := bnd_e hF e15
          refine lv_iinc (v := v14) (lv' := [(4, .int v14), (0, .ref (q 15)), (1, .int b1), (2, .int b4), (3, .int x5)]) X.x X.b (dk DX8_undecided_0 35 rfl) hl (k := 4) rfl (by rw [e15]; rfl) (by decide) rfl (fun ls hl => ?_)
          replace hl : lv_has ls 6 [(0, .ref (q 15)), (1, .int b1), (2, .int b4), (3, .int x5), (4, .int v14)] := lv_sub hl [1, 2, 3, 4, 0] rfl
          refine lv_goto (tgt := 8) X.x X.b (dk DX8_undecided_0 36 rfl) (by decide) ?_
          exact (lp_l hF hx) _ _ _ hH (lv_sub hl [0, 1, 2, 3, 4] rfl) K0
set_option maxHeartbeats 4000000 in
set_option maxRecDepth 100000 in
theorem c_X8_undecided {l : Launch} {G : mG} {h : mM} {q : Nat → Nat} (hq : oinj LX8 q) {st : OS} {a0 : Int32} {x : Int32} (hF : f_X8_undecided st a0 = some x) : cQ l G yX8_undecided cX8_undecided 6 (some FieldType.int) rm_X8_undecided [.ref (q 15), .int a0] (oset LX8 G q st h) (mQi G (fun r h1 => r = x ∧ h1 = oset LX8 G q st h)) := by
  refine mp_of (by decide +kernel) (Nat.le_of_ble_eq_true rfl) ?_
  intro p e s m below meth c X hr hlk hH hname ls hl
  dsimp only [f_X8_undecided] at hF
  replace hl : lv_has ls 6 [(0, .ref (q 15)), (1, .int a0)] := hl
  refine lv_iconst (v := (-1)) X.x X.b (dk DX8_undecided_0 0 rfl) (by decide) ?_
  refine lv_istore_n (lv' := [(2, .int ((-1))), (0, .ref (q 15)), (1, .int a0)]) X.x X.b (dk DX8_undecided_0 1 rfl) rfl hl (by decide) rfl (fun ls hl => ?_)
  replace hl : lv_has ls 6 [(0, .ref (q 15)), (1, .int a0), (2, .int ((-1)))] := lv_sub hl [1, 2, 0] rfl
  refine lv_bipush (v := 17) X.x X.b (dk DX8_undecided_0 2 rfl) (by decide) ?_
  refine lv_istore_n (lv' := [(3, .int 17), (0, .ref (q 15)), (1, .int a0), (2, .int ((-1)))]) X.x X.b (dk DX8_undecided_0 3 rfl) rfl hl (by decide) rfl (fun ls hl => ?_)
  replace hl : lv_has ls 6 [(0, .ref (q 15)), (1, .int a0), (2, .int ((-1))), (3, .int 17)] := lv_sub hl [1, 2, 3, 0] rfl
  refine lv_iconst (v := 0) X.x X.b (dk DX8_undecided_0 4 rfl) (by decide) ?_
  refine lv_istore (lv' := [(4, .int 0), (0, .ref (q 15)), (1, .int a0), (2, .int ((-1))), (3, .int 17)]) X.x X.b (dk DX8_undecided_0 5 rfl) hl (by decide) rfl (fun ls hl => ?_)
  replace hl : lv_has ls 6 [(0, .ref (q 15)), (1, .int a0), (2, .int ((-1))), (3, .int 17), (4, .int 0)] := lv_sub hl [1, 2, 3, 4, 0] rfl
  obtain ⟨x16, e17, hF⟩ := bd hF
  replace hl : lv_has ls 6 [(0, .ref (q 15)), (1, .int a0), (2, .int ((-1))), (3, .int 17), (4, .int 0)] := lv_sub hl [0, 1, 2, 3, 4] rfl
  refine w_X8_undecided_8 hq X st a0 _ _ e17 _ _ _ hH hl (fun H locs ls hH hl => ?_)
  refine lv_iload_n X.x X.b (dk DX8_undecided_0 37 rfl) rfl (lv_at hl 0 rfl) ?_
  cases sm hF
  exact mr_iret X hr hlk hH ⟨rfl, rfl⟩ (dk DX8_undecided_0 38 rfl)
-- X8_tellApart
abbrev rm_X8_tellApart : Room := { frames := 1, cells := 0, slots := 0, locals := 40 }
theorem hd_X8_tellApart : mHd yX8_tellApart 4 := ⟨by decide +kernel, by decide +kernel, by decide +kernel⟩
theorem DX8_tellApart_0 : ∀ t ∈ ([(0, .iload_n 1, 1), (1, .ifCond .lt 11, 3), (4, .iload_n 1, 1), (5, .iconst 1, 1), (6, .iadd, 1), (7, .bipush 16, 2), (9, .if_icmp .lt 4, 3), (12, .return_, 1), (13, .iload_n 1, 1), (14, .iconst 1, 1), (15, .iadd, 1), (16, .istore 5, 2), (18, .aload_n 0, 1), (19, .getfield 30, 3), (22, .iload_n 1, 1), (23, .bipush 64, 2), (25, .imul, 1), (26, .aload_n 0, 1), (27, .getfield 30, 3), (30, .iload 5, 2), (32, .bipush 64, 2), (34, .imul, 1), (35, .bipush 64, 2), (37, .invokestatic 139, 3), (40, .aload_n 0, 1), (41, .getfield 33, 3), (44, .iload_n 1, 1), (45, .bipush 64, 2), (47, .imul, 1), (48, .aload_n 0, 1), (49, .getfield 33, 3), (52, .iload 5, 2), (54, .bipush 64, 2), (56, .imul, 1), (57, .bipush 64, 2), (59, .invokestatic 139, 3), (62, .aload_n 0, 1), (63, .getfield 26, 3), (66, .iload 5, 2), (68, .aload_n 0, 1), (69, .getfield 26, 3), (72, .iload_n 1, 1), (73, .iaload, 1), (74, .iastore, 1), (75, .aload_n 0, 1), (76, .iload 5, 2), (78, .iload_n 2, 1), (79, .lconst 1, 1), (80, .iload_n 3, 1), (81, .lshl, 1), (82, .lconst 1, 1), (83, .iload 4, 2), (85, .lshl, 1), (86, .invokevirtual 145, 3), (89, .aload_n 0, 1), (90, .getfield 51, 3), (93, .iload_n 1, 1), (94, .iload 4, 2), (96, .iastore, 1), (97, .return_, 1)] : List (Nat × Instr × Nat)), decode cX8_tellApart t.1 = .ok (t.2.1, t.2.2) := by decide +kernel
noncomputable def f_X8_tellApart (st : OS) (a0 : Int32) (a1 : Int32) (a2 : Int32) (a3 : Int32) : Option (OS) := (if a0 < 0 then some st else (if (a0 + 1) < 16 then bnd (a0 + 1 : Int32) (fun v3 => if okc (a0 * 64) (v3 * 64) 64 1088 1088 = true then bnd (oB st 7 (va_cpy (st.2.2.2 7) (st.2.2.2 7) (a0 * 64 : Int32).toNatClampNeg (v3 * 64 : Int32).toNatClampNeg (64 : Int32).toNatClampNeg)) (fun t6 => if okc (a0 * 64) (v3 * 64) 64 1088 1088 = true then bnd (oB t6 8 (va_cpy (t6.2.2.2 8) (t6.2.2.2 8) (a0 * 64 : Int32).toNatClampNeg (v3 * 64 : Int32).toNatClampNeg (64 : Int32).toNatClampNeg)) (fun t9 => if inb a0 17 = true then if inb v3 17 = true then bnd (oA t9 6 (upd (t9.2.2.1 6) (v3 : Int32).toNatClampNeg (t9.2.2.1 6 (a0 : Int32).toNatClampNeg))) (fun t13 => (f_X8_split t13 v3 a1 (((1 : Int64)) <<< ((a2 : Int32).toInt64 &&& 63)) (((1 : Int64)) <<< ((a3 : Int32).toInt64 &&& 63))).bind (fun x15 => if inb a0 16 = true then bnd (oA x15 14 (upd (x15.2.2.1 14) (a0 : Int32).toNatClampNeg a3)) (fun t19 => some t19) else none)) else none else none) else none) else none) else some st))
set_option maxHeartbeats 4000000 in
set_option maxRecDepth 100000 in
theorem c_X8_tellApart {l : Launch} {G : mG} {h : mM} {q : Nat → Nat} (hq : oinj LX8 q) {st : OS} {a0 : Int32} {a1 : Int32} {a2 : Int32} {a3 : Int32} {x : OS} (hF : f_X8_tellApart st a0 a1 a2 a3 = some x) : cQ l G yX8_tellApart cX8_tellApart 6 none rm_X8_tellApart [.ref (q 15), .int a0, .int a1, .int a2, .int a3] (oset LX8 G q st h) (mQv G (fun h1 => h1 = oset LX8 G q x h)) := by
  refine mp_of (by decide +kernel) (Nat.le_of_ble_eq_true rfl) ?_
  intro p e s m below meth c X hr hlk hH hname ls hl
  dsimp only [f_X8_tellApart] at hF
  replace hl : lv_has ls 6 [(0, .ref (q 15)), (1, .int a0), (2, .int a1), (3, .int a2), (4, .int a3)] := hl
  refine lv_iload_n X.x X.b (dk DX8_tellApart_0 0 rfl) rfl (lv_at hl 1 rfl) ?_
  refine lv_if_lt (tgt := 12) X.x X.b (dk DX8_tellApart_0 1 rfl) (by decide) (fun c1 => ?_) (fun c1 => ?_)
  · replace hF := if_t hF c1
    cases sm hF
    exact mr_vret X hr hlk hH rfl (dk DX8_tellApart_0 7 rfl)
  · replace hF := if_f hF c1
    refine lv_iload_n X.x X.b (dk DX8_tellApart_0 2 rfl) rfl (lv_at hl 1 rfl) ?_
    refine lv_iconst (v := 1) X.x X.b (dk DX8_tellApart_0 3 rfl) (by decide) ?_
    refine lv_iadd X.x X.b (dk DX8_tellApart_0 4 rfl) ?_
    refine lv_bipush (v := 16) X.x X.b (dk DX8_tellApart_0 5 rfl) (by decide) ?_
    refine lv_icmp_lt (tgt := 13) X.x X.b (dk DX8_tellApart_0 6 rfl) (by decide) (fun c2 => ?_) (fun c2 => ?_)
    · replace hF := if_t hF c2
      refine lv_iload_n X.x X.b (dk DX8_tellApart_0 8 rfl) rfl (lv_at hl 1 rfl) ?_
      refine lv_iconst (v := 1) X.x X.b (dk DX8_tellApart_0 9 rfl) (by decide) ?_
      refine lv_iadd X.x X.b (dk DX8_tellApart_0 10 rfl) ?_
      refine lv_topi (fun v3 e4 => ?_)
      replace hF := bnd_e hF e4
      refine lv_istore (lv' := [(5, .int v3), (0, .ref (q 15)), (1, .int a0), (2, .int a1), (3, .int a2), (4, .int a3)]) X.x X.b (dk DX8_tellApart_0 11 rfl) hl (by decide) rfl (fun ls hl => ?_)
      replace hl : lv_has ls 6 [(0, .ref (q 15)), (1, .int a0), (2, .int a1), (3, .int a2), (4, .int a3), (5, .int v3)] := lv_sub hl [1, 2, 3, 4, 5, 0] rfl
      refine lv_aload_n X.x X.b (dk DX8_tellApart_0 12 rfl) rfl (lv_at hl 0 rfl) ?_
      refine og_getR (t := 1) OX8 X hq hH 7 (by decide) rfl kF_X8_30 (dk DX8_tellApart_0 13 rfl) ?_
      refine lv_iload_n X.x X.b (dk DX8_tellApart_0 14 rfl) rfl (lv_at hl 1 rfl) ?_
      refine lv_bipush (v := 64) X.x X.b (dk DX8_tellApart_0 15 rfl) (by decide) ?_
      refine lv_imul X.x X.b (dk DX8_tellApart_0 16 rfl) ?_
      refine lv_aload_n X.x X.b (dk DX8_tellApart_0 17 rfl) rfl (lv_at hl 0 rfl) ?_
      refine og_getR (t := 1) OX8 X hq hH 7 (by decide) rfl kF_X8_30 (dk DX8_tellApart_0 18 rfl) ?_
      refine lv_iload X.x X.b (dk DX8_tellApart_0 19 rfl) (lv_at hl 5 rfl) ?_
      refine lv_bipush (v := 64) X.x X.b (dk DX8_tellApart_0 20 rfl) (by decide) ?_
      refine lv_imul X.x X.b (dk DX8_tellApart_0 21 rfl) ?_
      refine lv_bipush (v := 64) X.x X.b (dk DX8_tellApart_0 22 rfl) (by decide) ?_
      obtain ⟨c5, hF⟩ := gd hF
      refine og_copyl X hl.1 hq hH 7 (by decide) rfl ((oset_at hq (k := 7) (by decide) rfl).trans (congrArg some (oc_k (t := 3) (n := 1088) (by decide) rfl))) c5 kM_X8_139 kV_rraycopyName kT_rraycopyName kN_J10 (Nat.le_of_ble_eq_true rfl) (Nat.le_of_ble_eq_true rfl) (dk DX8_tellApart_0 23 rfl) (fun H locs hH => ?_)
      obtain ⟨t6, e7⟩ : ∃ y, y = oB st 7 (va_cpy (st.2.2.2 7) (st.2.2.2 7) (a0 * 64 : Int32).toNatClampNeg (v3 * 64 : Int32).toNatClampNeg (64 : Int32).toNatClampNeg) := ⟨_, rfl⟩
      rw [← e7] at hH
      replace hF := bnd_e hF e7
      refine lv_aload_n X.x X.b (dk DX8_tellApart_0 24 rfl) rfl (lv_at hl 0 rfl) ?_
      refine og_getR (t := 1) OX8 X hq hH 8 (by decide) rfl kF_X8_33 (dk DX8_tellApart_0 25 rfl) ?_
      refine lv_iload_n X.x X.b (dk DX8_tellApart_0 26 rfl) rfl (lv_at hl 1 rfl) ?_
      refine lv_bipush (v := 64) X.x X.b (dk DX8_tellApart_0 27 rfl) (by decide) ?_
      refine lv_imul X.x X.b (dk DX8_tellApart_0 28 rfl) ?_
      refine lv_aload_n X.x X.b (dk DX8_tellApart_0 29 rfl) rfl (lv_at hl 0 rfl) ?_
      refine og_getR (t := 1) OX8 X hq hH 8 (by decide) rfl kF_X8_33 (dk DX8_tellApart_0 30 rfl) ?_
      refine lv_iload X.x X.b (dk DX8_tellApart_0 31 rfl) (lv_at hl 5 rfl) ?_
      refine lv_bipush (v := 64) X.x X.b (dk DX8_tellApart_0 32 rfl) (by decide) ?_
      refine lv_imul X.x X.b (dk DX8_tellApart_0 33 rfl) ?_
      refine lv_bipush (v := 64) X.x X.b (dk DX8_tellApart_0 34 rfl) (by decide) ?_
      obtain ⟨c8, hF⟩ := gd hF
      refine og_copyl X hl.1 hq hH 8 (by decide) rfl ((oset_at hq (k := 8) (by decide) rfl).trans (congrArg some (oc_k (t := 3) (n := 1088) (by decide) rfl))) c8 kM_X8_139 kV_rraycopyName kT_rraycopyName kN_J10 (Nat.le_of_ble_eq_true rfl) (Nat.le_of_ble_eq_true rfl) (dk DX8_tellApart_0 35 rfl) (fun H locs hH => ?_)
      obtain ⟨t9, e10⟩ : ∃ y, y = oB t6 8 (va_cpy (t6.2.2.2 8) (t6.2.2.2 8) (a0 * 64 : Int32).toNatClampNeg (v3 * 64 : Int32).toNatClampNeg (64 : Int32).toNatClampNeg) := ⟨_, rfl⟩
      rw [← e10] at hH
      replace hF := bnd_e hF e10
      refine lv_aload_n X.x X.b (dk DX8_tellApart_0 36 rfl) rfl (lv_at hl 0 rfl) ?_
      refine og_getR (t := 0) OX8 X hq hH 6 (by decide) rfl kF_X8_26 (dk DX8_tellApart_0 37 rfl) ?_
      refine lv_iload X.x X.b (dk DX8_tellApart_0 38 rfl) (lv_at hl 5 rfl) ?_
      refine lv_aload_n X.x X.b (dk DX8_tellApart_0 39 rfl) rfl (lv_at hl 0 rfl) ?_
      refine og_getR (t := 0) OX8 X hq hH 6 (by decide) rfl kF_X8_26 (dk DX8_tellApart_0 40 rfl) ?_
      refine lv_iload_n X.x X.b (dk DX8_tellApart_0 41 rfl) rfl (lv_at hl 1 rfl) ?_
      obtain ⟨c11, hF⟩ := gd hF
      refine og_iald X hq hH 6 (by decide) rfl (inb_in c11) (dk DX8_tellApart_0 42 rfl) ?_
      obtain ⟨c12, hF⟩ := gd hF
      refine og_iast X hq hH 6 (by decide) rfl (inb_in c12) (dk DX8_tellApart_0 43 rfl) (fun H locs hH => ?_)
      obtain ⟨t13, e14⟩ : ∃ y, y = oA t9 6 (upd (t9.2.2.1 6) (v3 : Int32).toNatClampNeg (t9.2.2.1 6 (a0 : Int32).toNatClampNeg)) := ⟨_, rfl⟩
      rw [← e14] at hH
      replace hF := bnd_e hF e14
      refine lv_aload_n X.x X.b (dk DX8_tellApart_0 44 rfl) rfl (lv_at hl 0 rfl) ?_
      refine lv_iload X.x X.b (dk DX8_tellApart_0 45 rfl) (lv_at hl 5 rfl) ?_
      refine lv_iload_n X.x X.b (dk DX8_tellApart_0 46 rfl) rfl (lv_at hl 2 rfl) ?_
      refine lv_lconst (v := 1) X.x X.b (dk DX8_tellApart_0 47 rfl) (by decide) ?_
      refine lv_iload_n X.x X.b (dk DX8_tellApart_0 48 rfl) rfl (lv_at hl 3 rfl) ?_
      refine lv_lshl X.x X.b (dk DX8_tellApart_0 49 rfl) rfl ?_
      refine lv_lconst (v := 1) X.x X.b (dk DX8_tellApart_0 50 rfl) (by decide) ?_
      refine lv_iload X.x X.b (dk DX8_tellApart_0 51 rfl) (lv_at hl 4 rfl) ?_
      refine lv_lshl X.x X.b (dk DX8_tellApart_0 52 rfl) rfl ?_
      obtain ⟨x15, e16, hF⟩ := bd hF
      refine mr_cv0 hH ⟨rfl, rfl⟩ (mr_runV (As := [.int v3, .int a1, .long (((1 : Int64)) <<< ((a2 : Int32).toInt64 &&& 63)), .long (((1 : Int64)) <<< ((a3 : Int32).toInt64 &&& 63))]) (rest := []) X hH (c_X8_split hq e16) ((oset_at hq (Nat.le_refl _) ohas_N).trans (congrArg some ocell_N)) OX8.1 kM_X8_145 kI_X8_split kS_X8_split kN_X8 kC_X8_split hd_X8_split ⟨Nat.le_of_ble_eq_true rfl, Nat.le_of_ble_eq_true rfl⟩ rfl hl.1 (Nat.le_of_ble_eq_true rfl) (dk DX8_tellApart_0 53 rfl) ⟨Nat.zero_le _, Nat.zero_le _⟩) (fun h1 H locs hp hH => ?_)
      rw [hp] at hH; clear hp
      refine lv_aload_n X.x X.b (dk DX8_tellApart_0 54 rfl) rfl (lv_at hl 0 rfl) ?_
      refine og_getR (t := 0) OX8 X hq hH 14 (by decide) rfl kF_X8_51 (dk DX8_tellApart_0 55 rfl) ?_
      refine lv_iload_n X.x X.b (dk DX8_tellApart_0 56 rfl) rfl (lv_at hl 1 rfl) ?_
      refine lv_iload X.x X.b (dk DX8_tellApart_0 57 rfl) (lv_at hl 4 rfl) ?_
      obtain ⟨c18, hF⟩ := gd hF
      refine og_iast X hq hH 14 (by decide) rfl (inb_in c18) (dk DX8_tellApart_0 58 rfl) (fun H locs hH => ?_)
      obtain ⟨t19, e20⟩ : ∃ y, y = oA x15 14 (upd (x15.2.2.1 14) (a0 : Int32).toNatClampNeg a3) := ⟨_, rfl⟩
      rw [← e20] at hH
      replace hF := bnd_e hF e20
      cases sm hF
      exact mr_vret X hr hlk hH rfl (dk DX8_tellApart_0 59 rfl)
    · replace hF := if_f hF c2
      cases sm hF
      exact mr_vret X hr hlk hH rfl (dk DX8_tellApart_0 7 rfl)
-- X8_tellAllApart
abbrev rm_X8_tellAllApart : Room := { frames := 5, cells := 0, slots := 0, locals := 124 }
theorem hd_X8_tellAllApart : mHd yX8_tellAllApart 0 := ⟨by decide +kernel, by decide +kernel, by decide +kernel⟩
theorem DX8_tellAllApart_0 : ∀ t ∈ ([(0, .iconst 0, 1), (1, .istore_n 1, 1), (2, .iconst 0, 1), (3, .istore_n 2, 1), (4, .iload_n 2, 1), (5, .iconst 1, 1), (6, .iadd, 1), (7, .bipush 16, 2), (9, .if_icmp .ge 68, 3), (12, .aload_n 0, 1), (13, .iload_n 1, 1), (14, .invokevirtual 96, 3), (17, .pop, 1), (18, .aload_n 0, 1), (19, .iload_n 1, 1), (20, .invokevirtual 100, 3), (23, .istore_n 3, 1), (24, .iload_n 3, 1), (25, .iconst (-1), 1), (26, .if_icmp .ne 6, 3), (29, .goto 48, 3), (32, .aload_n 0, 1), (33, .getfield 30, 3), (36, .iload_n 1, 1), (37, .bipush 64, 2), (39, .imul, 1), (40, .iload_n 3, 1), (41, .iadd, 1), (42, .laload, 1), (43, .invokestatic 103, 3), (46, .istore 4, 2), (48, .aload_n 0, 1), (49, .iload_n 1, 1), (50, .iload_n 3, 1), (51, .iload 4, 2), (53, .iload 4, 2), (55, .invokevirtual 107, 3), (58, .aload_n 0, 1), (59, .getfield 48, 3), (62, .iload_n 1, 1), (63, .lconst 1, 1), (64, .iload 4, 2), (66, .lshl, 1), (67, .lastore, 1), (68, .iinc 1 1, 3), (71, .iinc 2 1, 3), (74, .goto (-70), 3), (77, .iload_n 1, 1), (78, .ireturn, 1)] : List (Nat × Instr × Nat)), decode cX8_tellAllApart t.1 = .ok (t.2.1, t.2.2) := by decide +kernel
noncomputable def f_X8_tellAllApart_4 : (OS × Int32 × Int32) → Option ((OS × Int32 × Int32) ⊕ (Nat × OS × Int32)) := fun z => match z with | (s_t, b1, b2) => (if 16 ≤ (b2 + 1) then some (.inr ((1, s_t, b1))) else (f_X8_settleKinds s_t b1).bind (fun x2 => match x2 with | (v4, t5) => (f_X8_undecided t5 b1).bind (fun x6 => (if x6 = ((-1)) then some (.inr ((0, t5, b1))) else if inb ((b1 * 64) + x6) 1088 = true then (f_X10_lowest (t5.2.2.2 7 ((b1 * 64) + x6 : Int32).toNatClampNeg)).bind (fun x11 => (f_X8_tellApart t5 b1 x6 x11 x11).bind (fun x14 => if inb b1 16 = true then bnd (oB x14 13 (vp_updL (x14.2.2.2 13) (b1 : Int32).toNatClampNeg (((1 : Int64)) <<< ((x11 : Int32).toInt64 &&& 63)))) (fun t18 => bnd (b1 + 1 : Int32) (fun v20 => bnd (b2 + 1 : Int32) (fun v22 => some (.inl ((t18, v20, v22)))))) else none)) else none))))
noncomputable def f_X8_tellAllApart (st : OS) : Option (Int32 × OS) := (lpv (f_X8_tellAllApart_4) ((st, 0, 0))).bind (fun x24 => match x24 with | (k28, t26, v27) => (if k28 = 0 then some ((v27, t26)) else some ((v27, t26))))
set_option maxHeartbeats 4000000 in
set_option maxRecDepth 100000 in
theorem w_X8_tellAllApart_4 {p : Program} {l : Launch} {e : Env} {s : State} {m : MethodId} {args : Array Value} {below : List Frame} {meth : Method} {c : Code} {Q : State → Prop} {G : mG} {h : mM} {q : Nat → Nat} (hq : oinj LX8 q) (X : mX G p m c cX8_tellAllApart 5 s args RX8) : ∀ (z : OS × Int32 × Int32) (r : Nat × OS × Int32), lpv (f_X8_tellAllApart_4) z = some r → ∀ (H : Heap) (locs : List Loc) (ls : Array Slot), mH G (oset LX8 G q z.1 h) s.heap H locs → lv_has ls 5 [(0, .ref (q 15)), (1, .int z.2.1), (2, .int z.2.2)] → (r.1 = 0 → ∀ (H : Heap) (locs : List Loc) (ls : Array Slot), mH G (oset LX8 G q r.2.1 h) s.heap H locs → lv_has ls 5 [(1, .int r.2.2)] → W p l e rm_X8_tellAllApart s m args below meth c H locs 0 0 Q (F0 m 29 ls [])) → (r.1 = 1 → ∀ (H : Heap) (locs : List Loc) (ls : Array Slot), mH G (oset LX8 G q r.2.1 h) s.heap H locs → lv_has ls 5 [(1, .int r.2.2)] → W p l e rm_X8_tellAllApart s m args below meth c H locs 0 0 Q (F0 m 77 ls [])) → W p l e rm_X8_tellAllApart s m args below meth c H locs 0 0 Q (F0 m 4 ls []) := by
  refine lpv_rec ?_
  intro z r x hF hx H locs ls hH hl K0 K1
  obtain ⟨s_t, b1, b2⟩ := z
  dsimp only [f_X8_tellAllApart_4] at hF
  try dsimp only at hH hl
  refine lv_iload_n X.x X.b (dk DX8_tellAllApart_0 4 rfl) rfl (lv_at hl 2 rfl) ?_
  refine lv_iconst (v := 1) X.x X.b (dk DX8_tellAllApart_0 5 rfl) (by decide) ?_
  refine lv_iadd X.x X.b (dk DX8_tellAllApart_0 6 rfl) ?_
  refine lv_bipush (v := 16) X.x X.b (dk DX8_tellAllApart_0 7 rfl) (by decide) ?_
  refine lv_icmp_ge (tgt := 77) X.x X.b (dk DX8_tellAllApart_0 8 rfl) (by decide) (fun c1 => ?_) (fun c1 => ?_)
  · replace hF := if_t hF c1
    have hr9 := lp_r hF hx
    subst hr9
    exact K1 rfl _ _ _ hH (lv_sub hl [1] rfl)
  · replace hF := if_f hF c1
    refine lv_aload_n X.x X.b (dk DX8_tellAllApart_0 9 rfl) rfl (lv_at hl 0 rfl) ?_
    refine lv_iload_n X.x X.b (dk DX8_tellAllApart_0 10 rfl) rfl (lv_at hl 1 rfl) ?_
    obtain ⟨x2, e3, hF⟩ := bd hF
    refine mr_ci0 hH ⟨rfl, rfl⟩ (mr_runV (As := [.int b1]) (rest := []) X hH (c_X8_settleKinds hq e3) ((oset_at hq (Nat.le_refl _) ohas_N).trans (congrArg some ocell_N)) OX8.1 kM_X8_96 kI_X8_settleKinds kS_X8_settleKinds kN_X8 kC_X8_settleKinds hd_X8_settleKinds ⟨Nat.le_of_ble_eq_true rfl, Nat.le_of_ble_eq_true rfl⟩ rfl hl.1 (Nat.le_of_ble_eq_true rfl) (dk DX8_tellAllApart_0 11 rfl) ⟨Nat.zero_le _, Nat.zero_le _⟩) (fun r h1 H locs hp hH => ?_)
    obtain ⟨hr1, hr2⟩ := hp; rw [hr1]; rw [hr2] at hH; clear hr1 hr2
    obtain ⟨v4, t5⟩ := x2
    try dsimp only at hF hH ⊢
    refine lv_pop X.x X.b (dk DX8_tellAllApart_0 12 rfl) rfl ?_
    refine lv_aload_n X.x X.b (dk DX8_tellAllApart_0 13 rfl) rfl (lv_at hl 0 rfl) ?_
    refine lv_iload_n X.x X.b (dk DX8_tellAllApart_0 14 rfl) rfl (lv_at hl 1 rfl) ?_
    obtain ⟨x6, e7, hF⟩ := bd hF
    refine mr_ci0 hH ⟨rfl, rfl⟩ (mr_runV (As := [.int b1]) (rest := []) X hH (c_X8_undecided hq e7) ((oset_at hq (Nat.le_refl _) ohas_N).trans (congrArg some ocell_N)) OX8.1 kM_X8_100 kI_X8_undecided kS_X8_undecided kN_X8 kC_X8_undecided hd_X8_undecided ⟨Nat.le_of_ble_eq_true rfl, Nat.le_of_ble_eq_true rfl⟩ rfl hl.1 (Nat.le_of_ble_eq_true rfl) (dk DX8_tellAllApart_0 15 rfl) ⟨Nat.zero_le _, Nat.zero_le _⟩) (fun r h1 H locs hp hH => ?_)
    obtain ⟨hr1, hr2⟩ := hp; rw [hr1]; rw [hr2] at hH; clear hr1 hr2
    refine lv_istore_n (lv' := [(3, .int x6), (0, .ref (q 15)), (1, .int b1), (2, .int b2)]) X.x X.b (dk DX8_tellAllApart_0 16 rfl) rfl hl (by decide) rfl (fun ls hl => ?_)
    replace hl : lv_has ls 5 [(0, .ref (q 15)), (1, .int b1), (2, .int b2), (3, .int x6)] := lv_sub hl [1, 2, 3, 0] rfl
    refine lv_iload_n X.x X.b (dk DX8_tellAllApart_0 17 rfl) rfl (lv_at hl 3 rfl) ?_
    refine lv_iconst (v := (-1)) X.x X.b (dk DX8_tellAllApart_0 18 rfl) (by decide) ?_
    refine lv_icmp_ne (tgt := 32) X.x X.b (dk DX8_tellAllApart_0 19 rfl) (by decide) (fun c9 => ?_) (fun c9 => ?_)
    · replace hF := if_f hF c9
      refine lv_aload_n X.x X.b (dk DX8_tellAllApart_0 21 rfl) rfl (lv_at hl 0 rfl) ?_
      refine og_getR (t := 1) OX8 X hq hH 7 (by decide) rfl kF_X8_30 (dk DX8_tellAllApart_0 22 rfl) ?_
      refine lv_iload_n X.x X.b (dk DX8_tellAllApart_0 23 rfl) rfl (lv_at hl 1 rfl) ?_
      refine lv_bipush (v := 64) X.x X.b (dk DX8_tellAllApart_0 24 rfl) (by decide) ?_
      refine lv_imul X.x X.b (dk DX8_tellAllApart_0 25 rfl) ?_
      refine lv_iload_n X.x X.b (dk DX8_tellAllApart_0 26 rfl) rfl (lv_at hl 3 rfl) ?_
      refine lv_iadd X.x X.b (dk DX8_tellAllApart_0 27 rfl) ?_
      obtain ⟨c10, hF⟩ := gd hF
      refine og_lald X hq hH 7 (by decide) rfl (inb_in c10) (dk DX8_tellAllApart_0 28 rfl) ?_
      obtain ⟨x11, e12, hF⟩ := bd hF
      refine mr_ci0 hH ⟨rfl, rfl⟩ (mr_runS (As := [.long (t5.2.2.2 7 ((b1 * 64) + x6 : Int32).toNatClampNeg)]) (rest := []) X hH (c_X10_lowest e12) kM_X8_103 kT_X10_lowest kN_X10 kC_X10_lowest hd_X10_lowest ⟨Nat.le_of_ble_eq_true rfl, Nat.le_of_ble_eq_true rfl⟩ rfl hl.1 (Nat.le_of_ble_eq_true rfl) (dk DX8_tellAllApart_0 29 rfl) ⟨Nat.zero_le _, Nat.zero_le _⟩) (fun r h1 H locs hp hH => ?_)
      obtain ⟨hr1, hr2⟩ := hp; rw [hr1]; rw [hr2] at hH; clear hr1 hr2
      refine lv_istore (lv' := [(4, .int x11), (0, .ref (q 15)), (1, .int b1), (2, .int b2), (3, .int x6)]) X.x X.b (dk DX8_tellAllApart_0 30 rfl) hl (by decide) rfl (fun ls hl => ?_)
      replace hl : lv_has ls 5 [(0, .ref (q 15)), (1, .int b1), (2, .int b2), (3, .int x6), (4, .int x11)] := lv_sub hl [1, 2, 3, 4, 0] rfl
      refine lv_aload_n X.x X.b (dk DX8_tellAllApart_0 31 rfl) rfl (lv_at hl 0 rfl) ?_
      refine lv_iload_n X.x X.b (dk DX8_tellAllApart_0 32 rfl) rfl (lv_at hl 1 rfl) ?_
      refine lv_iload_n X.x X.b (dk DX8_tellAllApart_0 33 rfl) rfl (lv_at hl 3 rfl) ?_
      refine lv_iload X.x X.b (dk DX8_tellAllApart_0 34 rfl) (lv_at hl 4 rfl) ?_
      refine lv_iload X.x X.b (dk DX8_tellAllApart_0 35 rfl) (lv_at hl 4 rfl) ?_
      obtain ⟨x14, e15, hF⟩ := bd hF
      refine mr_cv0 hH ⟨rfl, rfl⟩ (mr_runV (As := [.int b1, .int x6, .int x11, .int x11]) (rest := []) X hH (c_X8_tellApart hq e15) ((oset_at hq (Nat.le_refl _) ohas_N).trans (congrArg some ocell_N)) OX8.1 kM_X8_107 kI_X8_tellApart kS_X8_tellApart kN_X8 kC_X8_tellApart hd_X8_tellApart ⟨Nat.le_of_ble_eq_true rfl, Nat.le_of_ble_eq_true rfl⟩ rfl hl.1 (Nat.le_of_ble_eq_true rfl) (dk DX8_tellAllApart_0 36 rfl) ⟨Nat.zero_le _, Nat.zero_le _⟩) (fun h1 H locs hp hH => ?_)
      rw [hp] at hH; clear hp
      refine lv_aload_n X.x X.b (dk DX8_tellAllApart_0 37 rfl) rfl (lv_at hl 0 rfl) ?_
      refine og_getR (t := 1) OX8 X hq hH 13 (by decide) rfl kF_X8_48 (dk DX8_tellAllApart_0 38 rfl) ?_
      refine lv_iload_n X.x X.b (dk DX8_tellAllApart_0 39 rfl) rfl (lv_at hl 1 rfl) ?_
      refine lv_lconst (v := 1) X.x X.b (dk DX8_tellAllApart_0 40 rfl) (by decide) ?_
      refine lv_iload X.x X.b (dk DX8_tellAllApart_0 41 rfl) (lv_at hl 4 rfl) ?_
      refine lv_lshl X.x X.b (dk DX8_tellAllApart_0 42 rfl) rfl ?_
      obtain ⟨c17, hF⟩ := gd hF
      refine og_last X hq hH 13 (by decide) rfl (inb_in c17) (dk DX8_tellAllApart_0 43 rfl) (fun H locs hH => ?_)
      obtain ⟨t18, e19⟩ : ∃ y, y = oB x14 13 (vp_updL (x14.2.2.2 13) (b1 : Int32).toNatClampNeg (((1 : Int64)) <<< ((x11 : Int32).toInt64 &&& 63))) := ⟨_, rfl⟩
      rw [← e19] at hH
      replace hF := bnd_e hF e19
      obtain ⟨v20, e21⟩ : ∃ y : Int32, y = b1 + 1 := ⟨_, rfl⟩
      replace hF := bnd_e hF e21
      refine lv_iinc (v := v20) (lv' := [(1, .int v20), (0, .ref (q 15)), (2, .int b2), (3, .int x6), (4, .int x11)]) X.x X.b (dk DX8_tellAllApart_0 44 rfl) hl (k := 1) rfl (by rw [e21]; rfl) (by decide) rfl (fun ls hl => ?_)
      replace hl : lv_has ls 5 [(0, .ref (q 15)), (1, .int v20), (2, .int b2)] := lv_sub hl [1, 0, 2] rfl
      obtain ⟨v22, e23⟩ : ∃ y : Int32, y = b2 + 1 := ⟨_, rfl⟩
      replace hF := bnd_e hF e23
      refine lv_iinc (v := v22) (lv' := [(2, .int v22), (0, .ref (q 15)), (1, .int v20)]) X.x X.b (dk DX8_tellAllApart_0 45 rfl) hl (k := 2) rfl (by rw [e23]; rfl) (by decide) rfl (fun ls hl => ?_)
      replace hl : lv_has ls 5 [(0, .ref (q 15)), (1, .int v20), (2, .int v22)] := lv_sub hl [1, 2, 0] rfl
      refine lv_goto (tgt := 4) X.x X.b (dk DX8_tellAllApart_0 46 rfl) (by decide) ?_
      exact (lp_l hF hx) _ _ _ hH (lv_sub hl [0, 1, 2] rfl) K0 K1
    · replace hF := if_t hF c9
      have hr9 := lp_r hF hx
      subst hr9
      exact K0 rfl _ _ _ hH (lv_sub hl [1] rfl)
set_option maxHeartbeats 4000000 in
set_option maxRecDepth 100000 in
theorem c_X8_tellAllApart {l : Launch} {G : mG} {h : mM} {q : Nat → Nat} (hq : oinj LX8 q) {st : OS} {x : Int32 × OS} (hF : f_X8_tellAllApart st = some x) : cQ l G yX8_tellAllApart cX8_tellAllApart 5 (some FieldType.int) rm_X8_tellAllApart [.ref (q 15)] (oset LX8 G q st h) (mQi G (fun r h1 => r = x.1 ∧ h1 = oset LX8 G q x.2 h)) := by
  refine mp_of (by decide +kernel) (Nat.le_of_ble_eq_true rfl) ?_
  intro p e s m below meth c X hr hlk hH hname ls hl
  dsimp only [f_X8_tellAllApart] at hF
  replace hl : lv_has ls 5 [(0, .ref (q 15))] := hl
  refine lv_iconst (v := 0) X.x X.b (dk DX8_tellAllApart_0 0 rfl) (by decide) ?_
  refine lv_istore_n (lv' := [(1, .int 0), (0, .ref (q 15))]) X.x X.b (dk DX8_tellAllApart_0 1 rfl) rfl hl (by decide) rfl (fun ls hl => ?_)
  replace hl : lv_has ls 5 [(0, .ref (q 15)), (1, .int 0)] := lv_sub hl [1, 0] rfl
  refine lv_iconst (v := 0) X.x X.b (dk DX8_tellAllApart_0 2 rfl) (by decide) ?_
  refine lv_istore_n (lv' := [(2, .int 0), (0, .ref (q 15)), (1, .int 0)]) X.x X.b (dk DX8_tellAllApart_0 3 rfl) rfl hl (by decide) rfl (fun ls hl => ?_)
  replace hl : lv_has ls 5 [(0, .ref (q 15)), (1, .int 0), (2, .int 0)] := lv_sub hl [1, 2, 0] rfl
  obtain ⟨x24, e25, hF⟩ := bd hF
  replace hl : lv_has ls 5 [(0, .ref (q 15)), (1, .int 0), (2, .int 0)] := lv_sub hl [0, 1, 2] rfl
  obtain ⟨k28, t26, v27⟩ := x24
  try dsimp only at hF
  refine w_X8_tellAllApart_4 hq X _ _ e25 _ _ _ hH hl (fun hk H locs ls hH hl => ?_) (fun hk H locs ls hH hl => ?_)
  · try dsimp only at hH hl
    try dsimp only at hk
    subst hk
    replace hF := if_t hF rfl
    refine lv_goto (tgt := 77) X.x X.b (dk DX8_tellAllApart_0 20 rfl) (by decide) ?_
    refine lv_iload_n X.x X.b (dk DX8_tellAllApart_0 47 rfl) rfl (lv_at hl 0 rfl) ?_
    cases sm hF
    exact mr_iret X hr hlk hH ⟨rfl, rfl⟩ (dk DX8_tellAllApart_0 48 rfl)
  · try dsimp only at hH hl
    try dsimp only at hk
    subst hk
    replace hF := if_f hF (by decide)
    refine lv_iload_n X.x X.b (dk DX8_tellAllApart_0 47 rfl) rfl (lv_at hl 0 rfl) ?_
    cases sm hF
    exact mr_iret X hr hlk hH ⟨rfl, rfl⟩ (dk DX8_tellAllApart_0 48 rfl)
-- X8_classOf
abbrev rm_X8_classOf : Room := { frames := 0, cells := 0, slots := 0, locals := 0 }
theorem hd_X8_classOf : mHd yX8_classOf 1 := ⟨by decide +kernel, by decide +kernel, by decide +kernel⟩
theorem DX8_classOf_0 : ∀ t ∈ ([(0, .iload_n 1, 1), (1, .ifCond .lt 9, 3), (4, .iload_n 1, 1), (5, .bipush 16, 2), (7, .if_icmp .lt 5, 3), (10, .lconst 0, 1), (11, .lreturn, 1), (12, .lconst 0, 1), (13, .lstore_n 2, 1), (14, .iconst 0, 1), (15, .istore 4, 2), (17, .iload 4, 2), (19, .aload_n 0, 1), (20, .getfield 83, 3), (23, .if_icmp .ge 43, 3), (26, .iload 4, 2), (28, .bipush 16, 2), (30, .if_icmp .ge 36, 3), (33, .lload_n 2, 1), (34, .aload_n 0, 1), (35, .getfield 45, 3), (38, .iload 4, 2), (40, .iaload, 1), (41, .aload_n 0, 1), (42, .getfield 45, 3), (45, .iload_n 1, 1), (46, .iaload, 1), (47, .if_icmp .ne 10, 3), (50, .lconst 1, 1), (51, .iload 4, 2), (53, .lshl, 1), (54, .goto 4, 3), (57, .lconst 0, 1), (58, .lor, 1), (59, .lstore_n 2, 1), (60, .iinc 4 1, 3), (63, .goto (-46), 3), (66, .lload_n 2, 1), (67, .lreturn, 1)] : List (Nat × Instr × Nat)), decode cX8_classOf t.1 = .ok (t.2.1, t.2.2) := by decide +kernel
noncomputable def f_X8_classOf_17 (s_t : OS) (b1 : Int32) : (Int64 × Int32) → Option ((Int64 × Int32) ⊕ (Int64)) := fun z => match z with | (b2, b4) => (if (s_t.1 0) ≤ b4 then some (.inr b2) else (if 16 ≤ b4 then some (.inr b2) else if inb b4 16 = true then if inb b1 16 = true then (if (s_t.2.2.1 12 (b4 : Int32).toNatClampNeg) = (s_t.2.2.1 12 (b1 : Int32).toNatClampNeg) then bnd (b2 ||| (((1 : Int64)) <<< ((b4 : Int32).toInt64 &&& 63)) : Int64) (fun v12 => bnd (b4 + 1 : Int32) (fun v14 => some (.inl ((v12, v14))))) else bnd (b2 ||| 0 : Int64) (fun v8 => bnd (b4 + 1 : Int32) (fun v10 => some (.inl ((v8, v10)))))) else none else none))
noncomputable def f_X8_classOf (st : OS) (a0 : Int32) : Option (Int64) := (if a0 < 0 then some 0 else (if a0 < 16 then (lpv (f_X8_classOf_17 st a0) ((0, 0))).bind (fun x16 => some x16) else some 0))
set_option maxHeartbeats 4000000 in
set_option maxRecDepth 100000 in
theorem w_X8_classOf_17 {p : Program} {l : Launch} {e : Env} {s : State} {m : MethodId} {args : Array Value} {below : List Frame} {meth : Method} {c : Code} {Q : State → Prop} {G : mG} {h : mM} {q : Nat → Nat} (hq : oinj LX8 q) (X : mX G p m c cX8_classOf 5 s args RX8) (s_t : OS) (b1 : Int32) : ∀ (z : Int64 × Int32) (r : Int64), lpv (f_X8_classOf_17 s_t b1) z = some r → ∀ (H : Heap) (locs : List Loc) (ls : Array Slot), mH G (oset LX8 G q s_t h) s.heap H locs → lv_has ls 5 [(0, .ref (q 15)), (1, .int b1), (2, .long z.1), (4, .int z.2)] → (∀ (H : Heap) (locs : List Loc) (ls : Array Slot), mH G (oset LX8 G q s_t h) s.heap H locs → lv_has ls 5 [(2, .long r)] → W p l e rm_X8_classOf s m args below meth c H locs 0 0 Q (F0 m 66 ls [])) → W p l e rm_X8_classOf s m args below meth c H locs 0 0 Q (F0 m 17 ls []) := by
  refine lpv_rec ?_
  intro z r x hF hx H locs ls hH hl K0
  obtain ⟨b2, b4⟩ := z
  dsimp only [f_X8_classOf_17] at hF
  try dsimp only at hH hl
  refine lv_iload X.x X.b (dk DX8_classOf_0 11 rfl) (lv_at hl 3 rfl) ?_
  refine lv_aload_n X.x X.b (dk DX8_classOf_0 12 rfl) rfl (lv_at hl 0 rfl) ?_
  refine og_getI OX8 X hq hH 0 (by decide) rfl kF_X8_83 (dk DX8_classOf_0 13 rfl) ?_
  refine lv_icmp_ge (tgt := 66) X.x X.b (dk DX8_classOf_0 14 rfl) (by decide) (fun c3 => ?_) (fun c3 => ?_)
  · replace hF := if_t hF c3
    have hr9 := lp_r hF hx
    subst hr9
    exact K0 _ _ _ hH (lv_sub hl [2] rfl)
  · replace hF := if_f hF c3
    refine lv_iload X.x X.b (dk DX8_classOf_0 15 rfl) (lv_at hl 3 rfl) ?_
    refine lv_bipush (v := 16) X.x X.b (dk DX8_classOf_0 16 rfl) (by decide) ?_
    refine lv_icmp_ge (tgt := 66) X.x X.b (dk DX8_classOf_0 17 rfl) (by decide) (fun c4 => ?_) (fun c4 => ?_)
    · replace hF := if_t hF c4
      have hr9 := lp_r hF hx
      subst hr9
      exact K0 _ _ _ hH (lv_sub hl [2] rfl)
    · replace hF := if_f hF c4
      refine lv_lload_n X.x X.b (dk DX8_classOf_0 18 rfl) rfl (lv_at hl 2 rfl) ?_
      refine lv_aload_n X.x X.b (dk DX8_classOf_0 19 rfl) rfl (lv_at hl 0 rfl) ?_
      refine og_getR (t := 0) OX8 X hq hH 12 (by decide) rfl kF_X8_45 (dk DX8_classOf_0 20 rfl) ?_
      refine lv_iload X.x X.b (dk DX8_classOf_0 21 rfl) (lv_at hl 3 rfl) ?_
      obtain ⟨c5, hF⟩ := gd hF
      refine og_iald X hq hH 12 (by decide) rfl (inb_in c5) (dk DX8_classOf_0 22 rfl) ?_
      refine lv_aload_n X.x X.b (dk DX8_classOf_0 23 rfl) rfl (lv_at hl 0 rfl) ?_
      refine og_getR (t := 0) OX8 X hq hH 12 (by decide) rfl kF_X8_45 (dk DX8_classOf_0 24 rfl) ?_
      refine lv_iload_n X.x X.b (dk DX8_classOf_0 25 rfl) rfl (lv_at hl 1 rfl) ?_
      obtain ⟨c6, hF⟩ := gd hF
      refine og_iald X hq hH 12 (by decide) rfl (inb_in c6) (dk DX8_classOf_0 26 rfl) ?_
      refine lv_icmp_ne (tgt := 57) X.x X.b (dk DX8_classOf_0 27 rfl) (by decide) (fun c7 => ?_) (fun c7 => ?_)
      · replace hF := if_f hF c7
        refine lv_lconst (v := 0) X.x X.b (dk DX8_classOf_0 32 rfl) (by decide) ?_
        refine lv_lor X.x X.b (dk DX8_classOf_0 33 rfl) ?_
        refine lv_topl (fun v8 e9 => ?_)
        replace hF := bnd_e hF e9
        refine lv_lstore_n (lv' := [(2, .long v8), (0, .ref (q 15)), (1, .int b1), (4, .int b4)]) X.x X.b (dk DX8_classOf_0 34 rfl) rfl hl (by decide) rfl (fun ls hl => ?_)
        replace hl : lv_has ls 5 [(0, .ref (q 15)), (1, .int b1), (2, .long v8), (4, .int b4)] := lv_sub hl [1, 2, 0, 3] rfl
        obtain ⟨v10, e11⟩ : ∃ y : Int32, y = b4 + 1 := ⟨_, rfl⟩
        replace hF := bnd_e hF e11
        refine lv_iinc (v := v10) (lv' := [(4, .int v10), (0, .ref (q 15)), (1, .int b1), (2, .long v8)]) X.x X.b (dk DX8_classOf_0 35 rfl) hl (k := 3) rfl (by rw [e11]; rfl) (by decide) rfl (fun ls hl => ?_)
        replace hl : lv_has ls 5 [(0, .ref (q 15)), (1, .int b1), (2, .long v8), (4, .int v10)] := lv_sub hl [1, 2, 3, 0] rfl
        refine lv_goto (tgt := 17) X.x X.b (dk DX8_classOf_0 36 rfl) (by decide) ?_
        exact (lp_l hF hx) _ _ _ hH (lv_sub hl [0, 1, 2, 3] rfl) K0
      · replace hF := if_t hF c7
        refine lv_lconst (v := 1) X.x X.b (dk DX8_classOf_0 28 rfl) (by decide) ?_
        refine lv_iload X.x X.b (dk DX8_classOf_0 29 rfl) (lv_at hl 3 rfl) ?_
        refine lv_lshl X.x X.b (dk DX8_classOf_0 30 rfl) rfl ?_
        refine lv_goto (tgt := 58) X.x X.b (dk DX8_classOf_0 31 rfl) (by decide) ?_
        refine lv_lor X.x X.b (dk DX8_classOf_0 33 rfl) ?_
        refine lv_topl (fun v12 e13 => ?_)
        replace hF := bnd_e hF e13
        refine lv_lstore_n (lv' := [(2, .long v12), (0, .ref (q 15)), (1, .int b1), (4, .int b4)]) X.x X.b (dk DX8_classOf_0 34 rfl) rfl hl (by decide) rfl (fun ls hl => ?_)
        replace hl : lv_has ls 5 [(0, .ref (q 15)), (1, .int b1), (2, .long v12), (4, .int b4)] := lv_sub hl [1, 2, 0, 3] rfl
        obtain ⟨v14, e15⟩ : ∃ y : Int32, y = b4 + 1 := ⟨_, rfl⟩
        replace hF := bnd_e hF e15
        refine lv_iinc (v := v14) (lv' := [(4, .int v14), (0, .ref (q 15)), (1, .int b1), (2, .long v12)]) X.x X.b (dk DX8_classOf_0 35 rfl) hl (k := 3) rfl (by rw [e15]; rfl) (by decide) rfl (fun ls hl => ?_)
        replace hl : lv_has ls 5 [(0, .ref (q 15)), (1, .int b1), (2, .long v12), (4, .int v14)] := lv_sub hl [1, 2, 3, 0] rfl
        refine lv_goto (tgt := 17) X.x X.b (dk DX8_classOf_0 36 rfl) (by decide) ?_
        exact (lp_l hF hx) _ _ _ hH (lv_sub hl [0, 1, 2, 3] rfl) K0
set_option maxHeartbeats 4000000 in
set_option maxRecDepth 100000 in
theorem c_X8_classOf {l : Launch} {G : mG} {h : mM} {q : Nat → Nat} (hq : oinj LX8 q) {st : OS} {a0 : Int32} {x : Int64} (hF : f_X8_classOf st a0 = some x) : cQ l G yX8_classOf cX8_classOf 5 (some FieldType.long) rm_X8_classOf [.ref (q 15), .int a0] (oset LX8 G q st h) (mQl G (fun r h1 => r = x ∧ h1 = oset LX8 G q st h)) := by
  refine mp_of (by decide +kernel) (Nat.le_of_ble_eq_true rfl) ?_
  intro p e s m below meth c X hr hlk hH hname ls hl
  dsimp only [f_X8_classOf] at hF
  replace hl : lv_has ls 5 [(0, .ref (q 15)), (1, .int a0)] := hl
  refine lv_iload_n X.x X.b (dk DX8_classOf_0 0 rfl) rfl (lv_at hl 1 rfl) ?_
  refine lv_if_lt (tgt := 10) X.x X.b (dk DX8_classOf_0 1 rfl) (by decide) (fun c1 => ?_) (fun c1 => ?_)
  · replace hF := if_t hF c1
    refine lv_lconst (v := 0) X.x X.b (dk DX8_classOf_0 5 rfl) (by decide) ?_
    cases sm hF
    exact mr_lret X hr hlk hH ⟨rfl, rfl⟩ (dk DX8_classOf_0 6 rfl)
  · replace hF := if_f hF c1
    refine lv_iload_n X.x X.b (dk DX8_classOf_0 2 rfl) rfl (lv_at hl 1 rfl) ?_
    refine lv_bipush (v := 16) X.x X.b (dk DX8_classOf_0 3 rfl) (by decide) ?_
    refine lv_icmp_lt (tgt := 12) X.x X.b (dk DX8_classOf_0 4 rfl) (by decide) (fun c2 => ?_) (fun c2 => ?_)
    · replace hF := if_t hF c2
      refine lv_lconst (v := 0) X.x X.b (dk DX8_classOf_0 7 rfl) (by decide) ?_
      refine lv_lstore_n (lv' := [(2, .long 0), (0, .ref (q 15)), (1, .int a0)]) X.x X.b (dk DX8_classOf_0 8 rfl) rfl hl (by decide) rfl (fun ls hl => ?_)
      replace hl : lv_has ls 5 [(0, .ref (q 15)), (1, .int a0), (2, .long 0)] := lv_sub hl [1, 2, 0] rfl
      refine lv_iconst (v := 0) X.x X.b (dk DX8_classOf_0 9 rfl) (by decide) ?_
      refine lv_istore (lv' := [(4, .int 0), (0, .ref (q 15)), (1, .int a0), (2, .long 0)]) X.x X.b (dk DX8_classOf_0 10 rfl) hl (by decide) rfl (fun ls hl => ?_)
      replace hl : lv_has ls 5 [(0, .ref (q 15)), (1, .int a0), (2, .long 0), (4, .int 0)] := lv_sub hl [1, 2, 3, 0] rfl
      obtain ⟨x16, e17, hF⟩ := bd hF
      replace hl : lv_has ls 5 [(0, .ref (q 15)), (1, .int a0), (2, .long 0), (4, .int 0)] := lv_sub hl [0, 1, 2, 3] rfl
      refine w_X8_classOf_17 hq X st a0 _ _ e17 _ _ _ hH hl (fun H locs ls hH hl => ?_)
      refine lv_lload_n X.x X.b (dk DX8_classOf_0 37 rfl) rfl (lv_at hl 0 rfl) ?_
      cases sm hF
      exact mr_lret X hr hlk hH ⟨rfl, rfl⟩ (dk DX8_classOf_0 38 rfl)
    · replace hF := if_f hF c2
      refine lv_lconst (v := 0) X.x X.b (dk DX8_classOf_0 5 rfl) (by decide) ?_
      cases sm hF
      exact mr_lret X hr hlk hH ⟨rfl, rfl⟩ (dk DX8_classOf_0 6 rfl)
-- X8_carryKinds
abbrev rm_X8_carryKinds : Room := { frames := 3, cells := 0, slots := 0, locals := 64 }
theorem hd_X8_carryKinds : mHd yX8_carryKinds 1 := ⟨by decide +kernel, by decide +kernel, by decide +kernel⟩
theorem DX8_carryKinds_0 : ∀ t ∈ ([(0, .iconst 0, 1), (1, .istore_n 2, 1), (2, .iload_n 2, 1), (3, .aload_n 0, 1), (4, .getfield 26, 3), (7, .iload_n 1, 1), (8, .iaload, 1), (9, .if_icmp .ge 60, 3), (12, .iload_n 2, 1), (13, .bipush 64, 2), (15, .if_icmp .ge 54, 3), (18, .aload_n 0, 1), (19, .getfield 30, 3), (22, .iload_n 1, 1), (23, .bipush 64, 2), (25, .imul, 1), (26, .iload_n 2, 1), (27, .iadd, 1), (28, .laload, 1), (29, .invokestatic 103, 3), (32, .istore_n 3, 1), (33, .iload_n 3, 1), (34, .ifCond .lt 29, 3), (37, .iload_n 3, 1), (38, .bipush 16, 2), (40, .if_icmp .ge 23, 3), (43, .aload_n 0, 1), (44, .getfield 42, 3), (47, .iload_n 3, 1), (48, .aload_n 0, 1), (49, .getfield 33, 3), (52, .iload_n 1, 1), (53, .bipush 64, 2), (55, .imul, 1), (56, .iload_n 2, 1), (57, .iadd, 1), (58, .laload, 1), (59, .invokestatic 103, 3), (62, .iastore, 1), (63, .iinc 2 1, 3), (66, .goto (-64), 3), (69, .return_, 1)] : List (Nat × Instr × Nat)), decode cX8_carryKinds t.1 = .ok (t.2.1, t.2.2) := by decide +kernel
noncomputable def f_X8_carryKinds_2 (b1 : Int32) : (OS × Int32) → Option ((OS × Int32) ⊕ (OS)) := fun z => match z with | (s_t, b2) => if inb b1 17 = true then (if (s_t.2.2.1 6 (b1 : Int32).toNatClampNeg) ≤ b2 then some (.inr s_t) else (if 64 ≤ b2 then some (.inr s_t) else if inb ((b1 * 64) + b2) 1088 = true then (f_X10_lowest (s_t.2.2.2 7 ((b1 * 64) + b2 : Int32).toNatClampNeg)).bind (fun x5 => (if x5 < 0 then bnd (b2 + 1 : Int32) (fun v9 => some (.inl ((s_t, v9)))) else (if 16 ≤ x5 then bnd (b2 + 1 : Int32) (fun v12 => some (.inl ((s_t, v12)))) else (f_X10_lowest (s_t.2.2.2 8 ((b1 * 64) + b2 : Int32).toNatClampNeg)).bind (fun x14 => if inb x5 16 = true then bnd (oA s_t 11 (upd (s_t.2.2.1 11) (x5 : Int32).toNatClampNeg x14)) (fun t18 => bnd (b2 + 1 : Int32) (fun v20 => some (.inl ((t18, v20))))) else none)))) else none)) else none
noncomputable def f_X8_carryKinds (st : OS) (a0 : Int32) : Option (OS) := (lpv (f_X8_carryKinds_2 a0) ((st, 0))).bind (fun x22 => some x22)
set_option maxHeartbeats 4000000 in
set_option maxRecDepth 100000 in
theorem w_X8_carryKinds_2 {p : Program} {l : Launch} {e : Env} {s : State} {m : MethodId} {args : Array Value} {below : List Frame} {meth : Method} {c : Code} {Q : State → Prop} {G : mG} {h : mM} {q : Nat → Nat} (hq : oinj LX8 q) (X : mX G p m c cX8_carryKinds 4 s args RX8) (b1 : Int32) : ∀ (z : OS × Int32) (r : OS), lpv (f_X8_carryKinds_2 b1) z = some r → ∀ (H : Heap) (locs : List Loc) (ls : Array Slot), mH G (oset LX8 G q z.1 h) s.heap H locs → lv_has ls 4 [(0, .ref (q 15)), (1, .int b1), (2, .int z.2)] → (∀ (H : Heap) (locs : List Loc) (ls : Array Slot), mH G (oset LX8 G q r h) s.heap H locs → lv_has ls 4 [] → W p l e rm_X8_carryKinds s m args below meth c H locs 0 0 Q (F0 m 69 ls [])) → W p l e rm_X8_carryKinds s m args below meth c H locs 0 0 Q (F0 m 2 ls []) := by
  refine lpv_rec ?_
  intro z r x hF hx H locs ls hH hl K0
  obtain ⟨s_t, b2⟩ := z
  dsimp only [f_X8_carryKinds_2] at hF
  try dsimp only at hH hl
  refine lv_iload_n X.x X.b (dk DX8_carryKinds_0 2 rfl) rfl (lv_at hl 2 rfl) ?_
  refine lv_aload_n X.x X.b (dk DX8_carryKinds_0 3 rfl) rfl (lv_at hl 0 rfl) ?_
  refine og_getR (t := 0) OX8 X hq hH 6 (by decide) rfl kF_X8_26 (dk DX8_carryKinds_0 4 rfl) ?_
  refine lv_iload_n X.x X.b (dk DX8_carryKinds_0 5 rfl) rfl (lv_at hl 1 rfl) ?_
  obtain ⟨c1, hF⟩ := gd hF
  refine og_iald X hq hH 6 (by decide) rfl (inb_in c1) (dk DX8_carryKinds_0 6 rfl) ?_
  refine lv_icmp_ge (tgt := 69) X.x X.b (dk DX8_carryKinds_0 7 rfl) (by decide) (fun c2 => ?_) (fun c2 => ?_)
  · replace hF := if_t hF c2
    have hr9 := lp_r hF hx
    subst hr9
    exact K0 _ _ _ hH (lv_sub hl [] rfl)
  · replace hF := if_f hF c2
    refine lv_iload_n X.x X.b (dk DX8_carryKinds_0 8 rfl) rfl (lv_at hl 2 rfl) ?_
    refine lv_bipush (v := 64) X.x X.b (dk DX8_carryKinds_0 9 rfl) (by decide) ?_
    refine lv_icmp_ge (tgt := 69) X.x X.b (dk DX8_carryKinds_0 10 rfl) (by decide) (fun c3 => ?_) (fun c3 => ?_)
    · replace hF := if_t hF c3
      have hr9 := lp_r hF hx
      subst hr9
      exact K0 _ _ _ hH (lv_sub hl [] rfl)
    · replace hF := if_f hF c3
      refine lv_aload_n X.x X.b (dk DX8_carryKinds_0 11 rfl) rfl (lv_at hl 0 rfl) ?_
      refine og_getR (t := 1) OX8 X hq hH 7 (by decide) rfl kF_X8_30 (dk DX8_carryKinds_0 12 rfl) ?_
      refine lv_iload_n X.x X.b (dk DX8_carryKinds_0 13 rfl) rfl (lv_at hl 1 rfl) ?_
      refine lv_bipush (v := 64) X.x X.b (dk DX8_carryKinds_0 14 rfl) (by decide) ?_
      refine lv_imul X.x X.b (dk DX8_carryKinds_0 15 rfl) ?_
      refine lv_iload_n X.x X.b (dk DX8_carryKinds_0 16 rfl) rfl (lv_at hl 2 rfl) ?_
      refine lv_iadd X.x X.b (dk DX8_carryKinds_0 17 rfl) ?_
      obtain ⟨c4, hF⟩ := gd hF
      refine og_lald X hq hH 7 (by decide) rfl (inb_in c4) (dk DX8_carryKinds_0 18 rfl) ?_
      obtain ⟨x5, e6, hF⟩ := bd hF
      refine mr_ci0 hH ⟨rfl, rfl⟩ (mr_runS (As := [.long (s_t.2.2.2 7 ((b1 * 64) + b2 : Int32).toNatClampNeg)]) (rest := []) X hH (c_X10_lowest e6) kM_X8_103 kT_X10_lowest kN_X10 kC_X10_lowest hd_X10_lowest ⟨Nat.le_of_ble_eq_true rfl, Nat.le_of_ble_eq_true rfl⟩ rfl hl.1 (Nat.le_of_ble_eq_true rfl) (dk DX8_carryKinds_0 19 rfl) ⟨Nat.zero_le _, Nat.zero_le _⟩) (fun r h1 H locs hp hH => ?_)
      obtain ⟨hr1, hr2⟩ := hp; rw [hr1]; rw [hr2] at hH; clear hr1 hr2
      refine lv_istore_n (lv' := [(3, .int x5), (0, .ref (q 15)), (1, .int b1), (2, .int b2)]) X.x X.b (dk DX8_carryKinds_0 20 rfl) rfl hl (by decide) rfl (fun ls hl => ?_)
      replace hl : lv_has ls 4 [(0, .ref (q 15)), (1, .int b1), (2, .int b2), (3, .int x5)] := lv_sub hl [1, 2, 3, 0] rfl
      refine lv_iload_n X.x X.b (dk DX8_carryKinds_0 21 rfl) rfl (lv_at hl 3 rfl) ?_
      refine lv_if_lt (tgt := 63) X.x X.b (dk DX8_carryKinds_0 22 rfl) (by decide) (fun c8 => ?_) (fun c8 => ?_)
      · replace hF := if_t hF c8
        obtain ⟨v9, e10⟩ : ∃ y : Int32, y = b2 + 1 := ⟨_, rfl⟩
        replace hF := bnd_e hF e10
        refine lv_iinc (v := v9) (lv' := [(2, .int v9), (0, .ref (q 15)), (1, .int b1), (3, .int x5)]) X.x X.b (dk DX8_carryKinds_0 39 rfl) hl (k := 2) rfl (by rw [e10]; rfl) (by decide) rfl (fun ls hl => ?_)
        replace hl : lv_has ls 4 [(0, .ref (q 15)), (1, .int b1), (2, .int v9)] := lv_sub hl [1, 2, 0] rfl
        refine lv_goto (tgt := 2) X.x X.b (dk DX8_carryKinds_0 40 rfl) (by decide) ?_
        exact (lp_l hF hx) _ _ _ hH (lv_sub hl [0, 1, 2] rfl) K0
      · replace hF := if_f hF c8
        refine lv_iload_n X.x X.b (dk DX8_carryKinds_0 23 rfl) rfl (lv_at hl 3 rfl) ?_
        refine lv_bipush (v := 16) X.x X.b (dk DX8_carryKinds_0 24 rfl) (by decide) ?_
        refine lv_icmp_ge (tgt := 63) X.x X.b (dk DX8_carryKinds_0 25 rfl) (by decide) (fun c11 => ?_) (fun c11 => ?_)
        · replace hF := if_t hF c11
          obtain ⟨v12, e13⟩ : ∃ y : Int32, y = b2 + 1 := ⟨_, rfl⟩
          replace hF := bnd_e hF e13
          refine lv_iinc (v := v12) (lv' := [(2, .int v12), (0, .ref (q 15)), (1, .int b1), (3, .int x5)]) X.x X.b (dk DX8_carryKinds_0 39 rfl) hl (k := 2) rfl (by rw [e13]; rfl) (by decide) rfl (fun ls hl => ?_)
          replace hl : lv_has ls 4 [(0, .ref (q 15)), (1, .int b1), (2, .int v12)] := lv_sub hl [1, 2, 0] rfl
          refine lv_goto (tgt := 2) X.x X.b (dk DX8_carryKinds_0 40 rfl) (by decide) ?_
          exact (lp_l hF hx) _ _ _ hH (lv_sub hl [0, 1, 2] rfl) K0
        · replace hF := if_f hF c11
          refine lv_aload_n X.x X.b (dk DX8_carryKinds_0 26 rfl) rfl (lv_at hl 0 rfl) ?_
          refine og_getR (t := 0) OX8 X hq hH 11 (by decide) rfl kF_X8_42 (dk DX8_carryKinds_0 27 rfl) ?_
          refine lv_iload_n X.x X.b (dk DX8_carryKinds_0 28 rfl) rfl (lv_at hl 3 rfl) ?_
          refine lv_aload_n X.x X.b (dk DX8_carryKinds_0 29 rfl) rfl (lv_at hl 0 rfl) ?_
          refine og_getR (t := 1) OX8 X hq hH 8 (by decide) rfl kF_X8_33 (dk DX8_carryKinds_0 30 rfl) ?_
          refine lv_iload_n X.x X.b (dk DX8_carryKinds_0 31 rfl) rfl (lv_at hl 1 rfl) ?_
          refine lv_bipush (v := 64) X.x X.b (dk DX8_carryKinds_0 32 rfl) (by decide) ?_
          refine lv_imul X.x X.b (dk DX8_carryKinds_0 33 rfl) ?_
          refine lv_iload_n X.x X.b (dk DX8_carryKinds_0 34 rfl) rfl (lv_at hl 2 rfl) ?_
          refine lv_iadd X.x X.b (dk DX8_carryKinds_0 35 rfl) ?_
          refine og_lald X hq hH 8 (by decide) rfl (inb_in c4) (dk DX8_carryKinds_0 36 rfl) ?_
          obtain ⟨x14, e15, hF⟩ := bd hF
          refine mr_ci0 hH ⟨rfl, rfl⟩ (mr_runS (As := [.long (s_t.2.2.2 8 ((b1 * 64) + b2 : Int32).toNatClampNeg)]) (rest := [.int x5, .ref (q 11)]) X hH (c_X10_lowest e15) kM_X8_103 kT_X10_lowest kN_X10 kC_X10_lowest hd_X10_lowest ⟨Nat.le_of_ble_eq_true rfl, Nat.le_of_ble_eq_true rfl⟩ rfl hl.1 (Nat.le_of_ble_eq_true rfl) (dk DX8_carryKinds_0 37 rfl) ⟨Nat.zero_le _, Nat.zero_le _⟩) (fun r h1 H locs hp hH => ?_)
          obtain ⟨hr1, hr2⟩ := hp; rw [hr1]; rw [hr2] at hH; clear hr1 hr2
          obtain ⟨c17, hF⟩ := gd hF
          refine og_iast X hq hH 11 (by decide) rfl (inb_in c17) (dk DX8_carryKinds_0 38 rfl) (fun H locs hH => ?_)
          obtain ⟨t18, e19⟩ : ∃ y, y = oA s_t 11 (upd (s_t.2.2.1 11) (x5 : Int32).toNatClampNeg x14) := ⟨_, rfl⟩
          rw [← e19] at hH
          replace hF := bnd_e hF e19
          obtain ⟨v20, e21⟩ : ∃ y : Int32, y = b2 + 1 := ⟨_, rfl⟩
          replace hF := bnd_e hF e21
          refine lv_iinc (v := v20) (lv' := [(2, .int v20), (0, .ref (q 15)), (1, .int b1), (3, .int x5)]) X.x X.b (dk DX8_carryKinds_0 39 rfl) hl (k := 2) rfl (by rw [e21]; rfl) (by decide) rfl (fun ls hl => ?_)
          replace hl : lv_has ls 4 [(0, .ref (q 15)), (1, .int b1), (2, .int v20)] := lv_sub hl [1, 2, 0] rfl
          refine lv_goto (tgt := 2) X.x X.b (dk DX8_carryKinds_0 40 rfl) (by decide) ?_
          exact (lp_l hF hx) _ _ _ hH (lv_sub hl [0, 1, 2] rfl) K0
set_option maxHeartbeats 4000000 in
set_option maxRecDepth 100000 in
theorem c_X8_carryKinds {l : Launch} {G : mG} {h : mM} {q : Nat → Nat} (hq : oinj LX8 q) {st : OS} {a0 : Int32} {x : OS} (hF : f_X8_carryKinds st a0 = some x) : cQ l G yX8_carryKinds cX8_carryKinds 4 none rm_X8_carryKinds [.ref (q 15), .int a0] (oset LX8 G q st h) (mQv G (fun h1 => h1 = oset LX8 G q x h)) := by
  refine mp_of (by decide +kernel) (Nat.le_of_ble_eq_true rfl) ?_
  intro p e s m below meth c X hr hlk hH hname ls hl
  dsimp only [f_X8_carryKinds] at hF
  replace hl : lv_has ls 4 [(0, .ref (q 15)), (1, .int a0)] := hl
  refine lv_iconst (v := 0) X.x X.b (dk DX8_carryKinds_0 0 rfl) (by decide) ?_
  refine lv_istore_n (lv' := [(2, .int 0), (0, .ref (q 15)), (1, .int a0)]) X.x X.b (dk DX8_carryKinds_0 1 rfl) rfl hl (by decide) rfl (fun ls hl => ?_)
  replace hl : lv_has ls 4 [(0, .ref (q 15)), (1, .int a0), (2, .int 0)] := lv_sub hl [1, 2, 0] rfl
  obtain ⟨x22, e23, hF⟩ := bd hF
  replace hl : lv_has ls 4 [(0, .ref (q 15)), (1, .int a0), (2, .int 0)] := lv_sub hl [0, 1, 2] rfl
  refine w_X8_carryKinds_2 hq X a0 _ _ e23 _ _ _ hH hl (fun H locs ls hH hl => ?_)
  cases sm hF
  exact mr_vret X hr hlk hH rfl (dk DX8_carryKinds_0 41 rfl)
