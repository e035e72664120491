-- X12_canTurn
abbrev rm_X12_canTurn : Room := { frames := 45, cells := 0, slots := 0, locals := 999 }
theorem hd_X12_canTurn : mHd yX12_canTurn 3 := ⟨by decide +kernel, by decide +kernel, by decide +kernel⟩
theorem DX12_canTurn_0 : ∀ t ∈ ([(0, .iconst 0, 1), (1, .istore 4, 2), (3, .iload 4, 2), (5, .bipush 16, 2), (7, .if_icmp .ge 17, 3), (10, .aload_n 0, 1), (11, .getfield 63, 3), (14, .iload 4, 2), (16, .iconst (-1), 1), (17, .iastore, 1), (18, .iinc 4 1, 3), (21, .goto (-18), 3), (24, .aload_n 0, 1), (25, .lconst 0, 1), (26, .putfield 375, 3), (29, .iconst 1, 1), (30, .istore 4, 2), (32, .iconst 0, 1), (33, .istore 5, 2), (35, .iload 5, 2), (37, .iload_n 1, 1), (38, .if_icmp .ge 24, 3), (41, .iload 4, 2), (43, .ifCond .eq 19, 3), (46, .aload_n 0, 1), (47, .iload 5, 2), (49, .iload 5, 2), (51, .invokevirtual 394, 3), (54, .istore 4, 2), (56, .iinc 5 1, 3), (59, .goto (-24), 3), (62, .iload 4, 2), (64, .ifCond .eq 23, 3), (67, .aload_n 0, 1), (68, .getfield 375, 3), (71, .iload_n 3, 1), (72, .invokestatic 232, 3), (75, .ifCond .ne 12, 3), (78, .aload_n 0, 1), (79, .iload_n 2, 1), (80, .iload_n 3, 1), (81, .invokevirtual 394, 3), (84, .ifCond .ne 5, 3), (87, .iconst 0, 1), (88, .ireturn, 1), (89, .aload_n 0, 1), (90, .iconst 0, 1), (91, .invokevirtual 391, 3), (94, .ireturn, 1)] : List (Nat × Instr × Nat)), decode cX12_canTurn t.1 = .ok (t.2.1, t.2.2) := by decide +kernel
noncomputable def f_X12_canTurn_3 (b1 : Int32) (b2 : Int32) (b3 : Int32) : (OS × Int32) → Option ((OS × Int32) ⊕ (OS)) := fun z => match z with | (s_t, b4) => (if 16 ≤ b4 then some (.inr s_t) else if inb b4 16 = true then bnd (oA s_t 36 (upd (s_t.2.2.1 36) (b4 : Int32).toNatClampNeg ((-1)))) (fun t3 => bnd (b4 + 1 : Int32) (fun v5 => some (.inl ((t3, v5))))) else none)
noncomputable def f_X12_canTurn_35 (b1 : Int32) (b2 : Int32) (b3 : Int32) : (OS × Int32 × Int32) → Option ((OS × Int32 × Int32) ⊕ (OS × Int32)) := fun z => match z with | (s_t, b4, b5) => (if b1 ≤ b5 then some (.inr ((s_t, b4))) else (if b4 = 0 then some (.inr ((s_t, b4))) else (f_X12_goes s_t b5 b5).bind (fun x14 => match x14 with | (v16, t17) => bnd (b5 + 1 : Int32) (fun v18 => some (.inl ((t17, v16, v18)))))))
noncomputable def f_X12_canTurn (st : OS) (a0 : Int32) (a1 : Int32) (a2 : Int32) : Option (Int32 × OS) := (lpv (f_X12_canTurn_3 a0 a1 a2) ((st, 0))).bind (fun x7 => bnd (oJ x7 37 0) (fun t10 => (lpv (f_X12_canTurn_35 a0 a1 a2) ((t10, 1, 0))).bind (fun x20 => match x20 with | (t22, v23) => (if v23 = 0 then some ((0, t22)) else (f_X12_has (t22.2.1 37) a2).bind (fun x25 => (if x25 = 0 then (f_X12_goes t22 a1 a2).bind (fun x29 => match x29 with | (v31, t32) => (if v31 = 0 then some ((0, t32)) else (f_X12_canGo 40 t32 0).bind (fun x34 => match x34 with | (v36, t37) => if isb v36 = true then some ((v36, t37)) else none))) else some ((0, t22))))))))
set_option maxHeartbeats 4000000 in
set_option maxRecDepth 100000 in
theorem w_X12_canTurn_3 {p : Program} {l : Launch} {e : Env} {s : State} {m : MethodId} {args : Array Value} {below : List Frame} {meth : Method} {c : Code} {Q : State → Prop} {G : mG} {h : mM} {q : Nat → Nat} (hq : oinj LX12 q) (X : mX G p m c cX12_canTurn 6 s args RX12) (b1 : Int32) (b2 : Int32) (b3 : Int32) : ∀ (z : OS × Int32) (r : OS), lpv (f_X12_canTurn_3 b1 b2 b3) z = some r → ∀ (H : Heap) (locs : List Loc) (ls : Array Slot), mH G (oset LX12 G q z.1 h) s.heap H locs → lv_has ls 6 [(0, .ref (q 53)), (1, .int b1), (2, .int b2), (3, .int b3), (4, .int z.2)] → (∀ (H : Heap) (locs : List Loc) (ls : Array Slot), mH G (oset LX12 G q r h) s.heap H locs → lv_has ls 6 [(0, .ref (q 53)), (1, .int b1), (2, .int b2), (3, .int b3)] → W p l e rm_X12_canTurn s m args below meth c H locs 0 0 Q (F0 m 24 ls [])) → W p l e rm_X12_canTurn s m args below meth c H locs 0 0 Q (F0 m 3 ls []) := by
  refine lpv_rec ?_
  intro z r x hF hx H locs ls hH hl K0
  obtain ⟨s_t, b4⟩ := z
  dsimp only [f_X12_canTurn_3] at hF
  try dsimp only at hH hl
  refine lv_iload X.x X.b (dk DX12_canTurn_0 2 rfl) (lv_at hl 4 rfl) ?_
  refine lv_bipush (v := 16) X.x X.b (dk DX12_canTurn_0 3 rfl) (by decide) ?_
  refine lv_icmp_ge (tgt := 24) X.x X.b (dk DX12_canTurn_0 4 rfl) (by decide) (fun c1 => ?_) (fun c1 => ?_)
  · replace hF := if_t hF c1
    have hr9 := lp_r hF hx
    subst hr9
    exact K0 _ _ _ hH (lv_sub hl [0, 1, 2, 3] rfl)
  · replace hF := if_f hF c1
    refine lv_aload_n X.x X.b (dk DX12_canTurn_0 5 rfl) rfl (lv_at hl 0 rfl) ?_
    refine og_getR (t := 0) OX12 X hq hH 36 (by decide) rfl kF_X12_63 (dk DX12_canTurn_0 6 rfl) ?_
    refine lv_iload X.x X.b (dk DX12_canTurn_0 7 rfl) (lv_at hl 4 rfl) ?_
    refine lv_iconst (v := (-1)) X.x X.b (dk DX12_canTurn_0 8 rfl) (by decide) ?_
    obtain ⟨c2, hF⟩ := gd hF
    refine og_iast X hq hH 36 (by decide) rfl (inb_in c2) (dk DX12_canTurn_0 9 rfl) (fun H locs hH => ?_)
    obtain ⟨t3, e4⟩ : ∃ y, y = oA s_t 36 (upd (s_t.2.2.1 36) (b4 : Int32).toNatClampNeg ((-1))) := ⟨_, rfl⟩
    rw [← e4] at hH
    replace hF := bnd_e hF e4
    obtain ⟨v5, e6⟩ : ∃ y : Int32, y = b4 + 1 := ⟨_, rfl⟩
    replace hF := bnd_e hF e6
    refine lv_iinc (v := v5) (lv' := [(4, .int v5), (0, .ref (q 53)), (1, .int b1), (2, .int b2), (3, .int b3)]) X.x X.b (dk DX12_canTurn_0 10 rfl) hl (k := 4) rfl (by rw [e6]; rfl) (by decide) rfl (fun ls hl => ?_)
    replace hl : lv_has ls 6 [(0, .ref (q 53)), (1, .int b1), (2, .int b2), (3, .int b3), (4, .int v5)] := lv_sub hl [1, 2, 3, 4, 0] rfl
    refine lv_goto (tgt := 3) X.x X.b (dk DX12_canTurn_0 11 rfl) (by decide) ?_
    exact (lp_l hF hx) _ _ _ hH (lv_sub hl [0, 1, 2, 3, 4] rfl) K0
set_option maxHeartbeats 4000000 in
set_option maxRecDepth 100000 in
theorem w_X12_canTurn_35 {p : Program} {l : Launch} {e : Env} {s : State} {m : MethodId} {args : Array Value} {below : List Frame} {meth : Method} {c : Code} {Q : State → Prop} {G : mG} {h : mM} {q : Nat → Nat} (hq : oinj LX12 q) (X : mX G p m c cX12_canTurn 6 s args RX12) (b1 : Int32) (b2 : Int32) (b3 : Int32) : ∀ (z : OS × Int32 × Int32) (r : OS × Int32), lpv (f_X12_canTurn_35 b1 b2 b3) z = some r → ∀ (H : Heap) (locs : List Loc) (ls : Array Slot), mH G (oset LX12 G q z.1 h) s.heap H locs → lv_has ls 6 [(0, .ref (q 53)), (1, .int b1), (2, .int b2), (3, .int b3), (4, .int z.2.1), (5, .int z.2.2)] → (∀ (H : Heap) (locs : List Loc) (ls : Array Slot), mH G (oset LX12 G q r.1 h) s.heap H locs → lv_has ls 6 [(0, .ref (q 53)), (2, .int b2), (3, .int b3), (4, .int r.2)] → W p l e rm_X12_canTurn s m args below meth c H locs 0 0 Q (F0 m 62 ls [])) → W p l e rm_X12_canTurn s m args below meth c H locs 0 0 Q (F0 m 35 ls []) := by
  refine lpv_rec ?_
  intro z r x hF hx H locs ls hH hl K0
  obtain ⟨s_t, b4, b5⟩ := z
  dsimp only [f_X12_canTurn_35] at hF
  try dsimp only at hH hl
  refine lv_iload X.x X.b (dk DX12_canTurn_0 19 rfl) (lv_at hl 5 rfl) ?_
  refine lv_iload_n X.x X.b (dk DX12_canTurn_0 20 rfl) rfl (lv_at hl 1 rfl) ?_
  refine lv_icmp_ge (tgt := 62) X.x X.b (dk DX12_canTurn_0 21 rfl) (by decide) (fun c12 => ?_) (fun c12 => ?_)
  · replace hF := if_t hF c12
    have hr9 := lp_r hF hx
    subst hr9
    exact K0 _ _ _ hH (lv_sub hl [0, 2, 3, 4] rfl)
  · replace hF := if_f hF c12
    refine lv_iload X.x X.b (dk DX12_canTurn_0 22 rfl) (lv_at hl 4 rfl) ?_
    refine lv_if_eq (tgt := 62) X.x X.b (dk DX12_canTurn_0 23 rfl) (by decide) (fun c13 => ?_) (fun c13 => ?_)
    · replace hF := if_t hF c13
      have hr9 := lp_r hF hx
      subst hr9
      exact K0 _ _ _ hH (lv_sub hl [0, 2, 3, 4] rfl)
    · replace hF := if_f hF c13
      refine lv_aload_n X.x X.b (dk DX12_canTurn_0 24 rfl) rfl (lv_at hl 0 rfl) ?_
      refine lv_iload X.x X.b (dk DX12_canTurn_0 25 rfl) (lv_at hl 5 rfl) ?_
      refine lv_iload X.x X.b (dk DX12_canTurn_0 26 rfl) (lv_at hl 5 rfl) ?_
      obtain ⟨x14, e15, hF⟩ := bd hF
      refine mr_ci0 hH ⟨rfl, rfl⟩ (mr_runV (As := [.int b5, .int b5]) (rest := []) X hH (c_X12_goes hq e15) ((oset_at hq (Nat.le_refl _) ohas_N).trans (congrArg some ocell_N)) OX12.1 kM_X12_394 kI_X12_goes kS_X12_goes kN_X12 kC_X12_goes hd_X12_goes ⟨Nat.le_of_ble_eq_true rfl, Nat.le_of_ble_eq_true rfl⟩ rfl hl.1 (Nat.le_of_ble_eq_true rfl) (dk DX12_canTurn_0 27 rfl) ⟨Nat.zero_le _, Nat.zero_le _⟩) (fun r h1 H locs hp hH => ?_)
      obtain ⟨hr1, hr2⟩ := hp; rw [hr1]; rw [hr2] at hH; clear hr1 hr2
      obtain ⟨v16, t17⟩ := x14
      try dsimp only at hF hH ⊢
      refine lv_istore (lv' := [(4, .int v16), (0, .ref (q 53)), (1, .int b1), (2, .int b2), (3, .int b3), (5, .int b5)]) X.x X.b (dk DX12_canTurn_0 28 rfl) hl (by decide) rfl (fun ls hl => ?_)
      replace hl : lv_has ls 6 [(0, .ref (q 53)), (1, .int b1), (2, .int b2), (3, .int b3), (4, .int v16), (5, .int b5)] := lv_sub hl [1, 2, 3, 4, 0, 5] rfl
      obtain ⟨v18, e19⟩ : ∃ y : Int32, y = b5 + 1 := ⟨_, rfl⟩
      replace hF := bnd_e hF e19
      refine lv_iinc (v := v18) (lv' := [(5, .int v18), (0, .ref (q 53)), (1, .int b1), (2, .int b2), (3, .int b3), (4, .int v16)]) X.x X.b (dk DX12_canTurn_0 29 rfl) hl (k := 5) rfl (by rw [e19]; rfl) (by decide) rfl (fun ls hl => ?_)
      replace hl : lv_has ls 6 [(0, .ref (q 53)), (1, .int b1), (2, .int b2), (3, .int b3), (4, .int v16), (5, .int v18)] := lv_sub hl [1, 2, 3, 4, 5, 0] rfl
      refine lv_goto (tgt := 35) X.x X.b (dk DX12_canTurn_0 30 rfl) (by decide) ?_
      exact (lp_l hF hx) _ _ _ hH (lv_sub hl [0, 1, 2, 3, 4, 5] rfl) K0
set_option maxHeartbeats 4000000 in
set_option maxRecDepth 100000 in
theorem c_X12_canTurn {l : Launch} {G : mG} {h : mM} {q : Nat → Nat} (hq : oinj LX12 q) {st : OS} {a0 : Int32} {a1 : Int32} {a2 : Int32} {x : Int32 × OS} (hF : f_X12_canTurn st a0 a1 a2 = some x) : cQ l G yX12_canTurn cX12_canTurn 6 (some FieldType.boolean) rm_X12_canTurn [.ref (q 53), .int a0, .int a1, .int a2] (oset LX12 G q st h) (mQi G (fun r h1 => r = x.1 ∧ h1 = oset LX12 G q x.2 h)) := by
  refine mp_of (by decide +kernel) (Nat.le_of_ble_eq_true rfl) ?_
  intro p e s m below meth c X hr hlk hH hname ls hl
  dsimp only [f_X12_canTurn] at hF
  replace hl : lv_has ls 6 [(0, .ref (q 53)), (1, .int a0), (2, .int a1), (3, .int a2)] := hl
  refine lv_iconst (v := 0) X.x X.b (dk DX12_canTurn_0 0 rfl) (by decide) ?_
  refine lv_istore (lv' := [(4, .int 0), (0, .ref (q 53)), (1, .int a0), (2, .int a1), (3, .int a2)]) X.x X.b (dk DX12_canTurn_0 1 rfl) hl (by decide) rfl (fun ls hl => ?_)
  replace hl : lv_has ls 6 [(0, .ref (q 53)), (1, .int a0), (2, .int a1), (3, .int a2), (4, .int 0)] := lv_sub hl [1, 2, 3, 4, 0] rfl
  obtain ⟨x7, e8, hF⟩ := bd hF
  replace hl : lv_has ls 6 [(0, .ref (q 53)), (1, .int a0), (2, .int a1), (3, .int a2), (4, .int 0)] := lv_sub hl [0, 1, 2, 3, 4] rfl
  refine w_X12_canTurn_3 hq X a0 a1 a2 _ _ e8 _ _ _ hH hl (fun H locs ls hH hl => ?_)
  refine lv_aload_n X.x X.b (dk DX12_canTurn_0 12 rfl) rfl (lv_at hl 0 rfl) ?_
  refine lv_lconst (v := 0) X.x X.b (dk DX12_canTurn_0 13 rfl) (by decide) ?_
  refine og_putJ OX12 X hq hH 37 (by decide) rfl kF_X12_375 rfl rfl rfl (dk DX12_canTurn_0 14 rfl) (fun H locs hH => ?_)
  obtain ⟨t10, e11⟩ : ∃ y, y = oJ x7 37 0 := ⟨_, rfl⟩
  rw [← e11] at hH
  replace hF := bnd_e hF e11
  refine lv_iconst (v := 1) X.x X.b (dk DX12_canTurn_0 15 rfl) (by decide) ?_
  refine lv_istore (lv' := [(4, .int 1), (0, .ref (q 53)), (1, .int a0), (2, .int a1), (3, .int a2)]) X.x X.b (dk DX12_canTurn_0 16 rfl) hl (by decide) rfl (fun ls hl => ?_)
  replace hl : lv_has ls 6 [(0, .ref (q 53)), (1, .int a0), (2, .int a1), (3, .int a2), (4, .int 1)] := lv_sub hl [1, 2, 3, 4, 0] rfl
  refine lv_iconst (v := 0) X.x X.b (dk DX12_canTurn_0 17 rfl) (by decide) ?_
  refine lv_istore (lv' := [(5, .int 0), (0, .ref (q 53)), (1, .int a0), (2, .int a1), (3, .int a2), (4, .int 1)]) X.x X.b (dk DX12_canTurn_0 18 rfl) hl (by decide) rfl (fun ls hl => ?_)
  replace hl : lv_has ls 6 [(0, .ref (q 53)), (1, .int a0), (2, .int a1), (3, .int a2), (4, .int 1), (5, .int 0)] := lv_sub hl [1, 2, 3, 4, 5, 0] rfl
  obtain ⟨x20, e21, hF⟩ := bd hF
  replace hl : lv_has ls 6 [(0, .ref (q 53)), (1, .int a0), (2, .int a1), (3, .int a2), (4, .int 1), (5, .int 0)] := lv_sub hl [0, 1, 2, 3, 4, 5] rfl
  obtain ⟨t22, v23⟩ := x20
  try dsimp only at hF
  refine w_X12_canTurn_35 hq X a0 a1 a2 _ _ e21 _ _ _ hH hl (fun H locs ls hH hl => ?_)
  try dsimp only at hH hl
  refine lv_iload X.x X.b (dk DX12_canTurn_0 31 rfl) (lv_at hl 3 rfl) ?_
  refine lv_if_eq (tgt := 87) X.x X.b (dk DX12_canTurn_0 32 rfl) (by decide) (fun c24 => ?_) (fun c24 => ?_)
  · replace hF := if_t hF c24
    refine lv_iconst (v := 0) X.x X.b (dk DX12_canTurn_0 43 rfl) (by decide) ?_
    cases sm hF
    exact mr_zret X hr hlk hH rfl ⟨rfl, rfl⟩ (dk DX12_canTurn_0 44 rfl)
  · replace hF := if_f hF c24
    refine lv_aload_n X.x X.b (dk DX12_canTurn_0 33 rfl) rfl (lv_at hl 0 rfl) ?_
    refine og_getJ OX12 X hq hH 37 (by decide) rfl kF_X12_375 (dk DX12_canTurn_0 34 rfl) ?_
    refine lv_iload_n X.x X.b (dk DX12_canTurn_0 35 rfl) rfl (lv_at hl 2 rfl) ?_
    obtain ⟨x25, e26, hF⟩ := bd hF
    refine mr_ci0 hH ⟨rfl, rfl⟩ (mr_runS (As := [.long (t22.2.1 37), .int a2]) (rest := []) X hH (c_X12_has e26) kM_X12_232 kT_X12_has kN_X12 kC_X12_has hd_X12_has ⟨Nat.le_of_ble_eq_true rfl, Nat.le_of_ble_eq_true rfl⟩ rfl hl.1 (Nat.le_of_ble_eq_true rfl) (dk DX12_canTurn_0 36 rfl) ⟨Nat.zero_le _, Nat.zero_le _⟩) (fun r h1 H locs hp hH => ?_)
    obtain ⟨hr1, hr2⟩ := hp; rw [hr1]; rw [hr2] at hH; clear hr1 hr2
    refine lv_if_ne (tgt := 87) X.x X.b (dk DX12_canTurn_0 37 rfl) (by decide) (fun c28 => ?_) (fun c28 => ?_)
    · replace hF := if_f hF c28
      refine lv_iconst (v := 0) X.x X.b (dk DX12_canTurn_0 43 rfl) (by decide) ?_
      cases sm hF
      exact mr_zret X hr hlk hH rfl ⟨rfl, rfl⟩ (dk DX12_canTurn_0 44 rfl)
    · replace hF := if_t hF c28
      refine lv_aload_n X.x X.b (dk DX12_canTurn_0 38 rfl) rfl (lv_at hl 0 rfl) ?_
      refine lv_iload_n X.x X.b (dk DX12_canTurn_0 39 rfl) rfl (lv_at hl 1 rfl) ?_
      refine lv_iload_n X.x X.b (dk DX12_canTurn_0 40 rfl) rfl (lv_at hl 2 rfl) ?_
      obtain ⟨x29, e30, hF⟩ := bd hF
      refine mr_ci0 hH ⟨rfl, rfl⟩ (mr_runV (As := [.int a1, .int a2]) (rest := []) X hH (c_X12_goes hq e30) ((oset_at hq (Nat.le_refl _) ohas_N).trans (congrArg some ocell_N)) OX12.1 kM_X12_394 kI_X12_goes kS_X12_goes kN_X12 kC_X12_goes hd_X12_goes ⟨Nat.le_of_ble_eq_true rfl, Nat.le_of_ble_eq_true rfl⟩ rfl hl.1 (Nat.le_of_ble_eq_true rfl) (dk DX12_canTurn_0 41 rfl) ⟨Nat.zero_le _, Nat.zero_le _⟩) (fun r h1 H locs hp hH => ?_)
      obtain ⟨hr1, hr2⟩ := hp; rw [hr1]; rw [hr2] at hH; clear hr1 hr2
      obtain ⟨v31, t32⟩ := x29
      try dsimp only at hF hH ⊢
      refine lv_if_ne (tgt := 89) X.x X.b (dk DX12_canTurn_0 42 rfl) (by decide) (fun c33 => ?_) (fun c33 => ?_)
      · replace hF := if_f hF c33
        refine lv_aload_n X.x X.b (dk DX12_canTurn_0 45 rfl) rfl (lv_at hl 0 rfl) ?_
        refine lv_iconst (v := 0) X.x X.b (dk DX12_canTurn_0 46 rfl) (by decide) ?_
        obtain ⟨x34, e35, hF⟩ := bd hF
        refine mr_ci0 hH ⟨rfl, rfl⟩ (mr_runV (As := [.int 0]) (rest := []) X hH (c_X12_canGo hq 40 t32 0 _ e35) ((oset_at hq (Nat.le_refl _) ohas_N).trans (congrArg some ocell_N)) OX12.1 kM_X12_391 kI_X12_canGo kS_X12_canGo kN_X12 kC_X12_canGo hd_X12_canGo ⟨Nat.le_of_ble_eq_true rfl, Nat.le_of_ble_eq_true rfl⟩ rfl hl.1 (Nat.le_of_ble_eq_true rfl) (dk DX12_canTurn_0 47 rfl) ⟨Nat.zero_le _, Nat.zero_le _⟩) (fun r h1 H locs hp hH => ?_)
        obtain ⟨hr1, hr2⟩ := hp; rw [hr1]; rw [hr2] at hH; clear hr1 hr2
        obtain ⟨v36, t37⟩ := x34
        try dsimp only at hF hH ⊢
        obtain ⟨c38, hF⟩ := gd hF
        cases sm hF
        exact mr_zret X hr hlk hH (isb_nar c38) ⟨rfl, rfl⟩ (dk DX12_canTurn_0 48 rfl)
      · replace hF := if_t hF c33
        refine lv_iconst (v := 0) X.x X.b (dk DX12_canTurn_0 43 rfl) (by decide) ?_
        cases sm hF
        exact mr_zret X hr hlk hH rfl ⟨rfl, rfl⟩ (dk DX12_canTurn_0 44 rfl)
-- X12_turnings
abbrev rm_X12_turnings : Room := { frames := 46, cells := 0, slots := 0, locals := 1024 }
theorem hd_X12_turnings : mHd yX12_turnings 0 := ⟨by decide +kernel, by decide +kernel, by decide +kernel⟩
theorem DX12_turnings_0 : ∀ t ∈ ([(0, .aload_n 0, 1), (1, .iconst 0, 1), (2, .putfield 106, 3), (5, .aload_n 0, 1), (6, .getfield 248, 3), (9, .bipush 16, 2), (11, .if_icmp .le 7, 3), (14, .ldc2_w 109, 3), (17, .lreturn, 1), (18, .aload_n 0, 1), (19, .invokevirtual 403, 3), (22, .lconst 1, 1), (23, .lstore_n 1, 1), (24, .iconst 0, 1), (25, .istore_n 3, 1), (26, .iload_n 3, 1), (27, .aload_n 0, 1), (28, .getfield 248, 3), (31, .if_icmp .ge 57, 3), (34, .iconst 0, 1), (35, .istore 4, 2), (37, .iload_n 3, 1), (38, .istore 5, 2), (40, .iload 5, 2), (42, .aload_n 0, 1), (43, .getfield 248, 3), (46, .if_icmp .ge 30, 3), (49, .iload 4, 2), (51, .aload_n 0, 1), (52, .iload_n 3, 1), (53, .iload_n 3, 1), (54, .iload 5, 2), (56, .invokevirtual 406, 3), (59, .ifCond .eq 7, 3), (62, .iconst 1, 1), (63, .goto 4, 3), (66, .iconst 0, 1), (67, .iadd, 1), (68, .istore 4, 2), (70, .iinc 5 1, 3), (73, .goto (-33), 3), (76, .lload_n 1, 1), (77, .iload 4, 2), (79, .i2l, 1), (80, .lmul, 1), (81, .lstore_n 1, 1), (82, .iinc 3 1, 3), (85, .goto (-59), 3), (88, .lload_n 1, 1), (89, .lreturn, 1)] : List (Nat × Instr × Nat)), decode cX12_turnings t.1 = .ok (t.2.1, t.2.2) := by decide +kernel
noncomputable def f_X12_turnings_40 (b1 : Int64) (b3 : Int32) : (OS × Int32 × Int32) → Option ((OS × Int32 × Int32) ⊕ (OS × Int32)) := fun z => match z with | (s_t, b4, b5) => (if (s_t.1 0) ≤ b5 then some (.inr ((s_t, b4))) else (f_X12_canTurn s_t b3 b3 b5).bind (fun x9 => match x9 with | (v11, t12) => (if v11 = 0 then bnd (b4 + 0 : Int32) (fun v14 => bnd (b5 + 1 : Int32) (fun v16 => some (.inl ((t12, v14, v16))))) else bnd (b4 + 1 : Int32) (fun v18 => bnd (b5 + 1 : Int32) (fun v20 => some (.inl ((t12, v18, v20))))))))
noncomputable def f_X12_turnings_26 : (OS × Int64 × Int32) → Option ((OS × Int64 × Int32) ⊕ (OS × Int64)) := fun z => match z with | (s_t, b1, b3) => (if (s_t.1 0) ≤ b3 then some (.inr ((s_t, b1))) else (lpv (f_X12_turnings_40 b1 b3) ((s_t, 0, b3))).bind (fun x22 => match x22 with | (t24, v25) => bnd (b1 * ((v25 : Int32).toInt64) : Int64) (fun v26 => bnd (b3 + 1 : Int32) (fun v28 => some (.inl ((t24, v26, v28)))))))
noncomputable def f_X12_turnings (st : OS) : Option (Int64 × OS) := bnd (oI st 2 0) (fun t1 => (if (t1.1 0) ≤ 16 then (f_X12_othersOwn t1).bind (fun x4 => (lpv (f_X12_turnings_26) ((x4, 1, 0))).bind (fun x30 => match x30 with | (t32, v33) => some ((v33, t32)))) else some (((-1), t1))))
set_option maxHeartbeats 4000000 in
set_option maxRecDepth 100000 in
theorem w_X12_turnings_40 {p : Program} {l : Launch} {e : Env} {s : State} {m : MethodId} {args : Array Value} {below : List Frame} {meth : Method} {c : Code} {Q : State → Prop} {G : mG} {h : mM} {q : Nat → Nat} (hq : oinj LX12 q) (X : mX G p m c cX12_turnings 6 s args RX12) (b1 : Int64) (b3 : Int32) : ∀ (z : OS × Int32 × Int32) (r : OS × Int32), lpv (f_X12_turnings_40 b1 b3) z = some r → ∀ (H : Heap) (locs : List Loc) (ls : Array Slot), mH G (oset LX12 G q z.1 h) s.heap H locs → lv_has ls 6 [(0, .ref (q 53)), (1, .long b1), (3, .int b3), (4, .int z.2.1), (5, .int z.2.2)] → (∀ (H : Heap) (locs : List Loc) (ls : Array Slot), mH G (oset LX12 G q r.1 h) s.heap H locs → lv_has ls 6 [(0, .ref (q 53)), (1, .long b1), (3, .int b3), (4, .int r.2)] → W p l e rm_X12_turnings s m args below meth c H locs 0 0 Q (F0 m 76 ls [])) → W p l e rm_X12_turnings s m args below meth c H locs 0 0 Q (F0 m 40 ls []) := by
  refine lpv_rec ?_
  intro z r x hF hx H locs ls hH hl K0
  obtain ⟨s_t, b4, b5⟩ := z
  dsimp only [f_X12_turnings_40] at hF
  try dsimp only at hH hl
  refine lv_iload X.x X.b (dk DX12_turnings_0 23 rfl) (lv_at hl 4 rfl) ?_
  refine lv_aload_n X.x X.b (dk DX12_turnings_0 24 rfl) rfl (lv_at hl 0 rfl) ?_
  refine og_getI OX12 X hq hH 0 (by decide) rfl kF_X12_248 (dk DX12_turnings_0 25 rfl) ?_
  refine lv_icmp_ge (tgt := 76) X.x X.b (dk DX12_turnings_0 26 rfl) (by decide) (fun c8 => ?_) (fun c8 => ?_)
  · replace hF := if_t hF c8
    have hr9 := lp_r hF hx
    subst hr9
    exact K0 _ _ _ hH (lv_sub hl [0, 1, 2, 3] rfl)
  · replace hF := if_f hF c8
    refine lv_iload X.x X.b (dk DX12_turnings_0 27 rfl) (lv_at hl 3 rfl) ?_
    refine lv_aload_n X.x X.b (dk DX12_turnings_0 28 rfl) rfl (lv_at hl 0 rfl) ?_
    refine lv_iload_n X.x X.b (dk DX12_turnings_0 29 rfl) rfl (lv_at hl 2 rfl) ?_
    refine lv_iload_n X.x X.b (dk DX12_turnings_0 30 rfl) rfl (lv_at hl 2 rfl) ?_
    refine lv_iload X.x X.b (dk DX12_turnings_0 31 rfl) (lv_at hl 4 rfl) ?_
    obtain ⟨x9, e10, hF⟩ := bd hF
    refine mr_ci0 hH ⟨rfl, rfl⟩ (mr_runV (As := [.int b3, .int b3, .int b5]) (rest := [.int b4]) X hH (c_X12_canTurn hq e10) ((oset_at hq (Nat.le_refl _) ohas_N).trans (congrArg some ocell_N)) OX12.1 kM_X12_406 kI_X12_canTurn kS_X12_canTurn kN_X12 kC_X12_canTurn hd_X12_canTurn ⟨Nat.le_of_ble_eq_true rfl, Nat.le_of_ble_eq_true rfl⟩ rfl hl.1 (Nat.le_of_ble_eq_true rfl) (dk DX12_turnings_0 32 rfl) ⟨Nat.zero_le _, Nat.zero_le _⟩) (fun r h1 H locs hp hH => ?_)
    obtain ⟨hr1, hr2⟩ := hp; rw [hr1]; rw [hr2] at hH; clear hr1 hr2
    obtain ⟨v11, t12⟩ := x9
    try dsimp only at hF hH ⊢
    refine lv_if_eq (tgt := 66) X.x X.b (dk DX12_turnings_0 33 rfl) (by decide) (fun c13 => ?_) (fun c13 => ?_)
    · replace hF := if_t hF c13
      refine lv_iconst (v := 0) X.x X.b (dk DX12_turnings_0 36 rfl) (by decide) ?_
      refine lv_iadd X.x X.b (dk DX12_turnings_0 37 rfl) ?_
      refine lv_topi (fun v14 e15 => ?_)
      replace hF := bnd_e hF e15
      refine lv_istore (lv' := [(4, .int v14), (0, .ref (q 53)), (1, .long b1), (3, .int b3), (5, .int b5)]) X.x X.b (dk DX12_turnings_0 38 rfl) hl (by decide) rfl (fun ls hl => ?_)
      replace hl : lv_has ls 6 [(0, .ref (q 53)), (1, .long b1), (3, .int b3), (4, .int v14), (5, .int b5)] := lv_sub hl [1, 2, 3, 0, 4] rfl
      obtain ⟨v16, e17⟩ : ∃ y : Int32, y = b5 + 1 := ⟨_, rfl⟩
      replace hF := bnd_e hF e17
      refine lv_iinc (v := v16) (lv' := [(5, .int v16), (0, .ref (q 53)), (1, .long b1), (3, .int b3), (4, .int v14)]) X.x X.b (dk DX12_turnings_0 39 rfl) hl (k := 4) rfl (by rw [e17]; rfl) (by decide) rfl (fun ls hl => ?_)
      replace hl : lv_has ls 6 [(0, .ref (q 53)), (1, .long b1), (3, .int b3), (4, .int v14), (5, .int v16)] := lv_sub hl [1, 2, 3, 4, 0] rfl
      refine lv_goto (tgt := 40) X.x X.b (dk DX12_turnings_0 40 rfl) (by decide) ?_
      exact (lp_l hF hx) _ _ _ hH (lv_sub hl [0, 1, 2, 3, 4] rfl) K0
    · replace hF := if_f hF c13
      refine lv_iconst (v := 1) X.x X.b (dk DX12_turnings_0 34 rfl) (by decide) ?_
      refine lv_goto (tgt := 67) X.x X.b (dk DX12_turnings_0 35 rfl) (by decide) ?_
      refine lv_iadd X.x X.b (dk DX12_turnings_0 37 rfl) ?_
      refine lv_topi (fun v18 e19 => ?_)
      replace hF := bnd_e hF e19
      refine lv_istore (lv' := [(4, .int v18), (0, .ref (q 53)), (1, .long b1), (3, .int b3), (5, .int b5)]) X.x X.b (dk DX12_turnings_0 38 rfl) hl (by decide) rfl (fun ls hl => ?_)
      replace hl : lv_has ls 6 [(0, .ref (q 53)), (1, .long b1), (3, .int b3), (4, .int v18), (5, .int b5)] := lv_sub hl [1, 2, 3, 0, 4] rfl
      obtain ⟨v20, e21⟩ : ∃ y : Int32, y = b5 + 1 := ⟨_, rfl⟩
      replace hF := bnd_e hF e21
      refine lv_iinc (v := v20) (lv' := [(5, .int v20), (0, .ref (q 53)), (1, .long b1), (3, .int b3), (4, .int v18)]) X.x X.b (dk DX12_turnings_0 39 rfl) hl (k := 4) rfl (by rw [e21]; rfl) (by decide) rfl (fun ls hl => ?_)
      replace hl : lv_has ls 6 [(0, .ref (q 53)), (1, .long b1), (3, .int b3), (4, .int v18), (5, .int v20)] := lv_sub hl [1, 2, 3, 4, 0] rfl
      refine lv_goto (tgt := 40) X.x X.b (dk DX12_turnings_0 40 rfl) (by decide) ?_
      exact (lp_l hF hx) _ _ _ hH (lv_sub hl [0, 1, 2, 3, 4] rfl) K0
set_option maxHeartbeats 4000000 in
set_option maxRecDepth 100000 in
theorem w_X12_turnings_26 {p : Program} {l : Launch} {e : Env} {s : State} {m : MethodId} {args : Array Value} {below : List Frame} {meth : Method} {c : Code} {Q : State → Prop} {G : mG} {h : mM} {q : Nat → Nat} (hq : oinj LX12 q) (X : mX G p m c cX12_turnings 6 s args RX12) : ∀ (z : OS × Int64 × Int32) (r : OS × Int64), lpv (f_X12_turnings_26) z = some r → ∀ (H : Heap) (locs : List Loc) (ls : Array Slot), mH G (oset LX12 G q z.1 h) s.heap H locs → lv_has ls 6 [(0, .ref (q 53)), (1, .long z.2.1), (3, .int z.2.2)] → (∀ (H : Heap) (locs : List Loc) (ls : Array Slot), mH G (oset LX12 G q r.1 h) s.heap H locs → lv_has ls 6 [(1, .long r.2)] → W p l e rm_X12_turnings s m args below meth c H locs 0 0 Q (F0 m 88 ls [])) → W p l e rm_X12_turnings s m args below meth c H locs 0 0 Q (F0 m 26 ls []) := by
  refine lpv_rec ?_
  intro z r x hF hx H locs ls hH hl K0
  obtain ⟨s_t, b1, b3⟩ := z
  dsimp only [f_X12_turnings_26] at hF
  try dsimp only at hH hl
  refine lv_iload_n X.x X.b (dk DX12_turnings_0 15 rfl) rfl (lv_at hl 2 rfl) ?_
  refine lv_aload_n X.x X.b (dk DX12_turnings_0 16 rfl) rfl (lv_at hl 0 rfl) ?_
  refine og_getI OX12 X hq hH 0 (by decide) rfl kF_X12_248 (dk DX12_turnings_0 17 rfl) ?_
  refine lv_icmp_ge (tgt := 88) X.x X.b (dk DX12_turnings_0 18 rfl) (by decide) (fun c7 => ?_) (fun c7 => ?_)
  · replace hF := if_t hF c7
    have hr9 := lp_r hF hx
    subst hr9
    exact K0 _ _ _ hH (lv_sub hl [1] rfl)
  · replace hF := if_f hF c7
    refine lv_iconst (v := 0) X.x X.b (dk DX12_turnings_0 19 rfl) (by decide) ?_
    refine lv_istore (lv' := [(4, .int 0), (0, .ref (q 53)), (1, .long b1), (3, .int b3)]) X.x X.b (dk DX12_turnings_0 20 rfl) hl (by decide) rfl (fun ls hl => ?_)
    replace hl : lv_has ls 6 [(0, .ref (q 53)), (1, .long b1), (3, .int b3), (4, .int 0)] := lv_sub hl [1, 2, 3, 0] rfl
    refine lv_iload_n X.x X.b (dk DX12_turnings_0 21 rfl) rfl (lv_at hl 2 rfl) ?_
    refine lv_istore (lv' := [(5, .int b3), (0, .ref (q 53)), (1, .long b1), (3, .int b3), (4, .int 0)]) X.x X.b (dk DX12_turnings_0 22 rfl) hl (by decide) rfl (fun ls hl => ?_)
    replace hl : lv_has ls 6 [(0, .ref (q 53)), (1, .long b1), (3, .int b3), (4, .int 0), (5, .int b3)] := lv_sub hl [1, 2, 3, 4, 0] rfl
    obtain ⟨x22, e23, hF⟩ := bd hF
    replace hl : lv_has ls 6 [(0, .ref (q 53)), (1, .long b1), (3, .int b3), (4, .int 0), (5, .int b3)] := lv_sub hl [0, 1, 2, 3, 4] rfl
    obtain ⟨t24, v25⟩ := x22
    try dsimp only at hF
    refine w_X12_turnings_40 hq X b1 b3 _ _ e23 _ _ _ hH hl (fun H locs ls hH hl => ?_)
    try dsimp only at hH hl
    refine lv_lload_n X.x X.b (dk DX12_turnings_0 41 rfl) rfl (lv_at hl 1 rfl) ?_
    refine lv_iload X.x X.b (dk DX12_turnings_0 42 rfl) (lv_at hl 3 rfl) ?_
    refine lv_i2l X.x X.b (dk DX12_turnings_0 43 rfl) rfl ?_
    refine lv_lmul X.x X.b (dk DX12_turnings_0 44 rfl) ?_
    refine lv_topl (fun v26 e27 => ?_)
    replace hF := bnd_e hF e27
    refine lv_lstore_n (lv' := [(1, .long v26), (0, .ref (q 53)), (3, .int b3), (4, .int v25)]) X.x X.b (dk DX12_turnings_0 45 rfl) rfl hl (by decide) rfl (fun ls hl => ?_)
    replace hl : lv_has ls 6 [(0, .ref (q 53)), (1, .long v26), (3, .int b3)] := lv_sub hl [1, 0, 2] rfl
    obtain ⟨v28, e29⟩ : ∃ y : Int32, y = b3 + 1 := ⟨_, rfl⟩
    replace hF := bnd_e hF e29
    refine lv_iinc (v := v28) (lv' := [(3, .int v28), (0, .ref (q 53)), (1, .long v26)]) X.x X.b (dk DX12_turnings_0 46 rfl) hl (k := 2) rfl (by rw [e29]; rfl) (by decide) rfl (fun ls hl => ?_)
    replace hl : lv_has ls 6 [(0, .ref (q 53)), (1, .long v26), (3, .int v28)] := lv_sub hl [1, 2, 0] rfl
    refine lv_goto (tgt := 26) X.x X.b (dk DX12_turnings_0 47 rfl) (by decide) ?_
    exact (lp_l hF hx) _ _ _ hH (lv_sub hl [0, 1, 2] rfl) K0
set_option maxHeartbeats 4000000 in
set_option maxRecDepth 100000 in
theorem c_X12_turnings {l : Launch} {G : mG} {h : mM} {q : Nat → Nat} (hq : oinj LX12 q) {st : OS} {x : Int64 × OS} (hF : f_X12_turnings st = some x) : cQ l G yX12_turnings cX12_turnings 6 (some FieldType.long) rm_X12_turnings [.ref (q 53)] (oset LX12 G q st h) (mQl G (fun r h1 => r = x.1 ∧ h1 = oset LX12 G q x.2 h)) := by
  refine mp_of (by decide +kernel) (Nat.le_of_ble_eq_true rfl) ?_
  intro p e s m below meth c X hr hlk hH hname ls hl
  dsimp only [f_X12_turnings] at hF
  replace hl : lv_has ls 6 [(0, .ref (q 53))] := hl
  refine lv_aload_n X.x X.b (dk DX12_turnings_0 0 rfl) rfl (lv_at hl 0 rfl) ?_
  refine lv_iconst (v := 0) X.x X.b (dk DX12_turnings_0 1 rfl) (by decide) ?_
  refine og_putI OX12 X hq hH 2 (by decide) rfl kF_X12_106 rfl rfl rfl (dk DX12_turnings_0 2 rfl) (fun H locs hH => ?_)
  obtain ⟨t1, e2⟩ : ∃ y, y = oI st 2 0 := ⟨_, rfl⟩
  rw [← e2] at hH
  replace hF := bnd_e hF e2
  refine lv_aload_n X.x X.b (dk DX12_turnings_0 3 rfl) rfl (lv_at hl 0 rfl) ?_
  refine og_getI OX12 X hq hH 0 (by decide) rfl kF_X12_248 (dk DX12_turnings_0 4 rfl) ?_
  refine lv_bipush (v := 16) X.x X.b (dk DX12_turnings_0 5 rfl) (by decide) ?_
  refine lv_icmp_le (tgt := 18) X.x X.b (dk DX12_turnings_0 6 rfl) (by decide) (fun c3 => ?_) (fun c3 => ?_)
  · replace hF := if_t hF c3
    refine lv_aload_n X.x X.b (dk DX12_turnings_0 9 rfl) rfl (lv_at hl 0 rfl) ?_
    obtain ⟨x4, e5, hF⟩ := bd hF
    refine mr_cv0 hH ⟨rfl, rfl⟩ (mr_runV (As := []) (rest := []) X hH (c_X12_othersOwn hq e5) ((oset_at hq (Nat.le_refl _) ohas_N).trans (congrArg some ocell_N)) OX12.1 kM_X12_403 kI_X12_othersOwn kS_X12_othersOwn kN_X12 kC_X12_othersOwn hd_X12_othersOwn ⟨Nat.le_of_ble_eq_true rfl, Nat.le_of_ble_eq_true rfl⟩ rfl hl.1 (Nat.le_of_ble_eq_true rfl) (dk DX12_turnings_0 10 rfl) ⟨Nat.zero_le _, Nat.zero_le _⟩) (fun h1 H locs hp hH => ?_)
    rw [hp] at hH; clear hp
    refine lv_lconst (v := 1) X.x X.b (dk DX12_turnings_0 11 rfl) (by decide) ?_
    refine lv_lstore_n (lv' := [(1, .long 1), (0, .ref (q 53))]) X.x X.b (dk DX12_turnings_0 12 rfl) rfl hl (by decide) rfl (fun ls hl => ?_)
    replace hl : lv_has ls 6 [(0, .ref (q 53)), (1, .long 1)] := lv_sub hl [1, 0] rfl
    refine lv_iconst (v := 0) X.x X.b (dk DX12_turnings_0 13 rfl) (by decide) ?_
    refine lv_istore_n (lv' := [(3, .int 0), (0, .ref (q 53)), (1, .long 1)]) X.x X.b (dk DX12_turnings_0 14 rfl) rfl hl (by decide) rfl (fun ls hl => ?_)
    replace hl : lv_has ls 6 [(0, .ref (q 53)), (1, .long 1), (3, .int 0)] := lv_sub hl [1, 2, 0] rfl
    obtain ⟨x30, e31, hF⟩ := bd hF
    replace hl : lv_has ls 6 [(0, .ref (q 53)), (1, .long 1), (3, .int 0)] := lv_sub hl [0, 1, 2] rfl
    obtain ⟨t32, v33⟩ := x30
    try dsimp only at hF
    refine w_X12_turnings_26 hq X _ _ e31 _ _ _ hH hl (fun H locs ls hH hl => ?_)
    try dsimp only at hH hl
    refine lv_lload_n X.x X.b (dk DX12_turnings_0 48 rfl) rfl (lv_at hl 0 rfl) ?_
    cases sm hF
    exact mr_lret X hr hlk hH ⟨rfl, rfl⟩ (dk DX12_turnings_0 49 rfl)
  · replace hF := if_f hF c3
    refine lv_ldc2 (v := (-1)) X.x X.b X.ow (X.ts _ kK_X12_109) (dk DX12_turnings_0 7 rfl) ?_
    cases sm hF
    exact mr_lret X hr hlk hH ⟨rfl, rfl⟩ (dk DX12_turnings_0 8 rfl)
-- X12_orbit
abbrev rm_X12_orbit : Room := { frames := 46, cells := 0, slots := 0, locals := 1024 }
theorem hd_X12_orbit : mHd yX12_orbit 1 := ⟨by decide +kernel, by decide +kernel, by decide +kernel⟩
theorem DX12_orbit_0 : ∀ t ∈ ([(0, .aload_n 0, 1), (1, .iconst 0, 1), (2, .putfield 106, 3), (5, .aload_n 0, 1), (6, .iload_n 1, 1), (7, .invokevirtual 266, 3), (10, .ifCond .ne 10, 3), (13, .aload_n 0, 1), (14, .iconst 1, 1), (15, .invokevirtual 236, 3), (18, .i2l, 1), (19, .lreturn, 1), (20, .aload_n 0, 1), (21, .getfield 248, 3), (24, .bipush 16, 2), (26, .if_icmp .le 5, 3), (29, .lconst 0, 1), (30, .lreturn, 1), (31, .aload_n 0, 1), (32, .invokevirtual 403, 3), (35, .lconst 0, 1), (36, .lstore_n 2, 1), (37, .iconst 0, 1), (38, .istore 4, 2), (40, .iload 4, 2), (42, .aload_n 0, 1), (43, .getfield 248, 3), (46, .if_icmp .ge 32, 3), (49, .lload_n 2, 1), (50, .aload_n 0, 1), (51, .iconst 0, 1), (52, .iload_n 1, 1), (53, .iload 4, 2), (55, .invokevirtual 406, 3), (58, .ifCond .eq 11, 3), (61, .iload 4, 2), (63, .invokestatic 111, 3), (66, .goto 4, 3), (69, .lconst 0, 1), (70, .lor, 1), (71, .lstore_n 2, 1), (72, .iinc 4 1, 3), (75, .goto (-35), 3), (78, .lload_n 2, 1), (79, .lreturn, 1)] : List (Nat × Instr × Nat)), decode cX12_orbit t.1 = .ok (t.2.1, t.2.2) := by decide +kernel
noncomputable def f_X12_orbit_40 (b1 : Int32) : (OS × Int64 × Int32) → Option ((OS × Int64 × Int32) ⊕ (OS × Int64)) := fun z => match z with | (s_t, b2, b4) => (if (s_t.1 0) ≤ b4 then some (.inr ((s_t, b2))) else (f_X12_canTurn s_t 0 b1 b4).bind (fun x12 => match x12 with | (v14, t15) => (if v14 = 0 then bnd (b2 ||| 0 : Int64) (fun v17 => bnd (b4 + 1 : Int32) (fun v19 => some (.inl ((t15, v17, v19))))) else (f_X12_bit b4).bind (fun x21 => bnd (b2 ||| x21 : Int64) (fun v24 => bnd (b4 + 1 : Int32) (fun v26 => some (.inl ((t15, v24, v26)))))))))
noncomputable def f_X12_orbit (st : OS) (a0 : Int32) : Option (Int64 × OS) := bnd (oI st 2 0) (fun t1 => (f_X12_isPoint t1 a0).bind (fun x3 => (if x3 = 0 then (f_X12_fails t1 1).bind (fun x32 => match x32 with | (v34, t35) => some (((v34 : Int32).toInt64, t35))) else (if (t1.1 0) ≤ 16 then (f_X12_othersOwn t1).bind (fun x8 => (lpv (f_X12_orbit_40 a0) ((x8, 0, 0))).bind (fun x28 => match x28 with | (t30, v31) => some ((v31, t30)))) else some ((0, t1))))))
set_option maxHeartbeats 4000000 in
set_option maxRecDepth 100000 in
theorem w_X12_orbit_40 {p : Program} {l : Launch} {e : Env} {s : State} {m : MethodId} {args : Array Value} {below : List Frame} {meth : Method} {c : Code} {Q : State → Prop} {G : mG} {h : mM} {q : Nat → Nat} (hq : oinj LX12 q) (X : mX G p m c cX12_orbit 5 s args RX12) (b1 : Int32) : ∀ (z : OS × Int64 × Int32) (r : OS × Int64), lpv (f_X12_orbit_40 b1) z = some r → ∀ (H : Heap) (locs : List Loc) (ls : Array Slot), mH G (oset LX12 G q z.1 h) s.heap H locs → lv_has ls 5 [(0, .ref (q 53)), (1, .int b1), (2, .long z.2.1), (4, .int z.2.2)] → (∀ (H : Heap) (locs : List Loc) (ls : Array Slot), mH G (oset LX12 G q r.1 h) s.heap H locs → lv_has ls 5 [(2, .long r.2)] → W p l e rm_X12_orbit s m args below meth c H locs 0 0 Q (F0 m 78 ls [])) → W p l e rm_X12_orbit s m args below meth c H locs 0 0 Q (F0 m 40 ls []) := by
  refine lpv_rec ?_
  intro z r x hF hx H locs ls hH hl K0
  obtain ⟨s_t, b2, b4⟩ := z
  dsimp only [f_X12_orbit_40] at hF
  try dsimp only at hH hl
  refine lv_iload X.x X.b (dk DX12_orbit_0 24 rfl) (lv_at hl 3 rfl) ?_
  refine lv_aload_n X.x X.b (dk DX12_orbit_0 25 rfl) rfl (lv_at hl 0 rfl) ?_
  refine og_getI OX12 X hq hH 0 (by decide) rfl kF_X12_248 (dk DX12_orbit_0 26 rfl) ?_
  refine lv_icmp_ge (tgt := 78) X.x X.b (dk DX12_orbit_0 27 rfl) (by decide) (fun c11 => ?_) (fun c11 => ?_)
  · replace hF := if_t hF c11
    have hr9 := lp_r hF hx
    subst hr9
    exact K0 _ _ _ hH (lv_sub hl [2] rfl)
  · replace hF := if_f hF c11
    refine lv_lload_n X.x X.b (dk DX12_orbit_0 28 rfl) rfl (lv_at hl 2 rfl) ?_
    refine lv_aload_n X.x X.b (dk DX12_orbit_0 29 rfl) rfl (lv_at hl 0 rfl) ?_
    refine lv_iconst (v := 0) X.x X.b (dk DX12_orbit_0 30 rfl) (by decide) ?_
    refine lv_iload_n X.x X.b (dk DX12_orbit_0 31 rfl) rfl (lv_at hl 1 rfl) ?_
    refine lv_iload X.x X.b (dk DX12_orbit_0 32 rfl) (lv_at hl 3 rfl) ?_
    obtain ⟨x12, e13, hF⟩ := bd hF
    refine mr_ci0 hH ⟨rfl, rfl⟩ (mr_runV (As := [.int 0, .int b1, .int b4]) (rest := [.long b2]) X hH (c_X12_canTurn hq e13) ((oset_at hq (Nat.le_refl _) ohas_N).trans (congrArg some ocell_N)) OX12.1 kM_X12_406 kI_X12_canTurn kS_X12_canTurn kN_X12 kC_X12_canTurn hd_X12_canTurn ⟨Nat.le_of_ble_eq_true rfl, Nat.le_of_ble_eq_true rfl⟩ rfl hl.1 (Nat.le_of_ble_eq_true rfl) (dk DX12_orbit_0 33 rfl) ⟨Nat.zero_le _, Nat.zero_le _⟩) (fun r h1 H locs hp hH => ?_)
    obtain ⟨hr1, hr2⟩ := hp; rw [hr1]; rw [hr2] at hH; clear hr1 hr2
    obtain ⟨v14, t15⟩ := x12
    try dsimp only at hF hH ⊢
    refine lv_if_eq (tgt := 69) X.x X.b (dk DX12_orbit_0 34 rfl) (by decide) (fun c16 => ?_) (fun c16 => ?_)
    · replace hF := if_t hF c16
      refine lv_lconst (v := 0) X.x X.b (dk DX12_orbit_0 38 rfl) (by decide) ?_
      refine lv_lor X.x X.b (dk DX12_orbit_0 39 rfl) ?_
      refine lv_topl (fun v17 e18 => ?_)
      replace hF := bnd_e hF e18
      refine lv_lstore_n (lv' := [(2, .long v17), (0, .ref (q 53)), (1, .int b1), (4, .int b4)]) X.x X.b (dk DX12_orbit_0 40 rfl) rfl hl (by decide) rfl (fun ls hl => ?_)
      replace hl : lv_has ls 5 [(0, .ref (q 53)), (1, .int b1), (2, .long v17), (4, .int b4)] := lv_sub hl [1, 2, 0, 3] rfl
      obtain ⟨v19, e20⟩ : ∃ y : Int32, y = b4 + 1 := ⟨_, rfl⟩
      replace hF := bnd_e hF e20
      refine lv_iinc (v := v19) (lv' := [(4, .int v19), (0, .ref (q 53)), (1, .int b1), (2, .long v17)]) X.x X.b (dk DX12_orbit_0 41 rfl) hl (k := 3) rfl (by rw [e20]; rfl) (by decide) rfl (fun ls hl => ?_)
      replace hl : lv_has ls 5 [(0, .ref (q 53)), (1, .int b1), (2, .long v17), (4, .int v19)] := lv_sub hl [1, 2, 3, 0] rfl
      refine lv_goto (tgt := 40) X.x X.b (dk DX12_orbit_0 42 rfl) (by decide) ?_
      exact (lp_l hF hx) _ _ _ hH (lv_sub hl [0, 1, 2, 3] rfl) K0
    · replace hF := if_f hF c16
      refine lv_iload X.x X.b (dk DX12_orbit_0 35 rfl) (lv_at hl 3 rfl) ?_
      obtain ⟨x21, e22, hF⟩ := bd hF
      refine mr_cl0 hH ⟨rfl, rfl⟩ (mr_runS (As := [.int b4]) (rest := [.long b2]) X hH (c_X12_bit e22) kM_X12_111 kT_X12_bit kN_X12 kC_X12_bit hd_X12_bit ⟨Nat.le_of_ble_eq_true rfl, Nat.le_of_ble_eq_true rfl⟩ rfl hl.1 (Nat.le_of_ble_eq_true rfl) (dk DX12_orbit_0 36 rfl) ⟨Nat.zero_le _, Nat.zero_le _⟩) (fun r h1 H locs hp hH => ?_)
      obtain ⟨hr1, hr2⟩ := hp; rw [hr1]; rw [hr2] at hH; clear hr1 hr2
      refine lv_goto (tgt := 70) X.x X.b (dk DX12_orbit_0 37 rfl) (by decide) ?_
      refine lv_lor X.x X.b (dk DX12_orbit_0 39 rfl) ?_
      refine lv_topl (fun v24 e25 => ?_)
      replace hF := bnd_e hF e25
      refine lv_lstore_n (lv' := [(2, .long v24), (0, .ref (q 53)), (1, .int b1), (4, .int b4)]) X.x X.b (dk DX12_orbit_0 40 rfl) rfl hl (by decide) rfl (fun ls hl => ?_)
      replace hl : lv_has ls 5 [(0, .ref (q 53)), (1, .int b1), (2, .long v24), (4, .int b4)] := lv_sub hl [1, 2, 0, 3] rfl
      obtain ⟨v26, e27⟩ : ∃ y : Int32, y = b4 + 1 := ⟨_, rfl⟩
      replace hF := bnd_e hF e27
      refine lv_iinc (v := v26) (lv' := [(4, .int v26), (0, .ref (q 53)), (1, .int b1), (2, .long v24)]) X.x X.b (dk DX12_orbit_0 41 rfl) hl (k := 3) rfl (by rw [e27]; rfl) (by decide) rfl (fun ls hl => ?_)
      replace hl : lv_has ls 5 [(0, .ref (q 53)), (1, .int b1), (2, .long v24), (4, .int v26)] := lv_sub hl [1, 2, 3, 0] rfl
      refine lv_goto (tgt := 40) X.x X.b (dk DX12_orbit_0 42 rfl) (by decide) ?_
      exact (lp_l hF hx) _ _ _ hH (lv_sub hl [0, 1, 2, 3] rfl) K0
set_option maxHeartbeats 4000000 in
set_option maxRecDepth 100000 in
theorem c_X12_orbit {l : Launch} {G : mG} {h : mM} {q : Nat → Nat} (hq : oinj LX12 q) {st : OS} {a0 : Int32} {x : Int64 × OS} (hF : f_X12_orbit st a0 = some x) : cQ l G yX12_orbit cX12_orbit 5 (some FieldType.long) rm_X12_orbit [.ref (q 53), .int a0] (oset LX12 G q st h) (mQl G (fun r h1 => r = x.1 ∧ h1 = oset LX12 G q x.2 h)) := by
  refine mp_of (by decide +kernel) (Nat.le_of_ble_eq_true rfl) ?_
  intro p e s m below meth c X hr hlk hH hname ls hl
  dsimp only [f_X12_orbit] at hF
  replace hl : lv_has ls 5 [(0, .ref (q 53)), (1, .int a0)] := hl
  refine lv_aload_n X.x X.b (dk DX12_orbit_0 0 rfl) rfl (lv_at hl 0 rfl) ?_
  refine lv_iconst (v := 0) X.x X.b (dk DX12_orbit_0 1 rfl) (by decide) ?_
  refine og_putI OX12 X hq hH 2 (by decide) rfl kF_X12_106 rfl rfl rfl (dk DX12_orbit_0 2 rfl) (fun H locs hH => ?_)
  obtain ⟨t1, e2⟩ : ∃ y, y = oI st 2 0 := ⟨_, rfl⟩
  rw [← e2] at hH
  replace hF := bnd_e hF e2
  refine lv_aload_n X.x X.b (dk DX12_orbit_0 3 rfl) rfl (lv_at hl 0 rfl) ?_
  refine lv_iload_n X.x X.b (dk DX12_orbit_0 4 rfl) rfl (lv_at hl 1 rfl) ?_
  obtain ⟨x3, e4, hF⟩ := bd hF
  refine mr_ci0 hH ⟨rfl, rfl⟩ (mr_runV (As := [.int a0]) (rest := []) X hH (c_X12_isPoint hq e4) ((oset_at hq (Nat.le_refl _) ohas_N).trans (congrArg some ocell_N)) OX12.1 kM_X12_266 kI_X12_isPoint kS_X12_isPoint kN_X12 kC_X12_isPoint hd_X12_isPoint ⟨Nat.le_of_ble_eq_true rfl, Nat.le_of_ble_eq_true rfl⟩ rfl hl.1 (Nat.le_of_ble_eq_true rfl) (dk DX12_orbit_0 5 rfl) ⟨Nat.zero_le _, Nat.zero_le _⟩) (fun r h1 H locs hp hH => ?_)
  obtain ⟨hr1, hr2⟩ := hp; rw [hr1]; rw [hr2] at hH; clear hr1 hr2
  refine lv_if_ne (tgt := 20) X.x X.b (dk DX12_orbit_0 6 rfl) (by decide) (fun c6 => ?_) (fun c6 => ?_)
  · replace hF := if_f hF c6
    refine lv_aload_n X.x X.b (dk DX12_orbit_0 12 rfl) rfl (lv_at hl 0 rfl) ?_
    refine og_getI OX12 X hq hH 0 (by decide) rfl kF_X12_248 (dk DX12_orbit_0 13 rfl) ?_
    refine lv_bipush (v := 16) X.x X.b (dk DX12_orbit_0 14 rfl) (by decide) ?_
    refine lv_icmp_le (tgt := 31) X.x X.b (dk DX12_orbit_0 15 rfl) (by decide) (fun c7 => ?_) (fun c7 => ?_)
    · replace hF := if_t hF c7
      refine lv_aload_n X.x X.b (dk DX12_orbit_0 18 rfl) rfl (lv_at hl 0 rfl) ?_
      obtain ⟨x8, e9, hF⟩ := bd hF
      refine mr_cv0 hH ⟨rfl, rfl⟩ (mr_runV (As := []) (rest := []) X hH (c_X12_othersOwn hq e9) ((oset_at hq (Nat.le_refl _) ohas_N).trans (congrArg some ocell_N)) OX12.1 kM_X12_403 kI_X12_othersOwn kS_X12_othersOwn kN_X12 kC_X12_othersOwn hd_X12_othersOwn ⟨Nat.le_of_ble_eq_true rfl, Nat.le_of_ble_eq_true rfl⟩ rfl hl.1 (Nat.le_of_ble_eq_true rfl) (dk DX12_orbit_0 19 rfl) ⟨Nat.zero_le _, Nat.zero_le _⟩) (fun h1 H locs hp hH => ?_)
      rw [hp] at hH; clear hp
      refine lv_lconst (v := 0) X.x X.b (dk DX12_orbit_0 20 rfl) (by decide) ?_
      refine lv_lstore_n (lv' := [(2, .long 0), (0, .ref (q 53)), (1, .int a0)]) X.x X.b (dk DX12_orbit_0 21 rfl) rfl hl (by decide) rfl (fun ls hl => ?_)
      replace hl : lv_has ls 5 [(0, .ref (q 53)), (1, .int a0), (2, .long 0)] := lv_sub hl [1, 2, 0] rfl
      refine lv_iconst (v := 0) X.x X.b (dk DX12_orbit_0 22 rfl) (by decide) ?_
      refine lv_istore (lv' := [(4, .int 0), (0, .ref (q 53)), (1, .int a0), (2, .long 0)]) X.x X.b (dk DX12_orbit_0 23 rfl) hl (by decide) rfl (fun ls hl => ?_)
      replace hl : lv_has ls 5 [(0, .ref (q 53)), (1, .int a0), (2, .long 0), (4, .int 0)] := lv_sub hl [1, 2, 3, 0] rfl
      obtain ⟨x28, e29, hF⟩ := bd hF
      replace hl : lv_has ls 5 [(0, .ref (q 53)), (1, .int a0), (2, .long 0), (4, .int 0)] := lv_sub hl [0, 1, 2, 3] rfl
      obtain ⟨t30, v31⟩ := x28
      try dsimp only at hF
      refine w_X12_orbit_40 hq X a0 _ _ e29 _ _ _ hH hl (fun H locs ls hH hl => ?_)
      try dsimp only at hH hl
      refine lv_lload_n X.x X.b (dk DX12_orbit_0 43 rfl) rfl (lv_at hl 0 rfl) ?_
      cases sm hF
      exact mr_lret X hr hlk hH ⟨rfl, rfl⟩ (dk DX12_orbit_0 44 rfl)
    · replace hF := if_f hF c7
      refine lv_lconst (v := 0) X.x X.b (dk DX12_orbit_0 16 rfl) (by decide) ?_
      cases sm hF
      exact mr_lret X hr hlk hH ⟨rfl, rfl⟩ (dk DX12_orbit_0 17 rfl)
  · replace hF := if_t hF c6
    refine lv_aload_n X.x X.b (dk DX12_orbit_0 7 rfl) rfl (lv_at hl 0 rfl) ?_
    refine lv_iconst (v := 1) X.x X.b (dk DX12_orbit_0 8 rfl) (by decide) ?_
    obtain ⟨x32, e33, hF⟩ := bd hF
    refine mr_ci0 hH ⟨rfl, rfl⟩ (mr_runV (As := [.int 1]) (rest := []) X hH (c_X12_fails hq e33) ((oset_at hq (Nat.le_refl _) ohas_N).trans (congrArg some ocell_N)) OX12.1 kM_X12_236 kI_X12_fails kS_X12_fails kN_X12 kC_X12_fails hd_X12_fails ⟨Nat.le_of_ble_eq_true rfl, Nat.le_of_ble_eq_true rfl⟩ rfl hl.1 (Nat.le_of_ble_eq_true rfl) (dk DX12_orbit_0 9 rfl) ⟨Nat.zero_le _, Nat.zero_le _⟩) (fun r h1 H locs hp hH => ?_)
    obtain ⟨hr1, hr2⟩ := hp; rw [hr1]; rw [hr2] at hH; clear hr1 hr2
    obtain ⟨v34, t35⟩ := x32
    try dsimp only at hF hH ⊢
    refine lv_i2l X.x X.b (dk DX12_orbit_0 10 rfl) rfl ?_
    cases sm hF
    exact mr_lret X hr hlk hH ⟨rfl, rfl⟩ (dk DX12_orbit_0 11 rfl)
-- X12_like
abbrev rm_X12_like : Room := { frames := 45, cells := 0, slots := 0, locals := 999 }
theorem hd_X12_like : mHd yX12_like 1 := ⟨by decide +kernel, by decide +kernel, by decide +kernel⟩
theorem DX12_like_0 : ∀ t ∈ ([(0, .aload_n 0, 1), (1, .iload_n 1, 1), (2, .i2l, 1), (3, .lconst 0, 1), (4, .ldc2_w 298, 3), (7, .invokestatic 171, 3), (10, .ifCond .ne 7, 3), (13, .iconst 1, 1), (14, .goto 17, 3), (17, .aload_n 0, 1), (18, .getfield 93, 3), (21, .iload_n 1, 1), (22, .baload, 1), (23, .ifCond .ne 7, 3), (26, .iconst 2, 1), (27, .goto 4, 3), (30, .iconst 0, 1), (31, .putfield 106, 3), (34, .aload_n 0, 1), (35, .getfield 106, 3), (38, .ifCond .le 5, 3), (41, .iconst 0, 1), (42, .ireturn, 1), (43, .aload_n 0, 1), (44, .getfield 248, 3), (47, .bipush 16, 2), (49, .if_icmp .gt 14, 3), (52, .aload_n 0, 1), (53, .getfield 97, 3), (56, .iload_n 1, 1), (57, .iaload, 1), (58, .bipush 16, 2), (60, .if_icmp .le 5, 3), (63, .iconst (-1), 1), (64, .ireturn, 1), (65, .aload_n 0, 1), (66, .getfield 248, 3), (69, .aload_n 0, 1), (70, .getfield 97, 3), (73, .iload_n 1, 1), (74, .iaload, 1), (75, .if_icmp .ne 16, 3), (78, .aload_n 0, 1), (79, .getfield 250, 3), (82, .aload_n 0, 1), (83, .getfield 100, 3), (86, .iload_n 1, 1), (87, .iaload, 1), (88, .if_icmp .eq 5, 3), (91, .iconst 0, 1), (92, .ireturn, 1), (93, .aload_n 0, 1), (94, .aload_n 0, 1), (95, .getfield 250, 3), (98, .putfield 365, 3), (101, .iconst 0, 1), (102, .istore_n 2, 1), (103, .iload_n 2, 1), (104, .aload_n 0, 1), (105, .getfield 250, 3)] : List (Nat × Instr × Nat)), decode cX12_like t.1 = .ok (t.2.1, t.2.2) := by decide +kernel
theorem DX12_like_1 : ∀ t ∈ ([(108, .if_icmp .ge 26, 3), (111, .aload_n 0, 1), (112, .getfield 60, 3), (115, .iload_n 2, 1), (116, .aload_n 0, 1), (117, .getfield 103, 3), (120, .bipush 64, 2), (122, .iload_n 1, 1), (123, .imul, 1), (124, .iload_n 2, 1), (125, .iadd, 1), (126, .laload, 1), (127, .lastore, 1), (128, .iinc 2 1, 3), (131, .goto (-28), 3), (134, .iconst 0, 1), (135, .istore_n 2, 1), (136, .iload_n 2, 1), (137, .bipush 16, 2), (139, .if_icmp .ge 16, 3), (142, .aload_n 0, 1), (143, .getfield 63, 3), (146, .iload_n 2, 1), (147, .iconst (-1), 1), (148, .iastore, 1), (149, .iinc 2 1, 3), (152, .goto (-16), 3), (155, .aload_n 0, 1), (156, .lconst 0, 1), (157, .putfield 375, 3), (160, .aload_n 0, 1), (161, .iconst 0, 1), (162, .invokevirtual 391, 3), (165, .ifCond .eq 7, 3), (168, .iconst 1, 1), (169, .goto 4, 3), (172, .iconst 0, 1), (173, .ireturn, 1)] : List (Nat × Instr × Nat)), decode cX12_like t.1 = .ok (t.2.1, t.2.2) := by decide +kernel
noncomputable def f_X12_like_103 (b1 : Int32) : (OS × Int32) → Option ((OS × Int32) ⊕ (OS)) := fun z => match z with | (s_t, b2) => (if (s_t.1 1) ≤ b2 then some (.inr s_t) else if inb (((64 : Int32) * b1) + b2) 192 = true then if inb b2 64 = true then bnd (oB s_t 34 (vp_updL (s_t.2.2.2 34) (b2 : Int32).toNatClampNeg (s_t.2.2.2 52 (((64 : Int32) * b1) + b2 : Int32).toNatClampNeg))) (fun t19 => bnd (b2 + 1 : Int32) (fun v21 => some (.inl ((t19, v21))))) else none else none)
noncomputable def f_X12_like_136 : (OS × Int32) → Option ((OS × Int32) ⊕ (OS)) := fun z => match z with | (s_t, b2) => (if 16 ≤ b2 then some (.inr s_t) else if inb b2 16 = true then bnd (oA s_t 36 (upd (s_t.2.2.1 36) (b2 : Int32).toNatClampNeg ((-1)))) (fun t28 => bnd (b2 + 1 : Int32) (fun v30 => some (.inl ((t28, v30))))) else none)
noncomputable def f_X12_like (st : OS) (a0 : Int32) : Option (Int32 × OS) := (f_X12_within ((a0 : Int32).toInt64) 0 2).bind (fun x1 => (if x1 = 0 then bnd (oI st 2 1) (fun t64 => (if (t64.1 2) ≤ 0 then (if 16 < (t64.1 0) then some (((-1), t64)) else if inb a0 3 = true then (if (t64.2.2.1 50 (a0 : Int32).toNatClampNeg) ≤ 16 then (if (t64.1 0) = (t64.2.2.1 50 (a0 : Int32).toNatClampNeg) then (if (t64.1 1) = (t64.2.2.1 51 (a0 : Int32).toNatClampNeg) then bnd (oI t64 35 (t64.1 1)) (fun t72 => (lpv (f_X12_like_103 a0) ((t72, 0))).bind (fun x74 => (lpv (f_X12_like_136) ((x74, 0))).bind (fun x77 => bnd (oJ x77 37 0) (fun t80 => (f_X12_canGo 40 t80 0).bind (fun x82 => match x82 with | (v84, t85) => (if v84 = 0 then some ((0, t85)) else some ((1, t85)))))))) else some ((0, t64))) else some ((0, t64))) else some (((-1), t64))) else none) else some ((0, t64)))) else if inb a0 3 = true then (if (st.2.2.1 49 (a0 : Int32).toNatClampNeg) = 0 then bnd (oI st 2 2) (fun t42 => (if (t42.1 2) ≤ 0 then (if 16 < (t42.1 0) then some (((-1), t42)) else (if (t42.2.2.1 50 (a0 : Int32).toNatClampNeg) ≤ 16 then (if (t42.1 0) = (t42.2.2.1 50 (a0 : Int32).toNatClampNeg) then (if (t42.1 1) = (t42.2.2.1 51 (a0 : Int32).toNatClampNeg) then bnd (oI t42 35 (t42.1 1)) (fun t49 => (lpv (f_X12_like_103 a0) ((t49, 0))).bind (fun x51 => (lpv (f_X12_like_136) ((x51, 0))).bind (fun x54 => bnd (oJ x54 37 0) (fun t57 => (f_X12_canGo 40 t57 0).bind (fun x59 => match x59 with | (v61, t62) => (if v61 = 0 then some ((0, t62)) else some ((1, t62)))))))) else some ((0, t42))) else some ((0, t42))) else some (((-1), t42)))) else some ((0, t42)))) else bnd (oI st 2 0) (fun t7 => (if (t7.1 2) ≤ 0 then (if 16 < (t7.1 0) then some (((-1), t7)) else (if (t7.2.2.1 50 (a0 : Int32).toNatClampNeg) ≤ 16 then (if (t7.1 0) = (t7.2.2.1 50 (a0 : Int32).toNatClampNeg) then (if (t7.1 1) = (t7.2.2.1 51 (a0 : Int32).toNatClampNeg) then bnd (oI t7 35 (t7.1 1)) (fun t14 => (lpv (f_X12_like_103 a0) ((t14, 0))).bind (fun x23 => (lpv (f_X12_like_136) ((x23, 0))).bind (fun x32 => bnd (oJ x32 37 0) (fun t35 => (f_X12_canGo 40 t35 0).bind (fun x37 => match x37 with | (v39, t40) => (if v39 = 0 then some ((0, t40)) else some ((1, t40)))))))) else some ((0, t7))) else some ((0, t7))) else some (((-1), t7)))) else some ((0, t7))))) else none))
set_option maxHeartbeats 4000000 in
set_option maxRecDepth 100000 in
theorem w_X12_like_103 {p : Program} {l : Launch} {e : Env} {s : State} {m : MethodId} {args : Array Value} {below : List Frame} {meth : Method} {c : Code} {Q : State → Prop} {G : mG} {h : mM} {q : Nat → Nat} (hq : oinj LX12 q) (X : mX G p m c cX12_like 3 s args RX12) (b1 : Int32) : ∀ (z : OS × Int32) (r : OS), lpv (f_X12_like_103 b1) z = some r → ∀ (H : Heap) (locs : List Loc) (ls : Array Slot), mH G (oset LX12 G q z.1 h) s.heap H locs → lv_has ls 3 [(0, .ref (q 53)), (1, .int b1), (2, .int z.2)] → (∀ (H : Heap) (locs : List Loc) (ls : Array Slot), mH G (oset LX12 G q r h) s.heap H locs → lv_has ls 3 [(0, .ref (q 53))] → W p l e rm_X12_like s m args below meth c H locs 0 0 Q (F0 m 134 ls [])) → W p l e rm_X12_like s m args below meth c H locs 0 0 Q (F0 m 103 ls []) := by
  refine lpv_rec ?_
  intro z r x hF hx H locs ls hH hl K0
  obtain ⟨s_t, b2⟩ := z
  dsimp only [f_X12_like_103] at hF
  try dsimp only at hH hl
  refine lv_iload_n X.x X.b (dk DX12_like_0 57 rfl) rfl (lv_at hl 2 rfl) ?_
  refine lv_aload_n X.x X.b (dk DX12_like_0 58 rfl) rfl (lv_at hl 0 rfl) ?_
  refine og_getI OX12 X hq hH 1 (by decide) rfl kF_X12_250 (dk DX12_like_0 59 rfl) ?_
  refine lv_icmp_ge (tgt := 134) X.x X.b (dk DX12_like_1 0 rfl) (by decide) (fun c16 => ?_) (fun c16 => ?_)
  · replace hF := if_t hF c16
    have hr9 := lp_r hF hx
    subst hr9
    exact K0 _ _ _ hH (lv_sub hl [0] rfl)
  · replace hF := if_f hF c16
    refine lv_aload_n X.x X.b (dk DX12_like_1 1 rfl) rfl (lv_at hl 0 rfl) ?_
    refine og_getR (t := 1) OX12 X hq hH 34 (by decide) rfl kF_X12_60 (dk DX12_like_1 2 rfl) ?_
    refine lv_iload_n X.x X.b (dk DX12_like_1 3 rfl) rfl (lv_at hl 2 rfl) ?_
    refine lv_aload_n X.x X.b (dk DX12_like_1 4 rfl) rfl (lv_at hl 0 rfl) ?_
    refine og_getR (t := 1) OX12 X hq hH 52 (by decide) rfl kF_X12_103 (dk DX12_like_1 5 rfl) ?_
    refine lv_bipush (v := 64) X.x X.b (dk DX12_like_1 6 rfl) (by decide) ?_
    refine lv_iload_n X.x X.b (dk DX12_like_1 7 rfl) rfl (lv_at hl 1 rfl) ?_
    refine lv_imul X.x X.b (dk DX12_like_1 8 rfl) ?_
    refine lv_iload_n X.x X.b (dk DX12_like_1 9 rfl) rfl (lv_at hl 2 rfl) ?_
    refine lv_iadd X.x X.b (dk DX12_like_1 10 rfl) ?_
    obtain ⟨c17, hF⟩ := gd hF
    refine og_lald X hq hH 52 (by decide) rfl (inb_in c17) (dk DX12_like_1 11 rfl) ?_
    obtain ⟨c18, hF⟩ := gd hF
    refine og_last X hq hH 34 (by decide) rfl (inb_in c18) (dk DX12_like_1 12 rfl) (fun H locs hH => ?_)
    obtain ⟨t19, e20⟩ : ∃ y, y = oB s_t 34 (vp_updL (s_t.2.2.2 34) (b2 : Int32).toNatClampNeg (s_t.2.2.2 52 (((64 : Int32) * b1) + b2 : Int32).toNatClampNeg)) := ⟨_, rfl⟩
    rw [← e20] at hH
    replace hF := bnd_e hF e20
    obtain ⟨v21, e22⟩ : ∃ y : Int32, y = b2 + 1 := ⟨_, rfl⟩
    replace hF := bnd_e hF e22
    refine lv_iinc (v := v21) (lv' := [(2, .int v21), (0, .ref (q 53)), (1, .int b1)]) X.x X.b (dk DX12_like_1 13 rfl) hl (k := 2) rfl (by rw [e22]; rfl) (by decide) rfl (fun ls hl => ?_)
    replace hl : lv_has ls 3 [(0, .ref (q 53)), (1, .int b1), (2, .int v21)] := lv_sub hl [1, 2, 0] rfl
    refine lv_goto (tgt := 103) X.x X.b (dk DX12_like_1 14 rfl) (by decide) ?_
    exact (lp_l hF hx) _ _ _ hH (lv_sub hl [0, 1, 2] rfl) K0
set_option maxHeartbeats 4000000 in
set_option maxRecDepth 100000 in
theorem w_X12_like_136 {p : Program} {l : Launch} {e : Env} {s : State} {m : MethodId} {args : Array Value} {below : List Frame} {meth : Method} {c : Code} {Q : State → Prop} {G : mG} {h : mM} {q : Nat → Nat} (hq : oinj LX12 q) (X : mX G p m c cX12_like 3 s args RX12) : ∀ (z : OS × Int32) (r : OS), lpv (f_X12_like_136) z = some r → ∀ (H : Heap) (locs : List Loc) (ls : Array Slot), mH G (oset LX12 G q z.1 h) s.heap H locs → lv_has ls 3 [(0, .ref (q 53)), (2, .int z.2)] → (∀ (H : Heap) (locs : List Loc) (ls : Array Slot), mH G (oset LX12 G q r h) s.heap H locs → lv_has ls 3 [(0, .ref (q 53))] → W p l e rm_X12_like s m args below meth c H locs 0 0 Q (F0 m 155 ls [])) → W p l e rm_X12_like s m args below meth c H locs 0 0 Q (F0 m 136 ls []) := by
  refine lpv_rec ?_
  intro z r x hF hx H locs ls hH hl K0
  obtain ⟨s_t, b2⟩ := z
  dsimp only [f_X12_like_136] at hF
  try dsimp only at hH hl
  refine lv_iload_n X.x X.b (dk DX12_like_1 17 rfl) rfl (lv_at hl 1 rfl) ?_
  refine lv_bipush (v := 16) X.x X.b (dk DX12_like_1 18 rfl) (by decide) ?_
  refine lv_icmp_ge (tgt := 155) X.x X.b (dk DX12_like_1 19 rfl) (by decide) (fun c26 => ?_) (fun c26 => ?_)
  · replace hF := if_t hF c26
    have hr9 := lp_r hF hx
    subst hr9
    exact K0 _ _ _ hH (lv_sub hl [0] rfl)
  · replace hF := if_f hF c26
    refine lv_aload_n X.x X.b (dk DX12_like_1 20 rfl) rfl (lv_at hl 0 rfl) ?_
    refine og_getR (t := 0) OX12 X hq hH 36 (by decide) rfl kF_X12_63 (dk DX12_like_1 21 rfl) ?_
    refine lv_iload_n X.x X.b (dk DX12_like_1 22 rfl) rfl (lv_at hl 1 rfl) ?_
    refine lv_iconst (v := (-1)) X.x X.b (dk DX12_like_1 23 rfl) (by decide) ?_
    obtain ⟨c27, hF⟩ := gd hF
    refine og_iast X hq hH 36 (by decide) rfl (inb_in c27) (dk DX12_like_1 24 rfl) (fun H locs hH => ?_)
    obtain ⟨t28, e29⟩ : ∃ y, y = oA s_t 36 (upd (s_t.2.2.1 36) (b2 : Int32).toNatClampNeg ((-1))) := ⟨_, rfl⟩
    rw [← e29] at hH
    replace hF := bnd_e hF e29
    obtain ⟨v30, e31⟩ : ∃ y : Int32, y = b2 + 1 := ⟨_, rfl⟩
    replace hF := bnd_e hF e31
    refine lv_iinc (v := v30) (lv' := [(2, .int v30), (0, .ref (q 53))]) X.x X.b (dk DX12_like_1 25 rfl) hl (k := 1) rfl (by rw [e31]; rfl) (by decide) rfl (fun ls hl => ?_)
    replace hl : lv_has ls 3 [(0, .ref (q 53)), (2, .int v30)] := lv_sub hl [1, 0] rfl
    refine lv_goto (tgt := 136) X.x X.b (dk DX12_like_1 26 rfl) (by decide) ?_
    exact (lp_l hF hx) _ _ _ hH (lv_sub hl [0, 1] rfl) K0
set_option maxHeartbeats 4000000 in
set_option maxRecDepth 100000 in
theorem c_X12_like {l : Launch} {G : mG} {h : mM} {q : Nat → Nat} (hq : oinj LX12 q) {st : OS} {a0 : Int32} {x : Int32 × OS} (hF : f_X12_like st a0 = some x) : cQ l G yX12_like cX12_like 3 (some FieldType.int) rm_X12_like [.ref (q 53), .int a0] (oset LX12 G q st h) (mQi G (fun r h1 => r = x.1 ∧ h1 = oset LX12 G q x.2 h)) := by
  refine mp_of (by decide +kernel) (Nat.le_of_ble_eq_true rfl) ?_
  intro p e s m below meth c X hr hlk hH hname ls hl
  dsimp only [f_X12_like] at hF
  replace hl : lv_has ls 3 [(0, .ref (q 53)), (1, .int a0)] := hl
  refine lv_aload_n X.x X.b (dk DX12_like_0 0 rfl) rfl (lv_at hl 0 rfl) ?_
  refine lv_iload_n X.x X.b (dk DX12_like_0 1 rfl) rfl (lv_at hl 1 rfl) ?_
  refine lv_i2l X.x X.b (dk DX12_like_0 2 rfl) rfl ?_
  refine lv_lconst (v := 0) X.x X.b (dk DX12_like_0 3 rfl) (by decide) ?_
  refine lv_ldc2 (v := 2) X.x X.b X.ow (X.ts _ kK_X12_298) (dk DX12_like_0 4 rfl) ?_
  obtain ⟨x1, e2, hF⟩ := bd hF
  refine mr_ci0 hH ⟨rfl, rfl⟩ (mr_runS (As := [.long ((a0 : Int32).toInt64), .long 0, .long 2]) (rest := [.ref (q 53)]) X hH (c_X12_within e2) kM_X12_171 kT_X12_within kN_X12 kC_X12_within hd_X12_within ⟨Nat.le_of_ble_eq_true rfl, Nat.le_of_ble_eq_true rfl⟩ rfl hl.1 (Nat.le_of_ble_eq_true rfl) (dk DX12_like_0 5 rfl) ⟨Nat.zero_le _, Nat.zero_le _⟩) (fun r h1 H locs hp hH => ?_)
  obtain ⟨hr1, hr2⟩ := hp; rw [hr1]; rw [hr2] at hH; clear hr1 hr2
  refine lv_if_ne (tgt := 17) X.x X.b (dk DX12_like_0 6 rfl) (by decide) (fun c4 => ?_) (fun c4 => ?_)
  · replace hF := if_f hF c4
    refine lv_aload_n X.x X.b (dk DX12_like_0 9 rfl) rfl (lv_at hl 0 rfl) ?_
    refine og_getR (t := 3) OX12 X hq hH 49 (by decide) rfl kF_X12_93 (dk DX12_like_0 10 rfl) ?_
    refine lv_iload_n X.x X.b (dk DX12_like_0 11 rfl) rfl (lv_at hl 1 rfl) ?_
    obtain ⟨c5, hF⟩ := gd hF
    refine og_zald X hq hH 49 (by decide) rfl (inb_in c5) (dk DX12_like_0 12 rfl) ?_
    refine lv_if_ne (tgt := 30) X.x X.b (dk DX12_like_0 13 rfl) (by decide) (fun c6 => ?_) (fun c6 => ?_)
    · replace hF := if_f hF c6
      refine lv_iconst (v := 0) X.x X.b (dk DX12_like_0 16 rfl) (by decide) ?_
      refine og_putI OX12 X hq hH 2 (by decide) rfl kF_X12_106 rfl rfl rfl (dk DX12_like_0 17 rfl) (fun H locs hH => ?_)
      obtain ⟨t7, e8⟩ : ∃ y, y = oI st 2 0 := ⟨_, rfl⟩
      rw [← e8] at hH
      replace hF := bnd_e hF e8
      refine lv_aload_n X.x X.b (dk DX12_like_0 18 rfl) rfl (lv_at hl 0 rfl) ?_
      refine og_getI OX12 X hq hH 2 (by decide) rfl kF_X12_106 (dk DX12_like_0 19 rfl) ?_
      refine lv_if_le (tgt := 43) X.x X.b (dk DX12_like_0 20 rfl) (by decide) (fun c9 => ?_) (fun c9 => ?_)
      · replace hF := if_t hF c9
        refine lv_aload_n X.x X.b (dk DX12_like_0 23 rfl) rfl (lv_at hl 0 rfl) ?_
        refine og_getI OX12 X hq hH 0 (by decide) rfl kF_X12_248 (dk DX12_like_0 24 rfl) ?_
        refine lv_bipush (v := 16) X.x X.b (dk DX12_like_0 25 rfl) (by decide) ?_
        refine lv_icmp_gt (tgt := 63) X.x X.b (dk DX12_like_0 26 rfl) (by decide) (fun c10 => ?_) (fun c10 => ?_)
        · replace hF := if_t hF c10
          refine lv_iconst (v := (-1)) X.x X.b (dk DX12_like_0 33 rfl) (by decide) ?_
          cases sm hF
          exact mr_iret X hr hlk hH ⟨rfl, rfl⟩ (dk DX12_like_0 34 rfl)
        · replace hF := if_f hF c10
          refine lv_aload_n X.x X.b (dk DX12_like_0 27 rfl) rfl (lv_at hl 0 rfl) ?_
          refine og_getR (t := 0) OX12 X hq hH 50 (by decide) rfl kF_X12_97 (dk DX12_like_0 28 rfl) ?_
          refine lv_iload_n X.x X.b (dk DX12_like_0 29 rfl) rfl (lv_at hl 1 rfl) ?_
          refine og_iald X hq hH 50 (by decide) rfl (inb_in c5) (dk DX12_like_0 30 rfl) ?_
          refine lv_bipush (v := 16) X.x X.b (dk DX12_like_0 31 rfl) (by decide) ?_
          refine lv_icmp_le (tgt := 65) X.x X.b (dk DX12_like_0 32 rfl) (by decide) (fun c11 => ?_) (fun c11 => ?_)
          · replace hF := if_t hF c11
            refine lv_aload_n X.x X.b (dk DX12_like_0 35 rfl) rfl (lv_at hl 0 rfl) ?_
            refine og_getI OX12 X hq hH 0 (by decide) rfl kF_X12_248 (dk DX12_like_0 36 rfl) ?_
            refine lv_aload_n X.x X.b (dk DX12_like_0 37 rfl) rfl (lv_at hl 0 rfl) ?_
            refine og_getR (t := 0) OX12 X hq hH 50 (by decide) rfl kF_X12_97 (dk DX12_like_0 38 rfl) ?_
            refine lv_iload_n X.x X.b (dk DX12_like_0 39 rfl) rfl (lv_at hl 1 rfl) ?_
            refine og_iald X hq hH 50 (by decide) rfl (inb_in c5) (dk DX12_like_0 40 rfl) ?_
            refine lv_icmp_ne (tgt := 91) X.x X.b (dk DX12_like_0 41 rfl) (by decide) (fun c12 => ?_) (fun c12 => ?_)
            · replace hF := if_f hF c12
              refine lv_iconst (v := 0) X.x X.b (dk DX12_like_0 49 rfl) (by decide) ?_
              cases sm hF
              exact mr_iret X hr hlk hH ⟨rfl, rfl⟩ (dk DX12_like_0 50 rfl)
            · replace hF := if_t hF c12
              refine lv_aload_n X.x X.b (dk DX12_like_0 42 rfl) rfl (lv_at hl 0 rfl) ?_
              refine og_getI OX12 X hq hH 1 (by decide) rfl kF_X12_250 (dk DX12_like_0 43 rfl) ?_
              refine lv_aload_n X.x X.b (dk DX12_like_0 44 rfl) rfl (lv_at hl 0 rfl) ?_
              refine og_getR (t := 0) OX12 X hq hH 51 (by decide) rfl kF_X12_100 (dk DX12_like_0 45 rfl) ?_
              refine lv_iload_n X.x X.b (dk DX12_like_0 46 rfl) rfl (lv_at hl 1 rfl) ?_
              refine og_iald X hq hH 51 (by decide) rfl (inb_in c5) (dk DX12_like_0 47 rfl) ?_
              refine lv_icmp_eq (tgt := 93) X.x X.b (dk DX12_like_0 48 rfl) (by decide) (fun c13 => ?_) (fun c13 => ?_)
              · replace hF := if_t hF c13
                refine lv_aload_n X.x X.b (dk DX12_like_0 51 rfl) rfl (lv_at hl 0 rfl) ?_
                refine lv_aload_n X.x X.b (dk DX12_like_0 52 rfl) rfl (lv_at hl 0 rfl) ?_
                refine og_getI OX12 X hq hH 1 (by decide) rfl kF_X12_250 (dk DX12_like_0 53 rfl) ?_
                refine og_putI OX12 X hq hH 35 (by decide) rfl kF_X12_365 rfl rfl rfl (dk DX12_like_0 54 rfl) (fun H locs hH => ?_)
                obtain ⟨t14, e15⟩ : ∃ y, y = oI t7 35 (t7.1 1) := ⟨_, rfl⟩
                rw [← e15] at hH
                replace hF := bnd_e hF e15
                refine lv_iconst (v := 0) X.x X.b (dk DX12_like_0 55 rfl) (by decide) ?_
                refine lv_istore_n (lv' := [(2, .int 0), (0, .ref (q 53)), (1, .int a0)]) X.x X.b (dk DX12_like_0 56 rfl) rfl hl (by decide) rfl (fun ls hl => ?_)
                replace hl : lv_has ls 3 [(0, .ref (q 53)), (1, .int a0), (2, .int 0)] := lv_sub hl [1, 2, 0] rfl
                obtain ⟨x23, e24, hF⟩ := bd hF
                replace hl : lv_has ls 3 [(0, .ref (q 53)), (1, .int a0), (2, .int 0)] := lv_sub hl [0, 1, 2] rfl
                refine w_X12_like_103 hq X a0 _ _ e24 _ _ _ hH hl (fun H locs ls hH hl => ?_)
                refine lv_iconst (v := 0) X.x X.b (dk DX12_like_1 15 rfl) (by decide) ?_
                refine lv_istore_n (lv' := [(2, .int 0), (0, .ref (q 53))]) X.x X.b (dk DX12_like_1 16 rfl) rfl hl (by decide) rfl (fun ls hl => ?_)
                replace hl : lv_has ls 3 [(0, .ref (q 53)), (2, .int 0)] := lv_sub hl [1, 0] rfl
                obtain ⟨x32, e33, hF⟩ := bd hF
                replace hl : lv_has ls 3 [(0, .ref (q 53)), (2, .int 0)] := lv_sub hl [0, 1] rfl
                refine w_X12_like_136 hq X _ _ e33 _ _ _ hH hl (fun H locs ls hH hl => ?_)
                refine lv_aload_n X.x X.b (dk DX12_like_1 27 rfl) rfl (lv_at hl 0 rfl) ?_
                refine lv_lconst (v := 0) X.x X.b (dk DX12_like_1 28 rfl) (by decide) ?_
                refine og_putJ OX12 X hq hH 37 (by decide) rfl kF_X12_375 rfl rfl rfl (dk DX12_like_1 29 rfl) (fun H locs hH => ?_)
                obtain ⟨t35, e36⟩ : ∃ y, y = oJ x32 37 0 := ⟨_, rfl⟩
                rw [← e36] at hH
                replace hF := bnd_e hF e36
                refine lv_aload_n X.x X.b (dk DX12_like_1 30 rfl) rfl (lv_at hl 0 rfl) ?_
                refine lv_iconst (v := 0) X.x X.b (dk DX12_like_1 31 rfl) (by decide) ?_
                obtain ⟨x37, e38, hF⟩ := bd hF
                refine mr_ci0 hH ⟨rfl, rfl⟩ (mr_runV (As := [.int 0]) (rest := []) X hH (c_X12_canGo hq 40 t35 0 _ e38) ((oset_at hq (Nat.le_refl _) ohas_N).trans (congrArg some ocell_N)) OX12.1 kM_X12_391 kI_X12_canGo kS_X12_canGo kN_X12 kC_X12_canGo hd_X12_canGo ⟨Nat.le_of_ble_eq_true rfl, Nat.le_of_ble_eq_true rfl⟩ rfl hl.1 (Nat.le_of_ble_eq_true rfl) (dk DX12_like_1 32 rfl) ⟨Nat.zero_le _, Nat.zero_le _⟩) (fun r h1 H locs hp hH => ?_)
                obtain ⟨hr1, hr2⟩ := hp; rw [hr1]; rw [hr2] at hH; clear hr1 hr2
                obtain ⟨v39, t40⟩ := x37
                try dsimp only at hF hH ⊢
                refine lv_if_eq (tgt := 172) X.x X.b (dk DX12_like_1 33 rfl) (by decide) (fun c41 => ?_) (fun c41 => ?_)
                · replace hF := if_t hF c41
                  refine lv_iconst (v := 0) X.x X.b (dk DX12_like_1 36 rfl) (by decide) ?_
                  cases sm hF
                  exact mr_iret X hr hlk hH ⟨rfl, rfl⟩ (dk DX12_like_1 37 rfl)
                · replace hF := if_f hF c41
                  refine lv_iconst (v := 1) X.x X.b (dk DX12_like_1 34 rfl) (by decide) ?_
                  refine lv_goto (tgt := 173) X.x X.b (dk DX12_like_1 35 rfl) (by decide) ?_
                  cases sm hF
                  exact mr_iret X hr hlk hH ⟨rfl, rfl⟩ (dk DX12_like_1 37 rfl)
              · replace hF := if_f hF c13
                refine lv_iconst (v := 0) X.x X.b (dk DX12_like_0 49 rfl) (by decide) ?_
                cases sm hF
                exact mr_iret X hr hlk hH ⟨rfl, rfl⟩ (dk DX12_like_0 50 rfl)
          · replace hF := if_f hF c11
            refine lv_iconst (v := (-1)) X.x X.b (dk DX12_like_0 33 rfl) (by decide) ?_
            cases sm hF
            exact mr_iret X hr hlk hH ⟨rfl, rfl⟩ (dk DX12_like_0 34 rfl)
      · replace hF := if_f hF c9
        refine lv_iconst (v := 0) X.x X.b (dk DX12_like_0 21 rfl) (by decide) ?_
        cases sm hF
        exact mr_iret X hr hlk hH ⟨rfl, rfl⟩ (dk DX12_like_0 22 rfl)
    · replace hF := if_t hF c6
      refine lv_iconst (v := 2) X.x X.b (dk DX12_like_0 14 rfl) (by decide) ?_
      refine lv_goto (tgt := 31) X.x X.b (dk DX12_like_0 15 rfl) (by decide) ?_
      refine og_putI OX12 X hq hH 2 (by decide) rfl kF_X12_106 rfl rfl rfl (dk DX12_like_0 17 rfl) (fun H locs hH => ?_)
      obtain ⟨t42, e43⟩ : ∃ y, y = oI st 2 2 := ⟨_, rfl⟩
      rw [← e43] at hH
      replace hF := bnd_e hF e43
      refine lv_aload_n X.x X.b (dk DX12_like_0 18 rfl) rfl (lv_at hl 0 rfl) ?_
      refine og_getI OX12 X hq hH 2 (by decide) rfl kF_X12_106 (dk DX12_like_0 19 rfl) ?_
      refine lv_if_le (tgt := 43) X.x X.b (dk DX12_like_0 20 rfl) (by decide) (fun c44 => ?_) (fun c44 => ?_)
      · replace hF := if_t hF c44
        refine lv_aload_n X.x X.b (dk DX12_like_0 23 rfl) rfl (lv_at hl 0 rfl) ?_
        refine og_getI OX12 X hq hH 0 (by decide) rfl kF_X12_248 (dk DX12_like_0 24 rfl) ?_
        refine lv_bipush (v := 16) X.x X.b (dk DX12_like_0 25 rfl) (by decide) ?_
        refine lv_icmp_gt (tgt := 63) X.x X.b (dk DX12_like_0 26 rfl) (by decide) (fun c45 => ?_) (fun c45 => ?_)
        · replace hF := if_t hF c45
          refine lv_iconst (v := (-1)) X.x X.b (dk DX12_like_0 33 rfl) (by decide) ?_
          cases sm hF
          exact mr_iret X hr hlk hH ⟨rfl, rfl⟩ (dk DX12_like_0 34 rfl)
        · replace hF := if_f hF c45
          refine lv_aload_n X.x X.b (dk DX12_like_0 27 rfl) rfl (lv_at hl 0 rfl) ?_
          refine og_getR (t := 0) OX12 X hq hH 50 (by decide) rfl kF_X12_97 (dk DX12_like_0 28 rfl) ?_
          refine lv_iload_n X.x X.b (dk DX12_like_0 29 rfl) rfl (lv_at hl 1 rfl) ?_
          refine og_iald X hq hH 50 (by decide) rfl (inb_in c5) (dk DX12_like_0 30 rfl) ?_
          refine lv_bipush (v := 16) X.x X.b (dk DX12_like_0 31 rfl) (by decide) ?_
          refine lv_icmp_le (tgt := 65) X.x X.b (dk DX12_like_0 32 rfl) (by decide) (fun c46 => ?_) (fun c46 => ?_)
          · replace hF := if_t hF c46
            refine lv_aload_n X.x X.b (dk DX12_like_0 35 rfl) rfl (lv_at hl 0 rfl) ?_
            refine og_getI OX12 X hq hH 0 (by decide) rfl kF_X12_248 (dk DX12_like_0 36 rfl) ?_
            refine lv_aload_n X.x X.b (dk DX12_like_0 37 rfl) rfl (lv_at hl 0 rfl) ?_
            refine og_getR (t := 0) OX12 X hq hH 50 (by decide) rfl kF_X12_97 (dk DX12_like_0 38 rfl) ?_
            refine lv_iload_n X.x X.b (dk DX12_like_0 39 rfl) rfl (lv_at hl 1 rfl) ?_
            refine og_iald X hq hH 50 (by decide) rfl (inb_in c5) (dk DX12_like_0 40 rfl) ?_
            refine lv_icmp_ne (tgt := 91) X.x X.b (dk DX12_like_0 41 rfl) (by decide) (fun c47 => ?_) (fun c47 => ?_)
            · replace hF := if_f hF c47
              refine lv_iconst (v := 0) X.x X.b (dk DX12_like_0 49 rfl) (by decide) ?_
              cases sm hF
              exact mr_iret X hr hlk hH ⟨rfl, rfl⟩ (dk DX12_like_0 50 rfl)
            · replace hF := if_t hF c47
              refine lv_aload_n X.x X.b (dk DX12_like_0 42 rfl) rfl (lv_at hl 0 rfl) ?_
              refine og_getI OX12 X hq hH 1 (by decide) rfl kF_X12_250 (dk DX12_like_0 43 rfl) ?_
              refine lv_aload_n X.x X.b (dk DX12_like_0 44 rfl) rfl (lv_at hl 0 rfl) ?_
              refine og_getR (t := 0) OX12 X hq hH 51 (by decide) rfl kF_X12_100 (dk DX12_like_0 45 rfl) ?_
              refine lv_iload_n X.x X.b (dk DX12_like_0 46 rfl) rfl (lv_at hl 1 rfl) ?_
              refine og_iald X hq hH 51 (by decide) rfl (inb_in c5) (dk DX12_like_0 47 rfl) ?_
              refine lv_icmp_eq (tgt := 93) X.x X.b (dk DX12_like_0 48 rfl) (by decide) (fun c48 => ?_) (fun c48 => ?_)
              · replace hF := if_t hF c48
                refine lv_aload_n X.x X.b (dk DX12_like_0 51 rfl) rfl (lv_at hl 0 rfl) ?_
                refine lv_aload_n X.x X.b (dk DX12_like_0 52 rfl) rfl (lv_at hl 0 rfl) ?_
                refine og_getI OX12 X hq hH 1 (by decide) rfl kF_X12_250 (dk DX12_like_0 53 rfl) ?_
                refine og_putI OX12 X hq hH 35 (by decide) rfl kF_X12_365 rfl rfl rfl (dk DX12_like_0 54 rfl) (fun H locs hH => ?_)
                obtain ⟨t49, e50⟩ : ∃ y, y = oI t42 35 (t42.1 1) := ⟨_, rfl⟩
                rw [← e50] at hH
                replace hF := bnd_e hF e50
                refine lv_iconst (v := 0) X.x X.b (dk DX12_like_0 55 rfl) (by decide) ?_
                refine lv_istore_n (lv' := [(2, .int 0), (0, .ref (q 53)), (1, .int a0)]) X.x X.b (dk DX12_like_0 56 rfl) rfl hl (by decide) rfl (fun ls hl => ?_)
                replace hl : lv_has ls 3 [(0, .ref (q 53)), (1, .int a0), (2, .int 0)] := lv_sub hl [1, 2, 0] rfl
                obtain ⟨x51, e52, hF⟩ := bd hF
                replace hl : lv_has ls 3 [(0, .ref (q 53)), (1, .int a0), (2, .int 0)] := lv_sub hl [0, 1, 2] rfl
                refine w_X12_like_103 hq X a0 _ _ e52 _ _ _ hH hl (fun H locs ls hH hl => ?_)
                refine lv_iconst (v := 0) X.x X.b (dk DX12_like_1 15 rfl) (by decide) ?_
                refine lv_istore_n (lv' := [(2, .int 0), (0, .ref (q 53))]) X.x X.b (dk DX12_like_1 16 rfl) rfl hl (by decide) rfl (fun ls hl => ?_)
                replace hl : lv_has ls 3 [(0, .ref (q 53)), (2, .int 0)] := lv_sub hl [1, 0] rfl
                obtain ⟨x54, e55, hF⟩ := bd hF
                replace hl : lv_has ls 3 [(0, .ref (q 53)), (2, .int 0)] := lv_sub hl [0, 1] rfl
                refine w_X12_like_136 hq X _ _ e55 _ _ _ hH hl (fun H locs ls hH hl => ?_)
                refine lv_aload_n X.x X.b (dk DX12_like_1 27 rfl) rfl (lv_at hl 0 rfl) ?_
                refine lv_lconst (v := 0) X.x X.b (dk DX12_like_1 28 rfl) (by decide) ?_
                refine og_putJ OX12 X hq hH 37 (by decide) rfl kF_X12_375 rfl rfl rfl (dk DX12_like_1 29 rfl) (fun H locs hH => ?_)
                obtain ⟨t57, e58⟩ : ∃ y, y = oJ x54 37 0 := ⟨_, rfl⟩
                rw [← e58] at hH
                replace hF := bnd_e hF e58
                refine lv_aload_n X.x X.b (dk DX12_like_1 30 rfl) rfl (lv_at hl 0 rfl) ?_
                refine lv_iconst (v := 0) X.x X.b (dk DX12_like_1 31 rfl) (by decide) ?_
                obtain ⟨x59, e60, hF⟩ := bd hF
                refine mr_ci0 hH ⟨rfl, rfl⟩ (mr_runV (As := [.int 0]) (rest := []) X hH (c_X12_canGo hq 40 t57 0 _ e60) ((oset_at hq (Nat.le_refl _) ohas_N).trans (congrArg some ocell_N)) OX12.1 kM_X12_391 kI_X12_canGo kS_X12_canGo kN_X12 kC_X12_canGo hd_X12_canGo ⟨Nat.le_of_ble_eq_true rfl, Nat.le_of_ble_eq_true rfl⟩ rfl hl.1 (Nat.le_of_ble_eq_true rfl) (dk DX12_like_1 32 rfl) ⟨Nat.zero_le _, Nat.zero_le _⟩) (fun r h1 H locs hp hH => ?_)
                obtain ⟨hr1, hr2⟩ := hp; rw [hr1]; rw [hr2] at hH; clear hr1 hr2
                obtain ⟨v61, t62⟩ := x59
                try dsimp only at hF hH ⊢
                refine lv_if_eq (tgt := 172) X.x X.b (dk DX12_like_1 33 rfl) (by decide) (fun c63 => ?_) (fun c63 => ?_)
                · replace hF := if_t hF c63
                  refine lv_iconst (v := 0) X.x X.b (dk DX12_like_1 36 rfl) (by decide) ?_
                  cases sm hF
                  exact mr_iret X hr hlk hH ⟨rfl, rfl⟩ (dk DX12_like_1 37 rfl)
                · replace hF := if_f hF c63
                  refine lv_iconst (v := 1) X.x X.b (dk DX12_like_1 34 rfl) (by decide) ?_
                  refine lv_goto (tgt := 173) X.x X.b (dk DX12_like_1 35 rfl) (by decide) ?_
                  cases sm hF
                  exact mr_iret X hr hlk hH ⟨rfl, rfl⟩ (dk DX12_like_1 37 rfl)
              · replace hF := if_f hF c48
                refine lv_iconst (v := 0) X.x X.b (dk DX12_like_0 49 rfl) (by decide) ?_
                cases sm hF
                exact mr_iret X hr hlk hH ⟨rfl, rfl⟩ (dk DX12_like_0 50 rfl)
          · replace hF := if_f hF c46
            refine lv_iconst (v := (-1)) X.x X.b (dk DX12_like_0 33 rfl) (by decide) ?_
            cases sm hF
            exact mr_iret X hr hlk hH ⟨rfl, rfl⟩ (dk DX12_like_0 34 rfl)
      · replace hF := if_f hF c44
        refine lv_iconst (v := 0) X.x X.b (dk DX12_like_0 21 rfl) (by decide) ?_
        cases sm hF
        exact mr_iret X hr hlk hH ⟨rfl, rfl⟩ (dk DX12_like_0 22 rfl)
  · replace hF := if_t hF c4
    refine lv_iconst (v := 1) X.x X.b (dk DX12_like_0 7 rfl) (by decide) ?_
    refine lv_goto (tgt := 31) X.x X.b (dk DX12_like_0 8 rfl) (by decide) ?_
    refine og_putI OX12 X hq hH 2 (by decide) rfl kF_X12_106 rfl rfl rfl (dk DX12_like_0 17 rfl) (fun H locs hH => ?_)
    obtain ⟨t64, e65⟩ : ∃ y, y = oI st 2 1 := ⟨_, rfl⟩
    rw [← e65] at hH
    replace hF := bnd_e hF e65
    refine lv_aload_n X.x X.b (dk DX12_like_0 18 rfl) rfl (lv_at hl 0 rfl) ?_
    refine og_getI OX12 X hq hH 2 (by decide) rfl kF_X12_106 (dk DX12_like_0 19 rfl) ?_
    refine lv_if_le (tgt := 43) X.x X.b (dk DX12_like_0 20 rfl) (by decide) (fun c66 => ?_) (fun c66 => ?_)
    · replace hF := if_t hF c66
      refine lv_aload_n X.x X.b (dk DX12_like_0 23 rfl) rfl (lv_at hl 0 rfl) ?_
      refine og_getI OX12 X hq hH 0 (by decide) rfl kF_X12_248 (dk DX12_like_0 24 rfl) ?_
      refine lv_bipush (v := 16) X.x X.b (dk DX12_like_0 25 rfl) (by decide) ?_
      refine lv_icmp_gt (tgt := 63) X.x X.b (dk DX12_like_0 26 rfl) (by decide) (fun c67 => ?_) (fun c67 => ?_)
      · replace hF := if_t hF c67
        refine lv_iconst (v := (-1)) X.x X.b (dk DX12_like_0 33 rfl) (by decide) ?_
        cases sm hF
        exact mr_iret X hr hlk hH ⟨rfl, rfl⟩ (dk DX12_like_0 34 rfl)
      · replace hF := if_f hF c67
        refine lv_aload_n X.x X.b (dk DX12_like_0 27 rfl) rfl (lv_at hl 0 rfl) ?_
        refine og_getR (t := 0) OX12 X hq hH 50 (by decide) rfl kF_X12_97 (dk DX12_like_0 28 rfl) ?_
        refine lv_iload_n X.x X.b (dk DX12_like_0 29 rfl) rfl (lv_at hl 1 rfl) ?_
        obtain ⟨c68, hF⟩ := gd hF
        refine og_iald X hq hH 50 (by decide) rfl (inb_in c68) (dk DX12_like_0 30 rfl) ?_
        refine lv_bipush (v := 16) X.x X.b (dk DX12_like_0 31 rfl) (by decide) ?_
        refine lv_icmp_le (tgt := 65) X.x X.b (dk DX12_like_0 32 rfl) (by decide) (fun c69 => ?_) (fun c69 => ?_)
        · replace hF := if_t hF c69
          refine lv_aload_n X.x X.b (dk DX12_like_0 35 rfl) rfl (lv_at hl 0 rfl) ?_
          refine og_getI OX12 X hq hH 0 (by decide) rfl kF_X12_248 (dk DX12_like_0 36 rfl) ?_
          refine lv_aload_n X.x X.b (dk DX12_like_0 37 rfl) rfl (lv_at hl 0 rfl) ?_
          refine og_getR (t := 0) OX12 X hq hH 50 (by decide) rfl kF_X12_97 (dk DX12_like_0 38 rfl) ?_
          refine lv_iload_n X.x X.b (dk DX12_like_0 39 rfl) rfl (lv_at hl 1 rfl) ?_
          refine og_iald X hq hH 50 (by decide) rfl (inb_in c68) (dk DX12_like_0 40 rfl) ?_
          refine lv_icmp_ne (tgt := 91) X.x X.b (dk DX12_like_0 41 rfl) (by decide) (fun c70 => ?_) (fun c70 => ?_)
          · replace hF := if_f hF c70
            refine lv_iconst (v := 0) X.x X.b (dk DX12_like_0 49 rfl) (by decide) ?_
            cases sm hF
            exact mr_iret X hr hlk hH ⟨rfl, rfl⟩ (dk DX12_like_0 50 rfl)
          · replace hF := if_t hF c70
            refine lv_aload_n X.x X.b (dk DX12_like_0 42 rfl) rfl (lv_at hl 0 rfl) ?_
            refine og_getI OX12 X hq hH 1 (by decide) rfl kF_X12_250 (dk DX12_like_0 43 rfl) ?_
            refine lv_aload_n X.x X.b (dk DX12_like_0 44 rfl) rfl (lv_at hl 0 rfl) ?_
            refine og_getR (t := 0) OX12 X hq hH 51 (by decide) rfl kF_X12_100 (dk DX12_like_0 45 rfl) ?_
            refine lv_iload_n X.x X.b (dk DX12_like_0 46 rfl) rfl (lv_at hl 1 rfl) ?_
            refine og_iald X hq hH 51 (by decide) rfl (inb_in c68) (dk DX12_like_0 47 rfl) ?_
            refine lv_icmp_eq (tgt := 93) X.x X.b (dk DX12_like_0 48 rfl) (by decide) (fun c71 => ?_) (fun c71 => ?_)
            · replace hF := if_t hF c71
              refine lv_aload_n X.x X.b (dk DX12_like_0 51 rfl) rfl (lv_at hl 0 rfl) ?_
              refine lv_aload_n X.x X.b (dk DX12_like_0 52 rfl) rfl (lv_at hl 0 rfl) ?_
              refine og_getI OX12 X hq hH 1 (by decide) rfl kF_X12_250 (dk DX12_like_0 53 rfl) ?_
              refine og_putI OX12 X hq hH 35 (by decide) rfl kF_X12_365 rfl rfl rfl (dk DX12_like_0 54 rfl) (fun H locs hH => ?_)
              obtain ⟨t72, e73⟩ : ∃ y, y = oI t64 35 (t64.1 1) := ⟨_, rfl⟩
              rw [← e73] at hH
              replace hF := bnd_e hF e73
              refine lv_iconst (v := 0) X.x X.b (dk DX12_like_0 55 rfl) (by decide) ?_
              refine lv_istore_n (lv' := [(2, .int 0), (0, .ref (q 53)), (1, .int a0)]) X.x X.b (dk DX12_like_0 56 rfl) rfl hl (by decide) rfl (fun ls hl => ?_)
              replace hl : lv_has ls 3 [(0, .ref (q 53)), (1, .int a0), (2, .int 0)] := lv_sub hl [1, 2, 0] rfl
              obtain ⟨x74, e75, hF⟩ := bd hF
              replace hl : lv_has ls 3 [(0, .ref (q 53)), (1, .int a0), (2, .int 0)] := lv_sub hl [0, 1, 2] rfl
              refine w_X12_like_103 hq X a0 _ _ e75 _ _ _ hH hl (fun H locs ls hH hl => ?_)
              refine lv_iconst (v := 0) X.x X.b (dk DX12_like_1 15 rfl) (by decide) ?_
              refine lv_istore_n (lv' := [(2, .int 0), (0, .ref (q 53))]) X.x X.b (dk DX12_like_1 16 rfl) rfl hl (by decide) rfl (fun ls hl => ?_)
              replace hl : lv_has ls 3 [(0, .ref (q 53)), (2, .int 0)] := lv_sub hl [1, 0] rfl
              obtain ⟨x77, e78, hF⟩ := bd hF
              replace hl : lv_has ls 3 [(0, .ref (q 53)), (2, .int 0)] := lv_sub hl [0, 1] rfl
              refine w_X12_like_136 hq X _ _ e78 _ _ _ hH hl (fun H locs ls hH hl => ?_)
              refine lv_aload_n X.x X.b (dk DX12_like_1 27 rfl) rfl (lv_at hl 0 rfl) ?_
              refine lv_lconst (v := 0) X.x X.b (dk DX12_like_1 28 rfl) (by decide) ?_
              refine og_putJ OX12 X hq hH 37 (by decide) rfl kF_X12_375 rfl rfl rfl (dk DX12_like_1 29 rfl) (fun H locs hH => ?_)
              obtain ⟨t80, e81⟩ : ∃ y, y = oJ x77 37 0 := ⟨_, rfl⟩
              rw [← e81] at hH
              replace hF := bnd_e hF e81
              refine lv_aload_n X.x X.b (dk DX12_like_1 30 rfl) rfl (lv_at hl 0 rfl) ?_
              refine lv_iconst (v := 0) X.x X.b (dk DX12_like_1 31 rfl) (by decide) ?_
              obtain ⟨x82, e83, hF⟩ := bd hF
              refine mr_ci0 hH ⟨rfl, rfl⟩ (mr_runV (As := [.int 0]) (rest := []) X hH (c_X12_canGo hq 40 t80 0 _ e83) ((oset_at hq (Nat.le_refl _) ohas_N).trans (congrArg some ocell_N)) OX12.1 kM_X12_391 kI_X12_canGo kS_X12_canGo kN_X12 kC_X12_canGo hd_X12_canGo ⟨Nat.le_of_ble_eq_true rfl, Nat.le_of_ble_eq_true rfl⟩ rfl hl.1 (Nat.le_of_ble_eq_true rfl) (dk DX12_like_1 32 rfl) ⟨Nat.zero_le _, Nat.zero_le _⟩) (fun r h1 H locs hp hH => ?_)
              obtain ⟨hr1, hr2⟩ := hp; rw [hr1]; rw [hr2] at hH; clear hr1 hr2
              obtain ⟨v84, t85⟩ := x82
              try dsimp only at hF hH ⊢
              refine lv_if_eq (tgt := 172) X.x X.b (dk DX12_like_1 33 rfl) (by decide) (fun c86 => ?_) (fun c86 => ?_)
              · replace hF := if_t hF c86
                refine lv_iconst (v := 0) X.x X.b (dk DX12_like_1 36 rfl) (by decide) ?_
                cases sm hF
                exact mr_iret X hr hlk hH ⟨rfl, rfl⟩ (dk DX12_like_1 37 rfl)
              · replace hF := if_f hF c86
                refine lv_iconst (v := 1) X.x X.b (dk DX12_like_1 34 rfl) (by decide) ?_
                refine lv_goto (tgt := 173) X.x X.b (dk DX12_like_1 35 rfl) (by decide) ?_
                cases sm hF
                exact mr_iret X hr hlk hH ⟨rfl, rfl⟩ (dk DX12_like_1 37 rfl)
            · replace hF := if_f hF c71
              refine lv_iconst (v := 0) X.x X.b (dk DX12_like_0 49 rfl) (by decide) ?_
              cases sm hF
              exact mr_iret X hr hlk hH ⟨rfl, rfl⟩ (dk DX12_like_0 50 rfl)
        · replace hF := if_f hF c69
          refine lv_iconst (v := (-1)) X.x X.b (dk DX12_like_0 33 rfl) (by decide) ?_
          cases sm hF
          exact mr_iret X hr hlk hH ⟨rfl, rfl⟩ (dk DX12_like_0 34 rfl)
    · replace hF := if_f hF c66
      refine lv_iconst (v := 0) X.x X.b (dk DX12_like_0 21 rfl) (by decide) ?_
      cases sm hF
      exact mr_iret X hr hlk hH ⟨rfl, rfl⟩ (dk DX12_like_0 22 rfl)
-- X12_keeps
abbrev rm_X12_keeps : Room := { frames := 0, cells := 0, slots := 0, locals := 0 }
theorem hd_X12_keeps : mHd yX12_keeps 4 := ⟨by decide +kernel, by decide +kernel, by decide +kernel⟩
theorem DX12_keeps_0 : ∀ t ∈ ([(0, .aload_n 2, 1), (1, .iload 4, 2), (3, .aload_n 0, 1), (4, .getfield 248, 3), (7, .iastore, 1), (8, .aload_n 3, 1), (9, .iload 4, 2), (11, .aload_n 0, 1), (12, .getfield 250, 3), (15, .iastore, 1), (16, .iconst 0, 1), (17, .istore 5, 2), (19, .iload 5, 2), (21, .aload_n 0, 1), (22, .getfield 250, 3), (25, .if_icmp .ge 26, 3), (28, .aload_n 1, 1), (29, .bipush 64, 2), (31, .iload 4, 2), (33, .imul, 1), (34, .iload 5, 2), (36, .iadd, 1), (37, .aload_n 0, 1), (38, .getfield 7, 3), (41, .iload 5, 2), (43, .laload, 1), (44, .lastore, 1), (45, .iinc 5 1, 3), (48, .goto (-29), 3), (51, .return_, 1)] : List (Nat × Instr × Nat)), decode cX12_keeps t.1 = .ok (t.2.1, t.2.2) := by decide +kernel
noncomputable def f_X12_keeps_19 (a0 : Nat) (na0 : Nat) (a1 : Nat) (na1 : Nat) (a2 : Nat) (na2 : Nat) (b4 : Int32) : (OS × Int32) → Option ((OS × Int32) ⊕ (OS)) := fun z => match z with | (s_t, b5) => (if (s_t.1 1) ≤ b5 then some (.inr s_t) else if inb b5 64 = true then if inb (((64 : Int32) * b4) + b5) na0 = true then bnd (oB s_t a0 (vp_updL (s_t.2.2.2 a0) (((64 : Int32) * b4) + b5 : Int32).toNatClampNeg (s_t.2.2.2 3 (b5 : Int32).toNatClampNeg))) (fun t10 => bnd (b5 + 1 : Int32) (fun v12 => some (.inl ((t10, v12))))) else none else none)
noncomputable def f_X12_keeps (st : OS) (a0 : Nat) (na0 : Nat) (a1 : Nat) (na1 : Nat) (a2 : Nat) (na2 : Nat) (a3 : Int32) : Option (OS) := if inb a3 na1 = true then bnd (oA st a1 (upd (st.2.2.1 a1) (a3 : Int32).toNatClampNeg (st.1 0))) (fun t2 => if inb a3 na2 = true then bnd (oA t2 a2 (upd (t2.2.2.1 a2) (a3 : Int32).toNatClampNeg (t2.1 1))) (fun t5 => (lpv (f_X12_keeps_19 a0 na0 a1 na1 a2 na2 a3) ((t5, 0))).bind (fun x14 => some x14)) else none) else none
set_option maxHeartbeats 4000000 in
set_option maxRecDepth 100000 in
theorem w_X12_keeps_19 {p : Program} {l : Launch} {e : Env} {s : State} {m : MethodId} {args : Array Value} {below : List Frame} {meth : Method} {c : Code} {Q : State → Prop} {G : mG} {h : mM} {q : Nat → Nat} {a0 : Nat} {na0 : Nat} {a1 : Nat} {na1 : Nat} {a2 : Nat} {na2 : Nat} (hq : oinj LX12 q) (hka0 : a0 < 53) (hsa0 : LX12.2.2 a0 = (3, na0)) (hka1 : a1 < 53) (hsa1 : LX12.2.2 a1 = (2, na1)) (hka2 : a2 < 53) (hsa2 : LX12.2.2 a2 = (2, na2)) (X : mX G p m c cX12_keeps 6 s args RX12) (b4 : Int32) : ∀ (z : OS × Int32) (r : OS), lpv (f_X12_keeps_19 a0 na0 a1 na1 a2 na2 b4) z = some r → ∀ (H : Heap) (locs : List Loc) (ls : Array Slot), mH G (oset LX12 G q z.1 h) s.heap H locs → lv_has ls 6 [(0, .ref (q 53)), (1, .ref (q a0)), (4, .int b4), (5, .int z.2)] → (∀ (H : Heap) (locs : List Loc) (ls : Array Slot), mH G (oset LX12 G q r h) s.heap H locs → lv_has ls 6 [] → W p l e rm_X12_keeps s m args below meth c H locs 0 0 Q (F0 m 51 ls [])) → W p l e rm_X12_keeps s m args below meth c H locs 0 0 Q (F0 m 19 ls []) := by
  refine lpv_rec ?_
  intro z r x hF hx H locs ls hH hl K0
  obtain ⟨s_t, b5⟩ := z
  dsimp only [f_X12_keeps_19] at hF
  try dsimp only at hH hl
  refine lv_iload X.x X.b (dk DX12_keeps_0 12 rfl) (lv_at hl 3 rfl) ?_
  refine lv_aload_n X.x X.b (dk DX12_keeps_0 13 rfl) rfl (lv_at hl 0 rfl) ?_
  refine og_getI OX12 X hq hH 1 (by decide) rfl kF_X12_250 (dk DX12_keeps_0 14 rfl) ?_
  refine lv_icmp_ge (tgt := 51) X.x X.b (dk DX12_keeps_0 15 rfl) (by decide) (fun c7 => ?_) (fun c7 => ?_)
  · replace hF := if_t hF c7
    have hr9 := lp_r hF hx
    subst hr9
    exact K0 _ _ _ hH (lv_sub hl [] rfl)
  · replace hF := if_f hF c7
    refine lv_aload_n X.x X.b (dk DX12_keeps_0 16 rfl) rfl (lv_at hl 1 rfl) ?_
    refine lv_bipush (v := 64) X.x X.b (dk DX12_keeps_0 17 rfl) (by decide) ?_
    refine lv_iload X.x X.b (dk DX12_keeps_0 18 rfl) (lv_at hl 2 rfl) ?_
    refine lv_imul X.x X.b (dk DX12_keeps_0 19 rfl) ?_
    refine lv_iload X.x X.b (dk DX12_keeps_0 20 rfl) (lv_at hl 3 rfl) ?_
    refine lv_iadd X.x X.b (dk DX12_keeps_0 21 rfl) ?_
    refine lv_aload_n X.x X.b (dk DX12_keeps_0 22 rfl) rfl (lv_at hl 0 rfl) ?_
    refine og_getR (t := 1) OX12 X hq hH 3 (by decide) rfl kF_X12_7 (dk DX12_keeps_0 23 rfl) ?_
    refine lv_iload X.x X.b (dk DX12_keeps_0 24 rfl) (lv_at hl 3 rfl) ?_
    obtain ⟨c8, hF⟩ := gd hF
    refine og_lald X hq hH 3 (by decide) rfl (inb_in c8) (dk DX12_keeps_0 25 rfl) ?_
    obtain ⟨c9, hF⟩ := gd hF
    refine og_last X hq hH a0 hka0 hsa0 (inb_in c9) (dk DX12_keeps_0 26 rfl) (fun H locs hH => ?_)
    obtain ⟨t10, e11⟩ : ∃ y, y = oB s_t a0 (vp_updL (s_t.2.2.2 a0) (((64 : Int32) * b4) + b5 : Int32).toNatClampNeg (s_t.2.2.2 3 (b5 : Int32).toNatClampNeg)) := ⟨_, rfl⟩
    rw [← e11] at hH
    replace hF := bnd_e hF e11
    obtain ⟨v12, e13⟩ : ∃ y : Int32, y = b5 + 1 := ⟨_, rfl⟩
    replace hF := bnd_e hF e13
    refine lv_iinc (v := v12) (lv' := [(5, .int v12), (0, .ref (q 53)), (1, .ref (q a0)), (4, .int b4)]) X.x X.b (dk DX12_keeps_0 27 rfl) hl (k := 3) rfl (by rw [e13]; rfl) (by decide) rfl (fun ls hl => ?_)
    replace hl : lv_has ls 6 [(0, .ref (q 53)), (1, .ref (q a0)), (4, .int b4), (5, .int v12)] := lv_sub hl [1, 2, 3, 0] rfl
    refine lv_goto (tgt := 19) X.x X.b (dk DX12_keeps_0 28 rfl) (by decide) ?_
    exact (lp_l hF hx) _ _ _ hH (lv_sub hl [0, 1, 2, 3] rfl) K0
set_option maxHeartbeats 4000000 in
set_option maxRecDepth 100000 in
theorem c_X12_keeps {l : Launch} {G : mG} {h : mM} {q : Nat → Nat} {a0 : Nat} {na0 : Nat} {a1 : Nat} {na1 : Nat} {a2 : Nat} {na2 : Nat} (hq : oinj LX12 q) (hka0 : a0 < 53) (hsa0 : LX12.2.2 a0 = (3, na0)) (hka1 : a1 < 53) (hsa1 : LX12.2.2 a1 = (2, na1)) (hka2 : a2 < 53) (hsa2 : LX12.2.2 a2 = (2, na2)) {st : OS} {a3 : Int32} {x : OS} (hF : f_X12_keeps st a0 na0 a1 na1 a2 na2 a3 = some x) : cQ l G yX12_keeps cX12_keeps 6 none rm_X12_keeps [.ref (q 53), .ref (q a0), .ref (q a1), .ref (q a2), .int a3] (oset LX12 G q st h) (mQv G (fun h1 => h1 = oset LX12 G q x h)) := by
  refine mp_of (by decide +kernel) (Nat.le_of_ble_eq_true rfl) ?_
  intro p e s m below meth c X hr hlk hH hname ls hl
  dsimp only [f_X12_keeps] at hF
  replace hl : lv_has ls 6 [(0, .ref (q 53)), (1, .ref (q a0)), (2, .ref (q a1)), (3, .ref (q a2)), (4, .int a3)] := hl
  refine lv_aload_n X.x X.b (dk DX12_keeps_0 0 rfl) rfl (lv_at hl 2 rfl) ?_
  refine lv_iload X.x X.b (dk DX12_keeps_0 1 rfl) (lv_at hl 4 rfl) ?_
  refine lv_aload_n X.x X.b (dk DX12_keeps_0 2 rfl) rfl (lv_at hl 0 rfl) ?_
  refine og_getI OX12 X hq hH 0 (by decide) rfl kF_X12_248 (dk DX12_keeps_0 3 rfl) ?_
  obtain ⟨c1, hF⟩ := gd hF
  refine og_iast X hq hH a1 hka1 hsa1 (inb_in c1) (dk DX12_keeps_0 4 rfl) (fun H locs hH => ?_)
  obtain ⟨t2, e3⟩ : ∃ y, y = oA st a1 (upd (st.2.2.1 a1) (a3 : Int32).toNatClampNeg (st.1 0)) := ⟨_, rfl⟩
  rw [← e3] at hH
  replace hF := bnd_e hF e3
  refine lv_aload_n X.x X.b (dk DX12_keeps_0 5 rfl) rfl (lv_at hl 3 rfl) ?_
  refine lv_iload X.x X.b (dk DX12_keeps_0 6 rfl) (lv_at hl 4 rfl) ?_
  refine lv_aload_n X.x X.b (dk DX12_keeps_0 7 rfl) rfl (lv_at hl 0 rfl) ?_
  refine og_getI OX12 X hq hH 1 (by decide) rfl kF_X12_250 (dk DX12_keeps_0 8 rfl) ?_
  obtain ⟨c4, hF⟩ := gd hF
  refine og_iast X hq hH a2 hka2 hsa2 (inb_in c4) (dk DX12_keeps_0 9 rfl) (fun H locs hH => ?_)
  obtain ⟨t5, e6⟩ : ∃ y, y = oA t2 a2 (upd (t2.2.2.1 a2) (a3 : Int32).toNatClampNeg (t2.1 1)) := ⟨_, rfl⟩
  rw [← e6] at hH
  replace hF := bnd_e hF e6
  refine lv_iconst (v := 0) X.x X.b (dk DX12_keeps_0 10 rfl) (by decide) ?_
  refine lv_istore (lv' := [(5, .int 0), (0, .ref (q 53)), (1, .ref (q a0)), (2, .ref (q a1)), (3, .ref (q a2)), (4, .int a3)]) X.x X.b (dk DX12_keeps_0 11 rfl) hl (by decide) rfl (fun ls hl => ?_)
  replace hl : lv_has ls 6 [(0, .ref (q 53)), (1, .ref (q a0)), (4, .int a3), (5, .int 0)] := lv_sub hl [1, 2, 5, 0] rfl
  obtain ⟨x14, e15, hF⟩ := bd hF
  replace hl : lv_has ls 6 [(0, .ref (q 53)), (1, .ref (q a0)), (4, .int a3), (5, .int 0)] := lv_sub hl [0, 1, 2, 3] rfl
  refine w_X12_keeps_19 hq hka0 hsa0 hka1 hsa1 hka2 hsa2 X a3 _ _ e15 _ _ _ hH hl (fun H locs ls hH hl => ?_)
  cases sm hF
  exact mr_vret X hr hlk hH rfl (dk DX12_keeps_0 29 rfl)
-- X12_takes
abbrev rm_X12_takes : Room := { frames := 0, cells := 0, slots := 0, locals := 0 }
theorem hd_X12_takes : mHd yX12_takes 4 := ⟨by decide +kernel, by decide +kernel, by decide +kernel⟩
theorem DX12_takes_0 : ∀ t ∈ ([(0, .aload_n 0, 1), (1, .aload_n 2, 1), (2, .iload 4, 2), (4, .iaload, 1), (5, .putfield 248, 3), (8, .aload_n 0, 1), (9, .aload_n 3, 1), (10, .iload 4, 2), (12, .iaload, 1), (13, .putfield 250, 3), (16, .iconst 0, 1), (17, .istore 5, 2), (19, .iload 5, 2), (21, .aload_n 0, 1), (22, .getfield 250, 3), (25, .if_icmp .ge 26, 3), (28, .aload_n 0, 1), (29, .getfield 7, 3), (32, .iload 5, 2), (34, .aload_n 1, 1), (35, .bipush 64, 2), (37, .iload 4, 2), (39, .imul, 1), (40, .iload 5, 2), (42, .iadd, 1), (43, .laload, 1), (44, .lastore, 1), (45, .iinc 5 1, 3), (48, .goto (-29), 3), (51, .return_, 1)] : List (Nat × Instr × Nat)), decode cX12_takes t.1 = .ok (t.2.1, t.2.2) := by decide +kernel
noncomputable def f_X12_takes_19 (a0 : Nat) (na0 : Nat) (a1 : Nat) (na1 : Nat) (a2 : Nat) (na2 : Nat) (b4 : Int32) : (OS × Int32) → Option ((OS × Int32) ⊕ (OS)) := fun z => match z with | (s_t, b5) => (if (s_t.1 1) ≤ b5 then some (.inr s_t) else if inb (((64 : Int32) * b4) + b5) na0 = true then if inb b5 64 = true then bnd (oB s_t 3 (vp_updL (s_t.2.2.2 3) (b5 : Int32).toNatClampNeg (s_t.2.2.2 a0 (((64 : Int32) * b4) + b5 : Int32).toNatClampNeg))) (fun t10 => bnd (b5 + 1 : Int32) (fun v12 => some (.inl ((t10, v12))))) else none else none)
noncomputable def f_X12_takes (st : OS) (a0 : Nat) (na0 : Nat) (a1 : Nat) (na1 : Nat) (a2 : Nat) (na2 : Nat) (a3 : Int32) : Option (OS) := if inb a3 na1 = true then bnd (oI st 0 (st.2.2.1 a1 (a3 : Int32).toNatClampNeg)) (fun t2 => if inb a3 na2 = true then bnd (oI t2 1 (t2.2.2.1 a2 (a3 : Int32).toNatClampNeg)) (fun t5 => (lpv (f_X12_takes_19 a0 na0 a1 na1 a2 na2 a3) ((t5, 0))).bind (fun x14 => some x14)) else none) else none
set_option maxHeartbeats 4000000 in
set_option maxRecDepth 100000 in
theorem w_X12_takes_19 {p : Program} {l : Launch} {e : Env} {s : State} {m : MethodId} {args : Array Value} {below : List Frame} {meth : Method} {c : Code} {Q : State → Prop} {G : mG} {h : mM} {q : Nat → Nat} {a0 : Nat} {na0 : Nat} {a1 : Nat} {na1 : Nat} {a2 : Nat} {na2 : Nat} (hq : oinj LX12 q) (hka0 : a0 < 53) (hsa0 : LX12.2.2 a0 = (3, na0)) (hka1 : a1 < 53) (hsa1 : LX12.2.2 a1 = (2, na1)) (hka2 : a2 < 53) (hsa2 : LX12.2.2 a2 = (2, na2)) (X : mX G p m c cX12_takes 6 s args RX12) (b4 : Int32) : ∀ (z : OS × Int32) (r : OS), lpv (f_X12_takes_19 a0 na0 a1 na1 a2 na2 b4) z = some r → ∀ (H : Heap) (locs : List Loc) (ls : Array Slot), mH G (oset LX12 G q z.1 h) s.heap H locs → lv_has ls 6 [(0, .ref (q 53)), (1, .ref (q a0)), (4, .int b4), (5, .int z.2)] → (∀ (H : Heap) (locs : List Loc) (ls : Array Slot), mH G (oset LX12 G q r h) s.heap H locs → lv_has ls 6 [] → W p l e rm_X12_takes s m args below meth c H locs 0 0 Q (F0 m 51 ls [])) → W p l e rm_X12_takes s m args below meth c H locs 0 0 Q (F0 m 19 ls []) := by
  refine lpv_rec ?_
  intro z r x hF hx H locs ls hH hl K0
  obtain ⟨s_t, b5⟩ := z
  dsimp only [f_X12_takes_19] at hF
  try dsimp only at hH hl
  refine lv_iload X.x X.b (dk DX12_takes_0 12 rfl) (lv_at hl 3 rfl) ?_
  refine lv_aload_n X.x X.b (dk DX12_takes_0 13 rfl) rfl (lv_at hl 0 rfl) ?_
  refine og_getI OX12 X hq hH 1 (by decide) rfl kF_X12_250 (dk DX12_takes_0 14 rfl) ?_
  refine lv_icmp_ge (tgt := 51) X.x X.b (dk DX12_takes_0 15 rfl) (by decide) (fun c7 => ?_) (fun c7 => ?_)
  · replace hF := if_t hF c7
    have hr9 := lp_r hF hx
    subst hr9
    exact K0 _ _ _ hH (lv_sub hl [] rfl)
  · replace hF := if_f hF c7
    refine lv_aload_n X.x X.b (dk DX12_takes_0 16 rfl) rfl (lv_at hl 0 rfl) ?_
    refine og_getR (t := 1) OX12 X hq hH 3 (by decide) rfl kF_X12_7 (dk DX12_takes_0 17 rfl) ?_
    refine lv_iload X.x X.b (dk DX12_takes_0 18 rfl) (lv_at hl 3 rfl) ?_
    refine lv_aload_n X.x X.b (dk DX12_takes_0 19 rfl) rfl (lv_at hl 1 rfl) ?_
    refine lv_bipush (v := 64) X.x X.b (dk DX12_takes_0 20 rfl) (by decide) ?_
    refine lv_iload X.x X.b (dk DX12_takes_0 21 rfl) (lv_at hl 2 rfl) ?_
    refine lv_imul X.x X.b (dk DX12_takes_0 22 rfl) ?_
    refine lv_iload X.x X.b (dk DX12_takes_0 23 rfl) (lv_at hl 3 rfl) ?_
    refine lv_iadd X.x X.b (dk DX12_takes_0 24 rfl) ?_
    obtain ⟨c8, hF⟩ := gd hF
    refine og_lald X hq hH a0 hka0 hsa0 (inb_in c8) (dk DX12_takes_0 25 rfl) ?_
    obtain ⟨c9, hF⟩ := gd hF
    refine og_last X hq hH 3 (by decide) rfl (inb_in c9) (dk DX12_takes_0 26 rfl) (fun H locs hH => ?_)
    obtain ⟨t10, e11⟩ : ∃ y, y = oB s_t 3 (vp_updL (s_t.2.2.2 3) (b5 : Int32).toNatClampNeg (s_t.2.2.2 a0 (((64 : Int32) * b4) + b5 : Int32).toNatClampNeg)) := ⟨_, rfl⟩
    rw [← e11] at hH
    replace hF := bnd_e hF e11
    obtain ⟨v12, e13⟩ : ∃ y : Int32, y = b5 + 1 := ⟨_, rfl⟩
    replace hF := bnd_e hF e13
    refine lv_iinc (v := v12) (lv' := [(5, .int v12), (0, .ref (q 53)), (1, .ref (q a0)), (4, .int b4)]) X.x X.b (dk DX12_takes_0 27 rfl) hl (k := 3) rfl (by rw [e13]; rfl) (by decide) rfl (fun ls hl => ?_)
    replace hl : lv_has ls 6 [(0, .ref (q 53)), (1, .ref (q a0)), (4, .int b4), (5, .int v12)] := lv_sub hl [1, 2, 3, 0] rfl
    refine lv_goto (tgt := 19) X.x X.b (dk DX12_takes_0 28 rfl) (by decide) ?_
    exact (lp_l hF hx) _ _ _ hH (lv_sub hl [0, 1, 2, 3] rfl) K0
set_option maxHeartbeats 4000000 in
set_option maxRecDepth 100000 in
theorem c_X12_takes {l : Launch} {G : mG} {h : mM} {q : Nat → Nat} {a0 : Nat} {na0 : Nat} {a1 : Nat} {na1 : Nat} {a2 : Nat} {na2 : Nat} (hq : oinj LX12 q) (hka0 : a0 < 53) (hsa0 : LX12.2.2 a0 = (3, na0)) (hka1 : a1 < 53) (hsa1 : LX12.2.2 a1 = (2, na1)) (hka2 : a2 < 53) (hsa2 : LX12.2.2 a2 = (2, na2)) {st : OS} {a3 : Int32} {x : OS} (hF : f_X12_takes st a0 na0 a1 na1 a2 na2 a3 = some x) : cQ l G yX12_takes cX12_takes 6 none rm_X12_takes [.ref (q 53), .ref (q a0), .ref (q a1), .ref (q a2), .int a3] (oset LX12 G q st h) (mQv G (fun h1 => h1 = oset LX12 G q x h)) := by
  refine mp_of (by decide +kernel) (Nat.le_of_ble_eq_true rfl) ?_
  intro p e s m below meth c X hr hlk hH hname ls hl
  dsimp only [f_X12_takes] at hF
  replace hl : lv_has ls 6 [(0, .ref (q 53)), (1, .ref (q a0)), (2, .ref (q a1)), (3, .ref (q a2)), (4, .int a3)] := hl
  refine lv_aload_n X.x X.b (dk DX12_takes_0 0 rfl) rfl (lv_at hl 0 rfl) ?_
  refine lv_aload_n X.x X.b (dk DX12_takes_0 1 rfl) rfl (lv_at hl 2 rfl) ?_
  refine lv_iload X.x X.b (dk DX12_takes_0 2 rfl) (lv_at hl 4 rfl) ?_
  obtain ⟨c1, hF⟩ := gd hF
  refine og_iald X hq hH a1 hka1 hsa1 (inb_in c1) (dk DX12_takes_0 3 rfl) ?_
  refine og_putI OX12 X hq hH 0 (by decide) rfl kF_X12_248 rfl rfl rfl (dk DX12_takes_0 4 rfl) (fun H locs hH => ?_)
  obtain ⟨t2, e3⟩ : ∃ y, y = oI st 0 (st.2.2.1 a1 (a3 : Int32).toNatClampNeg) := ⟨_, rfl⟩
  rw [← e3] at hH
  replace hF := bnd_e hF e3
  refine lv_aload_n X.x X.b (dk DX12_takes_0 5 rfl) rfl (lv_at hl 0 rfl) ?_
  refine lv_aload_n X.x X.b (dk DX12_takes_0 6 rfl) rfl (lv_at hl 3 rfl) ?_
  refine lv_iload X.x X.b (dk DX12_takes_0 7 rfl) (lv_at hl 4 rfl) ?_
  obtain ⟨c4, hF⟩ := gd hF
  refine og_iald X hq hH a2 hka2 hsa2 (inb_in c4) (dk DX12_takes_0 8 rfl) ?_
  refine og_putI OX12 X hq hH 1 (by decide) rfl kF_X12_250 rfl rfl rfl (dk DX12_takes_0 9 rfl) (fun H locs hH => ?_)
  obtain ⟨t5, e6⟩ : ∃ y, y = oI t2 1 (t2.2.2.1 a2 (a3 : Int32).toNatClampNeg) := ⟨_, rfl⟩
  rw [← e6] at hH
  replace hF := bnd_e hF e6
  refine lv_iconst (v := 0) X.x X.b (dk DX12_takes_0 10 rfl) (by decide) ?_
  refine lv_istore (lv' := [(5, .int 0), (0, .ref (q 53)), (1, .ref (q a0)), (2, .ref (q a1)), (3, .ref (q a2)), (4, .int a3)]) X.x X.b (dk DX12_takes_0 11 rfl) hl (by decide) rfl (fun ls hl => ?_)
  replace hl : lv_has ls 6 [(0, .ref (q 53)), (1, .ref (q a0)), (4, .int a3), (5, .int 0)] := lv_sub hl [1, 2, 5, 0] rfl
  obtain ⟨x14, e15, hF⟩ := bd hF
  replace hl : lv_has ls 6 [(0, .ref (q 53)), (1, .ref (q a0)), (4, .int a3), (5, .int 0)] := lv_sub hl [0, 1, 2, 3] rfl
  refine w_X12_takes_19 hq hka0 hsa0 hka1 hsa1 hka2 hsa2 X a3 _ _ e15 _ _ _ hH hl (fun H locs ls hH hl => ?_)
  cases sm hF
  exact mr_vret X hr hlk hH rfl (dk DX12_takes_0 29 rfl)
-- X12_notes
abbrev rm_X12_notes : Room := { frames := 1, cells := 0, slots := 0, locals := 25 }
theorem hd_X12_notes : mHd yX12_notes 0 := ⟨by decide +kernel, by decide +kernel, by decide +kernel⟩
theorem DX12_notes_0 : ∀ t ∈ ([(0, .aload_n 0, 1), (1, .getfield 253, 3), (4, .bipush 20, 2), (6, .if_icmp .ne 93, 3), (9, .iconst 1, 1), (10, .istore_n 1, 1), (11, .iload_n 1, 1), (12, .bipush 20, 2), (14, .if_icmp .ge 75, 3), (17, .aload_n 0, 1), (18, .getfield 72, 3), (21, .iload_n 1, 1), (22, .iconst 1, 1), (23, .isub, 1), (24, .aload_n 0, 1), (25, .getfield 72, 3), (28, .iload_n 1, 1), (29, .iaload, 1), (30, .iastore, 1), (31, .aload_n 0, 1), (32, .getfield 75, 3), (35, .iload_n 1, 1), (36, .iconst 1, 1), (37, .isub, 1), (38, .aload_n 0, 1), (39, .getfield 75, 3), (42, .iload_n 1, 1), (43, .iaload, 1), (44, .iastore, 1), (45, .iconst 0, 1), (46, .istore_n 2, 1), (47, .iload_n 2, 1), (48, .bipush 64, 2), (50, .if_icmp .ge 33, 3), (53, .aload_n 0, 1), (54, .getfield 66, 3), (57, .bipush 64, 2), (59, .iload_n 1, 1), (60, .iconst 1, 1), (61, .isub, 1), (62, .imul, 1), (63, .iload_n 2, 1), (64, .iadd, 1), (65, .aload_n 0, 1), (66, .getfield 66, 3), (69, .bipush 64, 2), (71, .iload_n 1, 1), (72, .imul, 1), (73, .iload_n 2, 1), (74, .iadd, 1), (75, .laload, 1), (76, .lastore, 1), (77, .iinc 2 1, 3), (80, .goto (-33), 3), (83, .iinc 1 1, 3), (86, .goto (-75), 3), (89, .aload_n 0, 1), (90, .dup, 1), (91, .getfield 253, 3), (94, .iconst 1, 1)] : List (Nat × Instr × Nat)), decode cX12_notes t.1 = .ok (t.2.1, t.2.2) := by decide +kernel
theorem DX12_notes_1 : ∀ t ∈ ([(95, .isub, 1), (96, .putfield 253, 3), (99, .aload_n 0, 1), (100, .aload_n 0, 1), (101, .getfield 66, 3), (104, .aload_n 0, 1), (105, .getfield 72, 3), (108, .aload_n 0, 1), (109, .getfield 75, 3), (112, .aload_n 0, 1), (113, .getfield 253, 3), (116, .invokevirtual 410, 3), (119, .aload_n 0, 1), (120, .dup, 1), (121, .getfield 253, 3), (124, .iconst 1, 1), (125, .iadd, 1), (126, .putfield 253, 3), (129, .return_, 1)] : List (Nat × Instr × Nat)), decode cX12_notes t.1 = .ok (t.2.1, t.2.2) := by decide +kernel
noncomputable def f_X12_notes_47 (b1 : Int32) : (OS × Int32) → Option ((OS × Int32) ⊕ (OS)) := fun z => match z with | (s_t, b2) => (if 64 ≤ b2 then some (.inr s_t) else if inb (((64 : Int32) * b1) + b2) 1280 = true then if inb (((64 : Int32) * (b1 - 1)) + b2) 1280 = true then bnd (oB s_t 38 (vp_updL (s_t.2.2.2 38) (((64 : Int32) * (b1 - 1)) + b2 : Int32).toNatClampNeg (s_t.2.2.2 38 (((64 : Int32) * b1) + b2 : Int32).toNatClampNeg))) (fun t17 => bnd (b2 + 1 : Int32) (fun v19 => some (.inl ((t17, v19))))) else none else none)
noncomputable def f_X12_notes_11 : (OS × Int32) → Option ((OS × Int32) ⊕ (OS)) := fun z => match z with | (s_t, b1) => (if 20 ≤ b1 then some (.inr s_t) else if inb b1 20 = true then if inb (b1 - 1) 20 = true then bnd (oA s_t 40 (upd (s_t.2.2.1 40) (b1 - 1 : Int32).toNatClampNeg (s_t.2.2.1 40 (b1 : Int32).toNatClampNeg))) (fun t10 => bnd (oA t10 41 (upd (t10.2.2.1 41) (b1 - 1 : Int32).toNatClampNeg (t10.2.2.1 41 (b1 : Int32).toNatClampNeg))) (fun t12 => (lpv (f_X12_notes_47 b1) ((t12, 0))).bind (fun x21 => bnd (b1 + 1 : Int32) (fun v24 => some (.inl ((x21, v24))))))) else none else none)
noncomputable def f_X12_notes (st : OS) : Option (OS) := (if (st.1 44) = 20 then (lpv (f_X12_notes_11) ((st, 1))).bind (fun x26 => bnd (oI x26 44 ((x26.1 44) - 1)) (fun t29 => (f_X12_keeps t29 38 1280 40 20 41 20 (t29.1 44)).bind (fun x31 => bnd (oI x31 44 ((x31.1 44) + 1)) (fun t34 => some t34)))) else (f_X12_keeps st 38 1280 40 20 41 20 (st.1 44)).bind (fun x2 => bnd (oI x2 44 ((x2.1 44) + 1)) (fun t5 => some t5)))
set_option maxHeartbeats 4000000 in
set_option maxRecDepth 100000 in
theorem w_X12_notes_47 {p : Program} {l : Launch} {e : Env} {s : State} {m : MethodId} {args : Array Value} {below : List Frame} {meth : Method} {c : Code} {Q : State → Prop} {G : mG} {h : mM} {q : Nat → Nat} (hq : oinj LX12 q) (X : mX G p m c cX12_notes 3 s args RX12) (b1 : Int32) : ∀ (z : OS × Int32) (r : OS), lpv (f_X12_notes_47 b1) z = some r → ∀ (H : Heap) (locs : List Loc) (ls : Array Slot), mH G (oset LX12 G q z.1 h) s.heap H locs → lv_has ls 3 [(0, .ref (q 53)), (1, .int b1), (2, .int z.2)] → (∀ (H : Heap) (locs : List Loc) (ls : Array Slot), mH G (oset LX12 G q r h) s.heap H locs → lv_has ls 3 [(0, .ref (q 53)), (1, .int b1)] → W p l e rm_X12_notes s m args below meth c H locs 0 0 Q (F0 m 83 ls [])) → W p l e rm_X12_notes s m args below meth c H locs 0 0 Q (F0 m 47 ls []) := by
  refine lpv_rec ?_
  intro z r x hF hx H locs ls hH hl K0
  obtain ⟨s_t, b2⟩ := z
  dsimp only [f_X12_notes_47] at hF
  try dsimp only at hH hl
  refine lv_iload_n X.x X.b (dk DX12_notes_0 31 rfl) rfl (lv_at hl 2 rfl) ?_
  refine lv_bipush (v := 64) X.x X.b (dk DX12_notes_0 32 rfl) (by decide) ?_
  refine lv_icmp_ge (tgt := 83) X.x X.b (dk DX12_notes_0 33 rfl) (by decide) (fun c14 => ?_) (fun c14 => ?_)
  · replace hF := if_t hF c14
    have hr9 := lp_r hF hx
    subst hr9
    exact K0 _ _ _ hH (lv_sub hl [0, 1] rfl)
  · replace hF := if_f hF c14
    refine lv_aload_n X.x X.b (dk DX12_notes_0 34 rfl) rfl (lv_at hl 0 rfl) ?_
    refine og_getR (t := 1) OX12 X hq hH 38 (by decide) rfl kF_X12_66 (dk DX12_notes_0 35 rfl) ?_
    refine lv_bipush (v := 64) X.x X.b (dk DX12_notes_0 36 rfl) (by decide) ?_
    refine lv_iload_n X.x X.b (dk DX12_notes_0 37 rfl) rfl (lv_at hl 1 rfl) ?_
    refine lv_iconst (v := 1) X.x X.b (dk DX12_notes_0 38 rfl) (by decide) ?_
    refine lv_isub X.x X.b (dk DX12_notes_0 39 rfl) ?_
    refine lv_imul X.x X.b (dk DX12_notes_0 40 rfl) ?_
    refine lv_iload_n X.x X.b (dk DX12_notes_0 41 rfl) rfl (lv_at hl 2 rfl) ?_
    refine lv_iadd X.x X.b (dk DX12_notes_0 42 rfl) ?_
    refine lv_aload_n X.x X.b (dk DX12_notes_0 43 rfl) rfl (lv_at hl 0 rfl) ?_
    refine og_getR (t := 1) OX12 X hq hH 38 (by decide) rfl kF_X12_66 (dk DX12_notes_0 44 rfl) ?_
    refine lv_bipush (v := 64) X.x X.b (dk DX12_notes_0 45 rfl) (by decide) ?_
    refine lv_iload_n X.x X.b (dk DX12_notes_0 46 rfl) rfl (lv_at hl 1 rfl) ?_
    refine lv_imul X.x X.b (dk DX12_notes_0 47 rfl) ?_
    refine lv_iload_n X.x X.b (dk DX12_notes_0 48 rfl) rfl (lv_at hl 2 rfl) ?_
    refine lv_iadd X.x X.b (dk DX12_notes_0 49 rfl) ?_
    obtain ⟨c15, hF⟩ := gd hF
    refine og_lald X hq hH 38 (by decide) rfl (inb_in c15) (dk DX12_notes_0 50 rfl) ?_
    obtain ⟨c16, hF⟩ := gd hF
    refine og_last X hq hH 38 (by decide) rfl (inb_in c16) (dk DX12_notes_0 51 rfl) (fun H locs hH => ?_)
    obtain ⟨t17, e18⟩ : ∃ y, y = oB s_t 38 (vp_updL (s_t.2.2.2 38) (((64 : Int32) * (b1 - 1)) + b2 : Int32).toNatClampNeg (s_t.2.2.2 38 (((64 : Int32) * b1) + b2 : Int32).toNatClampNeg)) := ⟨_, rfl⟩
    rw [← e18] at hH
    replace hF := bnd_e hF e18
    obtain ⟨v19, e20⟩ : ∃ y : Int32, y = b2 + 1 := ⟨_, rfl⟩
    replace hF := bnd_e hF e20
    refine lv_iinc (v := v19) (lv' := [(2, .int v19), (0, .ref (q 53)), (1, .int b1)]) X.x X.b (dk DX12_notes_0 52 rfl) hl (k := 2) rfl (by rw [e20]; rfl) (by decide) rfl (fun ls hl => ?_)
    replace hl : lv_has ls 3 [(0, .ref (q 53)), (1, .int b1), (2, .int v19)] := lv_sub hl [1, 2, 0] rfl
    refine lv_goto (tgt := 47) X.x X.b (dk DX12_notes_0 53 rfl) (by decide) ?_
    exact (lp_l hF hx) _ _ _ hH (lv_sub hl [0, 1, 2] rfl) K0
set_option maxHeartbeats 4000000 in
set_option maxRecDepth 100000 in
theorem w_X12_notes_11 {p : Program} {l : Launch} {e : Env} {s : State} {m : MethodId} {args : Array Value} {below : List Frame} {meth : Method} {c : Code} {Q : State → Prop} {G : mG} {h : mM} {q : Nat → Nat} (hq : oinj LX12 q) (X : mX G p m c cX12_notes 3 s args RX12) : ∀ (z : OS × Int32) (r : OS), lpv (f_X12_notes_11) z = some r → ∀ (H : Heap) (locs : List Loc) (ls : Array Slot), mH G (oset LX12 G q z.1 h) s.heap H locs → lv_has ls 3 [(0, .ref (q 53)), (1, .int z.2)] → (∀ (H : Heap) (locs : List Loc) (ls : Array Slot), mH G (oset LX12 G q r h) s.heap H locs → lv_has ls 3 [(0, .ref (q 53))] → W p l e rm_X12_notes s m args below meth c H locs 0 0 Q (F0 m 89 ls [])) → W p l e rm_X12_notes s m args below meth c H locs 0 0 Q (F0 m 11 ls []) := by
  refine lpv_rec ?_
  intro z r x hF hx H locs ls hH hl K0
  obtain ⟨s_t, b1⟩ := z
  dsimp only [f_X12_notes_11] at hF
  try dsimp only at hH hl
  refine lv_iload_n X.x X.b (dk DX12_notes_0 6 rfl) rfl (lv_at hl 1 rfl) ?_
  refine lv_bipush (v := 20) X.x X.b (dk DX12_notes_0 7 rfl) (by decide) ?_
  refine lv_icmp_ge (tgt := 89) X.x X.b (dk DX12_notes_0 8 rfl) (by decide) (fun c7 => ?_) (fun c7 => ?_)
  · replace hF := if_t hF c7
    have hr9 := lp_r hF hx
    subst hr9
    exact K0 _ _ _ hH (lv_sub hl [0] rfl)
  · replace hF := if_f hF c7
    refine lv_aload_n X.x X.b (dk DX12_notes_0 9 rfl) rfl (lv_at hl 0 rfl) ?_
    refine og_getR (t := 0) OX12 X hq hH 40 (by decide) rfl kF_X12_72 (dk DX12_notes_0 10 rfl) ?_
    refine lv_iload_n X.x X.b (dk DX12_notes_0 11 rfl) rfl (lv_at hl 1 rfl) ?_
    refine lv_iconst (v := 1) X.x X.b (dk DX12_notes_0 12 rfl) (by decide) ?_
    refine lv_isub X.x X.b (dk DX12_notes_0 13 rfl) ?_
    refine lv_aload_n X.x X.b (dk DX12_notes_0 14 rfl) rfl (lv_at hl 0 rfl) ?_
    refine og_getR (t := 0) OX12 X hq hH 40 (by decide) rfl kF_X12_72 (dk DX12_notes_0 15 rfl) ?_
    refine lv_iload_n X.x X.b (dk DX12_notes_0 16 rfl) rfl (lv_at hl 1 rfl) ?_
    obtain ⟨c8, hF⟩ := gd hF
    refine og_iald X hq hH 40 (by decide) rfl (inb_in c8) (dk DX12_notes_0 17 rfl) ?_
    obtain ⟨c9, hF⟩ := gd hF
    refine og_iast X hq hH 40 (by decide) rfl (inb_in c9) (dk DX12_notes_0 18 rfl) (fun H locs hH => ?_)
    obtain ⟨t10, e11⟩ : ∃ y, y = oA s_t 40 (upd (s_t.2.2.1 40) (b1 - 1 : Int32).toNatClampNeg (s_t.2.2.1 40 (b1 : Int32).toNatClampNeg)) := ⟨_, rfl⟩
    rw [← e11] at hH
    replace hF := bnd_e hF e11
    refine lv_aload_n X.x X.b (dk DX12_notes_0 19 rfl) rfl (lv_at hl 0 rfl) ?_
    refine og_getR (t := 0) OX12 X hq hH 41 (by decide) rfl kF_X12_75 (dk DX12_notes_0 20 rfl) ?_
    refine lv_iload_n X.x X.b (dk DX12_notes_0 21 rfl) rfl (lv_at hl 1 rfl) ?_
    refine lv_iconst (v := 1) X.x X.b (dk DX12_notes_0 22 rfl) (by decide) ?_
    refine lv_isub X.x X.b (dk DX12_notes_0 23 rfl) ?_
    refine lv_aload_n X.x X.b (dk DX12_notes_0 24 rfl) rfl (lv_at hl 0 rfl) ?_
    refine og_getR (t := 0) OX12 X hq hH 41 (by decide) rfl kF_X12_75 (dk DX12_notes_0 25 rfl) ?_
    refine lv_iload_n X.x X.b (dk DX12_notes_0 26 rfl) rfl (lv_at hl 1 rfl) ?_
    refine og_iald X hq hH 41 (by decide) rfl (inb_in c8) (dk DX12_notes_0 27 rfl) ?_
    refine og_iast X hq hH 41 (by decide) rfl (inb_in c9) (dk DX12_notes_0 28 rfl) (fun H locs hH => ?_)
    obtain ⟨t12, e13⟩ : ∃ y, y = oA t10 41 (upd (t10.2.2.1 41) (b1 - 1 : Int32).toNatClampNeg (t10.2.2.1 41 (b1 : Int32).toNatClampNeg)) := ⟨_, rfl⟩
    rw [← e13] at hH
    replace hF := bnd_e hF e13
    refine lv_iconst (v := 0) X.x X.b (dk DX12_notes_0 29 rfl) (by decide) ?_
    refine lv_istore_n (lv' := [(2, .int 0), (0, .ref (q 53)), (1, .int b1)]) X.x X.b (dk DX12_notes_0 30 rfl) rfl hl (by decide) rfl (fun ls hl => ?_)
    replace hl : lv_has ls 3 [(0, .ref (q 53)), (1, .int b1), (2, .int 0)] := lv_sub hl [1, 2, 0] rfl
    obtain ⟨x21, e22, hF⟩ := bd hF
    replace hl : lv_has ls 3 [(0, .ref (q 53)), (1, .int b1), (2, .int 0)] := lv_sub hl [0, 1, 2] rfl
    refine w_X12_notes_47 hq X b1 _ _ e22 _ _ _ hH hl (fun H locs ls hH hl => ?_)
    obtain ⟨v24, e25⟩ : ∃ y : Int32, y = b1 + 1 := ⟨_, rfl⟩
    replace hF := bnd_e hF e25
    refine lv_iinc (v := v24) (lv' := [(1, .int v24), (0, .ref (q 53))]) X.x X.b (dk DX12_notes_0 54 rfl) hl (k := 1) rfl (by rw [e25]; rfl) (by decide) rfl (fun ls hl => ?_)
    replace hl : lv_has ls 3 [(0, .ref (q 53)), (1, .int v24)] := lv_sub hl [1, 0] rfl
    refine lv_goto (tgt := 11) X.x X.b (dk DX12_notes_0 55 rfl) (by decide) ?_
    exact (lp_l hF hx) _ _ _ hH (lv_sub hl [0, 1] rfl) K0
set_option maxHeartbeats 4000000 in
set_option maxRecDepth 100000 in
theorem c_X12_notes {l : Launch} {G : mG} {h : mM} {q : Nat → Nat} (hq : oinj LX12 q) {st : OS} {x : OS} (hF : f_X12_notes st = some x) : cQ l G yX12_notes cX12_notes 3 none rm_X12_notes [.ref (q 53)] (oset LX12 G q st h) (mQv G (fun h1 => h1 = oset LX12 G q x h)) := by
  refine mp_of (by decide +kernel) (Nat.le_of_ble_eq_true rfl) ?_
  intro p e s m below meth c X hr hlk hH hname ls hl
  dsimp only [f_X12_notes] at hF
  replace hl : lv_has ls 3 [(0, .ref (q 53))] := hl
  refine lv_aload_n X.x X.b (dk DX12_notes_0 0 rfl) rfl (lv_at hl 0 rfl) ?_
  refine og_getI OX12 X hq hH 44 (by decide) rfl kF_X12_253 (dk DX12_notes_0 1 rfl) ?_
  refine lv_bipush (v := 20) X.x X.b (dk DX12_notes_0 2 rfl) (by decide) ?_
  refine lv_icmp_ne (tgt := 99) X.x X.b (dk DX12_notes_0 3 rfl) (by decide) (fun c1 => ?_) (fun c1 => ?_)
  · replace hF := if_f hF c1
    refine lv_aload_n X.x X.b (dk DX12_notes_1 2 rfl) rfl (lv_at hl 0 rfl) ?_
    refine lv_aload_n X.x X.b (dk DX12_notes_1 3 rfl) rfl (lv_at hl 0 rfl) ?_
    refine og_getR (t := 1) OX12 X hq hH 38 (by decide) rfl kF_X12_66 (dk DX12_notes_1 4 rfl) ?_
    refine lv_aload_n X.x X.b (dk DX12_notes_1 5 rfl) rfl (lv_at hl 0 rfl) ?_
    refine og_getR (t := 0) OX12 X hq hH 40 (by decide) rfl kF_X12_72 (dk DX12_notes_1 6 rfl) ?_
    refine lv_aload_n X.x X.b (dk DX12_notes_1 7 rfl) rfl (lv_at hl 0 rfl) ?_
    refine og_getR (t := 0) OX12 X hq hH 41 (by decide) rfl kF_X12_75 (dk DX12_notes_1 8 rfl) ?_
    refine lv_aload_n X.x X.b (dk DX12_notes_1 9 rfl) rfl (lv_at hl 0 rfl) ?_
    refine og_getI OX12 X hq hH 44 (by decide) rfl kF_X12_253 (dk DX12_notes_1 10 rfl) ?_
    obtain ⟨x2, e3, hF⟩ := bd hF
    refine mr_cv0 hH ⟨rfl, rfl⟩ (mr_runV (As := [.ref (q 38), .ref (q 40), .ref (q 41), .int (st.1 44)]) (rest := []) X hH (c_X12_keeps hq (by decide) rfl (by decide) rfl (by decide) rfl e3) ((oset_at hq (Nat.le_refl _) ohas_N).trans (congrArg some ocell_N)) OX12.1 kM_X12_410 kI_X12_keeps kS_X12_keeps kN_X12 kC_X12_keeps hd_X12_keeps ⟨Nat.le_of_ble_eq_true rfl, Nat.le_of_ble_eq_true rfl⟩ rfl hl.1 (Nat.le_of_ble_eq_true rfl) (dk DX12_notes_1 11 rfl) ⟨Nat.zero_le _, Nat.zero_le _⟩) (fun h1 H locs hp hH => ?_)
    rw [hp] at hH; clear hp
    refine lv_aload_n X.x X.b (dk DX12_notes_1 12 rfl) rfl (lv_at hl 0 rfl) ?_
    refine lv_dup X.x X.b (dk DX12_notes_1 13 rfl) rfl ?_
    refine og_getI OX12 X hq hH 44 (by decide) rfl kF_X12_253 (dk DX12_notes_1 14 rfl) ?_
    refine lv_iconst (v := 1) X.x X.b (dk DX12_notes_1 15 rfl) (by decide) ?_
    refine lv_iadd X.x X.b (dk DX12_notes_1 16 rfl) ?_
    refine og_putI OX12 X hq hH 44 (by decide) rfl kF_X12_253 rfl rfl rfl (dk DX12_notes_1 17 rfl) (fun H locs hH => ?_)
    obtain ⟨t5, e6⟩ : ∃ y, y = oI x2 44 ((x2.1 44) + 1) := ⟨_, rfl⟩
    rw [← e6] at hH
    replace hF := bnd_e hF e6
    cases sm hF
    exact mr_vret X hr hlk hH rfl (dk DX12_notes_1 18 rfl)
  · replace hF := if_t hF c1
    refine lv_iconst (v := 1) X.x X.b (dk DX12_notes_0 4 rfl) (by decide) ?_
    refine lv_istore_n (lv' := [(1, .int 1), (0, .ref (q 53))]) X.x X.b (dk DX12_notes_0 5 rfl) rfl hl (by decide) rfl (fun ls hl => ?_)
    replace hl : lv_has ls 3 [(0, .ref (q 53)), (1, .int 1)] := lv_sub hl [1, 0] rfl
    obtain ⟨x26, e27, hF⟩ := bd hF
    replace hl : lv_has ls 3 [(0, .ref (q 53)), (1, .int 1)] := lv_sub hl [0, 1] rfl
    refine w_X12_notes_11 hq X _ _ e27 _ _ _ hH hl (fun H locs ls hH hl => ?_)
    refine lv_aload_n X.x X.b (dk DX12_notes_0 56 rfl) rfl (lv_at hl 0 rfl) ?_
    refine lv_dup X.x X.b (dk DX12_notes_0 57 rfl) rfl ?_
    refine og_getI OX12 X hq hH 44 (by decide) rfl kF_X12_253 (dk DX12_notes_0 58 rfl) ?_
    refine lv_iconst (v := 1) X.x X.b (dk DX12_notes_0 59 rfl) (by decide) ?_
    refine lv_isub X.x X.b (dk DX12_notes_1 0 rfl) ?_
    refine og_putI OX12 X hq hH 44 (by decide) rfl kF_X12_253 rfl rfl rfl (dk DX12_notes_1 1 rfl) (fun H locs hH => ?_)
    obtain ⟨t29, e30⟩ : ∃ y, y = oI x26 44 ((x26.1 44) - 1) := ⟨_, rfl⟩
    rw [← e30] at hH
    replace hF := bnd_e hF e30
    refine lv_aload_n X.x X.b (dk DX12_notes_1 2 rfl) rfl (lv_at hl 0 rfl) ?_
    refine lv_aload_n X.x X.b (dk DX12_notes_1 3 rfl) rfl (lv_at hl 0 rfl) ?_
    refine og_getR (t := 1) OX12 X hq hH 38 (by decide) rfl kF_X12_66 (dk DX12_notes_1 4 rfl) ?_
    refine lv_aload_n X.x X.b (dk DX12_notes_1 5 rfl) rfl (lv_at hl 0 rfl) ?_
    refine og_getR (t := 0) OX12 X hq hH 40 (by decide) rfl kF_X12_72 (dk DX12_notes_1 6 rfl) ?_
    refine lv_aload_n X.x X.b (dk DX12_notes_1 7 rfl) rfl (lv_at hl 0 rfl) ?_
    refine og_getR (t := 0) OX12 X hq hH 41 (by decide) rfl kF_X12_75 (dk DX12_notes_1 8 rfl) ?_
    refine lv_aload_n X.x X.b (dk DX12_notes_1 9 rfl) rfl (lv_at hl 0 rfl) ?_
    refine og_getI OX12 X hq hH 44 (by decide) rfl kF_X12_253 (dk DX12_notes_1 10 rfl) ?_
    obtain ⟨x31, e32, hF⟩ := bd hF
    refine mr_cv0 hH ⟨rfl, rfl⟩ (mr_runV (As := [.ref (q 38), .ref (q 40), .ref (q 41), .int (t29.1 44)]) (rest := []) X hH (c_X12_keeps hq (by decide) rfl (by decide) rfl (by decide) rfl e32) ((oset_at hq (Nat.le_refl _) ohas_N).trans (congrArg some ocell_N)) OX12.1 kM_X12_410 kI_X12_keeps kS_X12_keeps kN_X12 kC_X12_keeps hd_X12_keeps ⟨Nat.le_of_ble_eq_true rfl, Nat.le_of_ble_eq_true rfl⟩ rfl hl.1 (Nat.le_of_ble_eq_true rfl) (dk DX12_notes_1 11 rfl) ⟨Nat.zero_le _, Nat.zero_le _⟩) (fun h1 H locs hp hH => ?_)
    rw [hp] at hH; clear hp
    refine lv_aload_n X.x X.b (dk DX12_notes_1 12 rfl) rfl (lv_at hl 0 rfl) ?_
    refine lv_dup X.x X.b (dk DX12_notes_1 13 rfl) rfl ?_
    refine og_getI OX12 X hq hH 44 (by decide) rfl kF_X12_253 (dk DX12_notes_1 14 rfl) ?_
    refine lv_iconst (v := 1) X.x X.b (dk DX12_notes_1 15 rfl) (by decide) ?_
    refine lv_iadd X.x X.b (dk DX12_notes_1 16 rfl) ?_
    refine og_putI OX12 X hq hH 44 (by decide) rfl kF_X12_253 rfl rfl rfl (dk DX12_notes_1 17 rfl) (fun H locs hH => ?_)
    obtain ⟨t34, e35⟩ : ∃ y, y = oI x31 44 ((x31.1 44) + 1) := ⟨_, rfl⟩
    rw [← e35] at hH
    replace hF := bnd_e hF e35
    cases sm hF
    exact mr_vret X hr hlk hH rfl (dk DX12_notes_1 18 rfl)
-- X12_acts
abbrev rm_X12_acts : Room := { frames := 2, cells := 0, slots := 0, locals := 47 }
theorem hd_X12_acts : mHd yX12_acts 0 := ⟨by decide +kernel, by decide +kernel, by decide +kernel⟩
theorem DX12_acts_0 : ∀ t ∈ ([(0, .aload_n 0, 1), (1, .invokevirtual 414, 3), (4, .aload_n 0, 1), (5, .iconst 0, 1), (6, .putfield 256, 3), (9, .return_, 1)] : List (Nat × Instr × Nat)), decode cX12_acts t.1 = .ok (t.2.1, t.2.2) := by decide +kernel
noncomputable def f_X12_acts (st : OS) : Option (OS) := (f_X12_notes st).bind (fun x1 => bnd (oI x1 45 0) (fun t4 => some t4))
set_option maxHeartbeats 4000000 in
set_option maxRecDepth 100000 in
theorem c_X12_acts {l : Launch} {G : mG} {h : mM} {q : Nat → Nat} (hq : oinj LX12 q) {st : OS} {x : OS} (hF : f_X12_acts st = some x) : cQ l G yX12_acts cX12_acts 1 none rm_X12_acts [.ref (q 53)] (oset LX12 G q st h) (mQv G (fun h1 => h1 = oset LX12 G q x h)) := by
  refine mp_of (by decide +kernel) (Nat.le_of_ble_eq_true rfl) ?_
  intro p e s m below meth c X hr hlk hH hname ls hl
  dsimp only [f_X12_acts] at hF
  replace hl : lv_has ls 1 [(0, .ref (q 53))] := hl
  refine lv_aload_n X.x X.b (dk DX12_acts_0 0 rfl) rfl (lv_at hl 0 rfl) ?_
  obtain ⟨x1, e2, hF⟩ := bd hF
  refine mr_cv0 hH ⟨rfl, rfl⟩ (mr_runV (As := []) (rest := []) X hH (c_X12_notes hq e2) ((oset_at hq (Nat.le_refl _) ohas_N).trans (congrArg some ocell_N)) OX12.1 kM_X12_414 kI_X12_notes kS_X12_notes kN_X12 kC_X12_notes hd_X12_notes ⟨Nat.le_of_ble_eq_true rfl, Nat.le_of_ble_eq_true rfl⟩ rfl hl.1 (Nat.le_of_ble_eq_true rfl) (dk DX12_acts_0 1 rfl) ⟨Nat.zero_le _, Nat.zero_le _⟩) (fun h1 H locs hp hH => ?_)
  rw [hp] at hH; clear hp
  refine lv_aload_n X.x X.b (dk DX12_acts_0 2 rfl) rfl (lv_at hl 0 rfl) ?_
  refine lv_iconst (v := 0) X.x X.b (dk DX12_acts_0 3 rfl) (by decide) ?_
  refine og_putI OX12 X hq hH 45 (by decide) rfl kF_X12_256 rfl rfl rfl (dk DX12_acts_0 4 rfl) (fun H locs hH => ?_)
  obtain ⟨t4, e5⟩ : ∃ y, y = oI x1 45 0 := ⟨_, rfl⟩
  rw [← e5] at hH
  replace hF := bnd_e hF e5
  cases sm hF
  exact mr_vret X hr hlk hH rfl (dk DX12_acts_0 5 rfl)
-- X12_adds
abbrev rm_X12_adds : Room := { frames := 3, cells := 0, slots := 0, locals := 67 }
theorem hd_X12_adds : mHd yX12_adds 1 := ⟨by decide +kernel, by decide +kernel, by decide +kernel⟩
theorem DX12_adds_0 : ∀ t ∈ ([(0, .aload_n 0, 1), (1, .getfield 250, 3), (4, .bipush 64, 2), (6, .if_icmp .ne 5, 3), (9, .iconst (-1), 1), (10, .ireturn, 1), (11, .aload_n 0, 1), (12, .invokevirtual 417, 3), (15, .aload_n 0, 1), (16, .getfield 7, 3), (19, .aload_n 0, 1), (20, .getfield 250, 3), (23, .lload_n 1, 1), (24, .lastore, 1), (25, .aload_n 0, 1), (26, .dup, 1), (27, .getfield 250, 3), (30, .iconst 1, 1), (31, .iadd, 1), (32, .putfield 250, 3), (35, .aload_n 0, 1), (36, .getfield 250, 3), (39, .iconst 1, 1), (40, .isub, 1), (41, .ireturn, 1)] : List (Nat × Instr × Nat)), decode cX12_adds t.1 = .ok (t.2.1, t.2.2) := by decide +kernel
noncomputable def f_X12_adds (st : OS) (a0 : Int64) : Option (Int32 × OS) := (if (st.1 1) = 64 then some (((-1), st)) else (f_X12_acts st).bind (fun x2 => if inb (x2.1 1) 64 = true then bnd (oB x2 3 (vp_updL (x2.2.2.2 3) (x2.1 1 : Int32).toNatClampNeg a0)) (fun t6 => bnd (oI t6 1 ((t6.1 1) + 1)) (fun t8 => some (((t8.1 1) - 1, t8)))) else none))
set_option maxHeartbeats 4000000 in
set_option maxRecDepth 100000 in
theorem c_X12_adds {l : Launch} {G : mG} {h : mM} {q : Nat → Nat} (hq : oinj LX12 q) {st : OS} {a0 : Int64} {x : Int32 × OS} (hF : f_X12_adds st a0 = some x) : cQ l G yX12_adds cX12_adds 3 (some FieldType.int) rm_X12_adds [.ref (q 53), .long a0] (oset LX12 G q st h) (mQi G (fun r h1 => r = x.1 ∧ h1 = oset LX12 G q x.2 h)) := by
  refine mp_of (by decide +kernel) (Nat.le_of_ble_eq_true rfl) ?_
  intro p e s m below meth c X hr hlk hH hname ls hl
  dsimp only [f_X12_adds] at hF
  replace hl : lv_has ls 3 [(0, .ref (q 53)), (1, .long a0)] := hl
  refine lv_aload_n X.x X.b (dk DX12_adds_0 0 rfl) rfl (lv_at hl 0 rfl) ?_
  refine og_getI OX12 X hq hH 1 (by decide) rfl kF_X12_250 (dk DX12_adds_0 1 rfl) ?_
  refine lv_bipush (v := 64) X.x X.b (dk DX12_adds_0 2 rfl) (by decide) ?_
  refine lv_icmp_ne (tgt := 11) X.x X.b (dk DX12_adds_0 3 rfl) (by decide) (fun c1 => ?_) (fun c1 => ?_)
  · replace hF := if_f hF c1
    refine lv_aload_n X.x X.b (dk DX12_adds_0 6 rfl) rfl (lv_at hl 0 rfl) ?_
    obtain ⟨x2, e3, hF⟩ := bd hF
    refine mr_cv0 hH ⟨rfl, rfl⟩ (mr_runV (As := []) (rest := []) X hH (c_X12_acts hq e3) ((oset_at hq (Nat.le_refl _) ohas_N).trans (congrArg some ocell_N)) OX12.1 kM_X12_417 kI_X12_acts kS_X12_acts kN_X12 kC_X12_acts hd_X12_acts ⟨Nat.le_of_ble_eq_true rfl, Nat.le_of_ble_eq_true rfl⟩ rfl hl.1 (Nat.le_of_ble_eq_true rfl) (dk DX12_adds_0 7 rfl) ⟨Nat.zero_le _, Nat.zero_le _⟩) (fun h1 H locs hp hH => ?_)
    rw [hp] at hH; clear hp
    refine lv_aload_n X.x X.b (dk DX12_adds_0 8 rfl) rfl (lv_at hl 0 rfl) ?_
    refine og_getR (t := 1) OX12 X hq hH 3 (by decide) rfl kF_X12_7 (dk DX12_adds_0 9 rfl) ?_
    refine lv_aload_n X.x X.b (dk DX12_adds_0 10 rfl) rfl (lv_at hl 0 rfl) ?_
    refine og_getI OX12 X hq hH 1 (by decide) rfl kF_X12_250 (dk DX12_adds_0 11 rfl) ?_
    refine lv_lload_n X.x X.b (dk DX12_adds_0 12 rfl) rfl (lv_at hl 1 rfl) ?_
    obtain ⟨c5, hF⟩ := gd hF
    refine og_last X hq hH 3 (by decide) rfl (inb_in c5) (dk DX12_adds_0 13 rfl) (fun H locs hH => ?_)
    obtain ⟨t6, e7⟩ : ∃ y, y = oB x2 3 (vp_updL (x2.2.2.2 3) (x2.1 1 : Int32).toNatClampNeg a0) := ⟨_, rfl⟩
    rw [← e7] at hH
    replace hF := bnd_e hF e7
    refine lv_aload_n X.x X.b (dk DX12_adds_0 14 rfl) rfl (lv_at hl 0 rfl) ?_
    refine lv_dup X.x X.b (dk DX12_adds_0 15 rfl) rfl ?_
    refine og_getI OX12 X hq hH 1 (by decide) rfl kF_X12_250 (dk DX12_adds_0 16 rfl) ?_
    refine lv_iconst (v := 1) X.x X.b (dk DX12_adds_0 17 rfl) (by decide) ?_
    refine lv_iadd X.x X.b (dk DX12_adds_0 18 rfl) ?_
    refine og_putI OX12 X hq hH 1 (by decide) rfl kF_X12_250 rfl rfl rfl (dk DX12_adds_0 19 rfl) (fun H locs hH => ?_)
    obtain ⟨t8, e9⟩ : ∃ y, y = oI t6 1 ((t6.1 1) + 1) := ⟨_, rfl⟩
    rw [← e9] at hH
    replace hF := bnd_e hF e9
    refine lv_aload_n X.x X.b (dk DX12_adds_0 20 rfl) rfl (lv_at hl 0 rfl) ?_
    refine og_getI OX12 X hq hH 1 (by decide) rfl kF_X12_250 (dk DX12_adds_0 21 rfl) ?_
    refine lv_iconst (v := 1) X.x X.b (dk DX12_adds_0 22 rfl) (by decide) ?_
    refine lv_isub X.x X.b (dk DX12_adds_0 23 rfl) ?_
    cases sm hF
    exact mr_iret X hr hlk hH ⟨rfl, rfl⟩ (dk DX12_adds_0 24 rfl)
  · replace hF := if_t hF c1
    refine lv_iconst (v := (-1)) X.x X.b (dk DX12_adds_0 4 rfl) (by decide) ?_
    cases sm hF
    exact mr_iret X hr hlk hH ⟨rfl, rfl⟩ (dk DX12_adds_0 5 rfl)
