-- X12_all
abbrev rm_X12_all : Room := { frames := 2, cells := 0, slots := 0, locals := 40 }
theorem hd_X12_all : mHd yX12_all 0 := ⟨by decide +kernel, by decide +kernel, by decide +kernel⟩
theorem DX12_all_0 : ∀ t ∈ ([(0, .aload_n 0, 1), (1, .getfield 248, 3), (4, .invokestatic 192, 3), (7, .lreturn, 1)] : List (Nat × Instr × Nat)), decode cX12_all t.1 = .ok (t.2.1, t.2.2) := by decide +kernel
noncomputable def f_X12_all (st : OS) : Option (Int64) := (f_X12_allOf (st.1 0)).bind (fun x1 => some x1)
set_option maxHeartbeats 4000000 in
set_option maxRecDepth 100000 in
theorem c_X12_all {l : Launch} {G : mG} {h : mM} {q : Nat → Nat} (hq : oinj LX12 q) {st : OS} {x : Int64} (hF : f_X12_all st = some x) : cQ l G yX12_all cX12_all 1 (some FieldType.long) rm_X12_all [.ref (q 53)] (oset LX12 G q st h) (mQl G (fun r h1 => r = x ∧ h1 = oset LX12 G q st h)) := by
  refine mp_of (by decide +kernel) (Nat.le_of_ble_eq_true rfl) ?_
  intro p e s m below meth c X hr hlk hH hname ls hl
  dsimp only [f_X12_all] at hF
  replace hl : lv_has ls 1 [(0, .ref (q 53))] := hl
  refine lv_aload_n X.x X.b (dk DX12_all_0 0 rfl) rfl (lv_at hl 0 rfl) ?_
  refine og_getI OX12 X hq hH 0 (by decide) rfl kF_X12_248 (dk DX12_all_0 1 rfl) ?_
  obtain ⟨x1, e2, hF⟩ := bd hF
  refine mr_cl0 hH ⟨rfl, rfl⟩ (mr_runS (As := [.int (st.1 0)]) (rest := []) X hH (c_X12_allOf e2) kM_X12_192 kT_X12_allOf kN_X12 kC_X12_allOf hd_X12_allOf ⟨Nat.le_of_ble_eq_true rfl, Nat.le_of_ble_eq_true rfl⟩ rfl hl.1 (Nat.le_of_ble_eq_true rfl) (dk DX12_all_0 2 rfl) ⟨Nat.zero_le _, Nat.zero_le _⟩) (fun r h1 H locs hp hH => ?_)
  obtain ⟨hr1, hr2⟩ := hp; rw [hr1]; rw [hr2] at hH; clear hr1 hr2
  cases sm hF
  exact mr_lret X hr hlk hH ⟨rfl, rfl⟩ (dk DX12_all_0 3 rfl)
-- X12_isSet
abbrev rm_X12_isSet : Room := { frames := 3, cells := 0, slots := 0, locals := 60 }
theorem hd_X12_isSet : mHd yX12_isSet 1 := ⟨by decide +kernel, by decide +kernel, by decide +kernel⟩
theorem DX12_isSet_0 : ∀ t ∈ ([(0, .lload_n 1, 1), (1, .aload_n 0, 1), (2, .invokevirtual 259, 3), (5, .ldc2_w 109, 3), (8, .lxor, 1), (9, .land, 1), (10, .lconst 0, 1), (11, .lcmp, 1), (12, .ifCond .ne 7, 3), (15, .iconst 1, 1), (16, .goto 4, 3), (19, .iconst 0, 1), (20, .ireturn, 1)] : List (Nat × Instr × Nat)), decode cX12_isSet t.1 = .ok (t.2.1, t.2.2) := by decide +kernel
noncomputable def f_X12_isSet (st : OS) (a0 : Int64) : Option (Int32) := (f_X12_all st).bind (fun x1 => (if (lg_cmp (a0 &&& (x1 ^^^ ((-1)))) 0) = 0 then some 1 else some 0))
set_option maxHeartbeats 4000000 in
set_option maxRecDepth 100000 in
theorem c_X12_isSet {l : Launch} {G : mG} {h : mM} {q : Nat → Nat} (hq : oinj LX12 q) {st : OS} {a0 : Int64} {x : Int32} (hF : f_X12_isSet st a0 = some x) : cQ l G yX12_isSet cX12_isSet 3 (some FieldType.boolean) rm_X12_isSet [.ref (q 53), .long a0] (oset LX12 G q st h) (mQi G (fun r h1 => r = x ∧ h1 = oset LX12 G q st h)) := by
  refine mp_of (by decide +kernel) (Nat.le_of_ble_eq_true rfl) ?_
  intro p e s m below meth c X hr hlk hH hname ls hl
  dsimp only [f_X12_isSet] at hF
  replace hl : lv_has ls 3 [(0, .ref (q 53)), (1, .long a0)] := hl
  refine lv_lload_n X.x X.b (dk DX12_isSet_0 0 rfl) rfl (lv_at hl 1 rfl) ?_
  refine lv_aload_n X.x X.b (dk DX12_isSet_0 1 rfl) rfl (lv_at hl 0 rfl) ?_
  obtain ⟨x1, e2, hF⟩ := bd hF
  refine mr_cl0 hH ⟨rfl, rfl⟩ (mr_runV (As := []) (rest := [.long a0]) X hH (c_X12_all hq e2) ((oset_at hq (Nat.le_refl _) ohas_N).trans (congrArg some ocell_N)) OX12.1 kM_X12_259 kI_X12_all kS_X12_all kN_X12 kC_X12_all hd_X12_all ⟨Nat.le_of_ble_eq_true rfl, Nat.le_of_ble_eq_true rfl⟩ rfl hl.1 (Nat.le_of_ble_eq_true rfl) (dk DX12_isSet_0 2 rfl) ⟨Nat.zero_le _, Nat.zero_le _⟩) (fun r h1 H locs hp hH => ?_)
  obtain ⟨hr1, hr2⟩ := hp; rw [hr1]; rw [hr2] at hH; clear hr1 hr2
  refine lv_ldc2 (v := (-1)) X.x X.b X.ow (X.ts _ kK_X12_109) (dk DX12_isSet_0 3 rfl) ?_
  refine lv_lxor X.x X.b (dk DX12_isSet_0 4 rfl) ?_
  refine lv_land X.x X.b (dk DX12_isSet_0 5 rfl) ?_
  refine lv_lconst (v := 0) X.x X.b (dk DX12_isSet_0 6 rfl) (by decide) ?_
  refine W.lcmp X.x X.b (dk DX12_isSet_0 7 rfl) ?_
  refine lv_if_ne (tgt := 19) X.x X.b (dk DX12_isSet_0 8 rfl) (by decide) (fun c4 => ?_) (fun c4 => ?_)
  · replace hF := if_f hF c4
    refine lv_iconst (v := 0) X.x X.b (dk DX12_isSet_0 11 rfl) (by decide) ?_
    cases sm hF
    exact mr_zret X hr hlk hH rfl ⟨rfl, rfl⟩ (dk DX12_isSet_0 12 rfl)
  · replace hF := if_t hF c4
    refine lv_iconst (v := 1) X.x X.b (dk DX12_isSet_0 9 rfl) (by decide) ?_
    refine lv_goto (tgt := 20) X.x X.b (dk DX12_isSet_0 10 rfl) (by decide) ?_
    cases sm hF
    exact mr_zret X hr hlk hH rfl ⟨rfl, rfl⟩ (dk DX12_isSet_0 12 rfl)
-- X12_line
abbrev rm_X12_line : Room := { frames := 2, cells := 0, slots := 0, locals := 46 }
theorem hd_X12_line : mHd yX12_line 1 := ⟨by decide +kernel, by decide +kernel, by decide +kernel⟩
theorem DX12_line_0 : ∀ t ∈ ([(0, .aload_n 0, 1), (1, .iconst 0, 1), (2, .putfield 106, 3), (5, .aload_n 0, 1), (6, .iload_n 1, 1), (7, .invokevirtual 263, 3), (10, .ifCond .eq 12, 3), (13, .aload_n 0, 1), (14, .getfield 7, 3), (17, .iload_n 1, 1), (18, .laload, 1), (19, .goto 9, 3), (22, .aload_n 0, 1), (23, .iconst 1, 1), (24, .invokevirtual 236, 3), (27, .i2l, 1), (28, .lreturn, 1)] : List (Nat × Instr × Nat)), decode cX12_line t.1 = .ok (t.2.1, t.2.2) := by decide +kernel
noncomputable def f_X12_line (st : OS) (a0 : Int32) : Option (Int64 × OS) := bnd (oI st 2 0) (fun t1 => (f_X12_isLine t1 a0).bind (fun x3 => (if x3 = 0 then (f_X12_fails t1 1).bind (fun x7 => match x7 with | (v9, t10) => some (((v9 : Int32).toInt64, t10))) else if inb a0 64 = true then some ((t1.2.2.2 3 (a0 : Int32).toNatClampNeg, t1)) else none)))
set_option maxHeartbeats 4000000 in
set_option maxRecDepth 100000 in
theorem c_X12_line {l : Launch} {G : mG} {h : mM} {q : Nat → Nat} (hq : oinj LX12 q) {st : OS} {a0 : Int32} {x : Int64 × OS} (hF : f_X12_line st a0 = some x) : cQ l G yX12_line cX12_line 2 (some FieldType.long) rm_X12_line [.ref (q 53), .int a0] (oset LX12 G q st h) (mQl G (fun r h1 => r = x.1 ∧ h1 = oset LX12 G q x.2 h)) := by
  refine mp_of (by decide +kernel) (Nat.le_of_ble_eq_true rfl) ?_
  intro p e s m below meth c X hr hlk hH hname ls hl
  dsimp only [f_X12_line] at hF
  replace hl : lv_has ls 2 [(0, .ref (q 53)), (1, .int a0)] := hl
  refine lv_aload_n X.x X.b (dk DX12_line_0 0 rfl) rfl (lv_at hl 0 rfl) ?_
  refine lv_iconst (v := 0) X.x X.b (dk DX12_line_0 1 rfl) (by decide) ?_
  refine og_putI OX12 X hq hH 2 (by decide) rfl kF_X12_106 rfl rfl rfl (dk DX12_line_0 2 rfl) (fun H locs hH => ?_)
  obtain ⟨t1, e2⟩ : ∃ y, y = oI st 2 0 := ⟨_, rfl⟩
  rw [← e2] at hH
  replace hF := bnd_e hF e2
  refine lv_aload_n X.x X.b (dk DX12_line_0 3 rfl) rfl (lv_at hl 0 rfl) ?_
  refine lv_iload_n X.x X.b (dk DX12_line_0 4 rfl) rfl (lv_at hl 1 rfl) ?_
  obtain ⟨x3, e4, hF⟩ := bd hF
  refine mr_ci0 hH ⟨rfl, rfl⟩ (mr_runV (As := [.int a0]) (rest := []) X hH (c_X12_isLine hq e4) ((oset_at hq (Nat.le_refl _) ohas_N).trans (congrArg some ocell_N)) OX12.1 kM_X12_263 kI_X12_isLine kS_X12_isLine kN_X12 kC_X12_isLine hd_X12_isLine ⟨Nat.le_of_ble_eq_true rfl, Nat.le_of_ble_eq_true rfl⟩ rfl hl.1 (Nat.le_of_ble_eq_true rfl) (dk DX12_line_0 5 rfl) ⟨Nat.zero_le _, Nat.zero_le _⟩) (fun r h1 H locs hp hH => ?_)
  obtain ⟨hr1, hr2⟩ := hp; rw [hr1]; rw [hr2] at hH; clear hr1 hr2
  refine lv_if_eq (tgt := 22) X.x X.b (dk DX12_line_0 6 rfl) (by decide) (fun c6 => ?_) (fun c6 => ?_)
  · replace hF := if_t hF c6
    refine lv_aload_n X.x X.b (dk DX12_line_0 12 rfl) rfl (lv_at hl 0 rfl) ?_
    refine lv_iconst (v := 1) X.x X.b (dk DX12_line_0 13 rfl) (by decide) ?_
    obtain ⟨x7, e8, hF⟩ := bd hF
    refine mr_ci0 hH ⟨rfl, rfl⟩ (mr_runV (As := [.int 1]) (rest := []) X hH (c_X12_fails hq e8) ((oset_at hq (Nat.le_refl _) ohas_N).trans (congrArg some ocell_N)) OX12.1 kM_X12_236 kI_X12_fails kS_X12_fails kN_X12 kC_X12_fails hd_X12_fails ⟨Nat.le_of_ble_eq_true rfl, Nat.le_of_ble_eq_true rfl⟩ rfl hl.1 (Nat.le_of_ble_eq_true rfl) (dk DX12_line_0 14 rfl) ⟨Nat.zero_le _, Nat.zero_le _⟩) (fun r h1 H locs hp hH => ?_)
    obtain ⟨hr1, hr2⟩ := hp; rw [hr1]; rw [hr2] at hH; clear hr1 hr2
    obtain ⟨v9, t10⟩ := x7
    try dsimp only at hF hH ⊢
    refine lv_i2l X.x X.b (dk DX12_line_0 15 rfl) rfl ?_
    cases sm hF
    exact mr_lret X hr hlk hH ⟨rfl, rfl⟩ (dk DX12_line_0 16 rfl)
  · replace hF := if_f hF c6
    refine lv_aload_n X.x X.b (dk DX12_line_0 7 rfl) rfl (lv_at hl 0 rfl) ?_
    refine og_getR (t := 1) OX12 X hq hH 3 (by decide) rfl kF_X12_7 (dk DX12_line_0 8 rfl) ?_
    refine lv_iload_n X.x X.b (dk DX12_line_0 9 rfl) rfl (lv_at hl 1 rfl) ?_
    obtain ⟨c11, hF⟩ := gd hF
    refine og_lald X hq hH 3 (by decide) rfl (inb_in c11) (dk DX12_line_0 10 rfl) ?_
    refine lv_goto (tgt := 28) X.x X.b (dk DX12_line_0 11 rfl) (by decide) ?_
    cases sm hF
    exact mr_lret X hr hlk hH ⟨rfl, rfl⟩ (dk DX12_line_0 16 rfl)
-- X12_throughOf
abbrev rm_X12_throughOf : Room := { frames := 1, cells := 0, slots := 0, locals := 22 }
theorem hd_X12_throughOf : mHd yX12_throughOf 1 := ⟨by decide +kernel, by decide +kernel, by decide +kernel⟩
theorem DX12_throughOf_0 : ∀ t ∈ ([(0, .lconst 0, 1), (1, .lstore_n 2, 1), (2, .iconst 0, 1), (3, .istore 4, 2), (5, .iload 4, 2), (7, .aload_n 0, 1), (8, .getfield 250, 3), (11, .if_icmp .ge 35, 3), (14, .lload_n 2, 1), (15, .aload_n 0, 1), (16, .getfield 7, 3), (19, .iload 4, 2), (21, .laload, 1), (22, .iload_n 1, 1), (23, .invokestatic 232, 3), (26, .ifCond .eq 11, 3), (29, .iload 4, 2), (31, .invokestatic 111, 3), (34, .goto 4, 3), (37, .lconst 0, 1), (38, .lor, 1), (39, .lstore_n 2, 1), (40, .iinc 4 1, 3), (43, .goto (-38), 3), (46, .lload_n 2, 1), (47, .lreturn, 1)] : List (Nat × Instr × Nat)), decode cX12_throughOf t.1 = .ok (t.2.1, t.2.2) := by decide +kernel
noncomputable def f_X12_throughOf_5 (s_t : OS) (b1 : Int32) : (Int64 × Int32) → Option ((Int64 × Int32) ⊕ (Int64)) := fun z => match z with | (b2, b4) => (if (s_t.1 1) ≤ b4 then some (.inr b2) else if inb b4 64 = true then (f_X12_has (s_t.2.2.2 3 (b4 : Int32).toNatClampNeg) b1).bind (fun x3 => (if x3 = 0 then bnd (b2 ||| 0 : Int64) (fun v7 => bnd (b4 + 1 : Int32) (fun v9 => some (.inl ((v7, v9))))) else (f_X12_bit b4).bind (fun x11 => bnd (b2 ||| x11 : Int64) (fun v14 => bnd (b4 + 1 : Int32) (fun v16 => some (.inl ((v14, v16)))))))) else none)
noncomputable def f_X12_throughOf (st : OS) (a0 : Int32) : Option (Int64) := (lpv (f_X12_throughOf_5 st a0) ((0, 0))).bind (fun x18 => some x18)
set_option maxHeartbeats 4000000 in
set_option maxRecDepth 100000 in
theorem w_X12_throughOf_5 {p : Program} {l : Launch} {e : Env} {s : State} {m : MethodId} {args : Array Value} {below : List Frame} {meth : Method} {c : Code} {Q : State → Prop} {G : mG} {h : mM} {q : Nat → Nat} (hq : oinj LX12 q) (X : mX G p m c cX12_throughOf 5 s args RX12) (s_t : OS) (b1 : Int32) : ∀ (z : Int64 × Int32) (r : Int64), lpv (f_X12_throughOf_5 s_t b1) z = some r → ∀ (H : Heap) (locs : List Loc) (ls : Array Slot), mH G (oset LX12 G q s_t h) s.heap H locs → lv_has ls 5 [(0, .ref (q 53)), (1, .int b1), (2, .long z.1), (4, .int z.2)] → (∀ (H : Heap) (locs : List Loc) (ls : Array Slot), mH G (oset LX12 G q s_t h) s.heap H locs → lv_has ls 5 [(2, .long r)] → W p l e rm_X12_throughOf s m args below meth c H locs 0 0 Q (F0 m 46 ls [])) → W p l e rm_X12_throughOf s m args below meth c H locs 0 0 Q (F0 m 5 ls []) := by
  refine lpv_rec ?_
  intro z r x hF hx H locs ls hH hl K0
  obtain ⟨b2, b4⟩ := z
  dsimp only [f_X12_throughOf_5] at hF
  try dsimp only at hH hl
  refine lv_iload X.x X.b (dk DX12_throughOf_0 4 rfl) (lv_at hl 3 rfl) ?_
  refine lv_aload_n X.x X.b (dk DX12_throughOf_0 5 rfl) rfl (lv_at hl 0 rfl) ?_
  refine og_getI OX12 X hq hH 1 (by decide) rfl kF_X12_250 (dk DX12_throughOf_0 6 rfl) ?_
  refine lv_icmp_ge (tgt := 46) X.x X.b (dk DX12_throughOf_0 7 rfl) (by decide) (fun c1 => ?_) (fun c1 => ?_)
  · replace hF := if_t hF c1
    have hr9 := lp_r hF hx
    subst hr9
    exact K0 _ _ _ hH (lv_sub hl [2] rfl)
  · replace hF := if_f hF c1
    refine lv_lload_n X.x X.b (dk DX12_throughOf_0 8 rfl) rfl (lv_at hl 2 rfl) ?_
    refine lv_aload_n X.x X.b (dk DX12_throughOf_0 9 rfl) rfl (lv_at hl 0 rfl) ?_
    refine og_getR (t := 1) OX12 X hq hH 3 (by decide) rfl kF_X12_7 (dk DX12_throughOf_0 10 rfl) ?_
    refine lv_iload X.x X.b (dk DX12_throughOf_0 11 rfl) (lv_at hl 3 rfl) ?_
    obtain ⟨c2, hF⟩ := gd hF
    refine og_lald X hq hH 3 (by decide) rfl (inb_in c2) (dk DX12_throughOf_0 12 rfl) ?_
    refine lv_iload_n X.x X.b (dk DX12_throughOf_0 13 rfl) rfl (lv_at hl 1 rfl) ?_
    obtain ⟨x3, e4, hF⟩ := bd hF
    refine mr_ci0 hH ⟨rfl, rfl⟩ (mr_runS (As := [.long (s_t.2.2.2 3 (b4 : Int32).toNatClampNeg), .int b1]) (rest := [.long b2]) X hH (c_X12_has e4) kM_X12_232 kT_X12_has kN_X12 kC_X12_has hd_X12_has ⟨Nat.le_of_ble_eq_true rfl, Nat.le_of_ble_eq_true rfl⟩ rfl hl.1 (Nat.le_of_ble_eq_true rfl) (dk DX12_throughOf_0 14 rfl) ⟨Nat.zero_le _, Nat.zero_le _⟩) (fun r h1 H locs hp hH => ?_)
    obtain ⟨hr1, hr2⟩ := hp; rw [hr1]; rw [hr2] at hH; clear hr1 hr2
    refine lv_if_eq (tgt := 37) X.x X.b (dk DX12_throughOf_0 15 rfl) (by decide) (fun c6 => ?_) (fun c6 => ?_)
    · replace hF := if_t hF c6
      refine lv_lconst (v := 0) X.x X.b (dk DX12_throughOf_0 19 rfl) (by decide) ?_
      refine lv_lor X.x X.b (dk DX12_throughOf_0 20 rfl) ?_
      refine lv_topl (fun v7 e8 => ?_)
      replace hF := bnd_e hF e8
      refine lv_lstore_n (lv' := [(2, .long v7), (0, .ref (q 53)), (1, .int b1), (4, .int b4)]) X.x X.b (dk DX12_throughOf_0 21 rfl) rfl hl (by decide) rfl (fun ls hl => ?_)
      replace hl : lv_has ls 5 [(0, .ref (q 53)), (1, .int b1), (2, .long v7), (4, .int b4)] := lv_sub hl [1, 2, 0, 3] rfl
      obtain ⟨v9, e10⟩ : ∃ y : Int32, y = b4 + 1 := ⟨_, rfl⟩
      replace hF := bnd_e hF e10
      refine lv_iinc (v := v9) (lv' := [(4, .int v9), (0, .ref (q 53)), (1, .int b1), (2, .long v7)]) X.x X.b (dk DX12_throughOf_0 22 rfl) hl (k := 3) rfl (by rw [e10]; rfl) (by decide) rfl (fun ls hl => ?_)
      replace hl : lv_has ls 5 [(0, .ref (q 53)), (1, .int b1), (2, .long v7), (4, .int v9)] := lv_sub hl [1, 2, 3, 0] rfl
      refine lv_goto (tgt := 5) X.x X.b (dk DX12_throughOf_0 23 rfl) (by decide) ?_
      exact (lp_l hF hx) _ _ _ hH (lv_sub hl [0, 1, 2, 3] rfl) K0
    · replace hF := if_f hF c6
      refine lv_iload X.x X.b (dk DX12_throughOf_0 16 rfl) (lv_at hl 3 rfl) ?_
      obtain ⟨x11, e12, hF⟩ := bd hF
      refine mr_cl0 hH ⟨rfl, rfl⟩ (mr_runS (As := [.int b4]) (rest := [.long b2]) X hH (c_X12_bit e12) kM_X12_111 kT_X12_bit kN_X12 kC_X12_bit hd_X12_bit ⟨Nat.le_of_ble_eq_true rfl, Nat.le_of_ble_eq_true rfl⟩ rfl hl.1 (Nat.le_of_ble_eq_true rfl) (dk DX12_throughOf_0 17 rfl) ⟨Nat.zero_le _, Nat.zero_le _⟩) (fun r h1 H locs hp hH => ?_)
      obtain ⟨hr1, hr2⟩ := hp; rw [hr1]; rw [hr2] at hH; clear hr1 hr2
      refine lv_goto (tgt := 38) X.x X.b (dk DX12_throughOf_0 18 rfl) (by decide) ?_
      refine lv_lor X.x X.b (dk DX12_throughOf_0 20 rfl) ?_
      refine lv_topl (fun v14 e15 => ?_)
      replace hF := bnd_e hF e15
      refine lv_lstore_n (lv' := [(2, .long v14), (0, .ref (q 53)), (1, .int b1), (4, .int b4)]) X.x X.b (dk DX12_throughOf_0 21 rfl) rfl hl (by decide) rfl (fun ls hl => ?_)
      replace hl : lv_has ls 5 [(0, .ref (q 53)), (1, .int b1), (2, .long v14), (4, .int b4)] := lv_sub hl [1, 2, 0, 3] rfl
      obtain ⟨v16, e17⟩ : ∃ y : Int32, y = b4 + 1 := ⟨_, rfl⟩
      replace hF := bnd_e hF e17
      refine lv_iinc (v := v16) (lv' := [(4, .int v16), (0, .ref (q 53)), (1, .int b1), (2, .long v14)]) X.x X.b (dk DX12_throughOf_0 22 rfl) hl (k := 3) rfl (by rw [e17]; rfl) (by decide) rfl (fun ls hl => ?_)
      replace hl : lv_has ls 5 [(0, .ref (q 53)), (1, .int b1), (2, .long v14), (4, .int v16)] := lv_sub hl [1, 2, 3, 0] rfl
      refine lv_goto (tgt := 5) X.x X.b (dk DX12_throughOf_0 23 rfl) (by decide) ?_
      exact (lp_l hF hx) _ _ _ hH (lv_sub hl [0, 1, 2, 3] rfl) K0
set_option maxHeartbeats 4000000 in
set_option maxRecDepth 100000 in
theorem c_X12_throughOf {l : Launch} {G : mG} {h : mM} {q : Nat → Nat} (hq : oinj LX12 q) {st : OS} {a0 : Int32} {x : Int64} (hF : f_X12_throughOf st a0 = some x) : cQ l G yX12_throughOf cX12_throughOf 5 (some FieldType.long) rm_X12_throughOf [.ref (q 53), .int a0] (oset LX12 G q st h) (mQl G (fun r h1 => r = x ∧ h1 = oset LX12 G q st h)) := by
  refine mp_of (by decide +kernel) (Nat.le_of_ble_eq_true rfl) ?_
  intro p e s m below meth c X hr hlk hH hname ls hl
  dsimp only [f_X12_throughOf] at hF
  replace hl : lv_has ls 5 [(0, .ref (q 53)), (1, .int a0)] := hl
  refine lv_lconst (v := 0) X.x X.b (dk DX12_throughOf_0 0 rfl) (by decide) ?_
  refine lv_lstore_n (lv' := [(2, .long 0), (0, .ref (q 53)), (1, .int a0)]) X.x X.b (dk DX12_throughOf_0 1 rfl) rfl hl (by decide) rfl (fun ls hl => ?_)
  replace hl : lv_has ls 5 [(0, .ref (q 53)), (1, .int a0), (2, .long 0)] := lv_sub hl [1, 2, 0] rfl
  refine lv_iconst (v := 0) X.x X.b (dk DX12_throughOf_0 2 rfl) (by decide) ?_
  refine lv_istore (lv' := [(4, .int 0), (0, .ref (q 53)), (1, .int a0), (2, .long 0)]) X.x X.b (dk DX12_throughOf_0 3 rfl) hl (by decide) rfl (fun ls hl => ?_)
  replace hl : lv_has ls 5 [(0, .ref (q 53)), (1, .int a0), (2, .long 0), (4, .int 0)] := lv_sub hl [1, 2, 3, 0] rfl
  obtain ⟨x18, e19, hF⟩ := bd hF
  replace hl : lv_has ls 5 [(0, .ref (q 53)), (1, .int a0), (2, .long 0), (4, .int 0)] := lv_sub hl [0, 1, 2, 3] rfl
  refine w_X12_throughOf_5 hq X st a0 _ _ e19 _ _ _ hH hl (fun H locs ls hH hl => ?_)
  refine lv_lload_n X.x X.b (dk DX12_throughOf_0 24 rfl) rfl (lv_at hl 0 rfl) ?_
  cases sm hF
  exact mr_lret X hr hlk hH ⟨rfl, rfl⟩ (dk DX12_throughOf_0 25 rfl)
-- X12_through
abbrev rm_X12_through : Room := { frames := 2, cells := 0, slots := 0, locals := 46 }
theorem hd_X12_through : mHd yX12_through 1 := ⟨by decide +kernel, by decide +kernel, by decide +kernel⟩
theorem DX12_through_0 : ∀ t ∈ ([(0, .aload_n 0, 1), (1, .iconst 0, 1), (2, .putfield 106, 3), (5, .aload_n 0, 1), (6, .iload_n 1, 1), (7, .invokevirtual 266, 3), (10, .ifCond .eq 11, 3), (13, .aload_n 0, 1), (14, .iload_n 1, 1), (15, .invokevirtual 269, 3), (18, .goto 9, 3), (21, .aload_n 0, 1), (22, .iconst 1, 1), (23, .invokevirtual 236, 3), (26, .i2l, 1), (27, .lreturn, 1)] : List (Nat × Instr × Nat)), decode cX12_through t.1 = .ok (t.2.1, t.2.2) := by decide +kernel
noncomputable def f_X12_through (st : OS) (a0 : Int32) : Option (Int64 × OS) := bnd (oI st 2 0) (fun t1 => (f_X12_isPoint t1 a0).bind (fun x3 => (if x3 = 0 then (f_X12_fails t1 1).bind (fun x7 => match x7 with | (v9, t10) => some (((v9 : Int32).toInt64, t10))) else (f_X12_throughOf t1 a0).bind (fun x11 => some ((x11, t1))))))
set_option maxHeartbeats 4000000 in
set_option maxRecDepth 100000 in
theorem c_X12_through {l : Launch} {G : mG} {h : mM} {q : Nat → Nat} (hq : oinj LX12 q) {st : OS} {a0 : Int32} {x : Int64 × OS} (hF : f_X12_through st a0 = some x) : cQ l G yX12_through cX12_through 2 (some FieldType.long) rm_X12_through [.ref (q 53), .int a0] (oset LX12 G q st h) (mQl G (fun r h1 => r = x.1 ∧ h1 = oset LX12 G q x.2 h)) := by
  refine mp_of (by decide +kernel) (Nat.le_of_ble_eq_true rfl) ?_
  intro p e s m below meth c X hr hlk hH hname ls hl
  dsimp only [f_X12_through] at hF
  replace hl : lv_has ls 2 [(0, .ref (q 53)), (1, .int a0)] := hl
  refine lv_aload_n X.x X.b (dk DX12_through_0 0 rfl) rfl (lv_at hl 0 rfl) ?_
  refine lv_iconst (v := 0) X.x X.b (dk DX12_through_0 1 rfl) (by decide) ?_
  refine og_putI OX12 X hq hH 2 (by decide) rfl kF_X12_106 rfl rfl rfl (dk DX12_through_0 2 rfl) (fun H locs hH => ?_)
  obtain ⟨t1, e2⟩ : ∃ y, y = oI st 2 0 := ⟨_, rfl⟩
  rw [← e2] at hH
  replace hF := bnd_e hF e2
  refine lv_aload_n X.x X.b (dk DX12_through_0 3 rfl) rfl (lv_at hl 0 rfl) ?_
  refine lv_iload_n X.x X.b (dk DX12_through_0 4 rfl) rfl (lv_at hl 1 rfl) ?_
  obtain ⟨x3, e4, hF⟩ := bd hF
  refine mr_ci0 hH ⟨rfl, rfl⟩ (mr_runV (As := [.int a0]) (rest := []) X hH (c_X12_isPoint hq e4) ((oset_at hq (Nat.le_refl _) ohas_N).trans (congrArg some ocell_N)) OX12.1 kM_X12_266 kI_X12_isPoint kS_X12_isPoint kN_X12 kC_X12_isPoint hd_X12_isPoint ⟨Nat.le_of_ble_eq_true rfl, Nat.le_of_ble_eq_true rfl⟩ rfl hl.1 (Nat.le_of_ble_eq_true rfl) (dk DX12_through_0 5 rfl) ⟨Nat.zero_le _, Nat.zero_le _⟩) (fun r h1 H locs hp hH => ?_)
  obtain ⟨hr1, hr2⟩ := hp; rw [hr1]; rw [hr2] at hH; clear hr1 hr2
  refine lv_if_eq (tgt := 21) X.x X.b (dk DX12_through_0 6 rfl) (by decide) (fun c6 => ?_) (fun c6 => ?_)
  · replace hF := if_t hF c6
    refine lv_aload_n X.x X.b (dk DX12_through_0 11 rfl) rfl (lv_at hl 0 rfl) ?_
    refine lv_iconst (v := 1) X.x X.b (dk DX12_through_0 12 rfl) (by decide) ?_
    obtain ⟨x7, e8, hF⟩ := bd hF
    refine mr_ci0 hH ⟨rfl, rfl⟩ (mr_runV (As := [.int 1]) (rest := []) X hH (c_X12_fails hq e8) ((oset_at hq (Nat.le_refl _) ohas_N).trans (congrArg some ocell_N)) OX12.1 kM_X12_236 kI_X12_fails kS_X12_fails kN_X12 kC_X12_fails hd_X12_fails ⟨Nat.le_of_ble_eq_true rfl, Nat.le_of_ble_eq_true rfl⟩ rfl hl.1 (Nat.le_of_ble_eq_true rfl) (dk DX12_through_0 13 rfl) ⟨Nat.zero_le _, Nat.zero_le _⟩) (fun r h1 H locs hp hH => ?_)
    obtain ⟨hr1, hr2⟩ := hp; rw [hr1]; rw [hr2] at hH; clear hr1 hr2
    obtain ⟨v9, t10⟩ := x7
    try dsimp only at hF hH ⊢
    refine lv_i2l X.x X.b (dk DX12_through_0 14 rfl) rfl ?_
    cases sm hF
    exact mr_lret X hr hlk hH ⟨rfl, rfl⟩ (dk DX12_through_0 15 rfl)
  · replace hF := if_f hF c6
    refine lv_aload_n X.x X.b (dk DX12_through_0 7 rfl) rfl (lv_at hl 0 rfl) ?_
    refine lv_iload_n X.x X.b (dk DX12_through_0 8 rfl) rfl (lv_at hl 1 rfl) ?_
    obtain ⟨x11, e12, hF⟩ := bd hF
    refine mr_cl0 hH ⟨rfl, rfl⟩ (mr_runV (As := [.int a0]) (rest := []) X hH (c_X12_throughOf hq e12) ((oset_at hq (Nat.le_refl _) ohas_N).trans (congrArg some ocell_N)) OX12.1 kM_X12_269 kI_X12_throughOf kS_X12_throughOf kN_X12 kC_X12_throughOf hd_X12_throughOf ⟨Nat.le_of_ble_eq_true rfl, Nat.le_of_ble_eq_true rfl⟩ rfl hl.1 (Nat.le_of_ble_eq_true rfl) (dk DX12_through_0 9 rfl) ⟨Nat.zero_le _, Nat.zero_le _⟩) (fun r h1 H locs hp hH => ?_)
    obtain ⟨hr1, hr2⟩ := hp; rw [hr1]; rw [hr2] at hH; clear hr1 hr2
    refine lv_goto (tgt := 27) X.x X.b (dk DX12_through_0 10 rfl) (by decide) ?_
    cases sm hF
    exact mr_lret X hr hlk hH ⟨rfl, rfl⟩ (dk DX12_through_0 15 rfl)
-- X12_joined
abbrev rm_X12_joined : Room := { frames := 2, cells := 0, slots := 0, locals := 46 }
theorem hd_X12_joined : mHd yX12_joined 2 := ⟨by decide +kernel, by decide +kernel, by decide +kernel⟩
theorem DX12_joined_0 : ∀ t ∈ ([(0, .aload_n 0, 1), (1, .iconst 0, 1), (2, .putfield 106, 3), (5, .aload_n 0, 1), (6, .iload_n 1, 1), (7, .invokevirtual 266, 3), (10, .ifCond .eq 11, 3), (13, .aload_n 0, 1), (14, .iload_n 2, 1), (15, .invokevirtual 266, 3), (18, .ifCond .ne 9, 3), (21, .aload_n 0, 1), (22, .iconst 1, 1), (23, .invokevirtual 236, 3), (26, .ireturn, 1), (27, .iconst 0, 1), (28, .istore_n 3, 1), (29, .iload_n 3, 1), (30, .aload_n 0, 1), (31, .getfield 250, 3), (34, .if_icmp .ge 37, 3), (37, .aload_n 0, 1), (38, .getfield 7, 3), (41, .iload_n 3, 1), (42, .laload, 1), (43, .iload_n 1, 1), (44, .invokestatic 232, 3), (47, .ifCond .eq 18, 3), (50, .aload_n 0, 1), (51, .getfield 7, 3), (54, .iload_n 3, 1), (55, .laload, 1), (56, .iload_n 2, 1), (57, .invokestatic 232, 3), (60, .ifCond .eq 5, 3), (63, .iload_n 3, 1), (64, .ireturn, 1), (65, .iinc 3 1, 3), (68, .goto (-39), 3), (71, .iconst (-1), 1), (72, .ireturn, 1)] : List (Nat × Instr × Nat)), decode cX12_joined t.1 = .ok (t.2.1, t.2.2) := by decide +kernel
noncomputable def f_X12_joined_29 (s_t : OS) (b1 : Int32) (b2 : Int32) : Int32 → Option ((Int32) ⊕ (Nat × Int32)) := fun b3 => (if (s_t.1 1) ≤ b3 then some (.inr ((1, b3))) else if inb b3 64 = true then (f_X12_has (s_t.2.2.2 3 (b3 : Int32).toNatClampNeg) b1).bind (fun x17 => (if x17 = 0 then bnd (b3 + 1 : Int32) (fun v21 => some (.inl v21)) else (f_X12_has (s_t.2.2.2 3 (b3 : Int32).toNatClampNeg) b2).bind (fun x23 => (if x23 = 0 then bnd (b3 + 1 : Int32) (fun v27 => some (.inl v27)) else some (.inr ((0, b3))))))) else none)
noncomputable def f_X12_joined (st : OS) (a0 : Int32) (a1 : Int32) : Option (Int32 × OS) := bnd (oI st 2 0) (fun t1 => (f_X12_isPoint t1 a0).bind (fun x3 => (if x3 = 0 then (f_X12_fails t1 1).bind (fun x7 => match x7 with | (v9, t10) => some ((v9, t10))) else (f_X12_isPoint t1 a1).bind (fun x11 => (if x11 = 0 then (f_X12_fails t1 1).bind (fun x33 => match x33 with | (v35, t36) => some ((v35, t36))) else (lpv (f_X12_joined_29 t1 a0 a1) 0).bind (fun x29 => match x29 with | (k32, v31) => (if k32 = 0 then some ((v31, t1)) else some (((-1), t1)))))))))
set_option maxHeartbeats 4000000 in
set_option maxRecDepth 100000 in
theorem w_X12_joined_29 {p : Program} {l : Launch} {e : Env} {s : State} {m : MethodId} {args : Array Value} {below : List Frame} {meth : Method} {c : Code} {Q : State → Prop} {G : mG} {h : mM} {q : Nat → Nat} (hq : oinj LX12 q) (X : mX G p m c cX12_joined 4 s args RX12) (s_t : OS) (b1 : Int32) (b2 : Int32) : ∀ (z : Int32) (r : Nat × Int32), lpv (f_X12_joined_29 s_t b1 b2) z = some r → ∀ (H : Heap) (locs : List Loc) (ls : Array Slot), mH G (oset LX12 G q s_t h) s.heap H locs → lv_has ls 4 [(0, .ref (q 53)), (1, .int b1), (2, .int b2), (3, .int z)] → (r.1 = 0 → ∀ (H : Heap) (locs : List Loc) (ls : Array Slot), mH G (oset LX12 G q s_t h) s.heap H locs → lv_has ls 4 [(3, .int r.2)] → W p l e rm_X12_joined s m args below meth c H locs 0 0 Q (F0 m 63 ls [])) → (r.1 = 1 → ∀ (H : Heap) (locs : List Loc) (ls : Array Slot), mH G (oset LX12 G q s_t h) s.heap H locs → lv_has ls 4 [] → W p l e rm_X12_joined s m args below meth c H locs 0 0 Q (F0 m 71 ls [])) → W p l e rm_X12_joined s m args below meth c H locs 0 0 Q (F0 m 29 ls []) := by
  refine lpv_rec ?_
  intro z r x hF hx H locs ls hH hl K0 K1
  obtain ⟨b3, hz⟩ : ∃ y, y = z := ⟨_, rfl⟩
  subst hz
  dsimp only [f_X12_joined_29] at hF
  refine lv_iload_n X.x X.b (dk DX12_joined_0 17 rfl) rfl (lv_at hl 3 rfl) ?_
  refine lv_aload_n X.x X.b (dk DX12_joined_0 18 rfl) rfl (lv_at hl 0 rfl) ?_
  refine og_getI OX12 X hq hH 1 (by decide) rfl kF_X12_250 (dk DX12_joined_0 19 rfl) ?_
  refine lv_icmp_ge (tgt := 71) X.x X.b (dk DX12_joined_0 20 rfl) (by decide) (fun c15 => ?_) (fun c15 => ?_)
  · replace hF := if_t hF c15
    have hr9 := lp_r hF hx
    subst hr9
    exact K1 rfl _ _ _ hH (lv_sub hl [] rfl)
  · replace hF := if_f hF c15
    refine lv_aload_n X.x X.b (dk DX12_joined_0 21 rfl) rfl (lv_at hl 0 rfl) ?_
    refine og_getR (t := 1) OX12 X hq hH 3 (by decide) rfl kF_X12_7 (dk DX12_joined_0 22 rfl) ?_
    refine lv_iload_n X.x X.b (dk DX12_joined_0 23 rfl) rfl (lv_at hl 3 rfl) ?_
    obtain ⟨c16, hF⟩ := gd hF
    refine og_lald X hq hH 3 (by decide) rfl (inb_in c16) (dk DX12_joined_0 24 rfl) ?_
    refine lv_iload_n X.x X.b (dk DX12_joined_0 25 rfl) rfl (lv_at hl 1 rfl) ?_
    obtain ⟨x17, e18, hF⟩ := bd hF
    refine mr_ci0 hH ⟨rfl, rfl⟩ (mr_runS (As := [.long (s_t.2.2.2 3 (b3 : Int32).toNatClampNeg), .int b1]) (rest := []) X hH (c_X12_has e18) kM_X12_232 kT_X12_has kN_X12 kC_X12_has hd_X12_has ⟨Nat.le_of_ble_eq_true rfl, Nat.le_of_ble_eq_true rfl⟩ rfl hl.1 (Nat.le_of_ble_eq_true rfl) (dk DX12_joined_0 26 rfl) ⟨Nat.zero_le _, Nat.zero_le _⟩) (fun r h1 H locs hp hH => ?_)
    obtain ⟨hr1, hr2⟩ := hp; rw [hr1]; rw [hr2] at hH; clear hr1 hr2
    refine lv_if_eq (tgt := 65) X.x X.b (dk DX12_joined_0 27 rfl) (by decide) (fun c20 => ?_) (fun c20 => ?_)
    · replace hF := if_t hF c20
      obtain ⟨v21, e22⟩ : ∃ y : Int32, y = b3 + 1 := ⟨_, rfl⟩
      replace hF := bnd_e hF e22
      refine lv_iinc (v := v21) (lv' := [(3, .int v21), (0, .ref (q 53)), (1, .int b1), (2, .int b2)]) X.x X.b (dk DX12_joined_0 37 rfl) hl (k := 3) rfl (by rw [e22]; rfl) (by decide) rfl (fun ls hl => ?_)
      replace hl : lv_has ls 4 [(0, .ref (q 53)), (1, .int b1), (2, .int b2), (3, .int v21)] := lv_sub hl [1, 2, 3, 0] rfl
      refine lv_goto (tgt := 29) X.x X.b (dk DX12_joined_0 38 rfl) (by decide) ?_
      exact (lp_l hF hx) _ _ _ hH (lv_sub hl [0, 1, 2, 3] rfl) K0 K1
    · replace hF := if_f hF c20
      refine lv_aload_n X.x X.b (dk DX12_joined_0 28 rfl) rfl (lv_at hl 0 rfl) ?_
      refine og_getR (t := 1) OX12 X hq hH 3 (by decide) rfl kF_X12_7 (dk DX12_joined_0 29 rfl) ?_
      refine lv_iload_n X.x X.b (dk DX12_joined_0 30 rfl) rfl (lv_at hl 3 rfl) ?_
      refine og_lald X hq hH 3 (by decide) rfl (inb_in c16) (dk DX12_joined_0 31 rfl) ?_
      refine lv_iload_n X.x X.b (dk DX12_joined_0 32 rfl) rfl (lv_at hl 2 rfl) ?_
      obtain ⟨x23, e24, hF⟩ := bd hF
      refine mr_ci0 hH ⟨rfl, rfl⟩ (mr_runS (As := [.long (s_t.2.2.2 3 (b3 : Int32).toNatClampNeg), .int b2]) (rest := []) X hH (c_X12_has e24) kM_X12_232 kT_X12_has kN_X12 kC_X12_has hd_X12_has ⟨Nat.le_of_ble_eq_true rfl, Nat.le_of_ble_eq_true rfl⟩ rfl hl.1 (Nat.le_of_ble_eq_true rfl) (dk DX12_joined_0 33 rfl) ⟨Nat.zero_le _, Nat.zero_le _⟩) (fun r h1 H locs hp hH => ?_)
      obtain ⟨hr1, hr2⟩ := hp; rw [hr1]; rw [hr2] at hH; clear hr1 hr2
      refine lv_if_eq (tgt := 65) X.x X.b (dk DX12_joined_0 34 rfl) (by decide) (fun c26 => ?_) (fun c26 => ?_)
      · replace hF := if_t hF c26
        obtain ⟨v27, e28⟩ : ∃ y : Int32, y = b3 + 1 := ⟨_, rfl⟩
        replace hF := bnd_e hF e28
        refine lv_iinc (v := v27) (lv' := [(3, .int v27), (0, .ref (q 53)), (1, .int b1), (2, .int b2)]) X.x X.b (dk DX12_joined_0 37 rfl) hl (k := 3) rfl (by rw [e28]; rfl) (by decide) rfl (fun ls hl => ?_)
        replace hl : lv_has ls 4 [(0, .ref (q 53)), (1, .int b1), (2, .int b2), (3, .int v27)] := lv_sub hl [1, 2, 3, 0] rfl
        refine lv_goto (tgt := 29) X.x X.b (dk DX12_joined_0 38 rfl) (by decide) ?_
        exact (lp_l hF hx) _ _ _ hH (lv_sub hl [0, 1, 2, 3] rfl) K0 K1
      · replace hF := if_f hF c26
        have hr9 := lp_r hF hx
        subst hr9
        exact K0 rfl _ _ _ hH (lv_sub hl [3] rfl)
set_option maxHeartbeats 4000000 in
set_option maxRecDepth 100000 in
theorem c_X12_joined {l : Launch} {G : mG} {h : mM} {q : Nat → Nat} (hq : oinj LX12 q) {st : OS} {a0 : Int32} {a1 : Int32} {x : Int32 × OS} (hF : f_X12_joined st a0 a1 = some x) : cQ l G yX12_joined cX12_joined 4 (some FieldType.int) rm_X12_joined [.ref (q 53), .int a0, .int a1] (oset LX12 G q st h) (mQi G (fun r h1 => r = x.1 ∧ h1 = oset LX12 G q x.2 h)) := by
  refine mp_of (by decide +kernel) (Nat.le_of_ble_eq_true rfl) ?_
  intro p e s m below meth c X hr hlk hH hname ls hl
  dsimp only [f_X12_joined] at hF
  replace hl : lv_has ls 4 [(0, .ref (q 53)), (1, .int a0), (2, .int a1)] := hl
  refine lv_aload_n X.x X.b (dk DX12_joined_0 0 rfl) rfl (lv_at hl 0 rfl) ?_
  refine lv_iconst (v := 0) X.x X.b (dk DX12_joined_0 1 rfl) (by decide) ?_
  refine og_putI OX12 X hq hH 2 (by decide) rfl kF_X12_106 rfl rfl rfl (dk DX12_joined_0 2 rfl) (fun H locs hH => ?_)
  obtain ⟨t1, e2⟩ : ∃ y, y = oI st 2 0 := ⟨_, rfl⟩
  rw [← e2] at hH
  replace hF := bnd_e hF e2
  refine lv_aload_n X.x X.b (dk DX12_joined_0 3 rfl) rfl (lv_at hl 0 rfl) ?_
  refine lv_iload_n X.x X.b (dk DX12_joined_0 4 rfl) rfl (lv_at hl 1 rfl) ?_
  obtain ⟨x3, e4, hF⟩ := bd hF
  refine mr_ci0 hH ⟨rfl, rfl⟩ (mr_runV (As := [.int a0]) (rest := []) X hH (c_X12_isPoint hq e4) ((oset_at hq (Nat.le_refl _) ohas_N).trans (congrArg some ocell_N)) OX12.1 kM_X12_266 kI_X12_isPoint kS_X12_isPoint kN_X12 kC_X12_isPoint hd_X12_isPoint ⟨Nat.le_of_ble_eq_true rfl, Nat.le_of_ble_eq_true rfl⟩ rfl hl.1 (Nat.le_of_ble_eq_true rfl) (dk DX12_joined_0 5 rfl) ⟨Nat.zero_le _, Nat.zero_le _⟩) (fun r h1 H locs hp hH => ?_)
  obtain ⟨hr1, hr2⟩ := hp; rw [hr1]; rw [hr2] at hH; clear hr1 hr2
  refine lv_if_eq (tgt := 21) X.x X.b (dk DX12_joined_0 6 rfl) (by decide) (fun c6 => ?_) (fun c6 => ?_)
  · replace hF := if_t hF c6
    refine lv_aload_n X.x X.b (dk DX12_joined_0 11 rfl) rfl (lv_at hl 0 rfl) ?_
    refine lv_iconst (v := 1) X.x X.b (dk DX12_joined_0 12 rfl) (by decide) ?_
    obtain ⟨x7, e8, hF⟩ := bd hF
    refine mr_ci0 hH ⟨rfl, rfl⟩ (mr_runV (As := [.int 1]) (rest := []) X hH (c_X12_fails hq e8) ((oset_at hq (Nat.le_refl _) ohas_N).trans (congrArg some ocell_N)) OX12.1 kM_X12_236 kI_X12_fails kS_X12_fails kN_X12 kC_X12_fails hd_X12_fails ⟨Nat.le_of_ble_eq_true rfl, Nat.le_of_ble_eq_true rfl⟩ rfl hl.1 (Nat.le_of_ble_eq_true rfl) (dk DX12_joined_0 13 rfl) ⟨Nat.zero_le _, Nat.zero_le _⟩) (fun r h1 H locs hp hH => ?_)
    obtain ⟨hr1, hr2⟩ := hp; rw [hr1]; rw [hr2] at hH; clear hr1 hr2
    obtain ⟨v9, t10⟩ := x7
    try dsimp only at hF hH ⊢
    cases sm hF
    exact mr_iret X hr hlk hH ⟨rfl, rfl⟩ (dk DX12_joined_0 14 rfl)
  · replace hF := if_f hF c6
    refine lv_aload_n X.x X.b (dk DX12_joined_0 7 rfl) rfl (lv_at hl 0 rfl) ?_
    refine lv_iload_n X.x X.b (dk DX12_joined_0 8 rfl) rfl (lv_at hl 2 rfl) ?_
    obtain ⟨x11, e12, hF⟩ := bd hF
    refine mr_ci0 hH ⟨rfl, rfl⟩ (mr_runV (As := [.int a1]) (rest := []) X hH (c_X12_isPoint hq e12) ((oset_at hq (Nat.le_refl _) ohas_N).trans (congrArg some ocell_N)) OX12.1 kM_X12_266 kI_X12_isPoint kS_X12_isPoint kN_X12 kC_X12_isPoint hd_X12_isPoint ⟨Nat.le_of_ble_eq_true rfl, Nat.le_of_ble_eq_true rfl⟩ rfl hl.1 (Nat.le_of_ble_eq_true rfl) (dk DX12_joined_0 9 rfl) ⟨Nat.zero_le _, Nat.zero_le _⟩) (fun r h1 H locs hp hH => ?_)
    obtain ⟨hr1, hr2⟩ := hp; rw [hr1]; rw [hr2] at hH; clear hr1 hr2
    refine lv_if_ne (tgt := 27) X.x X.b (dk DX12_joined_0 10 rfl) (by decide) (fun c14 => ?_) (fun c14 => ?_)
    · replace hF := if_f hF c14
      refine lv_iconst (v := 0) X.x X.b (dk DX12_joined_0 15 rfl) (by decide) ?_
      refine lv_istore_n (lv' := [(3, .int 0), (0, .ref (q 53)), (1, .int a0), (2, .int a1)]) X.x X.b (dk DX12_joined_0 16 rfl) rfl hl (by decide) rfl (fun ls hl => ?_)
      replace hl : lv_has ls 4 [(0, .ref (q 53)), (1, .int a0), (2, .int a1), (3, .int 0)] := lv_sub hl [1, 2, 3, 0] rfl
      obtain ⟨x29, e30, hF⟩ := bd hF
      replace hl : lv_has ls 4 [(0, .ref (q 53)), (1, .int a0), (2, .int a1), (3, .int 0)] := lv_sub hl [0, 1, 2, 3] rfl
      obtain ⟨k32, v31⟩ := x29
      try dsimp only at hF
      refine w_X12_joined_29 hq X t1 a0 a1 _ _ e30 _ _ _ hH hl (fun hk H locs ls hH hl => ?_) (fun hk H locs ls hH hl => ?_)
      · try dsimp only at hH hl
        try dsimp only at hk
        subst hk
        replace hF := if_t hF rfl
        refine lv_iload_n X.x X.b (dk DX12_joined_0 35 rfl) rfl (lv_at hl 0 rfl) ?_
        cases sm hF
        exact mr_iret X hr hlk hH ⟨rfl, rfl⟩ (dk DX12_joined_0 36 rfl)
      · try dsimp only at hH hl
        try dsimp only at hk
        subst hk
        replace hF := if_f hF (by decide)
        refine lv_iconst (v := (-1)) X.x X.b (dk DX12_joined_0 39 rfl) (by decide) ?_
        cases sm hF
        exact mr_iret X hr hlk hH ⟨rfl, rfl⟩ (dk DX12_joined_0 40 rfl)
    · replace hF := if_t hF c14
      refine lv_aload_n X.x X.b (dk DX12_joined_0 11 rfl) rfl (lv_at hl 0 rfl) ?_
      refine lv_iconst (v := 1) X.x X.b (dk DX12_joined_0 12 rfl) (by decide) ?_
      obtain ⟨x33, e34, hF⟩ := bd hF
      refine mr_ci0 hH ⟨rfl, rfl⟩ (mr_runV (As := [.int 1]) (rest := []) X hH (c_X12_fails hq e34) ((oset_at hq (Nat.le_refl _) ohas_N).trans (congrArg some ocell_N)) OX12.1 kM_X12_236 kI_X12_fails kS_X12_fails kN_X12 kC_X12_fails hd_X12_fails ⟨Nat.le_of_ble_eq_true rfl, Nat.le_of_ble_eq_true rfl⟩ rfl hl.1 (Nat.le_of_ble_eq_true rfl) (dk DX12_joined_0 13 rfl) ⟨Nat.zero_le _, Nat.zero_le _⟩) (fun r h1 H locs hp hH => ?_)
      obtain ⟨hr1, hr2⟩ := hp; rw [hr1]; rw [hr2] at hH; clear hr1 hr2
      obtain ⟨v35, t36⟩ := x33
      try dsimp only at hF hH ⊢
      cases sm hF
      exact mr_iret X hr hlk hH ⟨rfl, rfl⟩ (dk DX12_joined_0 14 rfl)
-- X12_layNears
abbrev rm_X12_layNears : Room := { frames := 1, cells := 0, slots := 0, locals := 22 }
theorem hd_X12_layNears : mHd yX12_layNears 0 := ⟨by decide +kernel, by decide +kernel, by decide +kernel⟩
theorem DX12_layNears_0 : ∀ t ∈ ([(0, .iconst 0, 1), (1, .istore_n 1, 1), (2, .iload_n 1, 1), (3, .aload_n 0, 1), (4, .getfield 248, 3), (7, .if_icmp .ge 77, 3), (10, .aload_n 0, 1), (11, .getfield 30, 3), (14, .iload_n 1, 1), (15, .lconst 0, 1), (16, .lastore, 1), (17, .iconst 0, 1), (18, .istore_n 2, 1), (19, .iload_n 2, 1), (20, .aload_n 0, 1), (21, .getfield 250, 3), (24, .if_icmp .ge 37, 3), (27, .aload_n 0, 1), (28, .getfield 7, 3), (31, .iload_n 2, 1), (32, .laload, 1), (33, .iload_n 1, 1), (34, .invokestatic 232, 3), (37, .ifCond .eq 18, 3), (40, .aload_n 0, 1), (41, .getfield 30, 3), (44, .iload_n 1, 1), (45, .dup2, 1), (46, .laload, 1), (47, .aload_n 0, 1), (48, .getfield 7, 3), (51, .iload_n 2, 1), (52, .laload, 1), (53, .lor, 1), (54, .lastore, 1), (55, .iinc 2 1, 3), (58, .goto (-39), 3), (61, .aload_n 0, 1), (62, .getfield 30, 3), (65, .iload_n 1, 1), (66, .dup2, 1), (67, .laload, 1), (68, .iload_n 1, 1), (69, .invokestatic 111, 3), (72, .ldc2_w 109, 3), (75, .lxor, 1), (76, .land, 1), (77, .lastore, 1), (78, .iinc 1 1, 3), (81, .goto (-79), 3), (84, .return_, 1)] : List (Nat × Instr × Nat)), decode cX12_layNears t.1 = .ok (t.2.1, t.2.2) := by decide +kernel
noncomputable def f_X12_layNears_19 (b1 : Int32) : (OS × Int32) → Option ((OS × Int32) ⊕ (OS)) := fun z => match z with | (s_t, b2) => (if (s_t.1 1) ≤ b2 then some (.inr s_t) else if inb b2 64 = true then (f_X12_has (s_t.2.2.2 3 (b2 : Int32).toNatClampNeg) b1).bind (fun x7 => (if x7 = 0 then bnd (b2 + 1 : Int32) (fun v11 => some (.inl ((s_t, v11)))) else if inb b1 64 = true then bnd (oB s_t 20 (vp_updL (s_t.2.2.2 20) (b1 : Int32).toNatClampNeg ((s_t.2.2.2 20 (b1 : Int32).toNatClampNeg) ||| (s_t.2.2.2 3 (b2 : Int32).toNatClampNeg)))) (fun t14 => bnd (b2 + 1 : Int32) (fun v16 => some (.inl ((t14, v16))))) else none)) else none)
noncomputable def f_X12_layNears_2 : (OS × Int32) → Option ((OS × Int32) ⊕ (OS)) := fun z => match z with | (s_t, b1) => (if (s_t.1 0) ≤ b1 then some (.inr s_t) else if inb b1 64 = true then bnd (oB s_t 20 (vp_updL (s_t.2.2.2 20) (b1 : Int32).toNatClampNeg 0)) (fun t3 => (lpv (f_X12_layNears_19 b1) ((t3, 0))).bind (fun x18 => (f_X12_bit b1).bind (fun x21 => bnd (oB x18 20 (vp_updL (x18.2.2.2 20) (b1 : Int32).toNatClampNeg ((x18.2.2.2 20 (b1 : Int32).toNatClampNeg) &&& (x21 ^^^ ((-1)))))) (fun t24 => bnd (b1 + 1 : Int32) (fun v26 => some (.inl ((t24, v26)))))))) else none)
noncomputable def f_X12_layNears (st : OS) : Option (OS) := (lpv (f_X12_layNears_2) ((st, 0))).bind (fun x28 => some x28)
set_option maxHeartbeats 4000000 in
set_option maxRecDepth 100000 in
theorem w_X12_layNears_19 {p : Program} {l : Launch} {e : Env} {s : State} {m : MethodId} {args : Array Value} {below : List Frame} {meth : Method} {c : Code} {Q : State → Prop} {G : mG} {h : mM} {q : Nat → Nat} (hq : oinj LX12 q) (X : mX G p m c cX12_layNears 3 s args RX12) (b1 : Int32) : ∀ (z : OS × Int32) (r : OS), lpv (f_X12_layNears_19 b1) z = some r → ∀ (H : Heap) (locs : List Loc) (ls : Array Slot), mH G (oset LX12 G q z.1 h) s.heap H locs → lv_has ls 3 [(0, .ref (q 53)), (1, .int b1), (2, .int z.2)] → (∀ (H : Heap) (locs : List Loc) (ls : Array Slot), mH G (oset LX12 G q r h) s.heap H locs → lv_has ls 3 [(0, .ref (q 53)), (1, .int b1)] → W p l e rm_X12_layNears s m args below meth c H locs 0 0 Q (F0 m 61 ls [])) → W p l e rm_X12_layNears s m args below meth c H locs 0 0 Q (F0 m 19 ls []) := by
  refine lpv_rec ?_
  intro z r x hF hx H locs ls hH hl K0
  obtain ⟨s_t, b2⟩ := z
  dsimp only [f_X12_layNears_19] at hF
  try dsimp only at hH hl
  refine lv_iload_n X.x X.b (dk DX12_layNears_0 13 rfl) rfl (lv_at hl 2 rfl) ?_
  refine lv_aload_n X.x X.b (dk DX12_layNears_0 14 rfl) rfl (lv_at hl 0 rfl) ?_
  refine og_getI OX12 X hq hH 1 (by decide) rfl kF_X12_250 (dk DX12_layNears_0 15 rfl) ?_
  refine lv_icmp_ge (tgt := 61) X.x X.b (dk DX12_layNears_0 16 rfl) (by decide) (fun c5 => ?_) (fun c5 => ?_)
  · replace hF := if_t hF c5
    have hr9 := lp_r hF hx
    subst hr9
    exact K0 _ _ _ hH (lv_sub hl [0, 1] rfl)
  · replace hF := if_f hF c5
    refine lv_aload_n X.x X.b (dk DX12_layNears_0 17 rfl) rfl (lv_at hl 0 rfl) ?_
    refine og_getR (t := 1) OX12 X hq hH 3 (by decide) rfl kF_X12_7 (dk DX12_layNears_0 18 rfl) ?_
    refine lv_iload_n X.x X.b (dk DX12_layNears_0 19 rfl) rfl (lv_at hl 2 rfl) ?_
    obtain ⟨c6, hF⟩ := gd hF
    refine og_lald X hq hH 3 (by decide) rfl (inb_in c6) (dk DX12_layNears_0 20 rfl) ?_
    refine lv_iload_n X.x X.b (dk DX12_layNears_0 21 rfl) rfl (lv_at hl 1 rfl) ?_
    obtain ⟨x7, e8, hF⟩ := bd hF
    refine mr_ci0 hH ⟨rfl, rfl⟩ (mr_runS (As := [.long (s_t.2.2.2 3 (b2 : Int32).toNatClampNeg), .int b1]) (rest := []) X hH (c_X12_has e8) kM_X12_232 kT_X12_has kN_X12 kC_X12_has hd_X12_has ⟨Nat.le_of_ble_eq_true rfl, Nat.le_of_ble_eq_true rfl⟩ rfl hl.1 (Nat.le_of_ble_eq_true rfl) (dk DX12_layNears_0 22 rfl) ⟨Nat.zero_le _, Nat.zero_le _⟩) (fun r h1 H locs hp hH => ?_)
    obtain ⟨hr1, hr2⟩ := hp; rw [hr1]; rw [hr2] at hH; clear hr1 hr2
    refine lv_if_eq (tgt := 55) X.x X.b (dk DX12_layNears_0 23 rfl) (by decide) (fun c10 => ?_) (fun c10 => ?_)
    · replace hF := if_t hF c10
      obtain ⟨v11, e12⟩ : ∃ y : Int32, y = b2 + 1 := ⟨_, rfl⟩
      replace hF := bnd_e hF e12
      refine lv_iinc (v := v11) (lv' := [(2, .int v11), (0, .ref (q 53)), (1, .int b1)]) X.x X.b (dk DX12_layNears_0 35 rfl) hl (k := 2) rfl (by rw [e12]; rfl) (by decide) rfl (fun ls hl => ?_)
      replace hl : lv_has ls 3 [(0, .ref (q 53)), (1, .int b1), (2, .int v11)] := lv_sub hl [1, 2, 0] rfl
      refine lv_goto (tgt := 19) X.x X.b (dk DX12_layNears_0 36 rfl) (by decide) ?_
      exact (lp_l hF hx) _ _ _ hH (lv_sub hl [0, 1, 2] rfl) K0
    · replace hF := if_f hF c10
      refine lv_aload_n X.x X.b (dk DX12_layNears_0 24 rfl) rfl (lv_at hl 0 rfl) ?_
      refine og_getR (t := 1) OX12 X hq hH 20 (by decide) rfl kF_X12_30 (dk DX12_layNears_0 25 rfl) ?_
      refine lv_iload_n X.x X.b (dk DX12_layNears_0 26 rfl) rfl (lv_at hl 1 rfl) ?_
      refine lv_dup2_11 X.x X.b (dk DX12_layNears_0 27 rfl) rfl rfl ?_
      obtain ⟨c13, hF⟩ := gd hF
      refine og_lald X hq hH 20 (by decide) rfl (inb_in c13) (dk DX12_layNears_0 28 rfl) ?_
      refine lv_aload_n X.x X.b (dk DX12_layNears_0 29 rfl) rfl (lv_at hl 0 rfl) ?_
      refine og_getR (t := 1) OX12 X hq hH 3 (by decide) rfl kF_X12_7 (dk DX12_layNears_0 30 rfl) ?_
      refine lv_iload_n X.x X.b (dk DX12_layNears_0 31 rfl) rfl (lv_at hl 2 rfl) ?_
      refine og_lald X hq hH 3 (by decide) rfl (inb_in c6) (dk DX12_layNears_0 32 rfl) ?_
      refine lv_lor X.x X.b (dk DX12_layNears_0 33 rfl) ?_
      refine og_last X hq hH 20 (by decide) rfl (inb_in c13) (dk DX12_layNears_0 34 rfl) (fun H locs hH => ?_)
      obtain ⟨t14, e15⟩ : ∃ y, y = oB s_t 20 (vp_updL (s_t.2.2.2 20) (b1 : Int32).toNatClampNeg ((s_t.2.2.2 20 (b1 : Int32).toNatClampNeg) ||| (s_t.2.2.2 3 (b2 : Int32).toNatClampNeg))) := ⟨_, rfl⟩
      rw [← e15] at hH
      replace hF := bnd_e hF e15
      obtain ⟨v16, e17⟩ : ∃ y : Int32, y = b2 + 1 := ⟨_, rfl⟩
      replace hF := bnd_e hF e17
      refine lv_iinc (v := v16) (lv' := [(2, .int v16), (0, .ref (q 53)), (1, .int b1)]) X.x X.b (dk DX12_layNears_0 35 rfl) hl (k := 2) rfl (by rw [e17]; rfl) (by decide) rfl (fun ls hl => ?_)
      replace hl : lv_has ls 3 [(0, .ref (q 53)), (1, .int b1), (2, .int v16)] := lv_sub hl [1, 2, 0] rfl
      refine lv_goto (tgt := 19) X.x X.b (dk DX12_layNears_0 36 rfl) (by decide) ?_
      exact (lp_l hF hx) _ _ _ hH (lv_sub hl [0, 1, 2] rfl) K0
set_option maxHeartbeats 4000000 in
set_option maxRecDepth 100000 in
theorem w_X12_layNears_2 {p : Program} {l : Launch} {e : Env} {s : State} {m : MethodId} {args : Array Value} {below : List Frame} {meth : Method} {c : Code} {Q : State → Prop} {G : mG} {h : mM} {q : Nat → Nat} (hq : oinj LX12 q) (X : mX G p m c cX12_layNears 3 s args RX12) : ∀ (z : OS × Int32) (r : OS), lpv (f_X12_layNears_2) z = some r → ∀ (H : Heap) (locs : List Loc) (ls : Array Slot), mH G (oset LX12 G q z.1 h) s.heap H locs → lv_has ls 3 [(0, .ref (q 53)), (1, .int z.2)] → (∀ (H : Heap) (locs : List Loc) (ls : Array Slot), mH G (oset LX12 G q r h) s.heap H locs → lv_has ls 3 [] → W p l e rm_X12_layNears s m args below meth c H locs 0 0 Q (F0 m 84 ls [])) → W p l e rm_X12_layNears s m args below meth c H locs 0 0 Q (F0 m 2 ls []) := by
  refine lpv_rec ?_
  intro z r x hF hx H locs ls hH hl K0
  obtain ⟨s_t, b1⟩ := z
  dsimp only [f_X12_layNears_2] at hF
  try dsimp only at hH hl
  refine lv_iload_n X.x X.b (dk DX12_layNears_0 2 rfl) rfl (lv_at hl 1 rfl) ?_
  refine lv_aload_n X.x X.b (dk DX12_layNears_0 3 rfl) rfl (lv_at hl 0 rfl) ?_
  refine og_getI OX12 X hq hH 0 (by decide) rfl kF_X12_248 (dk DX12_layNears_0 4 rfl) ?_
  refine lv_icmp_ge (tgt := 84) X.x X.b (dk DX12_layNears_0 5 rfl) (by decide) (fun c1 => ?_) (fun c1 => ?_)
  · replace hF := if_t hF c1
    have hr9 := lp_r hF hx
    subst hr9
    exact K0 _ _ _ hH (lv_sub hl [] rfl)
  · replace hF := if_f hF c1
    refine lv_aload_n X.x X.b (dk DX12_layNears_0 6 rfl) rfl (lv_at hl 0 rfl) ?_
    refine og_getR (t := 1) OX12 X hq hH 20 (by decide) rfl kF_X12_30 (dk DX12_layNears_0 7 rfl) ?_
    refine lv_iload_n X.x X.b (dk DX12_layNears_0 8 rfl) rfl (lv_at hl 1 rfl) ?_
    refine lv_lconst (v := 0) X.x X.b (dk DX12_layNears_0 9 rfl) (by decide) ?_
    obtain ⟨c2, hF⟩ := gd hF
    refine og_last X hq hH 20 (by decide) rfl (inb_in c2) (dk DX12_layNears_0 10 rfl) (fun H locs hH => ?_)
    obtain ⟨t3, e4⟩ : ∃ y, y = oB s_t 20 (vp_updL (s_t.2.2.2 20) (b1 : Int32).toNatClampNeg 0) := ⟨_, rfl⟩
    rw [← e4] at hH
    replace hF := bnd_e hF e4
    refine lv_iconst (v := 0) X.x X.b (dk DX12_layNears_0 11 rfl) (by decide) ?_
    refine lv_istore_n (lv' := [(2, .int 0), (0, .ref (q 53)), (1, .int b1)]) X.x X.b (dk DX12_layNears_0 12 rfl) rfl hl (by decide) rfl (fun ls hl => ?_)
    replace hl : lv_has ls 3 [(0, .ref (q 53)), (1, .int b1), (2, .int 0)] := lv_sub hl [1, 2, 0] rfl
    obtain ⟨x18, e19, hF⟩ := bd hF
    replace hl : lv_has ls 3 [(0, .ref (q 53)), (1, .int b1), (2, .int 0)] := lv_sub hl [0, 1, 2] rfl
    refine w_X12_layNears_19 hq X b1 _ _ e19 _ _ _ hH hl (fun H locs ls hH hl => ?_)
    refine lv_aload_n X.x X.b (dk DX12_layNears_0 37 rfl) rfl (lv_at hl 0 rfl) ?_
    refine og_getR (t := 1) OX12 X hq hH 20 (by decide) rfl kF_X12_30 (dk DX12_layNears_0 38 rfl) ?_
    refine lv_iload_n X.x X.b (dk DX12_layNears_0 39 rfl) rfl (lv_at hl 1 rfl) ?_
    refine lv_dup2_11 X.x X.b (dk DX12_layNears_0 40 rfl) rfl rfl ?_
    refine og_lald X hq hH 20 (by decide) rfl (inb_in c2) (dk DX12_layNears_0 41 rfl) ?_
    refine lv_iload_n X.x X.b (dk DX12_layNears_0 42 rfl) rfl (lv_at hl 1 rfl) ?_
    obtain ⟨x21, e22, hF⟩ := bd hF
    refine mr_cl0 hH ⟨rfl, rfl⟩ (mr_runS (As := [.int b1]) (rest := [.long (x18.2.2.2 20 (b1 : Int32).toNatClampNeg), .int b1, .ref (q 20)]) X hH (c_X12_bit e22) kM_X12_111 kT_X12_bit kN_X12 kC_X12_bit hd_X12_bit ⟨Nat.le_of_ble_eq_true rfl, Nat.le_of_ble_eq_true rfl⟩ rfl hl.1 (Nat.le_of_ble_eq_true rfl) (dk DX12_layNears_0 43 rfl) ⟨Nat.zero_le _, Nat.zero_le _⟩) (fun r h1 H locs hp hH => ?_)
    obtain ⟨hr1, hr2⟩ := hp; rw [hr1]; rw [hr2] at hH; clear hr1 hr2
    refine lv_ldc2 (v := (-1)) X.x X.b X.ow (X.ts _ kK_X12_109) (dk DX12_layNears_0 44 rfl) ?_
    refine lv_lxor X.x X.b (dk DX12_layNears_0 45 rfl) ?_
    refine lv_land X.x X.b (dk DX12_layNears_0 46 rfl) ?_
    refine og_last X hq hH 20 (by decide) rfl (inb_in c2) (dk DX12_layNears_0 47 rfl) (fun H locs hH => ?_)
    obtain ⟨t24, e25⟩ : ∃ y, y = oB x18 20 (vp_updL (x18.2.2.2 20) (b1 : Int32).toNatClampNeg ((x18.2.2.2 20 (b1 : Int32).toNatClampNeg) &&& (x21 ^^^ ((-1))))) := ⟨_, rfl⟩
    rw [← e25] at hH
    replace hF := bnd_e hF e25
    obtain ⟨v26, e27⟩ : ∃ y : Int32, y = b1 + 1 := ⟨_, rfl⟩
    replace hF := bnd_e hF e27
    refine lv_iinc (v := v26) (lv' := [(1, .int v26), (0, .ref (q 53))]) X.x X.b (dk DX12_layNears_0 48 rfl) hl (k := 1) rfl (by rw [e27]; rfl) (by decide) rfl (fun ls hl => ?_)
    replace hl : lv_has ls 3 [(0, .ref (q 53)), (1, .int v26)] := lv_sub hl [1, 0] rfl
    refine lv_goto (tgt := 2) X.x X.b (dk DX12_layNears_0 49 rfl) (by decide) ?_
    exact (lp_l hF hx) _ _ _ hH (lv_sub hl [0, 1] rfl) K0
set_option maxHeartbeats 4000000 in
set_option maxRecDepth 100000 in
theorem c_X12_layNears {l : Launch} {G : mG} {h : mM} {q : Nat → Nat} (hq : oinj LX12 q) {st : OS} {x : OS} (hF : f_X12_layNears st = some x) : cQ l G yX12_layNears cX12_layNears 3 none rm_X12_layNears [.ref (q 53)] (oset LX12 G q st h) (mQv G (fun h1 => h1 = oset LX12 G q x h)) := by
  refine mp_of (by decide +kernel) (Nat.le_of_ble_eq_true rfl) ?_
  intro p e s m below meth c X hr hlk hH hname ls hl
  dsimp only [f_X12_layNears] at hF
  replace hl : lv_has ls 3 [(0, .ref (q 53))] := hl
  refine lv_iconst (v := 0) X.x X.b (dk DX12_layNears_0 0 rfl) (by decide) ?_
  refine lv_istore_n (lv' := [(1, .int 0), (0, .ref (q 53))]) X.x X.b (dk DX12_layNears_0 1 rfl) rfl hl (by decide) rfl (fun ls hl => ?_)
  replace hl : lv_has ls 3 [(0, .ref (q 53)), (1, .int 0)] := lv_sub hl [1, 0] rfl
  obtain ⟨x28, e29, hF⟩ := bd hF
  replace hl : lv_has ls 3 [(0, .ref (q 53)), (1, .int 0)] := lv_sub hl [0, 1] rfl
  refine w_X12_layNears_2 hq X _ _ e29 _ _ _ hH hl (fun H locs ls hH hl => ?_)
  cases sm hF
  exact mr_vret X hr hlk hH rfl (dk DX12_layNears_0 50 rfl)
-- X12_near
abbrev rm_X12_near : Room := { frames := 2, cells := 0, slots := 0, locals := 46 }
theorem hd_X12_near : mHd yX12_near 1 := ⟨by decide +kernel, by decide +kernel, by decide +kernel⟩
theorem DX12_near_0 : ∀ t ∈ ([(0, .aload_n 0, 1), (1, .iconst 0, 1), (2, .putfield 106, 3), (5, .aload_n 0, 1), (6, .iload_n 1, 1), (7, .invokevirtual 266, 3), (10, .ifCond .ne 10, 3), (13, .aload_n 0, 1), (14, .iconst 1, 1), (15, .invokevirtual 236, 3), (18, .i2l, 1), (19, .lreturn, 1), (20, .aload_n 0, 1), (21, .invokevirtual 272, 3), (24, .aload_n 0, 1), (25, .getfield 30, 3), (28, .iload_n 1, 1), (29, .laload, 1), (30, .lreturn, 1)] : List (Nat × Instr × Nat)), decode cX12_near t.1 = .ok (t.2.1, t.2.2) := by decide +kernel
noncomputable def f_X12_near (st : OS) (a0 : Int32) : Option (Int64 × OS) := bnd (oI st 2 0) (fun t1 => (f_X12_isPoint t1 a0).bind (fun x3 => (if x3 = 0 then (f_X12_fails t1 1).bind (fun x11 => match x11 with | (v13, t14) => some (((v13 : Int32).toInt64, t14))) else (f_X12_layNears t1).bind (fun x7 => if inb a0 64 = true then some ((x7.2.2.2 20 (a0 : Int32).toNatClampNeg, x7)) else none))))
set_option maxHeartbeats 4000000 in
set_option maxRecDepth 100000 in
theorem c_X12_near {l : Launch} {G : mG} {h : mM} {q : Nat → Nat} (hq : oinj LX12 q) {st : OS} {a0 : Int32} {x : Int64 × OS} (hF : f_X12_near st a0 = some x) : cQ l G yX12_near cX12_near 2 (some FieldType.long) rm_X12_near [.ref (q 53), .int a0] (oset LX12 G q st h) (mQl G (fun r h1 => r = x.1 ∧ h1 = oset LX12 G q x.2 h)) := by
  refine mp_of (by decide +kernel) (Nat.le_of_ble_eq_true rfl) ?_
  intro p e s m below meth c X hr hlk hH hname ls hl
  dsimp only [f_X12_near] at hF
  replace hl : lv_has ls 2 [(0, .ref (q 53)), (1, .int a0)] := hl
  refine lv_aload_n X.x X.b (dk DX12_near_0 0 rfl) rfl (lv_at hl 0 rfl) ?_
  refine lv_iconst (v := 0) X.x X.b (dk DX12_near_0 1 rfl) (by decide) ?_
  refine og_putI OX12 X hq hH 2 (by decide) rfl kF_X12_106 rfl rfl rfl (dk DX12_near_0 2 rfl) (fun H locs hH => ?_)
  obtain ⟨t1, e2⟩ : ∃ y, y = oI st 2 0 := ⟨_, rfl⟩
  rw [← e2] at hH
  replace hF := bnd_e hF e2
  refine lv_aload_n X.x X.b (dk DX12_near_0 3 rfl) rfl (lv_at hl 0 rfl) ?_
  refine lv_iload_n X.x X.b (dk DX12_near_0 4 rfl) rfl (lv_at hl 1 rfl) ?_
  obtain ⟨x3, e4, hF⟩ := bd hF
  refine mr_ci0 hH ⟨rfl, rfl⟩ (mr_runV (As := [.int a0]) (rest := []) X hH (c_X12_isPoint hq e4) ((oset_at hq (Nat.le_refl _) ohas_N).trans (congrArg some ocell_N)) OX12.1 kM_X12_266 kI_X12_isPoint kS_X12_isPoint kN_X12 kC_X12_isPoint hd_X12_isPoint ⟨Nat.le_of_ble_eq_true rfl, Nat.le_of_ble_eq_true rfl⟩ rfl hl.1 (Nat.le_of_ble_eq_true rfl) (dk DX12_near_0 5 rfl) ⟨Nat.zero_le _, Nat.zero_le _⟩) (fun r h1 H locs hp hH => ?_)
  obtain ⟨hr1, hr2⟩ := hp; rw [hr1]; rw [hr2] at hH; clear hr1 hr2
  refine lv_if_ne (tgt := 20) X.x X.b (dk DX12_near_0 6 rfl) (by decide) (fun c6 => ?_) (fun c6 => ?_)
  · replace hF := if_f hF c6
    refine lv_aload_n X.x X.b (dk DX12_near_0 12 rfl) rfl (lv_at hl 0 rfl) ?_
    obtain ⟨x7, e8, hF⟩ := bd hF
    refine mr_cv0 hH ⟨rfl, rfl⟩ (mr_runV (As := []) (rest := []) X hH (c_X12_layNears hq e8) ((oset_at hq (Nat.le_refl _) ohas_N).trans (congrArg some ocell_N)) OX12.1 kM_X12_272 kI_X12_layNears kS_X12_layNears kN_X12 kC_X12_layNears hd_X12_layNears ⟨Nat.le_of_ble_eq_true rfl, Nat.le_of_ble_eq_true rfl⟩ rfl hl.1 (Nat.le_of_ble_eq_true rfl) (dk DX12_near_0 13 rfl) ⟨Nat.zero_le _, Nat.zero_le _⟩) (fun h1 H locs hp hH => ?_)
    rw [hp] at hH; clear hp
    refine lv_aload_n X.x X.b (dk DX12_near_0 14 rfl) rfl (lv_at hl 0 rfl) ?_
    refine og_getR (t := 1) OX12 X hq hH 20 (by decide) rfl kF_X12_30 (dk DX12_near_0 15 rfl) ?_
    refine lv_iload_n X.x X.b (dk DX12_near_0 16 rfl) rfl (lv_at hl 1 rfl) ?_
    obtain ⟨c10, hF⟩ := gd hF
    refine og_lald X hq hH 20 (by decide) rfl (inb_in c10) (dk DX12_near_0 17 rfl) ?_
    cases sm hF
    exact mr_lret X hr hlk hH ⟨rfl, rfl⟩ (dk DX12_near_0 18 rfl)
  · replace hF := if_t hF c6
    refine lv_aload_n X.x X.b (dk DX12_near_0 7 rfl) rfl (lv_at hl 0 rfl) ?_
    refine lv_iconst (v := 1) X.x X.b (dk DX12_near_0 8 rfl) (by decide) ?_
    obtain ⟨x11, e12, hF⟩ := bd hF
    refine mr_ci0 hH ⟨rfl, rfl⟩ (mr_runV (As := [.int 1]) (rest := []) X hH (c_X12_fails hq e12) ((oset_at hq (Nat.le_refl _) ohas_N).trans (congrArg some ocell_N)) OX12.1 kM_X12_236 kI_X12_fails kS_X12_fails kN_X12 kC_X12_fails hd_X12_fails ⟨Nat.le_of_ble_eq_true rfl, Nat.le_of_ble_eq_true rfl⟩ rfl hl.1 (Nat.le_of_ble_eq_true rfl) (dk DX12_near_0 9 rfl) ⟨Nat.zero_le _, Nat.zero_le _⟩) (fun r h1 H locs hp hH => ?_)
    obtain ⟨hr1, hr2⟩ := hp; rw [hr1]; rw [hr2] at hH; clear hr1 hr2
    obtain ⟨v13, t14⟩ := x11
    try dsimp only at hF hH ⊢
    refine lv_i2l X.x X.b (dk DX12_near_0 10 rfl) rfl ?_
    cases sm hF
    exact mr_lret X hr hlk hH ⟨rfl, rfl⟩ (dk DX12_near_0 11 rfl)
-- X12_acrossOf
abbrev rm_X12_acrossOf : Room := { frames := 3, cells := 0, slots := 0, locals := 60 }
theorem hd_X12_acrossOf : mHd yX12_acrossOf 1 := ⟨by decide +kernel, by decide +kernel, by decide +kernel⟩
theorem DX12_acrossOf_0 : ∀ t ∈ ([(0, .aload_n 0, 1), (1, .invokevirtual 259, 3), (4, .lstore_n 3, 1), (5, .iconst 0, 1), (6, .istore 5, 2), (8, .iload 5, 2), (10, .aload_n 0, 1), (11, .getfield 248, 3), (14, .if_icmp .ge 34, 3), (17, .lload_n 1, 1), (18, .iload 5, 2), (20, .invokestatic 232, 3), (23, .ifCond .eq 19, 3), (26, .lload_n 3, 1), (27, .aload_n 0, 1), (28, .getfield 30, 3), (31, .iload 5, 2), (33, .laload, 1), (34, .iload 5, 2), (36, .invokestatic 111, 3), (39, .lor, 1), (40, .land, 1), (41, .lstore_n 3, 1), (42, .iinc 5 1, 3), (45, .goto (-37), 3), (48, .lload_n 3, 1), (49, .lreturn, 1)] : List (Nat × Instr × Nat)), decode cX12_acrossOf t.1 = .ok (t.2.1, t.2.2) := by decide +kernel
noncomputable def f_X12_acrossOf_8 (s_t : OS) (b1 : Int64) : (Int64 × Int32) → Option ((Int64 × Int32) ⊕ (Int64)) := fun z => match z with | (b3, b5) => (if (s_t.1 0) ≤ b5 then some (.inr b3) else (f_X12_has b1 b5).bind (fun x5 => (if x5 = 0 then bnd (b5 + 1 : Int32) (fun v9 => some (.inl ((b3, v9)))) else if inb b5 64 = true then (f_X12_bit b5).bind (fun x12 => bnd (b3 &&& ((s_t.2.2.2 20 (b5 : Int32).toNatClampNeg) ||| x12) : Int64) (fun v15 => bnd (b5 + 1 : Int32) (fun v17 => some (.inl ((v15, v17)))))) else none)))
noncomputable def f_X12_acrossOf (st : OS) (a0 : Int64) : Option (Int64) := (f_X12_all st).bind (fun x1 => (lpv (f_X12_acrossOf_8 st a0) ((x1, 0))).bind (fun x19 => some x19))
set_option maxHeartbeats 4000000 in
set_option maxRecDepth 100000 in
theorem w_X12_acrossOf_8 {p : Program} {l : Launch} {e : Env} {s : State} {m : MethodId} {args : Array Value} {below : List Frame} {meth : Method} {c : Code} {Q : State → Prop} {G : mG} {h : mM} {q : Nat → Nat} (hq : oinj LX12 q) (X : mX G p m c cX12_acrossOf 6 s args RX12) (s_t : OS) (b1 : Int64) : ∀ (z : Int64 × Int32) (r : Int64), lpv (f_X12_acrossOf_8 s_t b1) z = some r → ∀ (H : Heap) (locs : List Loc) (ls : Array Slot), mH G (oset LX12 G q s_t h) s.heap H locs → lv_has ls 6 [(0, .ref (q 53)), (1, .long b1), (3, .long z.1), (5, .int z.2)] → (∀ (H : Heap) (locs : List Loc) (ls : Array Slot), mH G (oset LX12 G q s_t h) s.heap H locs → lv_has ls 6 [(3, .long r)] → W p l e rm_X12_acrossOf s m args below meth c H locs 0 0 Q (F0 m 48 ls [])) → W p l e rm_X12_acrossOf s m args below meth c H locs 0 0 Q (F0 m 8 ls []) := by
  refine lpv_rec ?_
  intro z r x hF hx H locs ls hH hl K0
  obtain ⟨b3, b5⟩ := z
  dsimp only [f_X12_acrossOf_8] at hF
  try dsimp only at hH hl
  refine lv_iload X.x X.b (dk DX12_acrossOf_0 5 rfl) (lv_at hl 3 rfl) ?_
  refine lv_aload_n X.x X.b (dk DX12_acrossOf_0 6 rfl) rfl (lv_at hl 0 rfl) ?_
  refine og_getI OX12 X hq hH 0 (by decide) rfl kF_X12_248 (dk DX12_acrossOf_0 7 rfl) ?_
  refine lv_icmp_ge (tgt := 48) X.x X.b (dk DX12_acrossOf_0 8 rfl) (by decide) (fun c4 => ?_) (fun c4 => ?_)
  · replace hF := if_t hF c4
    have hr9 := lp_r hF hx
    subst hr9
    exact K0 _ _ _ hH (lv_sub hl [2] rfl)
  · replace hF := if_f hF c4
    refine lv_lload_n X.x X.b (dk DX12_acrossOf_0 9 rfl) rfl (lv_at hl 1 rfl) ?_
    refine lv_iload X.x X.b (dk DX12_acrossOf_0 10 rfl) (lv_at hl 3 rfl) ?_
    obtain ⟨x5, e6, hF⟩ := bd hF
    refine mr_ci0 hH ⟨rfl, rfl⟩ (mr_runS (As := [.long b1, .int b5]) (rest := []) X hH (c_X12_has e6) kM_X12_232 kT_X12_has kN_X12 kC_X12_has hd_X12_has ⟨Nat.le_of_ble_eq_true rfl, Nat.le_of_ble_eq_true rfl⟩ rfl hl.1 (Nat.le_of_ble_eq_true rfl) (dk DX12_acrossOf_0 11 rfl) ⟨Nat.zero_le _, Nat.zero_le _⟩) (fun r h1 H locs hp hH => ?_)
    obtain ⟨hr1, hr2⟩ := hp; rw [hr1]; rw [hr2] at hH; clear hr1 hr2
    refine lv_if_eq (tgt := 42) X.x X.b (dk DX12_acrossOf_0 12 rfl) (by decide) (fun c8 => ?_) (fun c8 => ?_)
    · replace hF := if_t hF c8
      obtain ⟨v9, e10⟩ : ∃ y : Int32, y = b5 + 1 := ⟨_, rfl⟩
      replace hF := bnd_e hF e10
      refine lv_iinc (v := v9) (lv' := [(5, .int v9), (0, .ref (q 53)), (1, .long b1), (3, .long b3)]) X.x X.b (dk DX12_acrossOf_0 23 rfl) hl (k := 3) rfl (by rw [e10]; rfl) (by decide) rfl (fun ls hl => ?_)
      replace hl : lv_has ls 6 [(0, .ref (q 53)), (1, .long b1), (3, .long b3), (5, .int v9)] := lv_sub hl [1, 2, 3, 0] rfl
      refine lv_goto (tgt := 8) X.x X.b (dk DX12_acrossOf_0 24 rfl) (by decide) ?_
      exact (lp_l hF hx) _ _ _ hH (lv_sub hl [0, 1, 2, 3] rfl) K0
    · replace hF := if_f hF c8
      refine lv_lload_n X.x X.b (dk DX12_acrossOf_0 13 rfl) rfl (lv_at hl 2 rfl) ?_
      refine lv_aload_n X.x X.b (dk DX12_acrossOf_0 14 rfl) rfl (lv_at hl 0 rfl) ?_
      refine og_getR (t := 1) OX12 X hq hH 20 (by decide) rfl kF_X12_30 (dk DX12_acrossOf_0 15 rfl) ?_
      refine lv_iload X.x X.b (dk DX12_acrossOf_0 16 rfl) (lv_at hl 3 rfl) ?_
      obtain ⟨c11, hF⟩ := gd hF
      refine og_lald X hq hH 20 (by decide) rfl (inb_in c11) (dk DX12_acrossOf_0 17 rfl) ?_
      refine lv_iload X.x X.b (dk DX12_acrossOf_0 18 rfl) (lv_at hl 3 rfl) ?_
      obtain ⟨x12, e13, hF⟩ := bd hF
      refine mr_cl0 hH ⟨rfl, rfl⟩ (mr_runS (As := [.int b5]) (rest := [.long (s_t.2.2.2 20 (b5 : Int32).toNatClampNeg), .long b3]) X hH (c_X12_bit e13) kM_X12_111 kT_X12_bit kN_X12 kC_X12_bit hd_X12_bit ⟨Nat.le_of_ble_eq_true rfl, Nat.le_of_ble_eq_true rfl⟩ rfl hl.1 (Nat.le_of_ble_eq_true rfl) (dk DX12_acrossOf_0 19 rfl) ⟨Nat.zero_le _, Nat.zero_le _⟩) (fun r h1 H locs hp hH => ?_)
      obtain ⟨hr1, hr2⟩ := hp; rw [hr1]; rw [hr2] at hH; clear hr1 hr2
      refine lv_lor X.x X.b (dk DX12_acrossOf_0 20 rfl) ?_
      refine lv_land X.x X.b (dk DX12_acrossOf_0 21 rfl) ?_
      refine lv_topl (fun v15 e16 => ?_)
      replace hF := bnd_e hF e16
      refine lv_lstore_n (lv' := [(3, .long v15), (0, .ref (q 53)), (1, .long b1), (5, .int b5)]) X.x X.b (dk DX12_acrossOf_0 22 rfl) rfl hl (by decide) rfl (fun ls hl => ?_)
      replace hl : lv_has ls 6 [(0, .ref (q 53)), (1, .long b1), (3, .long v15), (5, .int b5)] := lv_sub hl [1, 2, 0, 3] rfl
      obtain ⟨v17, e18⟩ : ∃ y : Int32, y = b5 + 1 := ⟨_, rfl⟩
      replace hF := bnd_e hF e18
      refine lv_iinc (v := v17) (lv' := [(5, .int v17), (0, .ref (q 53)), (1, .long b1), (3, .long v15)]) X.x X.b (dk DX12_acrossOf_0 23 rfl) hl (k := 3) rfl (by rw [e18]; rfl) (by decide) rfl (fun ls hl => ?_)
      replace hl : lv_has ls 6 [(0, .ref (q 53)), (1, .long b1), (3, .long v15), (5, .int v17)] := lv_sub hl [1, 2, 3, 0] rfl
      refine lv_goto (tgt := 8) X.x X.b (dk DX12_acrossOf_0 24 rfl) (by decide) ?_
      exact (lp_l hF hx) _ _ _ hH (lv_sub hl [0, 1, 2, 3] rfl) K0
set_option maxHeartbeats 4000000 in
set_option maxRecDepth 100000 in
theorem c_X12_acrossOf {l : Launch} {G : mG} {h : mM} {q : Nat → Nat} (hq : oinj LX12 q) {st : OS} {a0 : Int64} {x : Int64} (hF : f_X12_acrossOf st a0 = some x) : cQ l G yX12_acrossOf cX12_acrossOf 6 (some FieldType.long) rm_X12_acrossOf [.ref (q 53), .long a0] (oset LX12 G q st h) (mQl G (fun r h1 => r = x ∧ h1 = oset LX12 G q st h)) := by
  refine mp_of (by decide +kernel) (Nat.le_of_ble_eq_true rfl) ?_
  intro p e s m below meth c X hr hlk hH hname ls hl
  dsimp only [f_X12_acrossOf] at hF
  replace hl : lv_has ls 6 [(0, .ref (q 53)), (1, .long a0)] := hl
  refine lv_aload_n X.x X.b (dk DX12_acrossOf_0 0 rfl) rfl (lv_at hl 0 rfl) ?_
  obtain ⟨x1, e2, hF⟩ := bd hF
  refine mr_cl0 hH ⟨rfl, rfl⟩ (mr_runV (As := []) (rest := []) X hH (c_X12_all hq e2) ((oset_at hq (Nat.le_refl _) ohas_N).trans (congrArg some ocell_N)) OX12.1 kM_X12_259 kI_X12_all kS_X12_all kN_X12 kC_X12_all hd_X12_all ⟨Nat.le_of_ble_eq_true rfl, Nat.le_of_ble_eq_true rfl⟩ rfl hl.1 (Nat.le_of_ble_eq_true rfl) (dk DX12_acrossOf_0 1 rfl) ⟨Nat.zero_le _, Nat.zero_le _⟩) (fun r h1 H locs hp hH => ?_)
  obtain ⟨hr1, hr2⟩ := hp; rw [hr1]; rw [hr2] at hH; clear hr1 hr2
  refine lv_lstore_n (lv' := [(3, .long x1), (0, .ref (q 53)), (1, .long a0)]) X.x X.b (dk DX12_acrossOf_0 2 rfl) rfl hl (by decide) rfl (fun ls hl => ?_)
  replace hl : lv_has ls 6 [(0, .ref (q 53)), (1, .long a0), (3, .long x1)] := lv_sub hl [1, 2, 0] rfl
  refine lv_iconst (v := 0) X.x X.b (dk DX12_acrossOf_0 3 rfl) (by decide) ?_
  refine lv_istore (lv' := [(5, .int 0), (0, .ref (q 53)), (1, .long a0), (3, .long x1)]) X.x X.b (dk DX12_acrossOf_0 4 rfl) hl (by decide) rfl (fun ls hl => ?_)
  replace hl : lv_has ls 6 [(0, .ref (q 53)), (1, .long a0), (3, .long x1), (5, .int 0)] := lv_sub hl [1, 2, 3, 0] rfl
  obtain ⟨x19, e20, hF⟩ := bd hF
  replace hl : lv_has ls 6 [(0, .ref (q 53)), (1, .long a0), (3, .long x1), (5, .int 0)] := lv_sub hl [0, 1, 2, 3] rfl
  refine w_X12_acrossOf_8 hq X st a0 _ _ e20 _ _ _ hH hl (fun H locs ls hH hl => ?_)
  refine lv_lload_n X.x X.b (dk DX12_acrossOf_0 25 rfl) rfl (lv_at hl 0 rfl) ?_
  cases sm hF
  exact mr_lret X hr hlk hH ⟨rfl, rfl⟩ (dk DX12_acrossOf_0 26 rfl)
-- X12_across
abbrev rm_X12_across : Room := { frames := 4, cells := 0, slots := 0, locals := 85 }
theorem hd_X12_across : mHd yX12_across 1 := ⟨by decide +kernel, by decide +kernel, by decide +kernel⟩
theorem DX12_across_0 : ∀ t ∈ ([(0, .aload_n 0, 1), (1, .iconst 0, 1), (2, .putfield 106, 3), (5, .aload_n 0, 1), (6, .lload_n 1, 1), (7, .invokevirtual 275, 3), (10, .ifCond .ne 10, 3), (13, .aload_n 0, 1), (14, .iconst 1, 1), (15, .invokevirtual 236, 3), (18, .i2l, 1), (19, .lreturn, 1), (20, .aload_n 0, 1), (21, .invokevirtual 272, 3), (24, .aload_n 0, 1), (25, .lload_n 1, 1), (26, .invokevirtual 279, 3), (29, .lreturn, 1)] : List (Nat × Instr × Nat)), decode cX12_across t.1 = .ok (t.2.1, t.2.2) := by decide +kernel
noncomputable def f_X12_across (st : OS) (a0 : Int64) : Option (Int64 × OS) := bnd (oI st 2 0) (fun t1 => (f_X12_isSet t1 a0).bind (fun x3 => (if x3 = 0 then (f_X12_fails t1 1).bind (fun x13 => match x13 with | (v15, t16) => some (((v15 : Int32).toInt64, t16))) else (f_X12_layNears t1).bind (fun x7 => (f_X12_acrossOf x7 a0).bind (fun x10 => some ((x10, x7)))))))
set_option maxHeartbeats 4000000 in
set_option maxRecDepth 100000 in
theorem c_X12_across {l : Launch} {G : mG} {h : mM} {q : Nat → Nat} (hq : oinj LX12 q) {st : OS} {a0 : Int64} {x : Int64 × OS} (hF : f_X12_across st a0 = some x) : cQ l G yX12_across cX12_across 3 (some FieldType.long) rm_X12_across [.ref (q 53), .long a0] (oset LX12 G q st h) (mQl G (fun r h1 => r = x.1 ∧ h1 = oset LX12 G q x.2 h)) := by
  refine mp_of (by decide +kernel) (Nat.le_of_ble_eq_true rfl) ?_
  intro p e s m below meth c X hr hlk hH hname ls hl
  dsimp only [f_X12_across] at hF
  replace hl : lv_has ls 3 [(0, .ref (q 53)), (1, .long a0)] := hl
  refine lv_aload_n X.x X.b (dk DX12_across_0 0 rfl) rfl (lv_at hl 0 rfl) ?_
  refine lv_iconst (v := 0) X.x X.b (dk DX12_across_0 1 rfl) (by decide) ?_
  refine og_putI OX12 X hq hH 2 (by decide) rfl kF_X12_106 rfl rfl rfl (dk DX12_across_0 2 rfl) (fun H locs hH => ?_)
  obtain ⟨t1, e2⟩ : ∃ y, y = oI st 2 0 := ⟨_, rfl⟩
  rw [← e2] at hH
  replace hF := bnd_e hF e2
  refine lv_aload_n X.x X.b (dk DX12_across_0 3 rfl) rfl (lv_at hl 0 rfl) ?_
  refine lv_lload_n X.x X.b (dk DX12_across_0 4 rfl) rfl (lv_at hl 1 rfl) ?_
  obtain ⟨x3, e4, hF⟩ := bd hF
  refine mr_ci0 hH ⟨rfl, rfl⟩ (mr_runV (As := [.long a0]) (rest := []) X hH (c_X12_isSet hq e4) ((oset_at hq (Nat.le_refl _) ohas_N).trans (congrArg some ocell_N)) OX12.1 kM_X12_275 kI_X12_isSet kS_X12_isSet kN_X12 kC_X12_isSet hd_X12_isSet ⟨Nat.le_of_ble_eq_true rfl, Nat.le_of_ble_eq_true rfl⟩ rfl hl.1 (Nat.le_of_ble_eq_true rfl) (dk DX12_across_0 5 rfl) ⟨Nat.zero_le _, Nat.zero_le _⟩) (fun r h1 H locs hp hH => ?_)
  obtain ⟨hr1, hr2⟩ := hp; rw [hr1]; rw [hr2] at hH; clear hr1 hr2
  refine lv_if_ne (tgt := 20) X.x X.b (dk DX12_across_0 6 rfl) (by decide) (fun c6 => ?_) (fun c6 => ?_)
  · replace hF := if_f hF c6
    refine lv_aload_n X.x X.b (dk DX12_across_0 12 rfl) rfl (lv_at hl 0 rfl) ?_
    obtain ⟨x7, e8, hF⟩ := bd hF
    refine mr_cv0 hH ⟨rfl, rfl⟩ (mr_runV (As := []) (rest := []) X hH (c_X12_layNears hq e8) ((oset_at hq (Nat.le_refl _) ohas_N).trans (congrArg some ocell_N)) OX12.1 kM_X12_272 kI_X12_layNears kS_X12_layNears kN_X12 kC_X12_layNears hd_X12_layNears ⟨Nat.le_of_ble_eq_true rfl, Nat.le_of_ble_eq_true rfl⟩ rfl hl.1 (Nat.le_of_ble_eq_true rfl) (dk DX12_across_0 13 rfl) ⟨Nat.zero_le _, Nat.zero_le _⟩) (fun h1 H locs hp hH => ?_)
    rw [hp] at hH; clear hp
    refine lv_aload_n X.x X.b (dk DX12_across_0 14 rfl) rfl (lv_at hl 0 rfl) ?_
    refine lv_lload_n X.x X.b (dk DX12_across_0 15 rfl) rfl (lv_at hl 1 rfl) ?_
    obtain ⟨x10, e11, hF⟩ := bd hF
    refine mr_cl0 hH ⟨rfl, rfl⟩ (mr_runV (As := [.long a0]) (rest := []) X hH (c_X12_acrossOf hq e11) ((oset_at hq (Nat.le_refl _) ohas_N).trans (congrArg some ocell_N)) OX12.1 kM_X12_279 kI_X12_acrossOf kS_X12_acrossOf kN_X12 kC_X12_acrossOf hd_X12_acrossOf ⟨Nat.le_of_ble_eq_true rfl, Nat.le_of_ble_eq_true rfl⟩ rfl hl.1 (Nat.le_of_ble_eq_true rfl) (dk DX12_across_0 16 rfl) ⟨Nat.zero_le _, Nat.zero_le _⟩) (fun r h1 H locs hp hH => ?_)
    obtain ⟨hr1, hr2⟩ := hp; rw [hr1]; rw [hr2] at hH; clear hr1 hr2
    cases sm hF
    exact mr_lret X hr hlk hH ⟨rfl, rfl⟩ (dk DX12_across_0 17 rfl)
  · replace hF := if_t hF c6
    refine lv_aload_n X.x X.b (dk DX12_across_0 7 rfl) rfl (lv_at hl 0 rfl) ?_
    refine lv_iconst (v := 1) X.x X.b (dk DX12_across_0 8 rfl) (by decide) ?_
    obtain ⟨x13, e14, hF⟩ := bd hF
    refine mr_ci0 hH ⟨rfl, rfl⟩ (mr_runV (As := [.int 1]) (rest := []) X hH (c_X12_fails hq e14) ((oset_at hq (Nat.le_refl _) ohas_N).trans (congrArg some ocell_N)) OX12.1 kM_X12_236 kI_X12_fails kS_X12_fails kN_X12 kC_X12_fails hd_X12_fails ⟨Nat.le_of_ble_eq_true rfl, Nat.le_of_ble_eq_true rfl⟩ rfl hl.1 (Nat.le_of_ble_eq_true rfl) (dk DX12_across_0 9 rfl) ⟨Nat.zero_le _, Nat.zero_le _⟩) (fun r h1 H locs hp hH => ?_)
    obtain ⟨hr1, hr2⟩ := hp; rw [hr1]; rw [hr2] at hH; clear hr1 hr2
    obtain ⟨v15, t16⟩ := x13
    try dsimp only at hF hH ⊢
    refine lv_i2l X.x X.b (dk DX12_across_0 10 rfl) rfl ?_
    cases sm hF
    exact mr_lret X hr hlk hH ⟨rfl, rfl⟩ (dk DX12_across_0 11 rfl)
-- X12_spanned
abbrev rm_X12_spanned : Room := { frames := 4, cells := 0, slots := 0, locals := 82 }
theorem hd_X12_spanned : mHd yX12_spanned 1 := ⟨by decide +kernel, by decide +kernel, by decide +kernel⟩
theorem DX12_spanned_0 : ∀ t ∈ ([(0, .aload_n 0, 1), (1, .iconst 0, 1), (2, .putfield 106, 3), (5, .aload_n 0, 1), (6, .lload_n 1, 1), (7, .invokevirtual 275, 3), (10, .ifCond .ne 10, 3), (13, .aload_n 0, 1), (14, .iconst 1, 1), (15, .invokevirtual 236, 3), (18, .i2l, 1), (19, .lreturn, 1), (20, .lload_n 1, 1), (21, .lstore_n 3, 1), (22, .iconst 1, 1), (23, .istore 5, 2), (25, .iload 5, 2), (27, .ifCond .eq 77, 3), (30, .iconst 0, 1), (31, .istore 5, 2), (33, .iconst 0, 1), (34, .istore 6, 2), (36, .iload 6, 2), (38, .aload_n 0, 1), (39, .getfield 250, 3), (42, .if_icmp .ge 59, 3), (45, .aload_n 0, 1), (46, .getfield 7, 3), (49, .iload 6, 2), (51, .laload, 1), (52, .lload_n 3, 1), (53, .land, 1), (54, .invokestatic 283, 3), (57, .iconst 2, 1), (58, .if_icmp .lt 37, 3), (61, .aload_n 0, 1), (62, .getfield 7, 3), (65, .iload 6, 2), (67, .laload, 1), (68, .lload_n 3, 1), (69, .ldc2_w 109, 3), (72, .lxor, 1), (73, .land, 1), (74, .lconst 0, 1), (75, .lcmp, 1), (76, .ifCond .ne 6, 3), (79, .goto 16, 3), (82, .lload_n 3, 1), (83, .aload_n 0, 1), (84, .getfield 7, 3), (87, .iload 6, 2), (89, .laload, 1), (90, .lor, 1), (91, .lstore_n 3, 1), (92, .iconst 1, 1), (93, .istore 5, 2), (95, .iinc 6 1, 3), (98, .goto (-62), 3), (101, .goto (-76), 3), (104, .lload_n 3, 1)] : List (Nat × Instr × Nat)), decode cX12_spanned t.1 = .ok (t.2.1, t.2.2) := by decide +kernel
theorem DX12_spanned_1 : ∀ t ∈ ([(105, .lreturn, 1)] : List (Nat × Instr × Nat)), decode cX12_spanned t.1 = .ok (t.2.1, t.2.2) := by decide +kernel
noncomputable def f_X12_spanned_36 (s_t : OS) : (Int64 × Int32 × Int32) → Option ((Int64 × Int32 × Int32) ⊕ (Int64 × Int32)) := fun z => match z with | (b3, b5, b6) => (if (s_t.1 1) ≤ b6 then some (.inr ((b3, b5))) else if inb b6 64 = true then (f_X12_ones ((s_t.2.2.2 3 (b6 : Int32).toNatClampNeg) &&& b3)).bind (fun x10 => (if x10 < 2 then bnd (b6 + 1 : Int32) (fun v14 => some (.inl ((b3, b5, v14)))) else (if (lg_cmp ((s_t.2.2.2 3 (b6 : Int32).toNatClampNeg) &&& (b3 ^^^ ((-1)))) 0) = 0 then bnd (b6 + 1 : Int32) (fun v21 => some (.inl ((b3, b5, v21)))) else bnd (b3 ||| (s_t.2.2.2 3 (b6 : Int32).toNatClampNeg) : Int64) (fun v17 => bnd (b6 + 1 : Int32) (fun v19 => some (.inl ((v17, 1, v19)))))))) else none)
noncomputable def f_X12_spanned_25 (s_t : OS) : (Int64 × Int32) → Option ((Int64 × Int32) ⊕ (Int64)) := fun z => match z with | (b3, b5) => (if b5 = 0 then some (.inr b3) else (lpv (f_X12_spanned_36 s_t) ((b3, 0, 0))).bind (fun x23 => match x23 with | (v25, v26) => some (.inl ((v25, v26)))))
noncomputable def f_X12_spanned (st : OS) (a0 : Int64) : Option (Int64 × OS) := bnd (oI st 2 0) (fun t1 => (f_X12_isSet t1 a0).bind (fun x3 => (if x3 = 0 then (f_X12_fails t1 1).bind (fun x30 => match x30 with | (v32, t33) => some (((v32 : Int32).toInt64, t33))) else (lpv (f_X12_spanned_25 t1) ((a0, 1))).bind (fun x27 => some ((x27, t1))))))
set_option maxHeartbeats 4000000 in
set_option maxRecDepth 100000 in
theorem w_X12_spanned_36 {p : Program} {l : Launch} {e : Env} {s : State} {m : MethodId} {args : Array Value} {below : List Frame} {meth : Method} {c : Code} {Q : State → Prop} {G : mG} {h : mM} {q : Nat → Nat} (hq : oinj LX12 q) (X : mX G p m c cX12_spanned 7 s args RX12) (s_t : OS) : ∀ (z : Int64 × Int32 × Int32) (r : Int64 × Int32), lpv (f_X12_spanned_36 s_t) z = some r → ∀ (H : Heap) (locs : List Loc) (ls : Array Slot), mH G (oset LX12 G q s_t h) s.heap H locs → lv_has ls 7 [(0, .ref (q 53)), (3, .long z.1), (5, .int z.2.1), (6, .int z.2.2)] → (∀ (H : Heap) (locs : List Loc) (ls : Array Slot), mH G (oset LX12 G q s_t h) s.heap H locs → lv_has ls 7 [(0, .ref (q 53)), (3, .long r.1), (5, .int r.2)] → W p l e rm_X12_spanned s m args below meth c H locs 0 0 Q (F0 m 101 ls [])) → W p l e rm_X12_spanned s m args below meth c H locs 0 0 Q (F0 m 36 ls []) := by
  refine lpv_rec ?_
  intro z r x hF hx H locs ls hH hl K0
  obtain ⟨b3, b5, b6⟩ := z
  dsimp only [f_X12_spanned_36] at hF
  try dsimp only at hH hl
  refine lv_iload X.x X.b (dk DX12_spanned_0 22 rfl) (lv_at hl 3 rfl) ?_
  refine lv_aload_n X.x X.b (dk DX12_spanned_0 23 rfl) rfl (lv_at hl 0 rfl) ?_
  refine og_getI OX12 X hq hH 1 (by decide) rfl kF_X12_250 (dk DX12_spanned_0 24 rfl) ?_
  refine lv_icmp_ge (tgt := 101) X.x X.b (dk DX12_spanned_0 25 rfl) (by decide) (fun c8 => ?_) (fun c8 => ?_)
  · replace hF := if_t hF c8
    have hr9 := lp_r hF hx
    subst hr9
    exact K0 _ _ _ hH (lv_sub hl [0, 1, 2] rfl)
  · replace hF := if_f hF c8
    refine lv_aload_n X.x X.b (dk DX12_spanned_0 26 rfl) rfl (lv_at hl 0 rfl) ?_
    refine og_getR (t := 1) OX12 X hq hH 3 (by decide) rfl kF_X12_7 (dk DX12_spanned_0 27 rfl) ?_
    refine lv_iload X.x X.b (dk DX12_spanned_0 28 rfl) (lv_at hl 3 rfl) ?_
    obtain ⟨c9, hF⟩ := gd hF
    refine og_lald X hq hH 3 (by decide) rfl (inb_in c9) (dk DX12_spanned_0 29 rfl) ?_
    refine lv_lload_n X.x X.b (dk DX12_spanned_0 30 rfl) rfl (lv_at hl 1 rfl) ?_
    refine lv_land X.x X.b (dk DX12_spanned_0 31 rfl) ?_
    obtain ⟨x10, e11, hF⟩ := bd hF
    refine mr_ci0 hH ⟨rfl, rfl⟩ (mr_runS (As := [.long ((s_t.2.2.2 3 (b6 : Int32).toNatClampNeg) &&& b3)]) (rest := []) X hH (c_X12_ones e11) kM_X12_283 kT_X12_ones kN_X12 kC_X12_ones hd_X12_ones ⟨Nat.le_of_ble_eq_true rfl, Nat.le_of_ble_eq_true rfl⟩ rfl hl.1 (Nat.le_of_ble_eq_true rfl) (dk DX12_spanned_0 32 rfl) ⟨Nat.zero_le _, Nat.zero_le _⟩) (fun r h1 H locs hp hH => ?_)
    obtain ⟨hr1, hr2⟩ := hp; rw [hr1]; rw [hr2] at hH; clear hr1 hr2
    refine lv_iconst (v := 2) X.x X.b (dk DX12_spanned_0 33 rfl) (by decide) ?_
    refine lv_icmp_lt (tgt := 95) X.x X.b (dk DX12_spanned_0 34 rfl) (by decide) (fun c13 => ?_) (fun c13 => ?_)
    · replace hF := if_t hF c13
      obtain ⟨v14, e15⟩ : ∃ y : Int32, y = b6 + 1 := ⟨_, rfl⟩
      replace hF := bnd_e hF e15
      refine lv_iinc (v := v14) (lv' := [(6, .int v14), (0, .ref (q 53)), (3, .long b3), (5, .int b5)]) X.x X.b (dk DX12_spanned_0 56 rfl) hl (k := 3) rfl (by rw [e15]; rfl) (by decide) rfl (fun ls hl => ?_)
      replace hl : lv_has ls 7 [(0, .ref (q 53)), (3, .long b3), (5, .int b5), (6, .int v14)] := lv_sub hl [1, 2, 3, 0] rfl
      refine lv_goto (tgt := 36) X.x X.b (dk DX12_spanned_0 57 rfl) (by decide) ?_
      exact (lp_l hF hx) _ _ _ hH (lv_sub hl [0, 1, 2, 3] rfl) K0
    · replace hF := if_f hF c13
      refine lv_aload_n X.x X.b (dk DX12_spanned_0 35 rfl) rfl (lv_at hl 0 rfl) ?_
      refine og_getR (t := 1) OX12 X hq hH 3 (by decide) rfl kF_X12_7 (dk DX12_spanned_0 36 rfl) ?_
      refine lv_iload X.x X.b (dk DX12_spanned_0 37 rfl) (lv_at hl 3 rfl) ?_
      refine og_lald X hq hH 3 (by decide) rfl (inb_in c9) (dk DX12_spanned_0 38 rfl) ?_
      refine lv_lload_n X.x X.b (dk DX12_spanned_0 39 rfl) rfl (lv_at hl 1 rfl) ?_
      refine lv_ldc2 (v := (-1)) X.x X.b X.ow (X.ts _ kK_X12_109) (dk DX12_spanned_0 40 rfl) ?_
      refine lv_lxor X.x X.b (dk DX12_spanned_0 41 rfl) ?_
      refine lv_land X.x X.b (dk DX12_spanned_0 42 rfl) ?_
      refine lv_lconst (v := 0) X.x X.b (dk DX12_spanned_0 43 rfl) (by decide) ?_
      refine W.lcmp X.x X.b (dk DX12_spanned_0 44 rfl) ?_
      refine lv_if_ne (tgt := 82) X.x X.b (dk DX12_spanned_0 45 rfl) (by decide) (fun c16 => ?_) (fun c16 => ?_)
      · replace hF := if_f hF c16
        refine lv_lload_n X.x X.b (dk DX12_spanned_0 47 rfl) rfl (lv_at hl 1 rfl) ?_
        refine lv_aload_n X.x X.b (dk DX12_spanned_0 48 rfl) rfl (lv_at hl 0 rfl) ?_
        refine og_getR (t := 1) OX12 X hq hH 3 (by decide) rfl kF_X12_7 (dk DX12_spanned_0 49 rfl) ?_
        refine lv_iload X.x X.b (dk DX12_spanned_0 50 rfl) (lv_at hl 3 rfl) ?_
        refine og_lald X hq hH 3 (by decide) rfl (inb_in c9) (dk DX12_spanned_0 51 rfl) ?_
        refine lv_lor X.x X.b (dk DX12_spanned_0 52 rfl) ?_
        refine lv_topl (fun v17 e18 => ?_)
        replace hF := bnd_e hF e18
        refine lv_lstore_n (lv' := [(3, .long v17), (0, .ref (q 53)), (5, .int b5), (6, .int b6)]) X.x X.b (dk DX12_spanned_0 53 rfl) rfl hl (by decide) rfl (fun ls hl => ?_)
        replace hl : lv_has ls 7 [(0, .ref (q 53)), (3, .long v17), (6, .int b6)] := lv_sub hl [1, 0, 3] rfl
        refine lv_iconst (v := 1) X.x X.b (dk DX12_spanned_0 54 rfl) (by decide) ?_
        refine lv_istore (lv' := [(5, .int 1), (0, .ref (q 53)), (3, .long v17), (6, .int b6)]) X.x X.b (dk DX12_spanned_0 55 rfl) hl (by decide) rfl (fun ls hl => ?_)
        replace hl : lv_has ls 7 [(0, .ref (q 53)), (3, .long v17), (5, .int 1), (6, .int b6)] := lv_sub hl [1, 2, 0, 3] rfl
        obtain ⟨v19, e20⟩ : ∃ y : Int32, y = b6 + 1 := ⟨_, rfl⟩
        replace hF := bnd_e hF e20
        refine lv_iinc (v := v19) (lv' := [(6, .int v19), (0, .ref (q 53)), (3, .long v17), (5, .int 1)]) X.x X.b (dk DX12_spanned_0 56 rfl) hl (k := 3) rfl (by rw [e20]; rfl) (by decide) rfl (fun ls hl => ?_)
        replace hl : lv_has ls 7 [(0, .ref (q 53)), (3, .long v17), (5, .int 1), (6, .int v19)] := lv_sub hl [1, 2, 3, 0] rfl
        refine lv_goto (tgt := 36) X.x X.b (dk DX12_spanned_0 57 rfl) (by decide) ?_
        exact (lp_l hF hx) _ _ _ hH (lv_sub hl [0, 1, 2, 3] rfl) K0
      · replace hF := if_t hF c16
        refine lv_goto (tgt := 95) X.x X.b (dk DX12_spanned_0 46 rfl) (by decide) ?_
        obtain ⟨v21, e22⟩ : ∃ y : Int32, y = b6 + 1 := ⟨_, rfl⟩
        replace hF := bnd_e hF e22
        refine lv_iinc (v := v21) (lv' := [(6, .int v21), (0, .ref (q 53)), (3, .long b3), (5, .int b5)]) X.x X.b (dk DX12_spanned_0 56 rfl) hl (k := 3) rfl (by rw [e22]; rfl) (by decide) rfl (fun ls hl => ?_)
        replace hl : lv_has ls 7 [(0, .ref (q 53)), (3, .long b3), (5, .int b5), (6, .int v21)] := lv_sub hl [1, 2, 3, 0] rfl
        refine lv_goto (tgt := 36) X.x X.b (dk DX12_spanned_0 57 rfl) (by decide) ?_
        exact (lp_l hF hx) _ _ _ hH (lv_sub hl [0, 1, 2, 3] rfl) K0
set_option maxHeartbeats 4000000 in
set_option maxRecDepth 100000 in
theorem w_X12_spanned_25 {p : Program} {l : Launch} {e : Env} {s : State} {m : MethodId} {args : Array Value} {below : List Frame} {meth : Method} {c : Code} {Q : State → Prop} {G : mG} {h : mM} {q : Nat → Nat} (hq : oinj LX12 q) (X : mX G p m c cX12_spanned 7 s args RX12) (s_t : OS) : ∀ (z : Int64 × Int32) (r : Int64), lpv (f_X12_spanned_25 s_t) z = some r → ∀ (H : Heap) (locs : List Loc) (ls : Array Slot), mH G (oset LX12 G q s_t h) s.heap H locs → lv_has ls 7 [(0, .ref (q 53)), (3, .long z.1), (5, .int z.2)] → (∀ (H : Heap) (locs : List Loc) (ls : Array Slot), mH G (oset LX12 G q s_t h) s.heap H locs → lv_has ls 7 [(3, .long r)] → W p l e rm_X12_spanned s m args below meth c H locs 0 0 Q (F0 m 104 ls [])) → W p l e rm_X12_spanned s m args below meth c H locs 0 0 Q (F0 m 25 ls []) := by
  refine lpv_rec ?_
  intro z r x hF hx H locs ls hH hl K0
  obtain ⟨b3, b5⟩ := z
  dsimp only [f_X12_spanned_25] at hF
  try dsimp only at hH hl
  refine lv_iload X.x X.b (dk DX12_spanned_0 16 rfl) (lv_at hl 2 rfl) ?_
  refine lv_if_eq (tgt := 104) X.x X.b (dk DX12_spanned_0 17 rfl) (by decide) (fun c7 => ?_) (fun c7 => ?_)
  · replace hF := if_t hF c7
    have hr9 := lp_r hF hx
    subst hr9
    exact K0 _ _ _ hH (lv_sub hl [1] rfl)
  · replace hF := if_f hF c7
    refine lv_iconst (v := 0) X.x X.b (dk DX12_spanned_0 18 rfl) (by decide) ?_
    refine lv_istore (lv' := [(5, .int 0), (0, .ref (q 53)), (3, .long b3)]) X.x X.b (dk DX12_spanned_0 19 rfl) hl (by decide) rfl (fun ls hl => ?_)
    replace hl : lv_has ls 7 [(0, .ref (q 53)), (3, .long b3), (5, .int 0)] := lv_sub hl [1, 2, 0] rfl
    refine lv_iconst (v := 0) X.x X.b (dk DX12_spanned_0 20 rfl) (by decide) ?_
    refine lv_istore (lv' := [(6, .int 0), (0, .ref (q 53)), (3, .long b3), (5, .int 0)]) X.x X.b (dk DX12_spanned_0 21 rfl) hl (by decide) rfl (fun ls hl => ?_)
    replace hl : lv_has ls 7 [(0, .ref (q 53)), (3, .long b3), (5, .int 0), (6, .int 0)] := lv_sub hl [1, 2, 3, 0] rfl
    obtain ⟨x23, e24, hF⟩ := bd hF
    replace hl : lv_has ls 7 [(0, .ref (q 53)), (3, .long b3), (5, .int 0), (6, .int 0)] := lv_sub hl [0, 1, 2, 3] rfl
    obtain ⟨v25, v26⟩ := x23
    try dsimp only at hF
    refine w_X12_spanned_36 hq X s_t _ _ e24 _ _ _ hH hl (fun H locs ls hH hl => ?_)
    try dsimp only at hH hl
    refine lv_goto (tgt := 25) X.x X.b (dk DX12_spanned_0 58 rfl) (by decide) ?_
    exact (lp_l hF hx) _ _ _ hH (lv_sub hl [0, 1, 2] rfl) K0
set_option maxHeartbeats 4000000 in
set_option maxRecDepth 100000 in
theorem c_X12_spanned {l : Launch} {G : mG} {h : mM} {q : Nat → Nat} (hq : oinj LX12 q) {st : OS} {a0 : Int64} {x : Int64 × OS} (hF : f_X12_spanned st a0 = some x) : cQ l G yX12_spanned cX12_spanned 7 (some FieldType.long) rm_X12_spanned [.ref (q 53), .long a0] (oset LX12 G q st h) (mQl G (fun r h1 => r = x.1 ∧ h1 = oset LX12 G q x.2 h)) := by
  refine mp_of (by decide +kernel) (Nat.le_of_ble_eq_true rfl) ?_
  intro p e s m below meth c X hr hlk hH hname ls hl
  dsimp only [f_X12_spanned] at hF
  replace hl : lv_has ls 7 [(0, .ref (q 53)), (1, .long a0)] := hl
  refine lv_aload_n X.x X.b (dk DX12_spanned_0 0 rfl) rfl (lv_at hl 0 rfl) ?_
  refine lv_iconst (v := 0) X.x X.b (dk DX12_spanned_0 1 rfl) (by decide) ?_
  refine og_putI OX12 X hq hH 2 (by decide) rfl kF_X12_106 rfl rfl rfl (dk DX12_spanned_0 2 rfl) (fun H locs hH => ?_)
  obtain ⟨t1, e2⟩ : ∃ y, y = oI st 2 0 := ⟨_, rfl⟩
  rw [← e2] at hH
  replace hF := bnd_e hF e2
  refine lv_aload_n X.x X.b (dk DX12_spanned_0 3 rfl) rfl (lv_at hl 0 rfl) ?_
  refine lv_lload_n X.x X.b (dk DX12_spanned_0 4 rfl) rfl (lv_at hl 1 rfl) ?_
  obtain ⟨x3, e4, hF⟩ := bd hF
  refine mr_ci0 hH ⟨rfl, rfl⟩ (mr_runV (As := [.long a0]) (rest := []) X hH (c_X12_isSet hq e4) ((oset_at hq (Nat.le_refl _) ohas_N).trans (congrArg some ocell_N)) OX12.1 kM_X12_275 kI_X12_isSet kS_X12_isSet kN_X12 kC_X12_isSet hd_X12_isSet ⟨Nat.le_of_ble_eq_true rfl, Nat.le_of_ble_eq_true rfl⟩ rfl hl.1 (Nat.le_of_ble_eq_true rfl) (dk DX12_spanned_0 5 rfl) ⟨Nat.zero_le _, Nat.zero_le _⟩) (fun r h1 H locs hp hH => ?_)
  obtain ⟨hr1, hr2⟩ := hp; rw [hr1]; rw [hr2] at hH; clear hr1 hr2
  refine lv_if_ne (tgt := 20) X.x X.b (dk DX12_spanned_0 6 rfl) (by decide) (fun c6 => ?_) (fun c6 => ?_)
  · replace hF := if_f hF c6
    refine lv_lload_n X.x X.b (dk DX12_spanned_0 12 rfl) rfl (lv_at hl 1 rfl) ?_
    refine lv_lstore_n (lv' := [(3, .long a0), (0, .ref (q 53)), (1, .long a0)]) X.x X.b (dk DX12_spanned_0 13 rfl) rfl hl (by decide) rfl (fun ls hl => ?_)
    replace hl : lv_has ls 7 [(0, .ref (q 53)), (3, .long a0)] := lv_sub hl [1, 0] rfl
    refine lv_iconst (v := 1) X.x X.b (dk DX12_spanned_0 14 rfl) (by decide) ?_
    refine lv_istore (lv' := [(5, .int 1), (0, .ref (q 53)), (3, .long a0)]) X.x X.b (dk DX12_spanned_0 15 rfl) hl (by decide) rfl (fun ls hl => ?_)
    replace hl : lv_has ls 7 [(0, .ref (q 53)), (3, .long a0), (5, .int 1)] := lv_sub hl [1, 2, 0] rfl
    obtain ⟨x27, e28, hF⟩ := bd hF
    replace hl : lv_has ls 7 [(0, .ref (q 53)), (3, .long a0), (5, .int 1)] := lv_sub hl [0, 1, 2] rfl
    refine w_X12_spanned_25 hq X t1 _ _ e28 _ _ _ hH hl (fun H locs ls hH hl => ?_)
    refine lv_lload_n X.x X.b (dk DX12_spanned_0 59 rfl) rfl (lv_at hl 0 rfl) ?_
    cases sm hF
    exact mr_lret X hr hlk hH ⟨rfl, rfl⟩ (dk DX12_spanned_1 0 rfl)
  · replace hF := if_t hF c6
    refine lv_aload_n X.x X.b (dk DX12_spanned_0 7 rfl) rfl (lv_at hl 0 rfl) ?_
    refine lv_iconst (v := 1) X.x X.b (dk DX12_spanned_0 8 rfl) (by decide) ?_
    obtain ⟨x30, e31, hF⟩ := bd hF
    refine mr_ci0 hH ⟨rfl, rfl⟩ (mr_runV (As := [.int 1]) (rest := []) X hH (c_X12_fails hq e31) ((oset_at hq (Nat.le_refl _) ohas_N).trans (congrArg some ocell_N)) OX12.1 kM_X12_236 kI_X12_fails kS_X12_fails kN_X12 kC_X12_fails hd_X12_fails ⟨Nat.le_of_ble_eq_true rfl, Nat.le_of_ble_eq_true rfl⟩ rfl hl.1 (Nat.le_of_ble_eq_true rfl) (dk DX12_spanned_0 9 rfl) ⟨Nat.zero_le _, Nat.zero_le _⟩) (fun r h1 H locs hp hH => ?_)
    obtain ⟨hr1, hr2⟩ := hp; rw [hr1]; rw [hr2] at hH; clear hr1 hr2
    obtain ⟨v32, t33⟩ := x30
    try dsimp only at hF hH ⊢
    refine lv_i2l X.x X.b (dk DX12_spanned_0 10 rfl) rfl ?_
    cases sm hF
    exact mr_lret X hr hlk hH ⟨rfl, rfl⟩ (dk DX12_spanned_0 11 rfl)
-- X12_hyperOf
abbrev rm_X12_hyperOf : Room := { frames := 4, cells := 0, slots := 0, locals := 85 }
theorem hd_X12_hyperOf : mHd yX12_hyperOf 2 := ⟨by decide +kernel, by decide +kernel, by decide +kernel⟩
theorem DX12_hyperOf_0 : ∀ t ∈ ([(0, .aload_n 0, 1), (1, .invokevirtual 272, 3), (4, .iload_n 1, 1), (5, .iload_n 2, 1), (6, .if_icmp .eq 16, 3), (9, .aload_n 0, 1), (10, .getfield 30, 3), (13, .iload_n 1, 1), (14, .laload, 1), (15, .iload_n 2, 1), (16, .invokestatic 232, 3), (19, .ifCond .eq 7, 3), (22, .lconst 0, 1), (23, .goto 20, 3), (26, .aload_n 0, 1), (27, .aload_n 0, 1), (28, .iload_n 1, 1), (29, .invokestatic 111, 3), (32, .iload_n 2, 1), (33, .invokestatic 111, 3), (36, .lor, 1), (37, .invokevirtual 279, 3), (40, .invokevirtual 279, 3), (43, .lreturn, 1)] : List (Nat × Instr × Nat)), decode cX12_hyperOf t.1 = .ok (t.2.1, t.2.2) := by decide +kernel
noncomputable def f_X12_hyperOf (st : OS) (a0 : Int32) (a1 : Int32) : Option (Int64 × OS) := (f_X12_layNears st).bind (fun x1 => (if a0 = a1 then some ((0, x1)) else if inb a0 64 = true then (f_X12_has (x1.2.2.2 20 (a0 : Int32).toNatClampNeg) a1).bind (fun x6 => (if x6 = 0 then (f_X12_bit a0).bind (fun x10 => (f_X12_bit a1).bind (fun x13 => (f_X12_acrossOf x1 (x10 ||| x13)).bind (fun x16 => (f_X12_acrossOf x1 x16).bind (fun x19 => some ((x19, x1)))))) else some ((0, x1)))) else none))
set_option maxHeartbeats 4000000 in
set_option maxRecDepth 100000 in
theorem c_X12_hyperOf {l : Launch} {G : mG} {h : mM} {q : Nat → Nat} (hq : oinj LX12 q) {st : OS} {a0 : Int32} {a1 : Int32} {x : Int64 × OS} (hF : f_X12_hyperOf st a0 a1 = some x) : cQ l G yX12_hyperOf cX12_hyperOf 3 (some FieldType.long) rm_X12_hyperOf [.ref (q 53), .int a0, .int a1] (oset LX12 G q st h) (mQl G (fun r h1 => r = x.1 ∧ h1 = oset LX12 G q x.2 h)) := by
  refine mp_of (by decide +kernel) (Nat.le_of_ble_eq_true rfl) ?_
  intro p e s m below meth c X hr hlk hH hname ls hl
  dsimp only [f_X12_hyperOf] at hF
  replace hl : lv_has ls 3 [(0, .ref (q 53)), (1, .int a0), (2, .int a1)] := hl
  refine lv_aload_n X.x X.b (dk DX12_hyperOf_0 0 rfl) rfl (lv_at hl 0 rfl) ?_
  obtain ⟨x1, e2, hF⟩ := bd hF
  refine mr_cv0 hH ⟨rfl, rfl⟩ (mr_runV (As := []) (rest := []) X hH (c_X12_layNears hq e2) ((oset_at hq (Nat.le_refl _) ohas_N).trans (congrArg some ocell_N)) OX12.1 kM_X12_272 kI_X12_layNears kS_X12_layNears kN_X12 kC_X12_layNears hd_X12_layNears ⟨Nat.le_of_ble_eq_true rfl, Nat.le_of_ble_eq_true rfl⟩ rfl hl.1 (Nat.le_of_ble_eq_true rfl) (dk DX12_hyperOf_0 1 rfl) ⟨Nat.zero_le _, Nat.zero_le _⟩) (fun h1 H locs hp hH => ?_)
  rw [hp] at hH; clear hp
  refine lv_iload_n X.x X.b (dk DX12_hyperOf_0 2 rfl) rfl (lv_at hl 1 rfl) ?_
  refine lv_iload_n X.x X.b (dk DX12_hyperOf_0 3 rfl) rfl (lv_at hl 2 rfl) ?_
  refine lv_icmp_eq (tgt := 22) X.x X.b (dk DX12_hyperOf_0 4 rfl) (by decide) (fun c4 => ?_) (fun c4 => ?_)
  · replace hF := if_t hF c4
    refine lv_lconst (v := 0) X.x X.b (dk DX12_hyperOf_0 12 rfl) (by decide) ?_
    refine lv_goto (tgt := 43) X.x X.b (dk DX12_hyperOf_0 13 rfl) (by decide) ?_
    cases sm hF
    exact mr_lret X hr hlk hH ⟨rfl, rfl⟩ (dk DX12_hyperOf_0 23 rfl)
  · replace hF := if_f hF c4
    refine lv_aload_n X.x X.b (dk DX12_hyperOf_0 5 rfl) rfl (lv_at hl 0 rfl) ?_
    refine og_getR (t := 1) OX12 X hq hH 20 (by decide) rfl kF_X12_30 (dk DX12_hyperOf_0 6 rfl) ?_
    refine lv_iload_n X.x X.b (dk DX12_hyperOf_0 7 rfl) rfl (lv_at hl 1 rfl) ?_
    obtain ⟨c5, hF⟩ := gd hF
    refine og_lald X hq hH 20 (by decide) rfl (inb_in c5) (dk DX12_hyperOf_0 8 rfl) ?_
    refine lv_iload_n X.x X.b (dk DX12_hyperOf_0 9 rfl) rfl (lv_at hl 2 rfl) ?_
    obtain ⟨x6, e7, hF⟩ := bd hF
    refine mr_ci0 hH ⟨rfl, rfl⟩ (mr_runS (As := [.long (x1.2.2.2 20 (a0 : Int32).toNatClampNeg), .int a1]) (rest := []) X hH (c_X12_has e7) kM_X12_232 kT_X12_has kN_X12 kC_X12_has hd_X12_has ⟨Nat.le_of_ble_eq_true rfl, Nat.le_of_ble_eq_true rfl⟩ rfl hl.1 (Nat.le_of_ble_eq_true rfl) (dk DX12_hyperOf_0 10 rfl) ⟨Nat.zero_le _, Nat.zero_le _⟩) (fun r h1 H locs hp hH => ?_)
    obtain ⟨hr1, hr2⟩ := hp; rw [hr1]; rw [hr2] at hH; clear hr1 hr2
    refine lv_if_eq (tgt := 26) X.x X.b (dk DX12_hyperOf_0 11 rfl) (by decide) (fun c9 => ?_) (fun c9 => ?_)
    · replace hF := if_t hF c9
      refine lv_aload_n X.x X.b (dk DX12_hyperOf_0 14 rfl) rfl (lv_at hl 0 rfl) ?_
      refine lv_aload_n X.x X.b (dk DX12_hyperOf_0 15 rfl) rfl (lv_at hl 0 rfl) ?_
      refine lv_iload_n X.x X.b (dk DX12_hyperOf_0 16 rfl) rfl (lv_at hl 1 rfl) ?_
      obtain ⟨x10, e11, hF⟩ := bd hF
      refine mr_cl0 hH ⟨rfl, rfl⟩ (mr_runS (As := [.int a0]) (rest := [.ref (q 53), .ref (q 53)]) X hH (c_X12_bit e11) kM_X12_111 kT_X12_bit kN_X12 kC_X12_bit hd_X12_bit ⟨Nat.le_of_ble_eq_true rfl, Nat.le_of_ble_eq_true rfl⟩ rfl hl.1 (Nat.le_of_ble_eq_true rfl) (dk DX12_hyperOf_0 17 rfl) ⟨Nat.zero_le _, Nat.zero_le _⟩) (fun r h1 H locs hp hH => ?_)
      obtain ⟨hr1, hr2⟩ := hp; rw [hr1]; rw [hr2] at hH; clear hr1 hr2
      refine lv_iload_n X.x X.b (dk DX12_hyperOf_0 18 rfl) rfl (lv_at hl 2 rfl) ?_
      obtain ⟨x13, e14, hF⟩ := bd hF
      refine mr_cl0 hH ⟨rfl, rfl⟩ (mr_runS (As := [.int a1]) (rest := [.long x10, .ref (q 53), .ref (q 53)]) X hH (c_X12_bit e14) kM_X12_111 kT_X12_bit kN_X12 kC_X12_bit hd_X12_bit ⟨Nat.le_of_ble_eq_true rfl, Nat.le_of_ble_eq_true rfl⟩ rfl hl.1 (Nat.le_of_ble_eq_true rfl) (dk DX12_hyperOf_0 19 rfl) ⟨Nat.zero_le _, Nat.zero_le _⟩) (fun r h1 H locs hp hH => ?_)
      obtain ⟨hr1, hr2⟩ := hp; rw [hr1]; rw [hr2] at hH; clear hr1 hr2
      refine lv_lor X.x X.b (dk DX12_hyperOf_0 20 rfl) ?_
      obtain ⟨x16, e17, hF⟩ := bd hF
      refine mr_cl0 hH ⟨rfl, rfl⟩ (mr_runV (As := [.long (x10 ||| x13)]) (rest := [.ref (q 53)]) X hH (c_X12_acrossOf hq e17) ((oset_at hq (Nat.le_refl _) ohas_N).trans (congrArg some ocell_N)) OX12.1 kM_X12_279 kI_X12_acrossOf kS_X12_acrossOf kN_X12 kC_X12_acrossOf hd_X12_acrossOf ⟨Nat.le_of_ble_eq_true rfl, Nat.le_of_ble_eq_true rfl⟩ rfl hl.1 (Nat.le_of_ble_eq_true rfl) (dk DX12_hyperOf_0 21 rfl) ⟨Nat.zero_le _, Nat.zero_le _⟩) (fun r h1 H locs hp hH => ?_)
      obtain ⟨hr1, hr2⟩ := hp; rw [hr1]; rw [hr2] at hH; clear hr1 hr2
      obtain ⟨x19, e20, hF⟩ := bd hF
      refine mr_cl0 hH ⟨rfl, rfl⟩ (mr_runV (As := [.long x16]) (rest := []) X hH (c_X12_acrossOf hq e20) ((oset_at hq (Nat.le_refl _) ohas_N).trans (congrArg some ocell_N)) OX12.1 kM_X12_279 kI_X12_acrossOf kS_X12_acrossOf kN_X12 kC_X12_acrossOf hd_X12_acrossOf ⟨Nat.le_of_ble_eq_true rfl, Nat.le_of_ble_eq_true rfl⟩ rfl hl.1 (Nat.le_of_ble_eq_true rfl) (dk DX12_hyperOf_0 22 rfl) ⟨Nat.zero_le _, Nat.zero_le _⟩) (fun r h1 H locs hp hH => ?_)
      obtain ⟨hr1, hr2⟩ := hp; rw [hr1]; rw [hr2] at hH; clear hr1 hr2
      cases sm hF
      exact mr_lret X hr hlk hH ⟨rfl, rfl⟩ (dk DX12_hyperOf_0 23 rfl)
    · replace hF := if_f hF c9
      refine lv_lconst (v := 0) X.x X.b (dk DX12_hyperOf_0 12 rfl) (by decide) ?_
      refine lv_goto (tgt := 43) X.x X.b (dk DX12_hyperOf_0 13 rfl) (by decide) ?_
      cases sm hF
      exact mr_lret X hr hlk hH ⟨rfl, rfl⟩ (dk DX12_hyperOf_0 23 rfl)
-- X12_hyper
abbrev rm_X12_hyper : Room := { frames := 5, cells := 0, slots := 0, locals := 107 }
theorem hd_X12_hyper : mHd yX12_hyper 2 := ⟨by decide +kernel, by decide +kernel, by decide +kernel⟩
theorem DX12_hyper_0 : ∀ t ∈ ([(0, .aload_n 0, 1), (1, .iconst 0, 1), (2, .putfield 106, 3), (5, .aload_n 0, 1), (6, .iload_n 1, 1), (7, .invokevirtual 266, 3), (10, .ifCond .eq 20, 3), (13, .aload_n 0, 1), (14, .iload_n 2, 1), (15, .invokevirtual 266, 3), (18, .ifCond .eq 12, 3), (21, .aload_n 0, 1), (22, .iload_n 1, 1), (23, .iload_n 2, 1), (24, .invokevirtual 287, 3), (27, .goto 9, 3), (30, .aload_n 0, 1), (31, .iconst 1, 1), (32, .invokevirtual 236, 3), (35, .i2l, 1), (36, .lreturn, 1)] : List (Nat × Instr × Nat)), decode cX12_hyper t.1 = .ok (t.2.1, t.2.2) := by decide +kernel
noncomputable def f_X12_hyper (st : OS) (a0 : Int32) (a1 : Int32) : Option (Int64 × OS) := bnd (oI st 2 0) (fun t1 => (f_X12_isPoint t1 a0).bind (fun x3 => (if x3 = 0 then (f_X12_fails t1 1).bind (fun x7 => match x7 with | (v9, t10) => some (((v9 : Int32).toInt64, t10))) else (f_X12_isPoint t1 a1).bind (fun x11 => (if x11 = 0 then (f_X12_fails t1 1).bind (fun x15 => match x15 with | (v17, t18) => some (((v17 : Int32).toInt64, t18))) else (f_X12_hyperOf t1 a0 a1).bind (fun x19 => match x19 with | (v21, t22) => some ((v21, t22))))))))
set_option maxHeartbeats 4000000 in
set_option maxRecDepth 100000 in
theorem c_X12_hyper {l : Launch} {G : mG} {h : mM} {q : Nat → Nat} (hq : oinj LX12 q) {st : OS} {a0 : Int32} {a1 : Int32} {x : Int64 × OS} (hF : f_X12_hyper st a0 a1 = some x) : cQ l G yX12_hyper cX12_hyper 3 (some FieldType.long) rm_X12_hyper [.ref (q 53), .int a0, .int a1] (oset LX12 G q st h) (mQl G (fun r h1 => r = x.1 ∧ h1 = oset LX12 G q x.2 h)) := by
  refine mp_of (by decide +kernel) (Nat.le_of_ble_eq_true rfl) ?_
  intro p e s m below meth c X hr hlk hH hname ls hl
  dsimp only [f_X12_hyper] at hF
  replace hl : lv_has ls 3 [(0, .ref (q 53)), (1, .int a0), (2, .int a1)] := hl
  refine lv_aload_n X.x X.b (dk DX12_hyper_0 0 rfl) rfl (lv_at hl 0 rfl) ?_
  refine lv_iconst (v := 0) X.x X.b (dk DX12_hyper_0 1 rfl) (by decide) ?_
  refine og_putI OX12 X hq hH 2 (by decide) rfl kF_X12_106 rfl rfl rfl (dk DX12_hyper_0 2 rfl) (fun H locs hH => ?_)
  obtain ⟨t1, e2⟩ : ∃ y, y = oI st 2 0 := ⟨_, rfl⟩
  rw [← e2] at hH
  replace hF := bnd_e hF e2
  refine lv_aload_n X.x X.b (dk DX12_hyper_0 3 rfl) rfl (lv_at hl 0 rfl) ?_
  refine lv_iload_n X.x X.b (dk DX12_hyper_0 4 rfl) rfl (lv_at hl 1 rfl) ?_
  obtain ⟨x3, e4, hF⟩ := bd hF
  refine mr_ci0 hH ⟨rfl, rfl⟩ (mr_runV (As := [.int a0]) (rest := []) X hH (c_X12_isPoint hq e4) ((oset_at hq (Nat.le_refl _) ohas_N).trans (congrArg some ocell_N)) OX12.1 kM_X12_266 kI_X12_isPoint kS_X12_isPoint kN_X12 kC_X12_isPoint hd_X12_isPoint ⟨Nat.le_of_ble_eq_true rfl, Nat.le_of_ble_eq_true rfl⟩ rfl hl.1 (Nat.le_of_ble_eq_true rfl) (dk DX12_hyper_0 5 rfl) ⟨Nat.zero_le _, Nat.zero_le _⟩) (fun r h1 H locs hp hH => ?_)
  obtain ⟨hr1, hr2⟩ := hp; rw [hr1]; rw [hr2] at hH; clear hr1 hr2
  refine lv_if_eq (tgt := 30) X.x X.b (dk DX12_hyper_0 6 rfl) (by decide) (fun c6 => ?_) (fun c6 => ?_)
  · replace hF := if_t hF c6
    refine lv_aload_n X.x X.b (dk DX12_hyper_0 16 rfl) rfl (lv_at hl 0 rfl) ?_
    refine lv_iconst (v := 1) X.x X.b (dk DX12_hyper_0 17 rfl) (by decide) ?_
    obtain ⟨x7, e8, hF⟩ := bd hF
    refine mr_ci0 hH ⟨rfl, rfl⟩ (mr_runV (As := [.int 1]) (rest := []) X hH (c_X12_fails hq e8) ((oset_at hq (Nat.le_refl _) ohas_N).trans (congrArg some ocell_N)) OX12.1 kM_X12_236 kI_X12_fails kS_X12_fails kN_X12 kC_X12_fails hd_X12_fails ⟨Nat.le_of_ble_eq_true rfl, Nat.le_of_ble_eq_true rfl⟩ rfl hl.1 (Nat.le_of_ble_eq_true rfl) (dk DX12_hyper_0 18 rfl) ⟨Nat.zero_le _, Nat.zero_le _⟩) (fun r h1 H locs hp hH => ?_)
    obtain ⟨hr1, hr2⟩ := hp; rw [hr1]; rw [hr2] at hH; clear hr1 hr2
    obtain ⟨v9, t10⟩ := x7
    try dsimp only at hF hH ⊢
    refine lv_i2l X.x X.b (dk DX12_hyper_0 19 rfl) rfl ?_
    cases sm hF
    exact mr_lret X hr hlk hH ⟨rfl, rfl⟩ (dk DX12_hyper_0 20 rfl)
  · replace hF := if_f hF c6
    refine lv_aload_n X.x X.b (dk DX12_hyper_0 7 rfl) rfl (lv_at hl 0 rfl) ?_
    refine lv_iload_n X.x X.b (dk DX12_hyper_0 8 rfl) rfl (lv_at hl 2 rfl) ?_
    obtain ⟨x11, e12, hF⟩ := bd hF
    refine mr_ci0 hH ⟨rfl, rfl⟩ (mr_runV (As := [.int a1]) (rest := []) X hH (c_X12_isPoint hq e12) ((oset_at hq (Nat.le_refl _) ohas_N).trans (congrArg some ocell_N)) OX12.1 kM_X12_266 kI_X12_isPoint kS_X12_isPoint kN_X12 kC_X12_isPoint hd_X12_isPoint ⟨Nat.le_of_ble_eq_true rfl, Nat.le_of_ble_eq_true rfl⟩ rfl hl.1 (Nat.le_of_ble_eq_true rfl) (dk DX12_hyper_0 9 rfl) ⟨Nat.zero_le _, Nat.zero_le _⟩) (fun r h1 H locs hp hH => ?_)
    obtain ⟨hr1, hr2⟩ := hp; rw [hr1]; rw [hr2] at hH; clear hr1 hr2
    refine lv_if_eq (tgt := 30) X.x X.b (dk DX12_hyper_0 10 rfl) (by decide) (fun c14 => ?_) (fun c14 => ?_)
    · replace hF := if_t hF c14
      refine lv_aload_n X.x X.b (dk DX12_hyper_0 16 rfl) rfl (lv_at hl 0 rfl) ?_
      refine lv_iconst (v := 1) X.x X.b (dk DX12_hyper_0 17 rfl) (by decide) ?_
      obtain ⟨x15, e16, hF⟩ := bd hF
      refine mr_ci0 hH ⟨rfl, rfl⟩ (mr_runV (As := [.int 1]) (rest := []) X hH (c_X12_fails hq e16) ((oset_at hq (Nat.le_refl _) ohas_N).trans (congrArg some ocell_N)) OX12.1 kM_X12_236 kI_X12_fails kS_X12_fails kN_X12 kC_X12_fails hd_X12_fails ⟨Nat.le_of_ble_eq_true rfl, Nat.le_of_ble_eq_true rfl⟩ rfl hl.1 (Nat.le_of_ble_eq_true rfl) (dk DX12_hyper_0 18 rfl) ⟨Nat.zero_le _, Nat.zero_le _⟩) (fun r h1 H locs hp hH => ?_)
      obtain ⟨hr1, hr2⟩ := hp; rw [hr1]; rw [hr2] at hH; clear hr1 hr2
      obtain ⟨v17, t18⟩ := x15
      try dsimp only at hF hH ⊢
      refine lv_i2l X.x X.b (dk DX12_hyper_0 19 rfl) rfl ?_
      cases sm hF
      exact mr_lret X hr hlk hH ⟨rfl, rfl⟩ (dk DX12_hyper_0 20 rfl)
    · replace hF := if_f hF c14
      refine lv_aload_n X.x X.b (dk DX12_hyper_0 11 rfl) rfl (lv_at hl 0 rfl) ?_
      refine lv_iload_n X.x X.b (dk DX12_hyper_0 12 rfl) rfl (lv_at hl 1 rfl) ?_
      refine lv_iload_n X.x X.b (dk DX12_hyper_0 13 rfl) rfl (lv_at hl 2 rfl) ?_
      obtain ⟨x19, e20, hF⟩ := bd hF
      refine mr_cl0 hH ⟨rfl, rfl⟩ (mr_runV (As := [.int a0, .int a1]) (rest := []) X hH (c_X12_hyperOf hq e20) ((oset_at hq (Nat.le_refl _) ohas_N).trans (congrArg some ocell_N)) OX12.1 kM_X12_287 kI_X12_hyperOf kS_X12_hyperOf kN_X12 kC_X12_hyperOf hd_X12_hyperOf ⟨Nat.le_of_ble_eq_true rfl, Nat.le_of_ble_eq_true rfl⟩ rfl hl.1 (Nat.le_of_ble_eq_true rfl) (dk DX12_hyper_0 14 rfl) ⟨Nat.zero_le _, Nat.zero_le _⟩) (fun r h1 H locs hp hH => ?_)
      obtain ⟨hr1, hr2⟩ := hp; rw [hr1]; rw [hr2] at hH; clear hr1 hr2
      obtain ⟨v21, t22⟩ := x19
      try dsimp only at hF hH ⊢
      refine lv_goto (tgt := 36) X.x X.b (dk DX12_hyper_0 15 rfl) (by decide) ?_
      cases sm hF
      exact mr_lret X hr hlk hH ⟨rfl, rfl⟩ (dk DX12_hyper_0 20 rfl)
-- X12_regular
abbrev rm_X12_regular : Room := { frames := 5, cells := 0, slots := 0, locals := 107 }
theorem hd_X12_regular : mHd yX12_regular 2 := ⟨by decide +kernel, by decide +kernel, by decide +kernel⟩
theorem DX12_regular_0 : ∀ t ∈ ([(0, .aload_n 0, 1), (1, .aload_n 0, 1), (2, .iload_n 1, 1), (3, .invokevirtual 266, 3), (6, .ifCond .eq 15, 3), (9, .aload_n 0, 1), (10, .iload_n 2, 1), (11, .invokevirtual 266, 3), (14, .ifCond .eq 7, 3), (17, .iconst 0, 1), (18, .goto 4, 3), (21, .iconst 1, 1), (22, .putfield 106, 3), (25, .aload_n 0, 1), (26, .getfield 106, 3), (29, .ifCond .le 5, 3), (32, .iconst 0, 1), (33, .ireturn, 1), (34, .aload_n 0, 1), (35, .iload_n 1, 1), (36, .iload_n 2, 1), (37, .invokevirtual 287, 3), (40, .lstore_n 3, 1), (41, .lload_n 3, 1), (42, .lconst 0, 1), (43, .lcmp, 1), (44, .ifCond .eq 22, 3), (47, .lload_n 3, 1), (48, .invokestatic 283, 3), (51, .aload_n 0, 1), (52, .iload_n 1, 1), (53, .invokevirtual 269, 3), (56, .invokestatic 283, 3), (59, .if_icmp .ne 7, 3), (62, .iconst 1, 1), (63, .goto 4, 3), (66, .iconst 0, 1), (67, .ireturn, 1)] : List (Nat × Instr × Nat)), decode cX12_regular t.1 = .ok (t.2.1, t.2.2) := by decide +kernel
noncomputable def f_X12_regular (st : OS) (a0 : Int32) (a1 : Int32) : Option (Int32 × OS) := (f_X12_isPoint st a0).bind (fun x1 => (if x1 = 0 then bnd (oI st 2 1) (fun t5 => (if (t5.1 2) ≤ 0 then (f_X12_hyperOf t5 a0 a1).bind (fun x8 => match x8 with | (v10, t11) => (if (lg_cmp v10 0) = 0 then some ((0, t11)) else (f_X12_ones v10).bind (fun x13 => (f_X12_throughOf t11 a0).bind (fun x16 => (f_X12_ones x16).bind (fun x19 => (if x13 = x19 then some ((1, t11)) else some ((0, t11)))))))) else some ((0, t5)))) else (f_X12_isPoint st a1).bind (fun x23 => (if x23 = 0 then bnd (oI st 2 1) (fun t27 => (if (t27.1 2) ≤ 0 then (f_X12_hyperOf t27 a0 a1).bind (fun x30 => match x30 with | (v32, t33) => (if (lg_cmp v32 0) = 0 then some ((0, t33)) else (f_X12_ones v32).bind (fun x35 => (f_X12_throughOf t33 a0).bind (fun x38 => (f_X12_ones x38).bind (fun x41 => (if x35 = x41 then some ((1, t33)) else some ((0, t33)))))))) else some ((0, t27)))) else bnd (oI st 2 0) (fun t45 => (if (t45.1 2) ≤ 0 then (f_X12_hyperOf t45 a0 a1).bind (fun x48 => match x48 with | (v50, t51) => (if (lg_cmp v50 0) = 0 then some ((0, t51)) else (f_X12_ones v50).bind (fun x53 => (f_X12_throughOf t51 a0).bind (fun x56 => (f_X12_ones x56).bind (fun x59 => (if x53 = x59 then some ((1, t51)) else some ((0, t51)))))))) else some ((0, t45))))))))
set_option maxHeartbeats 4000000 in
set_option maxRecDepth 100000 in
theorem c_X12_regular {l : Launch} {G : mG} {h : mM} {q : Nat → Nat} (hq : oinj LX12 q) {st : OS} {a0 : Int32} {a1 : Int32} {x : Int32 × OS} (hF : f_X12_regular st a0 a1 = some x) : cQ l G yX12_regular cX12_regular 5 (some FieldType.boolean) rm_X12_regular [.ref (q 53), .int a0, .int a1] (oset LX12 G q st h) (mQi G (fun r h1 => r = x.1 ∧ h1 = oset LX12 G q x.2 h)) := by
  refine mp_of (by decide +kernel) (Nat.le_of_ble_eq_true rfl) ?_
  intro p e s m below meth c X hr hlk hH hname ls hl
  dsimp only [f_X12_regular] at hF
  replace hl : lv_has ls 5 [(0, .ref (q 53)), (1, .int a0), (2, .int a1)] := hl
  refine lv_aload_n X.x X.b (dk DX12_regular_0 0 rfl) rfl (lv_at hl 0 rfl) ?_
  refine lv_aload_n X.x X.b (dk DX12_regular_0 1 rfl) rfl (lv_at hl 0 rfl) ?_
  refine lv_iload_n X.x X.b (dk DX12_regular_0 2 rfl) rfl (lv_at hl 1 rfl) ?_
  obtain ⟨x1, e2, hF⟩ := bd hF
  refine mr_ci0 hH ⟨rfl, rfl⟩ (mr_runV (As := [.int a0]) (rest := [.ref (q 53)]) X hH (c_X12_isPoint hq e2) ((oset_at hq (Nat.le_refl _) ohas_N).trans (congrArg some ocell_N)) OX12.1 kM_X12_266 kI_X12_isPoint kS_X12_isPoint kN_X12 kC_X12_isPoint hd_X12_isPoint ⟨Nat.le_of_ble_eq_true rfl, Nat.le_of_ble_eq_true rfl⟩ rfl hl.1 (Nat.le_of_ble_eq_true rfl) (dk DX12_regular_0 3 rfl) ⟨Nat.zero_le _, Nat.zero_le _⟩) (fun r h1 H locs hp hH => ?_)
  obtain ⟨hr1, hr2⟩ := hp; rw [hr1]; rw [hr2] at hH; clear hr1 hr2
  refine lv_if_eq (tgt := 21) X.x X.b (dk DX12_regular_0 4 rfl) (by decide) (fun c4 => ?_) (fun c4 => ?_)
  · replace hF := if_t hF c4
    refine lv_iconst (v := 1) X.x X.b (dk DX12_regular_0 11 rfl) (by decide) ?_
    refine og_putI OX12 X hq hH 2 (by decide) rfl kF_X12_106 rfl rfl rfl (dk DX12_regular_0 12 rfl) (fun H locs hH => ?_)
    obtain ⟨t5, e6⟩ : ∃ y, y = oI st 2 1 := ⟨_, rfl⟩
    rw [← e6] at hH
    replace hF := bnd_e hF e6
    refine lv_aload_n X.x X.b (dk DX12_regular_0 13 rfl) rfl (lv_at hl 0 rfl) ?_
    refine og_getI OX12 X hq hH 2 (by decide) rfl kF_X12_106 (dk DX12_regular_0 14 rfl) ?_
    refine lv_if_le (tgt := 34) X.x X.b (dk DX12_regular_0 15 rfl) (by decide) (fun c7 => ?_) (fun c7 => ?_)
    · replace hF := if_t hF c7
      refine lv_aload_n X.x X.b (dk DX12_regular_0 18 rfl) rfl (lv_at hl 0 rfl) ?_
      refine lv_iload_n X.x X.b (dk DX12_regular_0 19 rfl) rfl (lv_at hl 1 rfl) ?_
      refine lv_iload_n X.x X.b (dk DX12_regular_0 20 rfl) rfl (lv_at hl 2 rfl) ?_
      obtain ⟨x8, e9, hF⟩ := bd hF
      refine mr_cl0 hH ⟨rfl, rfl⟩ (mr_runV (As := [.int a0, .int a1]) (rest := []) X hH (c_X12_hyperOf hq e9) ((oset_at hq (Nat.le_refl _) ohas_N).trans (congrArg some ocell_N)) OX12.1 kM_X12_287 kI_X12_hyperOf kS_X12_hyperOf kN_X12 kC_X12_hyperOf hd_X12_hyperOf ⟨Nat.le_of_ble_eq_true rfl, Nat.le_of_ble_eq_true rfl⟩ rfl hl.1 (Nat.le_of_ble_eq_true rfl) (dk DX12_regular_0 21 rfl) ⟨Nat.zero_le _, Nat.zero_le _⟩) (fun r h1 H locs hp hH => ?_)
      obtain ⟨hr1, hr2⟩ := hp; rw [hr1]; rw [hr2] at hH; clear hr1 hr2
      obtain ⟨v10, t11⟩ := x8
      try dsimp only at hF hH ⊢
      refine lv_lstore_n (lv' := [(3, .long v10), (0, .ref (q 53)), (1, .int a0), (2, .int a1)]) X.x X.b (dk DX12_regular_0 22 rfl) rfl hl (by decide) rfl (fun ls hl => ?_)
      replace hl : lv_has ls 5 [(0, .ref (q 53)), (1, .int a0), (3, .long v10)] := lv_sub hl [1, 2, 0] rfl
      refine lv_lload_n X.x X.b (dk DX12_regular_0 23 rfl) rfl (lv_at hl 2 rfl) ?_
      refine lv_lconst (v := 0) X.x X.b (dk DX12_regular_0 24 rfl) (by decide) ?_
      refine W.lcmp X.x X.b (dk DX12_regular_0 25 rfl) ?_
      refine lv_if_eq (tgt := 66) X.x X.b (dk DX12_regular_0 26 rfl) (by decide) (fun c12 => ?_) (fun c12 => ?_)
      · replace hF := if_t hF c12
        refine lv_iconst (v := 0) X.x X.b (dk DX12_regular_0 36 rfl) (by decide) ?_
        cases sm hF
        exact mr_zret X hr hlk hH rfl ⟨rfl, rfl⟩ (dk DX12_regular_0 37 rfl)
      · replace hF := if_f hF c12
        refine lv_lload_n X.x X.b (dk DX12_regular_0 27 rfl) rfl (lv_at hl 2 rfl) ?_
        obtain ⟨x13, e14, hF⟩ := bd hF
        refine mr_ci0 hH ⟨rfl, rfl⟩ (mr_runS (As := [.long v10]) (rest := []) X hH (c_X12_ones e14) kM_X12_283 kT_X12_ones kN_X12 kC_X12_ones hd_X12_ones ⟨Nat.le_of_ble_eq_true rfl, Nat.le_of_ble_eq_true rfl⟩ rfl hl.1 (Nat.le_of_ble_eq_true rfl) (dk DX12_regular_0 28 rfl) ⟨Nat.zero_le _, Nat.zero_le _⟩) (fun r h1 H locs hp hH => ?_)
        obtain ⟨hr1, hr2⟩ := hp; rw [hr1]; rw [hr2] at hH; clear hr1 hr2
        refine lv_aload_n X.x X.b (dk DX12_regular_0 29 rfl) rfl (lv_at hl 0 rfl) ?_
        refine lv_iload_n X.x X.b (dk DX12_regular_0 30 rfl) rfl (lv_at hl 1 rfl) ?_
        obtain ⟨x16, e17, hF⟩ := bd hF
        refine mr_cl0 hH ⟨rfl, rfl⟩ (mr_runV (As := [.int a0]) (rest := [.int x13]) X hH (c_X12_throughOf hq e17) ((oset_at hq (Nat.le_refl _) ohas_N).trans (congrArg some ocell_N)) OX12.1 kM_X12_269 kI_X12_throughOf kS_X12_throughOf kN_X12 kC_X12_throughOf hd_X12_throughOf ⟨Nat.le_of_ble_eq_true rfl, Nat.le_of_ble_eq_true rfl⟩ rfl hl.1 (Nat.le_of_ble_eq_true rfl) (dk DX12_regular_0 31 rfl) ⟨Nat.zero_le _, Nat.zero_le _⟩) (fun r h1 H locs hp hH => ?_)
        obtain ⟨hr1, hr2⟩ := hp; rw [hr1]; rw [hr2] at hH; clear hr1 hr2
        obtain ⟨x19, e20, hF⟩ := bd hF
        refine mr_ci0 hH ⟨rfl, rfl⟩ (mr_runS (As := [.long x16]) (rest := [.int x13]) X hH (c_X12_ones e20) kM_X12_283 kT_X12_ones kN_X12 kC_X12_ones hd_X12_ones ⟨Nat.le_of_ble_eq_true rfl, Nat.le_of_ble_eq_true rfl⟩ rfl hl.1 (Nat.le_of_ble_eq_true rfl) (dk DX12_regular_0 32 rfl) ⟨Nat.zero_le _, Nat.zero_le _⟩) (fun r h1 H locs hp hH => ?_)
        obtain ⟨hr1, hr2⟩ := hp; rw [hr1]; rw [hr2] at hH; clear hr1 hr2
        refine lv_icmp_ne (tgt := 66) X.x X.b (dk DX12_regular_0 33 rfl) (by decide) (fun c22 => ?_) (fun c22 => ?_)
        · replace hF := if_f hF c22
          refine lv_iconst (v := 0) X.x X.b (dk DX12_regular_0 36 rfl) (by decide) ?_
          cases sm hF
          exact mr_zret X hr hlk hH rfl ⟨rfl, rfl⟩ (dk DX12_regular_0 37 rfl)
        · replace hF := if_t hF c22
          refine lv_iconst (v := 1) X.x X.b (dk DX12_regular_0 34 rfl) (by decide) ?_
          refine lv_goto (tgt := 67) X.x X.b (dk DX12_regular_0 35 rfl) (by decide) ?_
          cases sm hF
          exact mr_zret X hr hlk hH rfl ⟨rfl, rfl⟩ (dk DX12_regular_0 37 rfl)
    · replace hF := if_f hF c7
      refine lv_iconst (v := 0) X.x X.b (dk DX12_regular_0 16 rfl) (by decide) ?_
      cases sm hF
      exact mr_zret X hr hlk hH rfl ⟨rfl, rfl⟩ (dk DX12_regular_0 17 rfl)
  · replace hF := if_f hF c4
    refine lv_aload_n X.x X.b (dk DX12_regular_0 5 rfl) rfl (lv_at hl 0 rfl) ?_
    refine lv_iload_n X.x X.b (dk DX12_regular_0 6 rfl) rfl (lv_at hl 2 rfl) ?_
    obtain ⟨x23, e24, hF⟩ := bd hF
    refine mr_ci0 hH ⟨rfl, rfl⟩ (mr_runV (As := [.int a1]) (rest := [.ref (q 53)]) X hH (c_X12_isPoint hq e24) ((oset_at hq (Nat.le_refl _) ohas_N).trans (congrArg some ocell_N)) OX12.1 kM_X12_266 kI_X12_isPoint kS_X12_isPoint kN_X12 kC_X12_isPoint hd_X12_isPoint ⟨Nat.le_of_ble_eq_true rfl, Nat.le_of_ble_eq_true rfl⟩ rfl hl.1 (Nat.le_of_ble_eq_true rfl) (dk DX12_regular_0 7 rfl) ⟨Nat.zero_le _, Nat.zero_le _⟩) (fun r h1 H locs hp hH => ?_)
    obtain ⟨hr1, hr2⟩ := hp; rw [hr1]; rw [hr2] at hH; clear hr1 hr2
    refine lv_if_eq (tgt := 21) X.x X.b (dk DX12_regular_0 8 rfl) (by decide) (fun c26 => ?_) (fun c26 => ?_)
    · replace hF := if_t hF c26
      refine lv_iconst (v := 1) X.x X.b (dk DX12_regular_0 11 rfl) (by decide) ?_
      refine og_putI OX12 X hq hH 2 (by decide) rfl kF_X12_106 rfl rfl rfl (dk DX12_regular_0 12 rfl) (fun H locs hH => ?_)
      obtain ⟨t27, e28⟩ : ∃ y, y = oI st 2 1 := ⟨_, rfl⟩
      rw [← e28] at hH
      replace hF := bnd_e hF e28
      refine lv_aload_n X.x X.b (dk DX12_regular_0 13 rfl) rfl (lv_at hl 0 rfl) ?_
      refine og_getI OX12 X hq hH 2 (by decide) rfl kF_X12_106 (dk DX12_regular_0 14 rfl) ?_
      refine lv_if_le (tgt := 34) X.x X.b (dk DX12_regular_0 15 rfl) (by decide) (fun c29 => ?_) (fun c29 => ?_)
      · replace hF := if_t hF c29
        refine lv_aload_n X.x X.b (dk DX12_regular_0 18 rfl) rfl (lv_at hl 0 rfl) ?_
        refine lv_iload_n X.x X.b (dk DX12_regular_0 19 rfl) rfl (lv_at hl 1 rfl) ?_
        refine lv_iload_n X.x X.b (dk DX12_regular_0 20 rfl) rfl (lv_at hl 2 rfl) ?_
        obtain ⟨x30, e31, hF⟩ := bd hF
        refine mr_cl0 hH ⟨rfl, rfl⟩ (mr_runV (As := [.int a0, .int a1]) (rest := []) X hH (c_X12_hyperOf hq e31) ((oset_at hq (Nat.le_refl _) ohas_N).trans (congrArg some ocell_N)) OX12.1 kM_X12_287 kI_X12_hyperOf kS_X12_hyperOf kN_X12 kC_X12_hyperOf hd_X12_hyperOf ⟨Nat.le_of_ble_eq_true rfl, Nat.le_of_ble_eq_true rfl⟩ rfl hl.1 (Nat.le_of_ble_eq_true rfl) (dk DX12_regular_0 21 rfl) ⟨Nat.zero_le _, Nat.zero_le _⟩) (fun r h1 H locs hp hH => ?_)
        obtain ⟨hr1, hr2⟩ := hp; rw [hr1]; rw [hr2] at hH; clear hr1 hr2
        obtain ⟨v32, t33⟩ := x30
        try dsimp only at hF hH ⊢
        refine lv_lstore_n (lv' := [(3, .long v32), (0, .ref (q 53)), (1, .int a0), (2, .int a1)]) X.x X.b (dk DX12_regular_0 22 rfl) rfl hl (by decide) rfl (fun ls hl => ?_)
        replace hl : lv_has ls 5 [(0, .ref (q 53)), (1, .int a0), (3, .long v32)] := lv_sub hl [1, 2, 0] rfl
        refine lv_lload_n X.x X.b (dk DX12_regular_0 23 rfl) rfl (lv_at hl 2 rfl) ?_
        refine lv_lconst (v := 0) X.x X.b (dk DX12_regular_0 24 rfl) (by decide) ?_
        refine W.lcmp X.x X.b (dk DX12_regular_0 25 rfl) ?_
        refine lv_if_eq (tgt := 66) X.x X.b (dk DX12_regular_0 26 rfl) (by decide) (fun c34 => ?_) (fun c34 => ?_)
        · replace hF := if_t hF c34
          refine lv_iconst (v := 0) X.x X.b (dk DX12_regular_0 36 rfl) (by decide) ?_
          cases sm hF
          exact mr_zret X hr hlk hH rfl ⟨rfl, rfl⟩ (dk DX12_regular_0 37 rfl)
        · replace hF := if_f hF c34
          refine lv_lload_n X.x X.b (dk DX12_regular_0 27 rfl) rfl (lv_at hl 2 rfl) ?_
          obtain ⟨x35, e36, hF⟩ := bd hF
          refine mr_ci0 hH ⟨rfl, rfl⟩ (mr_runS (As := [.long v32]) (rest := []) X hH (c_X12_ones e36) kM_X12_283 kT_X12_ones kN_X12 kC_X12_ones hd_X12_ones ⟨Nat.le_of_ble_eq_true rfl, Nat.le_of_ble_eq_true rfl⟩ rfl hl.1 (Nat.le_of_ble_eq_true rfl) (dk DX12_regular_0 28 rfl) ⟨Nat.zero_le _, Nat.zero_le _⟩) (fun r h1 H locs hp hH => ?_)
          obtain ⟨hr1, hr2⟩ := hp; rw [hr1]; rw [hr2] at hH; clear hr1 hr2
          refine lv_aload_n X.x X.b (dk DX12_regular_0 29 rfl) rfl (lv_at hl 0 rfl) ?_
          refine lv_iload_n X.x X.b (dk DX12_regular_0 30 rfl) rfl (lv_at hl 1 rfl) ?_
          obtain ⟨x38, e39, hF⟩ := bd hF
          refine mr_cl0 hH ⟨rfl, rfl⟩ (mr_runV (As := [.int a0]) (rest := [.int x35]) X hH (c_X12_throughOf hq e39) ((oset_at hq (Nat.le_refl _) ohas_N).trans (congrArg some ocell_N)) OX12.1 kM_X12_269 kI_X12_throughOf kS_X12_throughOf kN_X12 kC_X12_throughOf hd_X12_throughOf ⟨Nat.le_of_ble_eq_true rfl, Nat.le_of_ble_eq_true rfl⟩ rfl hl.1 (Nat.le_of_ble_eq_true rfl) (dk DX12_regular_0 31 rfl) ⟨Nat.zero_le _, Nat.zero_le _⟩) (fun r h1 H locs hp hH => ?_)
          obtain ⟨hr1, hr2⟩ := hp; rw [hr1]; rw [hr2] at hH; clear hr1 hr2
          obtain ⟨x41, e42, hF⟩ := bd hF
          refine mr_ci0 hH ⟨rfl, rfl⟩ (mr_runS (As := [.long x38]) (rest := [.int x35]) X hH (c_X12_ones e42) kM_X12_283 kT_X12_ones kN_X12 kC_X12_ones hd_X12_ones ⟨Nat.le_of_ble_eq_true rfl, Nat.le_of_ble_eq_true rfl⟩ rfl hl.1 (Nat.le_of_ble_eq_true rfl) (dk DX12_regular_0 32 rfl) ⟨Nat.zero_le _, Nat.zero_le _⟩) (fun r h1 H locs hp hH => ?_)
          obtain ⟨hr1, hr2⟩ := hp; rw [hr1]; rw [hr2] at hH; clear hr1 hr2
          refine lv_icmp_ne (tgt := 66) X.x X.b (dk DX12_regular_0 33 rfl) (by decide) (fun c44 => ?_) (fun c44 => ?_)
          · replace hF := if_f hF c44
            refine lv_iconst (v := 0) X.x X.b (dk DX12_regular_0 36 rfl) (by decide) ?_
            cases sm hF
            exact mr_zret X hr hlk hH rfl ⟨rfl, rfl⟩ (dk DX12_regular_0 37 rfl)
          · replace hF := if_t hF c44
            refine lv_iconst (v := 1) X.x X.b (dk DX12_regular_0 34 rfl) (by decide) ?_
            refine lv_goto (tgt := 67) X.x X.b (dk DX12_regular_0 35 rfl) (by decide) ?_
            cases sm hF
            exact mr_zret X hr hlk hH rfl ⟨rfl, rfl⟩ (dk DX12_regular_0 37 rfl)
      · replace hF := if_f hF c29
        refine lv_iconst (v := 0) X.x X.b (dk DX12_regular_0 16 rfl) (by decide) ?_
        cases sm hF
        exact mr_zret X hr hlk hH rfl ⟨rfl, rfl⟩ (dk DX12_regular_0 17 rfl)
    · replace hF := if_f hF c26
      refine lv_iconst (v := 0) X.x X.b (dk DX12_regular_0 9 rfl) (by decide) ?_
      refine lv_goto (tgt := 22) X.x X.b (dk DX12_regular_0 10 rfl) (by decide) ?_
      refine og_putI OX12 X hq hH 2 (by decide) rfl kF_X12_106 rfl rfl rfl (dk DX12_regular_0 12 rfl) (fun H locs hH => ?_)
      obtain ⟨t45, e46⟩ : ∃ y, y = oI st 2 0 := ⟨_, rfl⟩
      rw [← e46] at hH
      replace hF := bnd_e hF e46
      refine lv_aload_n X.x X.b (dk DX12_regular_0 13 rfl) rfl (lv_at hl 0 rfl) ?_
      refine og_getI OX12 X hq hH 2 (by decide) rfl kF_X12_106 (dk DX12_regular_0 14 rfl) ?_
      refine lv_if_le (tgt := 34) X.x X.b (dk DX12_regular_0 15 rfl) (by decide) (fun c47 => ?_) (fun c47 => ?_)
      · replace hF := if_t hF c47
        refine lv_aload_n X.x X.b (dk DX12_regular_0 18 rfl) rfl (lv_at hl 0 rfl) ?_
        refine lv_iload_n X.x X.b (dk DX12_regular_0 19 rfl) rfl (lv_at hl 1 rfl) ?_
        refine lv_iload_n X.x X.b (dk DX12_regular_0 20 rfl) rfl (lv_at hl 2 rfl) ?_
        obtain ⟨x48, e49, hF⟩ := bd hF
        refine mr_cl0 hH ⟨rfl, rfl⟩ (mr_runV (As := [.int a0, .int a1]) (rest := []) X hH (c_X12_hyperOf hq e49) ((oset_at hq (Nat.le_refl _) ohas_N).trans (congrArg some ocell_N)) OX12.1 kM_X12_287 kI_X12_hyperOf kS_X12_hyperOf kN_X12 kC_X12_hyperOf hd_X12_hyperOf ⟨Nat.le_of_ble_eq_true rfl, Nat.le_of_ble_eq_true rfl⟩ rfl hl.1 (Nat.le_of_ble_eq_true rfl) (dk DX12_regular_0 21 rfl) ⟨Nat.zero_le _, Nat.zero_le _⟩) (fun r h1 H locs hp hH => ?_)
        obtain ⟨hr1, hr2⟩ := hp; rw [hr1]; rw [hr2] at hH; clear hr1 hr2
        obtain ⟨v50, t51⟩ := x48
        try dsimp only at hF hH ⊢
        refine lv_lstore_n (lv' := [(3, .long v50), (0, .ref (q 53)), (1, .int a0), (2, .int a1)]) X.x X.b (dk DX12_regular_0 22 rfl) rfl hl (by decide) rfl (fun ls hl => ?_)
        replace hl : lv_has ls 5 [(0, .ref (q 53)), (1, .int a0), (3, .long v50)] := lv_sub hl [1, 2, 0] rfl
        refine lv_lload_n X.x X.b (dk DX12_regular_0 23 rfl) rfl (lv_at hl 2 rfl) ?_
        refine lv_lconst (v := 0) X.x X.b (dk DX12_regular_0 24 rfl) (by decide) ?_
        refine W.lcmp X.x X.b (dk DX12_regular_0 25 rfl) ?_
        refine lv_if_eq (tgt := 66) X.x X.b (dk DX12_regular_0 26 rfl) (by decide) (fun c52 => ?_) (fun c52 => ?_)
        · replace hF := if_t hF c52
          refine lv_iconst (v := 0) X.x X.b (dk DX12_regular_0 36 rfl) (by decide) ?_
          cases sm hF
          exact mr_zret X hr hlk hH rfl ⟨rfl, rfl⟩ (dk DX12_regular_0 37 rfl)
        · replace hF := if_f hF c52
          refine lv_lload_n X.x X.b (dk DX12_regular_0 27 rfl) rfl (lv_at hl 2 rfl) ?_
          obtain ⟨x53, e54, hF⟩ := bd hF
          refine mr_ci0 hH ⟨rfl, rfl⟩ (mr_runS (As := [.long v50]) (rest := []) X hH (c_X12_ones e54) kM_X12_283 kT_X12_ones kN_X12 kC_X12_ones hd_X12_ones ⟨Nat.le_of_ble_eq_true rfl, Nat.le_of_ble_eq_true rfl⟩ rfl hl.1 (Nat.le_of_ble_eq_true rfl) (dk DX12_regular_0 28 rfl) ⟨Nat.zero_le _, Nat.zero_le _⟩) (fun r h1 H locs hp hH => ?_)
          obtain ⟨hr1, hr2⟩ := hp; rw [hr1]; rw [hr2] at hH; clear hr1 hr2
          refine lv_aload_n X.x X.b (dk DX12_regular_0 29 rfl) rfl (lv_at hl 0 rfl) ?_
          refine lv_iload_n X.x X.b (dk DX12_regular_0 30 rfl) rfl (lv_at hl 1 rfl) ?_
          obtain ⟨x56, e57, hF⟩ := bd hF
          refine mr_cl0 hH ⟨rfl, rfl⟩ (mr_runV (As := [.int a0]) (rest := [.int x53]) X hH (c_X12_throughOf hq e57) ((oset_at hq (Nat.le_refl _) ohas_N).trans (congrArg some ocell_N)) OX12.1 kM_X12_269 kI_X12_throughOf kS_X12_throughOf kN_X12 kC_X12_throughOf hd_X12_throughOf ⟨Nat.le_of_ble_eq_true rfl, Nat.le_of_ble_eq_true rfl⟩ rfl hl.1 (Nat.le_of_ble_eq_true rfl) (dk DX12_regular_0 31 rfl) ⟨Nat.zero_le _, Nat.zero_le _⟩) (fun r h1 H locs hp hH => ?_)
          obtain ⟨hr1, hr2⟩ := hp; rw [hr1]; rw [hr2] at hH; clear hr1 hr2
          obtain ⟨x59, e60, hF⟩ := bd hF
          refine mr_ci0 hH ⟨rfl, rfl⟩ (mr_runS (As := [.long x56]) (rest := [.int x53]) X hH (c_X12_ones e60) kM_X12_283 kT_X12_ones kN_X12 kC_X12_ones hd_X12_ones ⟨Nat.le_of_ble_eq_true rfl, Nat.le_of_ble_eq_true rfl⟩ rfl hl.1 (Nat.le_of_ble_eq_true rfl) (dk DX12_regular_0 32 rfl) ⟨Nat.zero_le _, Nat.zero_le _⟩) (fun r h1 H locs hp hH => ?_)
          obtain ⟨hr1, hr2⟩ := hp; rw [hr1]; rw [hr2] at hH; clear hr1 hr2
          refine lv_icmp_ne (tgt := 66) X.x X.b (dk DX12_regular_0 33 rfl) (by decide) (fun c62 => ?_) (fun c62 => ?_)
          · replace hF := if_f hF c62
            refine lv_iconst (v := 0) X.x X.b (dk DX12_regular_0 36 rfl) (by decide) ?_
            cases sm hF
            exact mr_zret X hr hlk hH rfl ⟨rfl, rfl⟩ (dk DX12_regular_0 37 rfl)
          · replace hF := if_t hF c62
            refine lv_iconst (v := 1) X.x X.b (dk DX12_regular_0 34 rfl) (by decide) ?_
            refine lv_goto (tgt := 67) X.x X.b (dk DX12_regular_0 35 rfl) (by decide) ?_
            cases sm hF
            exact mr_zret X hr hlk hH rfl ⟨rfl, rfl⟩ (dk DX12_regular_0 37 rfl)
      · replace hF := if_f hF c47
        refine lv_iconst (v := 0) X.x X.b (dk DX12_regular_0 16 rfl) (by decide) ?_
        cases sm hF
        exact mr_zret X hr hlk hH rfl ⟨rfl, rfl⟩ (dk DX12_regular_0 17 rfl)
-- X12_firstLaw
abbrev rm_X12_firstLaw : Room := { frames := 2, cells := 0, slots := 0, locals := 46 }
theorem hd_X12_firstLaw : mHd yX12_firstLaw 0 := ⟨by decide +kernel, by decide +kernel, by decide +kernel⟩
theorem DX12_firstLaw_0 : ∀ t ∈ ([(0, .iconst 0, 1), (1, .istore_n 1, 1), (2, .iload_n 1, 1), (3, .aload_n 0, 1), (4, .getfield 250, 3), (7, .if_icmp .ge 44, 3), (10, .iconst 0, 1), (11, .istore_n 2, 1), (12, .iload_n 2, 1), (13, .iload_n 1, 1), (14, .if_icmp .ge 31, 3), (17, .aload_n 0, 1), (18, .getfield 7, 3), (21, .iload_n 1, 1), (22, .laload, 1), (23, .aload_n 0, 1), (24, .getfield 7, 3), (27, .iload_n 2, 1), (28, .laload, 1), (29, .land, 1), (30, .invokestatic 283, 3), (33, .iconst 1, 1), (34, .if_icmp .le 5, 3), (37, .iconst 1, 1), (38, .ireturn, 1), (39, .iinc 2 1, 3), (42, .goto (-30), 3), (45, .iinc 1 1, 3), (48, .goto (-46), 3), (51, .iconst 1, 1), (52, .istore_n 1, 1), (53, .iload_n 1, 1), (54, .aload_n 0, 1), (55, .getfield 250, 3), (58, .if_icmp .ge 32, 3), (61, .aload_n 0, 1), (62, .getfield 7, 3), (65, .iload_n 1, 1), (66, .laload, 1), (67, .invokestatic 283, 3), (70, .aload_n 0, 1), (71, .getfield 7, 3), (74, .iconst 0, 1), (75, .laload, 1), (76, .invokestatic 283, 3), (79, .if_icmp .eq 5, 3), (82, .iconst 2, 1), (83, .ireturn, 1), (84, .iinc 1 1, 3), (87, .goto (-34), 3), (90, .iconst 1, 1), (91, .istore_n 1, 1), (92, .iload_n 1, 1), (93, .aload_n 0, 1), (94, .getfield 248, 3), (97, .if_icmp .ge 30, 3), (100, .aload_n 0, 1), (101, .iload_n 1, 1), (102, .invokevirtual 269, 3), (105, .invokestatic 283, 3)] : List (Nat × Instr × Nat)), decode cX12_firstLaw t.1 = .ok (t.2.1, t.2.2) := by decide +kernel
theorem DX12_firstLaw_1 : ∀ t ∈ ([(108, .aload_n 0, 1), (109, .iconst 0, 1), (110, .invokevirtual 269, 3), (113, .invokestatic 283, 3), (116, .if_icmp .eq 5, 3), (119, .iconst 3, 1), (120, .ireturn, 1), (121, .iinc 1 1, 3), (124, .goto (-32), 3), (127, .aload_n 0, 1), (128, .invokevirtual 272, 3), (131, .iconst 0, 1), (132, .istore_n 1, 1), (133, .iload_n 1, 1), (134, .aload_n 0, 1), (135, .getfield 248, 3), (138, .if_icmp .ge 60, 3), (141, .iconst 0, 1), (142, .istore_n 2, 1), (143, .iload_n 2, 1), (144, .aload_n 0, 1), (145, .getfield 250, 3), (148, .if_icmp .ge 44, 3), (151, .aload_n 0, 1), (152, .getfield 7, 3), (155, .iload_n 2, 1), (156, .laload, 1), (157, .iload_n 1, 1), (158, .invokestatic 232, 3), (161, .ifCond .ne 25, 3), (164, .aload_n 0, 1), (165, .getfield 7, 3), (168, .iload_n 2, 1), (169, .laload, 1), (170, .aload_n 0, 1), (171, .getfield 30, 3), (174, .iload_n 1, 1), (175, .laload, 1), (176, .land, 1), (177, .invokestatic 283, 3), (180, .iconst 1, 1), (181, .if_icmp .eq 5, 3), (184, .iconst 4, 1), (185, .ireturn, 1), (186, .iinc 2 1, 3), (189, .goto (-46), 3), (192, .iinc 1 1, 3), (195, .goto (-62), 3), (198, .iconst 0, 1), (199, .ireturn, 1)] : List (Nat × Instr × Nat)), decode cX12_firstLaw t.1 = .ok (t.2.1, t.2.2) := by decide +kernel
noncomputable def f_X12_firstLaw_12 (s_t : OS) (b1 : Int32) : Int32 → Option ((Int32) ⊕ (Nat)) := fun b2 => (if b1 ≤ b2 then some (.inr 1) else if inb b1 64 = true then if inb b2 64 = true then (f_X12_ones ((s_t.2.2.2 3 (b1 : Int32).toNatClampNeg) &&& (s_t.2.2.2 3 (b2 : Int32).toNatClampNeg))).bind (fun x5 => (if x5 ≤ 1 then bnd (b2 + 1 : Int32) (fun v9 => some (.inl v9)) else some (.inr 0))) else none else none)
noncomputable def f_X12_firstLaw_2 (s_t : OS) : Int32 → Option ((Int32) ⊕ (Nat)) := fun b1 => (if (s_t.1 1) ≤ b1 then some (.inr 1) else (lpv (f_X12_firstLaw_12 s_t b1) 0).bind (fun x11 => (if x11 = 0 then some (.inr 0) else bnd (b1 + 1 : Int32) (fun v14 => some (.inl v14)))))
noncomputable def f_X12_firstLaw_53 (s_t : OS) : Int32 → Option ((Int32) ⊕ (Nat)) := fun b1 => (if (s_t.1 1) ≤ b1 then some (.inr 1) else if inb b1 64 = true then (f_X12_ones (s_t.2.2.2 3 (b1 : Int32).toNatClampNeg)).bind (fun x21 => if inb 0 64 = true then (f_X12_ones (s_t.2.2.2 3 (0 : Int32).toNatClampNeg)).bind (fun x25 => (if x21 = x25 then bnd (b1 + 1 : Int32) (fun v29 => some (.inl v29)) else some (.inr 0))) else none) else none)
noncomputable def f_X12_firstLaw_92 (s_t : OS) : Int32 → Option ((Int32) ⊕ (Nat)) := fun b1 => (if (s_t.1 0) ≤ b1 then some (.inr 1) else (f_X12_throughOf s_t b1).bind (fun x35 => (f_X12_ones x35).bind (fun x38 => (f_X12_throughOf s_t 0).bind (fun x41 => (f_X12_ones x41).bind (fun x44 => (if x38 = x44 then bnd (b1 + 1 : Int32) (fun v48 => some (.inl v48)) else some (.inr 0)))))))
noncomputable def f_X12_firstLaw_143 (s_t : OS) (b1 : Int32) : Int32 → Option ((Int32) ⊕ (Nat)) := fun b2 => (if (s_t.1 1) ≤ b2 then some (.inr 1) else if inb b2 64 = true then (f_X12_has (s_t.2.2.2 3 (b2 : Int32).toNatClampNeg) b1).bind (fun x59 => (if x59 = 0 then if inb b1 64 = true then (f_X12_ones ((s_t.2.2.2 3 (b2 : Int32).toNatClampNeg) &&& (s_t.2.2.2 20 (b1 : Int32).toNatClampNeg))).bind (fun x66 => (if x66 = 1 then bnd (b2 + 1 : Int32) (fun v70 => some (.inl v70)) else some (.inr 0))) else none else bnd (b2 + 1 : Int32) (fun v63 => some (.inl v63)))) else none)
noncomputable def f_X12_firstLaw_133 (s_t : OS) : Int32 → Option ((Int32) ⊕ (Nat)) := fun b1 => (if (s_t.1 0) ≤ b1 then some (.inr 1) else (lpv (f_X12_firstLaw_143 s_t b1) 0).bind (fun x72 => (if x72 = 0 then some (.inr 0) else bnd (b1 + 1 : Int32) (fun v75 => some (.inl v75)))))
noncomputable def f_X12_firstLaw (st : OS) : Option (Int32 × OS) := (lpv (f_X12_firstLaw_2 st) 0).bind (fun x16 => (if x16 = 0 then some ((1, st)) else (lpv (f_X12_firstLaw_53 st) 1).bind (fun x31 => (if x31 = 0 then some ((2, st)) else (lpv (f_X12_firstLaw_92 st) 1).bind (fun x50 => (if x50 = 0 then some ((3, st)) else (f_X12_layNears st).bind (fun x53 => (lpv (f_X12_firstLaw_133 x53) 0).bind (fun x77 => (if x77 = 0 then some ((4, x53)) else some ((0, x53)))))))))))
set_option maxHeartbeats 4000000 in
set_option maxRecDepth 100000 in
theorem w_X12_firstLaw_12 {p : Program} {l : Launch} {e : Env} {s : State} {m : MethodId} {args : Array Value} {below : List Frame} {meth : Method} {c : Code} {Q : State → Prop} {G : mG} {h : mM} {q : Nat → Nat} (hq : oinj LX12 q) (X : mX G p m c cX12_firstLaw 3 s args RX12) (s_t : OS) (b1 : Int32) : ∀ (z : Int32) (r : Nat), lpv (f_X12_firstLaw_12 s_t b1) z = some r → ∀ (H : Heap) (locs : List Loc) (ls : Array Slot), mH G (oset LX12 G q s_t h) s.heap H locs → lv_has ls 3 [(0, .ref (q 53)), (1, .int b1), (2, .int z)] → (r = 0 → ∀ (H : Heap) (locs : List Loc) (ls : Array Slot), mH G (oset LX12 G q s_t h) s.heap H locs → lv_has ls 3 [] → W p l e rm_X12_firstLaw s m args below meth c H locs 0 0 Q (F0 m 37 ls [])) → (r = 1 → ∀ (H : Heap) (locs : List Loc) (ls : Array Slot), mH G (oset LX12 G q s_t h) s.heap H locs → lv_has ls 3 [(0, .ref (q 53)), (1, .int b1)] → W p l e rm_X12_firstLaw s m args below meth c H locs 0 0 Q (F0 m 45 ls [])) → W p l e rm_X12_firstLaw s m args below meth c H locs 0 0 Q (F0 m 12 ls []) := by
  refine lpv_rec ?_
  intro z r x hF hx H locs ls hH hl K0 K1
  obtain ⟨b2, hz⟩ : ∃ y, y = z := ⟨_, rfl⟩
  subst hz
  dsimp only [f_X12_firstLaw_12] at hF
  refine lv_iload_n X.x X.b (dk DX12_firstLaw_0 8 rfl) rfl (lv_at hl 2 rfl) ?_
  refine lv_iload_n X.x X.b (dk DX12_firstLaw_0 9 rfl) rfl (lv_at hl 1 rfl) ?_
  refine lv_icmp_ge (tgt := 45) X.x X.b (dk DX12_firstLaw_0 10 rfl) (by decide) (fun c2 => ?_) (fun c2 => ?_)
  · replace hF := if_t hF c2
    have hr9 := lp_r hF hx
    subst hr9
    exact K1 rfl _ _ _ hH (lv_sub hl [0, 1] rfl)
  · replace hF := if_f hF c2
    refine lv_aload_n X.x X.b (dk DX12_firstLaw_0 11 rfl) rfl (lv_at hl 0 rfl) ?_
    refine og_getR (t := 1) OX12 X hq hH 3 (by decide) rfl kF_X12_7 (dk DX12_firstLaw_0 12 rfl) ?_
    refine lv_iload_n X.x X.b (dk DX12_firstLaw_0 13 rfl) rfl (lv_at hl 1 rfl) ?_
    obtain ⟨c3, hF⟩ := gd hF
    refine og_lald X hq hH 3 (by decide) rfl (inb_in c3) (dk DX12_firstLaw_0 14 rfl) ?_
    refine lv_aload_n X.x X.b (dk DX12_firstLaw_0 15 rfl) rfl (lv_at hl 0 rfl) ?_
    refine og_getR (t := 1) OX12 X hq hH 3 (by decide) rfl kF_X12_7 (dk DX12_firstLaw_0 16 rfl) ?_
    refine lv_iload_n X.x X.b (dk DX12_firstLaw_0 17 rfl) rfl (lv_at hl 2 rfl) ?_
    obtain ⟨c4, hF⟩ := gd hF
    refine og_lald X hq hH 3 (by decide) rfl (inb_in c4) (dk DX12_firstLaw_0 18 rfl) ?_
    refine lv_land X.x X.b (dk DX12_firstLaw_0 19 rfl) ?_
    obtain ⟨x5, e6, hF⟩ := bd hF
    refine mr_ci0 hH ⟨rfl, rfl⟩ (mr_runS (As := [.long ((s_t.2.2.2 3 (b1 : Int32).toNatClampNeg) &&& (s_t.2.2.2 3 (b2 : Int32).toNatClampNeg))]) (rest := []) X hH (c_X12_ones e6) kM_X12_283 kT_X12_ones kN_X12 kC_X12_ones hd_X12_ones ⟨Nat.le_of_ble_eq_true rfl, Nat.le_of_ble_eq_true rfl⟩ rfl hl.1 (Nat.le_of_ble_eq_true rfl) (dk DX12_firstLaw_0 20 rfl) ⟨Nat.zero_le _, Nat.zero_le _⟩) (fun r h1 H locs hp hH => ?_)
    obtain ⟨hr1, hr2⟩ := hp; rw [hr1]; rw [hr2] at hH; clear hr1 hr2
    refine lv_iconst (v := 1) X.x X.b (dk DX12_firstLaw_0 21 rfl) (by decide) ?_
    refine lv_icmp_le (tgt := 39) X.x X.b (dk DX12_firstLaw_0 22 rfl) (by decide) (fun c8 => ?_) (fun c8 => ?_)
    · replace hF := if_t hF c8
      obtain ⟨v9, e10⟩ : ∃ y : Int32, y = b2 + 1 := ⟨_, rfl⟩
      replace hF := bnd_e hF e10
      refine lv_iinc (v := v9) (lv' := [(2, .int v9), (0, .ref (q 53)), (1, .int b1)]) X.x X.b (dk DX12_firstLaw_0 25 rfl) hl (k := 2) rfl (by rw [e10]; rfl) (by decide) rfl (fun ls hl => ?_)
      replace hl : lv_has ls 3 [(0, .ref (q 53)), (1, .int b1), (2, .int v9)] := lv_sub hl [1, 2, 0] rfl
      refine lv_goto (tgt := 12) X.x X.b (dk DX12_firstLaw_0 26 rfl) (by decide) ?_
      exact (lp_l hF hx) _ _ _ hH (lv_sub hl [0, 1, 2] rfl) K0 K1
    · replace hF := if_f hF c8
      have hr9 := lp_r hF hx
      subst hr9
      exact K0 rfl _ _ _ hH (lv_sub hl [] rfl)
set_option maxHeartbeats 4000000 in
set_option maxRecDepth 100000 in
theorem w_X12_firstLaw_2 {p : Program} {l : Launch} {e : Env} {s : State} {m : MethodId} {args : Array Value} {below : List Frame} {meth : Method} {c : Code} {Q : State → Prop} {G : mG} {h : mM} {q : Nat → Nat} (hq : oinj LX12 q) (X : mX G p m c cX12_firstLaw 3 s args RX12) (s_t : OS) : ∀ (z : Int32) (r : Nat), lpv (f_X12_firstLaw_2 s_t) z = some r → ∀ (H : Heap) (locs : List Loc) (ls : Array Slot), mH G (oset LX12 G q s_t h) s.heap H locs → lv_has ls 3 [(0, .ref (q 53)), (1, .int z)] → (r = 0 → ∀ (H : Heap) (locs : List Loc) (ls : Array Slot), mH G (oset LX12 G q s_t h) s.heap H locs → lv_has ls 3 [] → W p l e rm_X12_firstLaw s m args below meth c H locs 0 0 Q (F0 m 37 ls [])) → (r = 1 → ∀ (H : Heap) (locs : List Loc) (ls : Array Slot), mH G (oset LX12 G q s_t h) s.heap H locs → lv_has ls 3 [(0, .ref (q 53))] → W p l e rm_X12_firstLaw s m args below meth c H locs 0 0 Q (F0 m 51 ls [])) → W p l e rm_X12_firstLaw s m args below meth c H locs 0 0 Q (F0 m 2 ls []) := by
  refine lpv_rec ?_
  intro z r x hF hx H locs ls hH hl K0 K1
  obtain ⟨b1, hz⟩ : ∃ y, y = z := ⟨_, rfl⟩
  subst hz
  dsimp only [f_X12_firstLaw_2] at hF
  refine lv_iload_n X.x X.b (dk DX12_firstLaw_0 2 rfl) rfl (lv_at hl 1 rfl) ?_
  refine lv_aload_n X.x X.b (dk DX12_firstLaw_0 3 rfl) rfl (lv_at hl 0 rfl) ?_
  refine og_getI OX12 X hq hH 1 (by decide) rfl kF_X12_250 (dk DX12_firstLaw_0 4 rfl) ?_
  refine lv_icmp_ge (tgt := 51) X.x X.b (dk DX12_firstLaw_0 5 rfl) (by decide) (fun c1 => ?_) (fun c1 => ?_)
  · replace hF := if_t hF c1
    have hr9 := lp_r hF hx
    subst hr9
    exact K1 rfl _ _ _ hH (lv_sub hl [0] rfl)
  · replace hF := if_f hF c1
    refine lv_iconst (v := 0) X.x X.b (dk DX12_firstLaw_0 6 rfl) (by decide) ?_
    refine lv_istore_n (lv' := [(2, .int 0), (0, .ref (q 53)), (1, .int b1)]) X.x X.b (dk DX12_firstLaw_0 7 rfl) rfl hl (by decide) rfl (fun ls hl => ?_)
    replace hl : lv_has ls 3 [(0, .ref (q 53)), (1, .int b1), (2, .int 0)] := lv_sub hl [1, 2, 0] rfl
    obtain ⟨x11, e12, hF⟩ := bd hF
    replace hl : lv_has ls 3 [(0, .ref (q 53)), (1, .int b1), (2, .int 0)] := lv_sub hl [0, 1, 2] rfl
    refine w_X12_firstLaw_12 hq X s_t b1 _ _ e12 _ _ _ hH hl (fun hk H locs ls hH hl => ?_) (fun hk H locs ls hH hl => ?_)
    · subst hk
      replace hF := if_t hF rfl
      have hr9 := lp_r hF hx
      subst hr9
      exact K0 rfl _ _ _ hH (lv_sub hl [] rfl)
    · subst hk
      replace hF := if_f hF (by decide)
      obtain ⟨v14, e15⟩ : ∃ y : Int32, y = b1 + 1 := ⟨_, rfl⟩
      replace hF := bnd_e hF e15
      refine lv_iinc (v := v14) (lv' := [(1, .int v14), (0, .ref (q 53))]) X.x X.b (dk DX12_firstLaw_0 27 rfl) hl (k := 1) rfl (by rw [e15]; rfl) (by decide) rfl (fun ls hl => ?_)
      replace hl : lv_has ls 3 [(0, .ref (q 53)), (1, .int v14)] := lv_sub hl [1, 0] rfl
      refine lv_goto (tgt := 2) X.x X.b (dk DX12_firstLaw_0 28 rfl) (by decide) ?_
      exact (lp_l hF hx) _ _ _ hH (lv_sub hl [0, 1] rfl) K0 K1
set_option maxHeartbeats 4000000 in
set_option maxRecDepth 100000 in
theorem w_X12_firstLaw_53 {p : Program} {l : Launch} {e : Env} {s : State} {m : MethodId} {args : Array Value} {below : List Frame} {meth : Method} {c : Code} {Q : State → Prop} {G : mG} {h : mM} {q : Nat → Nat} (hq : oinj LX12 q) (X : mX G p m c cX12_firstLaw 3 s args RX12) (s_t : OS) : ∀ (z : Int32) (r : Nat), lpv (f_X12_firstLaw_53 s_t) z = some r → ∀ (H : Heap) (locs : List Loc) (ls : Array Slot), mH G (oset LX12 G q s_t h) s.heap H locs → lv_has ls 3 [(0, .ref (q 53)), (1, .int z)] → (r = 0 → ∀ (H : Heap) (locs : List Loc) (ls : Array Slot), mH G (oset LX12 G q s_t h) s.heap H locs → lv_has ls 3 [] → W p l e rm_X12_firstLaw s m args below meth c H locs 0 0 Q (F0 m 82 ls [])) → (r = 1 → ∀ (H : Heap) (locs : List Loc) (ls : Array Slot), mH G (oset LX12 G q s_t h) s.heap H locs → lv_has ls 3 [(0, .ref (q 53))] → W p l e rm_X12_firstLaw s m args below meth c H locs 0 0 Q (F0 m 90 ls [])) → W p l e rm_X12_firstLaw s m args below meth c H locs 0 0 Q (F0 m 53 ls []) := by
  refine lpv_rec ?_
  intro z r x hF hx H locs ls hH hl K0 K1
  obtain ⟨b1, hz⟩ : ∃ y, y = z := ⟨_, rfl⟩
  subst hz
  dsimp only [f_X12_firstLaw_53] at hF
  refine lv_iload_n X.x X.b (dk DX12_firstLaw_0 31 rfl) rfl (lv_at hl 1 rfl) ?_
  refine lv_aload_n X.x X.b (dk DX12_firstLaw_0 32 rfl) rfl (lv_at hl 0 rfl) ?_
  refine og_getI OX12 X hq hH 1 (by decide) rfl kF_X12_250 (dk DX12_firstLaw_0 33 rfl) ?_
  refine lv_icmp_ge (tgt := 90) X.x X.b (dk DX12_firstLaw_0 34 rfl) (by decide) (fun c19 => ?_) (fun c19 => ?_)
  · replace hF := if_t hF c19
    have hr9 := lp_r hF hx
    subst hr9
    exact K1 rfl _ _ _ hH (lv_sub hl [0] rfl)
  · replace hF := if_f hF c19
    refine lv_aload_n X.x X.b (dk DX12_firstLaw_0 35 rfl) rfl (lv_at hl 0 rfl) ?_
    refine og_getR (t := 1) OX12 X hq hH 3 (by decide) rfl kF_X12_7 (dk DX12_firstLaw_0 36 rfl) ?_
    refine lv_iload_n X.x X.b (dk DX12_firstLaw_0 37 rfl) rfl (lv_at hl 1 rfl) ?_
    obtain ⟨c20, hF⟩ := gd hF
    refine og_lald X hq hH 3 (by decide) rfl (inb_in c20) (dk DX12_firstLaw_0 38 rfl) ?_
    obtain ⟨x21, e22, hF⟩ := bd hF
    refine mr_ci0 hH ⟨rfl, rfl⟩ (mr_runS (As := [.long (s_t.2.2.2 3 (b1 : Int32).toNatClampNeg)]) (rest := []) X hH (c_X12_ones e22) kM_X12_283 kT_X12_ones kN_X12 kC_X12_ones hd_X12_ones ⟨Nat.le_of_ble_eq_true rfl, Nat.le_of_ble_eq_true rfl⟩ rfl hl.1 (Nat.le_of_ble_eq_true rfl) (dk DX12_firstLaw_0 39 rfl) ⟨Nat.zero_le _, Nat.zero_le _⟩) (fun r h1 H locs hp hH => ?_)
    obtain ⟨hr1, hr2⟩ := hp; rw [hr1]; rw [hr2] at hH; clear hr1 hr2
    refine lv_aload_n X.x X.b (dk DX12_firstLaw_0 40 rfl) rfl (lv_at hl 0 rfl) ?_
    refine og_getR (t := 1) OX12 X hq hH 3 (by decide) rfl kF_X12_7 (dk DX12_firstLaw_0 41 rfl) ?_
    refine lv_iconst (v := 0) X.x X.b (dk DX12_firstLaw_0 42 rfl) (by decide) ?_
    obtain ⟨c24, hF⟩ := gd hF
    refine og_lald X hq hH 3 (by decide) rfl (inb_in c24) (dk DX12_firstLaw_0 43 rfl) ?_
    obtain ⟨x25, e26, hF⟩ := bd hF
    refine mr_ci0 hH ⟨rfl, rfl⟩ (mr_runS (As := [.long (s_t.2.2.2 3 (0 : Int32).toNatClampNeg)]) (rest := [.int x21]) X hH (c_X12_ones e26) kM_X12_283 kT_X12_ones kN_X12 kC_X12_ones hd_X12_ones ⟨Nat.le_of_ble_eq_true rfl, Nat.le_of_ble_eq_true rfl⟩ rfl hl.1 (Nat.le_of_ble_eq_true rfl) (dk DX12_firstLaw_0 44 rfl) ⟨Nat.zero_le _, Nat.zero_le _⟩) (fun r h1 H locs hp hH => ?_)
    obtain ⟨hr1, hr2⟩ := hp; rw [hr1]; rw [hr2] at hH; clear hr1 hr2
    refine lv_icmp_eq (tgt := 84) X.x X.b (dk DX12_firstLaw_0 45 rfl) (by decide) (fun c28 => ?_) (fun c28 => ?_)
    · replace hF := if_t hF c28
      obtain ⟨v29, e30⟩ : ∃ y : Int32, y = b1 + 1 := ⟨_, rfl⟩
      replace hF := bnd_e hF e30
      refine lv_iinc (v := v29) (lv' := [(1, .int v29), (0, .ref (q 53))]) X.x X.b (dk DX12_firstLaw_0 48 rfl) hl (k := 1) rfl (by rw [e30]; rfl) (by decide) rfl (fun ls hl => ?_)
      replace hl : lv_has ls 3 [(0, .ref (q 53)), (1, .int v29)] := lv_sub hl [1, 0] rfl
      refine lv_goto (tgt := 53) X.x X.b (dk DX12_firstLaw_0 49 rfl) (by decide) ?_
      exact (lp_l hF hx) _ _ _ hH (lv_sub hl [0, 1] rfl) K0 K1
    · replace hF := if_f hF c28
      have hr9 := lp_r hF hx
      subst hr9
      exact K0 rfl _ _ _ hH (lv_sub hl [] rfl)
set_option maxHeartbeats 4000000 in
set_option maxRecDepth 100000 in
theorem w_X12_firstLaw_92 {p : Program} {l : Launch} {e : Env} {s : State} {m : MethodId} {args : Array Value} {below : List Frame} {meth : Method} {c : Code} {Q : State → Prop} {G : mG} {h : mM} {q : Nat → Nat} (hq : oinj LX12 q) (X : mX G p m c cX12_firstLaw 3 s args RX12) (s_t : OS) : ∀ (z : Int32) (r : Nat), lpv (f_X12_firstLaw_92 s_t) z = some r → ∀ (H : Heap) (locs : List Loc) (ls : Array Slot), mH G (oset LX12 G q s_t h) s.heap H locs → lv_has ls 3 [(0, .ref (q 53)), (1, .int z)] → (r = 0 → ∀ (H : Heap) (locs : List Loc) (ls : Array Slot), mH G (oset LX12 G q s_t h) s.heap H locs → lv_has ls 3 [] → W p l e rm_X12_firstLaw s m args below meth c H locs 0 0 Q (F0 m 119 ls [])) → (r = 1 → ∀ (H : Heap) (locs : List Loc) (ls : Array Slot), mH G (oset LX12 G q s_t h) s.heap H locs → lv_has ls 3 [(0, .ref (q 53))] → W p l e rm_X12_firstLaw s m args below meth c H locs 0 0 Q (F0 m 127 ls [])) → W p l e rm_X12_firstLaw s m args below meth c H locs 0 0 Q (F0 m 92 ls []) := by
  refine lpv_rec ?_
  intro z r x hF hx H locs ls hH hl K0 K1
  obtain ⟨b1, hz⟩ : ∃ y, y = z := ⟨_, rfl⟩
  subst hz
  dsimp only [f_X12_firstLaw_92] at hF
  refine lv_iload_n X.x X.b (dk DX12_firstLaw_0 52 rfl) rfl (lv_at hl 1 rfl) ?_
  refine lv_aload_n X.x X.b (dk DX12_firstLaw_0 53 rfl) rfl (lv_at hl 0 rfl) ?_
  refine og_getI OX12 X hq hH 0 (by decide) rfl kF_X12_248 (dk DX12_firstLaw_0 54 rfl) ?_
  refine lv_icmp_ge (tgt := 127) X.x X.b (dk DX12_firstLaw_0 55 rfl) (by decide) (fun c34 => ?_) (fun c34 => ?_)
  · replace hF := if_t hF c34
    have hr9 := lp_r hF hx
    subst hr9
    exact K1 rfl _ _ _ hH (lv_sub hl [0] rfl)
  · replace hF := if_f hF c34
    refine lv_aload_n X.x X.b (dk DX12_firstLaw_0 56 rfl) rfl (lv_at hl 0 rfl) ?_
    refine lv_iload_n X.x X.b (dk DX12_firstLaw_0 57 rfl) rfl (lv_at hl 1 rfl) ?_
    obtain ⟨x35, e36, hF⟩ := bd hF
    refine mr_cl0 hH ⟨rfl, rfl⟩ (mr_runV (As := [.int b1]) (rest := []) X hH (c_X12_throughOf hq e36) ((oset_at hq (Nat.le_refl _) ohas_N).trans (congrArg some ocell_N)) OX12.1 kM_X12_269 kI_X12_throughOf kS_X12_throughOf kN_X12 kC_X12_throughOf hd_X12_throughOf ⟨Nat.le_of_ble_eq_true rfl, Nat.le_of_ble_eq_true rfl⟩ rfl hl.1 (Nat.le_of_ble_eq_true rfl) (dk DX12_firstLaw_0 58 rfl) ⟨Nat.zero_le _, Nat.zero_le _⟩) (fun r h1 H locs hp hH => ?_)
    obtain ⟨hr1, hr2⟩ := hp; rw [hr1]; rw [hr2] at hH; clear hr1 hr2
    obtain ⟨x38, e39, hF⟩ := bd hF
    refine mr_ci0 hH ⟨rfl, rfl⟩ (mr_runS (As := [.long x35]) (rest := []) X hH (c_X12_ones e39) kM_X12_283 kT_X12_ones kN_X12 kC_X12_ones hd_X12_ones ⟨Nat.le_of_ble_eq_true rfl, Nat.le_of_ble_eq_true rfl⟩ rfl hl.1 (Nat.le_of_ble_eq_true rfl) (dk DX12_firstLaw_0 59 rfl) ⟨Nat.zero_le _, Nat.zero_le _⟩) (fun r h1 H locs hp hH => ?_)
    obtain ⟨hr1, hr2⟩ := hp; rw [hr1]; rw [hr2] at hH; clear hr1 hr2
    refine lv_aload_n X.x X.b (dk DX12_firstLaw_1 0 rfl) rfl (lv_at hl 0 rfl) ?_
    refine lv_iconst (v := 0) X.x X.b (dk DX12_firstLaw_1 1 rfl) (by decide) ?_
    obtain ⟨x41, e42, hF⟩ := bd hF
    refine mr_cl0 hH ⟨rfl, rfl⟩ (mr_runV (As := [.int 0]) (rest := [.int x38]) X hH (c_X12_throughOf hq e42) ((oset_at hq (Nat.le_refl _) ohas_N).trans (congrArg some ocell_N)) OX12.1 kM_X12_269 kI_X12_throughOf kS_X12_throughOf kN_X12 kC_X12_throughOf hd_X12_throughOf ⟨Nat.le_of_ble_eq_true rfl, Nat.le_of_ble_eq_true rfl⟩ rfl hl.1 (Nat.le_of_ble_eq_true rfl) (dk DX12_firstLaw_1 2 rfl) ⟨Nat.zero_le _, Nat.zero_le _⟩) (fun r h1 H locs hp hH => ?_)
    obtain ⟨hr1, hr2⟩ := hp; rw [hr1]; rw [hr2] at hH; clear hr1 hr2
    obtain ⟨x44, e45, hF⟩ := bd hF
    refine mr_ci0 hH ⟨rfl, rfl⟩ (mr_runS (As := [.long x41]) (rest := [.int x38]) X hH (c_X12_ones e45) kM_X12_283 kT_X12_ones kN_X12 kC_X12_ones hd_X12_ones ⟨Nat.le_of_ble_eq_true rfl, Nat.le_of_ble_eq_true rfl⟩ rfl hl.1 (Nat.le_of_ble_eq_true rfl) (dk DX12_firstLaw_1 3 rfl) ⟨Nat.zero_le _, Nat.zero_le _⟩) (fun r h1 H locs hp hH => ?_)
    obtain ⟨hr1, hr2⟩ := hp; rw [hr1]; rw [hr2] at hH; clear hr1 hr2
    refine lv_icmp_eq (tgt := 121) X.x X.b (dk DX12_firstLaw_1 4 rfl) (by decide) (fun c47 => ?_) (fun c47 => ?_)
    · replace hF := if_t hF c47
      obtain ⟨v48, e49⟩ : ∃ y : Int32, y = b1 + 1 := ⟨_, rfl⟩
      replace hF := bnd_e hF e49
      refine lv_iinc (v := v48) (lv' := [(1, .int v48), (0, .ref (q 53))]) X.x X.b (dk DX12_firstLaw_1 7 rfl) hl (k := 1) rfl (by rw [e49]; rfl) (by decide) rfl (fun ls hl => ?_)
      replace hl : lv_has ls 3 [(0, .ref (q 53)), (1, .int v48)] := lv_sub hl [1, 0] rfl
      refine lv_goto (tgt := 92) X.x X.b (dk DX12_firstLaw_1 8 rfl) (by decide) ?_
      exact (lp_l hF hx) _ _ _ hH (lv_sub hl [0, 1] rfl) K0 K1
    · replace hF := if_f hF c47
      have hr9 := lp_r hF hx
      subst hr9
      exact K0 rfl _ _ _ hH (lv_sub hl [] rfl)
set_option maxHeartbeats 4000000 in
set_option maxRecDepth 100000 in
theorem w_X12_firstLaw_143 {p : Program} {l : Launch} {e : Env} {s : State} {m : MethodId} {args : Array Value} {below : List Frame} {meth : Method} {c : Code} {Q : State → Prop} {G : mG} {h : mM} {q : Nat → Nat} (hq : oinj LX12 q) (X : mX G p m c cX12_firstLaw 3 s args RX12) (s_t : OS) (b1 : Int32) : ∀ (z : Int32) (r : Nat), lpv (f_X12_firstLaw_143 s_t b1) z = some r → ∀ (H : Heap) (locs : List Loc) (ls : Array Slot), mH G (oset LX12 G q s_t h) s.heap H locs → lv_has ls 3 [(0, .ref (q 53)), (1, .int b1), (2, .int z)] → (r = 0 → ∀ (H : Heap) (locs : List Loc) (ls : Array Slot), mH G (oset LX12 G q s_t h) s.heap H locs → lv_has ls 3 [] → W p l e rm_X12_firstLaw s m args below meth c H locs 0 0 Q (F0 m 184 ls [])) → (r = 1 → ∀ (H : Heap) (locs : List Loc) (ls : Array Slot), mH G (oset LX12 G q s_t h) s.heap H locs → lv_has ls 3 [(0, .ref (q 53)), (1, .int b1)] → W p l e rm_X12_firstLaw s m args below meth c H locs 0 0 Q (F0 m 192 ls [])) → W p l e rm_X12_firstLaw s m args below meth c H locs 0 0 Q (F0 m 143 ls []) := by
  refine lpv_rec ?_
  intro z r x hF hx H locs ls hH hl K0 K1
  obtain ⟨b2, hz⟩ : ∃ y, y = z := ⟨_, rfl⟩
  subst hz
  dsimp only [f_X12_firstLaw_143] at hF
  refine lv_iload_n X.x X.b (dk DX12_firstLaw_1 19 rfl) rfl (lv_at hl 2 rfl) ?_
  refine lv_aload_n X.x X.b (dk DX12_firstLaw_1 20 rfl) rfl (lv_at hl 0 rfl) ?_
  refine og_getI OX12 X hq hH 1 (by decide) rfl kF_X12_250 (dk DX12_firstLaw_1 21 rfl) ?_
  refine lv_icmp_ge (tgt := 192) X.x X.b (dk DX12_firstLaw_1 22 rfl) (by decide) (fun c57 => ?_) (fun c57 => ?_)
  · replace hF := if_t hF c57
    have hr9 := lp_r hF hx
    subst hr9
    exact K1 rfl _ _ _ hH (lv_sub hl [0, 1] rfl)
  · replace hF := if_f hF c57
    refine lv_aload_n X.x X.b (dk DX12_firstLaw_1 23 rfl) rfl (lv_at hl 0 rfl) ?_
    refine og_getR (t := 1) OX12 X hq hH 3 (by decide) rfl kF_X12_7 (dk DX12_firstLaw_1 24 rfl) ?_
    refine lv_iload_n X.x X.b (dk DX12_firstLaw_1 25 rfl) rfl (lv_at hl 2 rfl) ?_
    obtain ⟨c58, hF⟩ := gd hF
    refine og_lald X hq hH 3 (by decide) rfl (inb_in c58) (dk DX12_firstLaw_1 26 rfl) ?_
    refine lv_iload_n X.x X.b (dk DX12_firstLaw_1 27 rfl) rfl (lv_at hl 1 rfl) ?_
    obtain ⟨x59, e60, hF⟩ := bd hF
    refine mr_ci0 hH ⟨rfl, rfl⟩ (mr_runS (As := [.long (s_t.2.2.2 3 (b2 : Int32).toNatClampNeg), .int b1]) (rest := []) X hH (c_X12_has e60) kM_X12_232 kT_X12_has kN_X12 kC_X12_has hd_X12_has ⟨Nat.le_of_ble_eq_true rfl, Nat.le_of_ble_eq_true rfl⟩ rfl hl.1 (Nat.le_of_ble_eq_true rfl) (dk DX12_firstLaw_1 28 rfl) ⟨Nat.zero_le _, Nat.zero_le _⟩) (fun r h1 H locs hp hH => ?_)
    obtain ⟨hr1, hr2⟩ := hp; rw [hr1]; rw [hr2] at hH; clear hr1 hr2
    refine lv_if_ne (tgt := 186) X.x X.b (dk DX12_firstLaw_1 29 rfl) (by decide) (fun c62 => ?_) (fun c62 => ?_)
    · replace hF := if_f hF c62
      obtain ⟨v63, e64⟩ : ∃ y : Int32, y = b2 + 1 := ⟨_, rfl⟩
      replace hF := bnd_e hF e64
      refine lv_iinc (v := v63) (lv' := [(2, .int v63), (0, .ref (q 53)), (1, .int b1)]) X.x X.b (dk DX12_firstLaw_1 44 rfl) hl (k := 2) rfl (by rw [e64]; rfl) (by decide) rfl (fun ls hl => ?_)
      replace hl : lv_has ls 3 [(0, .ref (q 53)), (1, .int b1), (2, .int v63)] := lv_sub hl [1, 2, 0] rfl
      refine lv_goto (tgt := 143) X.x X.b (dk DX12_firstLaw_1 45 rfl) (by decide) ?_
      exact (lp_l hF hx) _ _ _ hH (lv_sub hl [0, 1, 2] rfl) K0 K1
    · replace hF := if_t hF c62
      refine lv_aload_n X.x X.b (dk DX12_firstLaw_1 30 rfl) rfl (lv_at hl 0 rfl) ?_
      refine og_getR (t := 1) OX12 X hq hH 3 (by decide) rfl kF_X12_7 (dk DX12_firstLaw_1 31 rfl) ?_
      refine lv_iload_n X.x X.b (dk DX12_firstLaw_1 32 rfl) rfl (lv_at hl 2 rfl) ?_
      refine og_lald X hq hH 3 (by decide) rfl (inb_in c58) (dk DX12_firstLaw_1 33 rfl) ?_
      refine lv_aload_n X.x X.b (dk DX12_firstLaw_1 34 rfl) rfl (lv_at hl 0 rfl) ?_
      refine og_getR (t := 1) OX12 X hq hH 20 (by decide) rfl kF_X12_30 (dk DX12_firstLaw_1 35 rfl) ?_
      refine lv_iload_n X.x X.b (dk DX12_firstLaw_1 36 rfl) rfl (lv_at hl 1 rfl) ?_
      obtain ⟨c65, hF⟩ := gd hF
      refine og_lald X hq hH 20 (by decide) rfl (inb_in c65) (dk DX12_firstLaw_1 37 rfl) ?_
      refine lv_land X.x X.b (dk DX12_firstLaw_1 38 rfl) ?_
      obtain ⟨x66, e67, hF⟩ := bd hF
      refine mr_ci0 hH ⟨rfl, rfl⟩ (mr_runS (As := [.long ((s_t.2.2.2 3 (b2 : Int32).toNatClampNeg) &&& (s_t.2.2.2 20 (b1 : Int32).toNatClampNeg))]) (rest := []) X hH (c_X12_ones e67) kM_X12_283 kT_X12_ones kN_X12 kC_X12_ones hd_X12_ones ⟨Nat.le_of_ble_eq_true rfl, Nat.le_of_ble_eq_true rfl⟩ rfl hl.1 (Nat.le_of_ble_eq_true rfl) (dk DX12_firstLaw_1 39 rfl) ⟨Nat.zero_le _, Nat.zero_le _⟩) (fun r h1 H locs hp hH => ?_)
      obtain ⟨hr1, hr2⟩ := hp; rw [hr1]; rw [hr2] at hH; clear hr1 hr2
      refine lv_iconst (v := 1) X.x X.b (dk DX12_firstLaw_1 40 rfl) (by decide) ?_
      refine lv_icmp_eq (tgt := 186) X.x X.b (dk DX12_firstLaw_1 41 rfl) (by decide) (fun c69 => ?_) (fun c69 => ?_)
      · replace hF := if_t hF c69
        obtain ⟨v70, e71⟩ : ∃ y : Int32, y = b2 + 1 := ⟨_, rfl⟩
        replace hF := bnd_e hF e71
        refine lv_iinc (v := v70) (lv' := [(2, .int v70), (0, .ref (q 53)), (1, .int b1)]) X.x X.b (dk DX12_firstLaw_1 44 rfl) hl (k := 2) rfl (by rw [e71]; rfl) (by decide) rfl (fun ls hl => ?_)
        replace hl : lv_has ls 3 [(0, .ref (q 53)), (1, .int b1), (2, .int v70)] := lv_sub hl [1, 2, 0] rfl
        refine lv_goto (tgt := 143) X.x X.b (dk DX12_firstLaw_1 45 rfl) (by decide) ?_
        exact (lp_l hF hx) _ _ _ hH (lv_sub hl [0, 1, 2] rfl) K0 K1
      · replace hF := if_f hF c69
        have hr9 := lp_r hF hx
        subst hr9
        exact K0 rfl _ _ _ hH (lv_sub hl [] rfl)
set_option maxHeartbeats 4000000 in
set_option maxRecDepth 100000 in
theorem w_X12_firstLaw_133 {p : Program} {l : Launch} {e : Env} {s : State} {m : MethodId} {args : Array Value} {below : List Frame} {meth : Method} {c : Code} {Q : State → Prop} {G : mG} {h : mM} {q : Nat → Nat} (hq : oinj LX12 q) (X : mX G p m c cX12_firstLaw 3 s args RX12) (s_t : OS) : ∀ (z : Int32) (r : Nat), lpv (f_X12_firstLaw_133 s_t) z = some r → ∀ (H : Heap) (locs : List Loc) (ls : Array Slot), mH G (oset LX12 G q s_t h) s.heap H locs → lv_has ls 3 [(0, .ref (q 53)), (1, .int z)] → (r = 0 → ∀ (H : Heap) (locs : List Loc) (ls : Array Slot), mH G (oset LX12 G q s_t h) s.heap H locs → lv_has ls 3 [] → W p l e rm_X12_firstLaw s m args below meth c H locs 0 0 Q (F0 m 184 ls [])) → (r = 1 → ∀ (H : Heap) (locs : List Loc) (ls : Array Slot), mH G (oset LX12 G q s_t h) s.heap H locs → lv_has ls 3 [] → W p l e rm_X12_firstLaw s m args below meth c H locs 0 0 Q (F0 m 198 ls [])) → W p l e rm_X12_firstLaw s m args below meth c H locs 0 0 Q (F0 m 133 ls []) := by
  refine lpv_rec ?_
  intro z r x hF hx H locs ls hH hl K0 K1
  obtain ⟨b1, hz⟩ : ∃ y, y = z := ⟨_, rfl⟩
  subst hz
  dsimp only [f_X12_firstLaw_133] at hF
  refine lv_iload_n X.x X.b (dk DX12_firstLaw_1 13 rfl) rfl (lv_at hl 1 rfl) ?_
  refine lv_aload_n X.x X.b (dk DX12_firstLaw_1 14 rfl) rfl (lv_at hl 0 rfl) ?_
  refine og_getI OX12 X hq hH 0 (by decide) rfl kF_X12_248 (dk DX12_firstLaw_1 15 rfl) ?_
  refine lv_icmp_ge (tgt := 198) X.x X.b (dk DX12_firstLaw_1 16 rfl) (by decide) (fun c56 => ?_) (fun c56 => ?_)
  · replace hF := if_t hF c56
    have hr9 := lp_r hF hx
    subst hr9
    exact K1 rfl _ _ _ hH (lv_sub hl [] rfl)
  · replace hF := if_f hF c56
    refine lv_iconst (v := 0) X.x X.b (dk DX12_firstLaw_1 17 rfl) (by decide) ?_
    refine lv_istore_n (lv' := [(2, .int 0), (0, .ref (q 53)), (1, .int b1)]) X.x X.b (dk DX12_firstLaw_1 18 rfl) rfl hl (by decide) rfl (fun ls hl => ?_)
    replace hl : lv_has ls 3 [(0, .ref (q 53)), (1, .int b1), (2, .int 0)] := lv_sub hl [1, 2, 0] rfl
    obtain ⟨x72, e73, hF⟩ := bd hF
    replace hl : lv_has ls 3 [(0, .ref (q 53)), (1, .int b1), (2, .int 0)] := lv_sub hl [0, 1, 2] rfl
    refine w_X12_firstLaw_143 hq X s_t b1 _ _ e73 _ _ _ hH hl (fun hk H locs ls hH hl => ?_) (fun hk H locs ls hH hl => ?_)
    · subst hk
      replace hF := if_t hF rfl
      have hr9 := lp_r hF hx
      subst hr9
      exact K0 rfl _ _ _ hH (lv_sub hl [] rfl)
    · subst hk
      replace hF := if_f hF (by decide)
      obtain ⟨v75, e76⟩ : ∃ y : Int32, y = b1 + 1 := ⟨_, rfl⟩
      replace hF := bnd_e hF e76
      refine lv_iinc (v := v75) (lv' := [(1, .int v75), (0, .ref (q 53))]) X.x X.b (dk DX12_firstLaw_1 46 rfl) hl (k := 1) rfl (by rw [e76]; rfl) (by decide) rfl (fun ls hl => ?_)
      replace hl : lv_has ls 3 [(0, .ref (q 53)), (1, .int v75)] := lv_sub hl [1, 0] rfl
      refine lv_goto (tgt := 133) X.x X.b (dk DX12_firstLaw_1 47 rfl) (by decide) ?_
      exact (lp_l hF hx) _ _ _ hH (lv_sub hl [0, 1] rfl) K0 K1
set_option maxHeartbeats 4000000 in
set_option maxRecDepth 100000 in
theorem c_X12_firstLaw {l : Launch} {G : mG} {h : mM} {q : Nat → Nat} (hq : oinj LX12 q) {st : OS} {x : Int32 × OS} (hF : f_X12_firstLaw st = some x) : cQ l G yX12_firstLaw cX12_firstLaw 3 (some FieldType.int) rm_X12_firstLaw [.ref (q 53)] (oset LX12 G q st h) (mQi G (fun r h1 => r = x.1 ∧ h1 = oset LX12 G q x.2 h)) := by
  refine mp_of (by decide +kernel) (Nat.le_of_ble_eq_true rfl) ?_
  intro p e s m below meth c X hr hlk hH hname ls hl
  dsimp only [f_X12_firstLaw] at hF
  replace hl : lv_has ls 3 [(0, .ref (q 53))] := hl
  refine lv_iconst (v := 0) X.x X.b (dk DX12_firstLaw_0 0 rfl) (by decide) ?_
  refine lv_istore_n (lv' := [(1, .int 0), (0, .ref (q 53))]) X.x X.b (dk DX12_firstLaw_0 1 rfl) rfl hl (by decide) rfl (fun ls hl => ?_)
  replace hl : lv_has ls 3 [(0, .ref (q 53)), (1, .int 0)] := lv_sub hl [1, 0] rfl
  obtain ⟨x16, e17, hF⟩ := bd hF
  replace hl : lv_has ls 3 [(0, .ref (q 53)), (1, .int 0)] := lv_sub hl [0, 1] rfl
  refine w_X12_firstLaw_2 hq X st _ _ e17 _ _ _ hH hl (fun hk H locs ls hH hl => ?_) (fun hk H locs ls hH hl => ?_)
  · subst hk
    replace hF := if_t hF rfl
    refine lv_iconst (v := 1) X.x X.b (dk DX12_firstLaw_0 23 rfl) (by decide) ?_
    cases sm hF
    exact mr_iret X hr hlk hH ⟨rfl, rfl⟩ (dk DX12_firstLaw_0 24 rfl)
  · subst hk
    replace hF := if_f hF (by decide)
    refine lv_iconst (v := 1) X.x X.b (dk DX12_firstLaw_0 29 rfl) (by decide) ?_
    refine lv_istore_n (lv' := [(1, .int 1), (0, .ref (q 53))]) X.x X.b (dk DX12_firstLaw_0 30 rfl) rfl hl (by decide) rfl (fun ls hl => ?_)
    replace hl : lv_has ls 3 [(0, .ref (q 53)), (1, .int 1)] := lv_sub hl [1, 0] rfl
    obtain ⟨x31, e32, hF⟩ := bd hF
    replace hl : lv_has ls 3 [(0, .ref (q 53)), (1, .int 1)] := lv_sub hl [0, 1] rfl
    refine w_X12_firstLaw_53 hq X st _ _ e32 _ _ _ hH hl (fun hk H locs ls hH hl => ?_) (fun hk H locs ls hH hl => ?_)
    · subst hk
      replace hF := if_t hF rfl
      refine lv_iconst (v := 2) X.x X.b (dk DX12_firstLaw_0 46 rfl) (by decide) ?_
      cases sm hF
      exact mr_iret X hr hlk hH ⟨rfl, rfl⟩ (dk DX12_firstLaw_0 47 rfl)
    · subst hk
      replace hF := if_f hF (by decide)
      refine lv_iconst (v := 1) X.x X.b (dk DX12_firstLaw_0 50 rfl) (by decide) ?_
      refine lv_istore_n (lv' := [(1, .int 1), (0, .ref (q 53))]) X.x X.b (dk DX12_firstLaw_0 51 rfl) rfl hl (by decide) rfl (fun ls hl => ?_)
      replace hl : lv_has ls 3 [(0, .ref (q 53)), (1, .int 1)] := lv_sub hl [1, 0] rfl
      obtain ⟨x50, e51, hF⟩ := bd hF
      replace hl : lv_has ls 3 [(0, .ref (q 53)), (1, .int 1)] := lv_sub hl [0, 1] rfl
      refine w_X12_firstLaw_92 hq X st _ _ e51 _ _ _ hH hl (fun hk H locs ls hH hl => ?_) (fun hk H locs ls hH hl => ?_)
      · subst hk
        replace hF := if_t hF rfl
        refine lv_iconst (v := 3) X.x X.b (dk DX12_firstLaw_1 5 rfl) (by decide) ?_
        cases sm hF
        exact mr_iret X hr hlk hH ⟨rfl, rfl⟩ (dk DX12_firstLaw_1 6 rfl)
      · subst hk
        replace hF := if_f hF (by decide)
        refine lv_aload_n X.x X.b (dk DX12_firstLaw_1 9 rfl) rfl (lv_at hl 0 rfl) ?_
        obtain ⟨x53, e54, hF⟩ := bd hF
        refine mr_cv0 hH ⟨rfl, rfl⟩ (mr_runV (As := []) (rest := []) X hH (c_X12_layNears hq e54) ((oset_at hq (Nat.le_refl _) ohas_N).trans (congrArg some ocell_N)) OX12.1 kM_X12_272 kI_X12_layNears kS_X12_layNears kN_X12 kC_X12_layNears hd_X12_layNears ⟨Nat.le_of_ble_eq_true rfl, Nat.le_of_ble_eq_true rfl⟩ rfl hl.1 (Nat.le_of_ble_eq_true rfl) (dk DX12_firstLaw_1 10 rfl) ⟨Nat.zero_le _, Nat.zero_le _⟩) (fun h1 H locs hp hH => ?_)
        rw [hp] at hH; clear hp
        refine lv_iconst (v := 0) X.x X.b (dk DX12_firstLaw_1 11 rfl) (by decide) ?_
        refine lv_istore_n (lv' := [(1, .int 0), (0, .ref (q 53))]) X.x X.b (dk DX12_firstLaw_1 12 rfl) rfl hl (by decide) rfl (fun ls hl => ?_)
        replace hl : lv_has ls 3 [(0, .ref (q 53)), (1, .int 0)] := lv_sub hl [1, 0] rfl
        obtain ⟨x77, e78, hF⟩ := bd hF
        replace hl : lv_has ls 3 [(0, .ref (q 53)), (1, .int 0)] := lv_sub hl [0, 1] rfl
        refine w_X12_firstLaw_133 hq X x53 _ _ e78 _ _ _ hH hl (fun hk H locs ls hH hl => ?_) (fun hk H locs ls hH hl => ?_)
        · subst hk
          replace hF := if_t hF rfl
          refine lv_iconst (v := 4) X.x X.b (dk DX12_firstLaw_1 42 rfl) (by decide) ?_
          cases sm hF
          exact mr_iret X hr hlk hH ⟨rfl, rfl⟩ (dk DX12_firstLaw_1 43 rfl)
        · subst hk
          replace hF := if_f hF (by decide)
          refine lv_iconst (v := 0) X.x X.b (dk DX12_firstLaw_1 48 rfl) (by decide) ?_
          cases sm hF
          exact mr_iret X hr hlk hH ⟨rfl, rfl⟩ (dk DX12_firstLaw_1 49 rfl)
