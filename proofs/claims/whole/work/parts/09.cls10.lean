-- X10_hasLine
abbrev rm_X10_hasLine : Room := { frames := 0, cells := 0, slots := 0, locals := 0 }
theorem hd_X10_hasLine : mHd yX10_hasLine 1 := ⟨by decide +kernel, by decide +kernel, by decide +kernel⟩
theorem DX10_hasLine_0 : ∀ t ∈ ([(0, .iload_n 1, 1), (1, .ifCond .lt 15, 3), (4, .iload_n 1, 1), (5, .aload_n 0, 1), (6, .getfield 37, 3), (9, .if_icmp .ge 7, 3), (12, .iconst 1, 1), (13, .goto 4, 3), (16, .iconst 0, 1), (17, .ireturn, 1)] : List (Nat × Instr × Nat)), decode cX10_hasLine t.1 = .ok (t.2.1, t.2.2) := by decide +kernel
noncomputable def f_X10_hasLine (st : OS) (a0 : Int32) : Option (Int32) := (if a0 < 0 then some 0 else (if (st.1 1) ≤ a0 then some 0 else some 1))
set_option maxHeartbeats 4000000 in
set_option maxRecDepth 100000 in
theorem c_X10_hasLine {l : Launch} {G : mG} {h : mM} {q : Nat → Nat} (hq : oinj LX10 q) {st : OS} {a0 : Int32} {x : Int32} (hF : f_X10_hasLine st a0 = some x) : cQ l G yX10_hasLine cX10_hasLine 2 (some FieldType.boolean) rm_X10_hasLine [.ref (q 5), .int a0] (oset LX10 G q st h) (mQi G (fun r h1 => r = x ∧ h1 = oset LX10 G q st h)) := by
  refine mp_of (by decide +kernel) (Nat.le_of_ble_eq_true rfl) ?_
  intro p e s m below meth c X hr hlk hH hname ls hl
  dsimp only [f_X10_hasLine] at hF
  replace hl : lv_has ls 2 [(0, .ref (q 5)), (1, .int a0)] := hl
  refine lv_iload_n X.x X.b (dk DX10_hasLine_0 0 rfl) rfl (lv_at hl 1 rfl) ?_
  refine lv_if_lt (tgt := 16) X.x X.b (dk DX10_hasLine_0 1 rfl) (by decide) (fun c1 => ?_) (fun c1 => ?_)
  · replace hF := if_t hF c1
    refine lv_iconst (v := 0) X.x X.b (dk DX10_hasLine_0 8 rfl) (by decide) ?_
    cases sm hF
    exact mr_zret X hr hlk hH rfl ⟨rfl, rfl⟩ (dk DX10_hasLine_0 9 rfl)
  · replace hF := if_f hF c1
    refine lv_iload_n X.x X.b (dk DX10_hasLine_0 2 rfl) rfl (lv_at hl 1 rfl) ?_
    refine lv_aload_n X.x X.b (dk DX10_hasLine_0 3 rfl) rfl (lv_at hl 0 rfl) ?_
    refine og_getI OX10 X hq hH 1 (by decide) rfl kF_X10_37 (dk DX10_hasLine_0 4 rfl) ?_
    refine lv_icmp_ge (tgt := 16) X.x X.b (dk DX10_hasLine_0 5 rfl) (by decide) (fun c2 => ?_) (fun c2 => ?_)
    · replace hF := if_t hF c2
      refine lv_iconst (v := 0) X.x X.b (dk DX10_hasLine_0 8 rfl) (by decide) ?_
      cases sm hF
      exact mr_zret X hr hlk hH rfl ⟨rfl, rfl⟩ (dk DX10_hasLine_0 9 rfl)
    · replace hF := if_f hF c2
      refine lv_iconst (v := 1) X.x X.b (dk DX10_hasLine_0 6 rfl) (by decide) ?_
      refine lv_goto (tgt := 17) X.x X.b (dk DX10_hasLine_0 7 rfl) (by decide) ?_
      cases sm hF
      exact mr_zret X hr hlk hH rfl ⟨rfl, rfl⟩ (dk DX10_hasLine_0 9 rfl)
-- X10_remove
abbrev rm_X10_remove : Room := { frames := 1, cells := 0, slots := 0, locals := 21 }
theorem hd_X10_remove : mHd yX10_remove 1 := ⟨by decide +kernel, by decide +kernel, by decide +kernel⟩
theorem DX10_remove_0 : ∀ t ∈ ([(0, .aload_n 0, 1), (1, .iload_n 1, 1), (2, .invokevirtual 46, 3), (5, .ifCond .ne 4, 3), (8, .return_, 1), (9, .iload_n 1, 1), (10, .istore_n 2, 1), (11, .iload_n 2, 1), (12, .iconst 1, 1), (13, .iadd, 1), (14, .aload_n 0, 1), (15, .getfield 37, 3), (18, .if_icmp .ge 31, 3), (21, .iload_n 2, 1), (22, .iconst 1, 1), (23, .iadd, 1), (24, .bipush 64, 2), (26, .if_icmp .ge 23, 3), (29, .aload_n 0, 1), (30, .getfield 11, 3), (33, .iload_n 2, 1), (34, .aload_n 0, 1), (35, .getfield 11, 3), (38, .iload_n 2, 1), (39, .iconst 1, 1), (40, .iadd, 1), (41, .laload, 1), (42, .lastore, 1), (43, .iinc 2 1, 3), (46, .goto (-35), 3), (49, .aload_n 0, 1), (50, .dup, 1), (51, .getfield 37, 3), (54, .iconst 1, 1), (55, .isub, 1), (56, .putfield 37, 3), (59, .return_, 1)] : List (Nat × Instr × Nat)), decode cX10_remove t.1 = .ok (t.2.1, t.2.2) := by decide +kernel
noncomputable def f_X10_remove_11 : (OS × Int32) → Option ((OS × Int32) ⊕ (OS)) := fun z => match z with | (s_t, b2) => (if (s_t.1 1) ≤ (b2 + 1) then some (.inr s_t) else (if 64 ≤ (b2 + 1) then some (.inr s_t) else if inb (b2 + 1) 64 = true then if inb b2 64 = true then bnd (oB s_t 2 (vp_updL (s_t.2.2.2 2) (b2 : Int32).toNatClampNeg (s_t.2.2.2 2 (b2 + 1 : Int32).toNatClampNeg))) (fun t9 => bnd (b2 + 1 : Int32) (fun v11 => some (.inl ((t9, v11))))) else none else none))
noncomputable def f_X10_remove (st : OS) (a0 : Int32) : Option (OS) := (f_X10_hasLine st a0).bind (fun x1 => (if x1 = 0 then some st else (lpv (f_X10_remove_11) ((st, a0))).bind (fun x13 => bnd (oI x13 1 ((x13.1 1) - 1)) (fun t16 => some t16))))
set_option maxHeartbeats 4000000 in
set_option maxRecDepth 100000 in
theorem w_X10_remove_11 {p : Program} {l : Launch} {e : Env} {s : State} {m : MethodId} {args : Array Value} {below : List Frame} {meth : Method} {c : Code} {Q : State → Prop} {G : mG} {h : mM} {q : Nat → Nat} (hq : oinj LX10 q) (X : mX G p m c cX10_remove 3 s args RX10) : ∀ (z : OS × Int32) (r : OS), lpv (f_X10_remove_11) z = some r → ∀ (H : Heap) (locs : List Loc) (ls : Array Slot), mH G (oset LX10 G q z.1 h) s.heap H locs → lv_has ls 3 [(0, .ref (q 5)), (2, .int z.2)] → (∀ (H : Heap) (locs : List Loc) (ls : Array Slot), mH G (oset LX10 G q r h) s.heap H locs → lv_has ls 3 [(0, .ref (q 5))] → W p l e rm_X10_remove s m args below meth c H locs 0 0 Q (F0 m 49 ls [])) → W p l e rm_X10_remove s m args below meth c H locs 0 0 Q (F0 m 11 ls []) := by
  refine lpv_rec ?_
  intro z r x hF hx H locs ls hH hl K0
  obtain ⟨s_t, b2⟩ := z
  dsimp only [f_X10_remove_11] at hF
  try dsimp only at hH hl
  refine lv_iload_n X.x X.b (dk DX10_remove_0 7 rfl) rfl (lv_at hl 1 rfl) ?_
  refine lv_iconst (v := 1) X.x X.b (dk DX10_remove_0 8 rfl) (by decide) ?_
  refine lv_iadd X.x X.b (dk DX10_remove_0 9 rfl) ?_
  refine lv_aload_n X.x X.b (dk DX10_remove_0 10 rfl) rfl (lv_at hl 0 rfl) ?_
  refine og_getI OX10 X hq hH 1 (by decide) rfl kF_X10_37 (dk DX10_remove_0 11 rfl) ?_
  refine lv_icmp_ge (tgt := 49) X.x X.b (dk DX10_remove_0 12 rfl) (by decide) (fun c5 => ?_) (fun c5 => ?_)
  · replace hF := if_t hF c5
    have hr9 := lp_r hF hx
    subst hr9
    exact K0 _ _ _ hH (lv_sub hl [0] rfl)
  · replace hF := if_f hF c5
    refine lv_iload_n X.x X.b (dk DX10_remove_0 13 rfl) rfl (lv_at hl 1 rfl) ?_
    refine lv_iconst (v := 1) X.x X.b (dk DX10_remove_0 14 rfl) (by decide) ?_
    refine lv_iadd X.x X.b (dk DX10_remove_0 15 rfl) ?_
    refine lv_bipush (v := 64) X.x X.b (dk DX10_remove_0 16 rfl) (by decide) ?_
    refine lv_icmp_ge (tgt := 49) X.x X.b (dk DX10_remove_0 17 rfl) (by decide) (fun c6 => ?_) (fun c6 => ?_)
    · replace hF := if_t hF c6
      have hr9 := lp_r hF hx
      subst hr9
      exact K0 _ _ _ hH (lv_sub hl [0] rfl)
    · replace hF := if_f hF c6
      refine lv_aload_n X.x X.b (dk DX10_remove_0 18 rfl) rfl (lv_at hl 0 rfl) ?_
      refine og_getR (t := 1) OX10 X hq hH 2 (by decide) rfl kF_X10_11 (dk DX10_remove_0 19 rfl) ?_
      refine lv_iload_n X.x X.b (dk DX10_remove_0 20 rfl) rfl (lv_at hl 1 rfl) ?_
      refine lv_aload_n X.x X.b (dk DX10_remove_0 21 rfl) rfl (lv_at hl 0 rfl) ?_
      refine og_getR (t := 1) OX10 X hq hH 2 (by decide) rfl kF_X10_11 (dk DX10_remove_0 22 rfl) ?_
      refine lv_iload_n X.x X.b (dk DX10_remove_0 23 rfl) rfl (lv_at hl 1 rfl) ?_
      refine lv_iconst (v := 1) X.x X.b (dk DX10_remove_0 24 rfl) (by decide) ?_
      refine lv_iadd X.x X.b (dk DX10_remove_0 25 rfl) ?_
      obtain ⟨c7, hF⟩ := gd hF
      refine og_lald X hq hH 2 (by decide) rfl (inb_in c7) (dk DX10_remove_0 26 rfl) ?_
      obtain ⟨c8, hF⟩ := gd hF
      refine og_last X hq hH 2 (by decide) rfl (inb_in c8) (dk DX10_remove_0 27 rfl) (fun H locs hH => ?_)
      obtain ⟨t9, e10⟩ : ∃ y, y = oB s_t 2 (vp_updL (s_t.2.2.2 2) (b2 : Int32).toNatClampNeg (s_t.2.2.2 2 (b2 + 1 : Int32).toNatClampNeg)) := ⟨_, rfl⟩
      rw [← e10] at hH
      replace hF := bnd_e hF e10
      obtain ⟨v11, e12⟩ : ∃ y : Int32, y = b2 + 1 := ⟨_, rfl⟩
      replace hF := bnd_e hF e12
      refine lv_iinc (v := v11) (lv' := [(2, .int v11), (0, .ref (q 5))]) X.x X.b (dk DX10_remove_0 28 rfl) hl (k := 1) rfl (by rw [e12]; rfl) (by decide) rfl (fun ls hl => ?_)
      replace hl : lv_has ls 3 [(0, .ref (q 5)), (2, .int v11)] := lv_sub hl [1, 0] rfl
      refine lv_goto (tgt := 11) X.x X.b (dk DX10_remove_0 29 rfl) (by decide) ?_
      exact (lp_l hF hx) _ _ _ hH (lv_sub hl [0, 1] rfl) K0
set_option maxHeartbeats 4000000 in
set_option maxRecDepth 100000 in
theorem c_X10_remove {l : Launch} {G : mG} {h : mM} {q : Nat → Nat} (hq : oinj LX10 q) {st : OS} {a0 : Int32} {x : OS} (hF : f_X10_remove st a0 = some x) : cQ l G yX10_remove cX10_remove 3 none rm_X10_remove [.ref (q 5), .int a0] (oset LX10 G q st h) (mQv G (fun h1 => h1 = oset LX10 G q x h)) := by
  refine mp_of (by decide +kernel) (Nat.le_of_ble_eq_true rfl) ?_
  intro p e s m below meth c X hr hlk hH hname ls hl
  dsimp only [f_X10_remove] at hF
  replace hl : lv_has ls 3 [(0, .ref (q 5)), (1, .int a0)] := hl
  refine lv_aload_n X.x X.b (dk DX10_remove_0 0 rfl) rfl (lv_at hl 0 rfl) ?_
  refine lv_iload_n X.x X.b (dk DX10_remove_0 1 rfl) rfl (lv_at hl 1 rfl) ?_
  obtain ⟨x1, e2, hF⟩ := bd hF
  refine mr_ci0 hH ⟨rfl, rfl⟩ (mr_runV (As := [.int a0]) (rest := []) X hH (c_X10_hasLine hq e2) ((oset_at hq (Nat.le_refl _) ohas_N).trans (congrArg some ocell_N)) OX10.1 kM_X10_46 kI_X10_hasLine kS_X10_hasLine kN_X10 kC_X10_hasLine hd_X10_hasLine ⟨Nat.le_of_ble_eq_true rfl, Nat.le_of_ble_eq_true rfl⟩ rfl hl.1 (Nat.le_of_ble_eq_true rfl) (dk DX10_remove_0 2 rfl) ⟨Nat.zero_le _, Nat.zero_le _⟩) (fun r h1 H locs hp hH => ?_)
  obtain ⟨hr1, hr2⟩ := hp; rw [hr1]; rw [hr2] at hH; clear hr1 hr2
  refine lv_if_ne (tgt := 9) X.x X.b (dk DX10_remove_0 3 rfl) (by decide) (fun c4 => ?_) (fun c4 => ?_)
  · replace hF := if_f hF c4
    refine lv_iload_n X.x X.b (dk DX10_remove_0 5 rfl) rfl (lv_at hl 1 rfl) ?_
    refine lv_istore_n (lv' := [(2, .int a0), (0, .ref (q 5)), (1, .int a0)]) X.x X.b (dk DX10_remove_0 6 rfl) rfl hl (by decide) rfl (fun ls hl => ?_)
    replace hl : lv_has ls 3 [(0, .ref (q 5)), (2, .int a0)] := lv_sub hl [1, 0] rfl
    obtain ⟨x13, e14, hF⟩ := bd hF
    replace hl : lv_has ls 3 [(0, .ref (q 5)), (2, .int a0)] := lv_sub hl [0, 1] rfl
    refine w_X10_remove_11 hq X _ _ e14 _ _ _ hH hl (fun H locs ls hH hl => ?_)
    refine lv_aload_n X.x X.b (dk DX10_remove_0 30 rfl) rfl (lv_at hl 0 rfl) ?_
    refine lv_dup X.x X.b (dk DX10_remove_0 31 rfl) rfl ?_
    refine og_getI OX10 X hq hH 1 (by decide) rfl kF_X10_37 (dk DX10_remove_0 32 rfl) ?_
    refine lv_iconst (v := 1) X.x X.b (dk DX10_remove_0 33 rfl) (by decide) ?_
    refine lv_isub X.x X.b (dk DX10_remove_0 34 rfl) ?_
    refine og_putI OX10 X hq hH 1 (by decide) rfl kF_X10_37 rfl rfl rfl (dk DX10_remove_0 35 rfl) (fun H locs hH => ?_)
    obtain ⟨t16, e17⟩ : ∃ y, y = oI x13 1 ((x13.1 1) - 1) := ⟨_, rfl⟩
    rw [← e17] at hH
    replace hF := bnd_e hF e17
    cases sm hF
    exact mr_vret X hr hlk hH rfl (dk DX10_remove_0 36 rfl)
  · replace hF := if_t hF c4
    cases sm hF
    exact mr_vret X hr hlk hH rfl (dk DX10_remove_0 4 rfl)
-- X10_appendIfLine
abbrev rm_X10_appendIfLine : Room := { frames := 1, cells := 0, slots := 0, locals := 22 }
theorem hd_X10_appendIfLine : mHd yX10_appendIfLine 1 := ⟨by decide +kernel, by decide +kernel, by decide +kernel⟩
theorem DX10_appendIfLine_0 : ∀ t ∈ ([(0, .lload_n 1, 1), (1, .invokestatic 81, 3), (4, .iconst 2, 1), (5, .if_icmp .lt 8, 3), (8, .aload_n 0, 1), (9, .lload_n 1, 1), (10, .invokevirtual 91, 3), (13, .return_, 1)] : List (Nat × Instr × Nat)), decode cX10_appendIfLine t.1 = .ok (t.2.1, t.2.2) := by decide +kernel
noncomputable def f_X10_appendIfLine (st : OS) (a0 : Int64) : Option (OS) := (f_J13_bitCount_95d88 a0).bind (fun x1 => (if x1 < 2 then some st else (f_X10_append st a0).bind (fun x5 => some x5)))
set_option maxHeartbeats 4000000 in
set_option maxRecDepth 100000 in
theorem c_X10_appendIfLine {l : Launch} {G : mG} {h : mM} {q : Nat → Nat} (hq : oinj LX10 q) {st : OS} {a0 : Int64} {x : OS} (hF : f_X10_appendIfLine st a0 = some x) : cQ l G yX10_appendIfLine cX10_appendIfLine 3 none rm_X10_appendIfLine [.ref (q 5), .long a0] (oset LX10 G q st h) (mQv G (fun h1 => h1 = oset LX10 G q x h)) := by
  refine mp_of (by decide +kernel) (Nat.le_of_ble_eq_true rfl) ?_
  intro p e s m below meth c X hr hlk hH hname ls hl
  dsimp only [f_X10_appendIfLine] at hF
  replace hl : lv_has ls 3 [(0, .ref (q 5)), (1, .long a0)] := hl
  refine lv_lload_n X.x X.b (dk DX10_appendIfLine_0 0 rfl) rfl (lv_at hl 1 rfl) ?_
  obtain ⟨x1, e2, hF⟩ := bd hF
  refine mr_ci0 hH ⟨rfl, rfl⟩ (mr_runS (As := [.long a0]) (rest := []) X hH (c_J13_bitCount_95d88 e2) kM_X10_81 kT_J13_bitCount_95d88 kN_J13 kC_J13_bitCount_95d88 hd_J13_bitCount_95d88 ⟨Nat.le_of_ble_eq_true rfl, Nat.le_of_ble_eq_true rfl⟩ rfl hl.1 (Nat.le_of_ble_eq_true rfl) (dk DX10_appendIfLine_0 1 rfl) ⟨Nat.zero_le _, Nat.zero_le _⟩) (fun r h1 H locs hp hH => ?_)
  obtain ⟨hr1, hr2⟩ := hp; rw [hr1]; rw [hr2] at hH; clear hr1 hr2
  refine lv_iconst (v := 2) X.x X.b (dk DX10_appendIfLine_0 2 rfl) (by decide) ?_
  refine lv_icmp_lt (tgt := 13) X.x X.b (dk DX10_appendIfLine_0 3 rfl) (by decide) (fun c4 => ?_) (fun c4 => ?_)
  · replace hF := if_t hF c4
    cases sm hF
    exact mr_vret X hr hlk hH rfl (dk DX10_appendIfLine_0 7 rfl)
  · replace hF := if_f hF c4
    refine lv_aload_n X.x X.b (dk DX10_appendIfLine_0 4 rfl) rfl (lv_at hl 0 rfl) ?_
    refine lv_lload_n X.x X.b (dk DX10_appendIfLine_0 5 rfl) rfl (lv_at hl 1 rfl) ?_
    obtain ⟨x5, e6, hF⟩ := bd hF
    refine mr_cv0 hH ⟨rfl, rfl⟩ (mr_runV (As := [.long a0]) (rest := []) X hH (c_X10_append hq e6) ((oset_at hq (Nat.le_refl _) ohas_N).trans (congrArg some ocell_N)) OX10.1 kM_X10_91 kI_X10_append kS_X10_append kN_X10 kC_X10_append hd_X10_append ⟨Nat.le_of_ble_eq_true rfl, Nat.le_of_ble_eq_true rfl⟩ rfl hl.1 (Nat.le_of_ble_eq_true rfl) (dk DX10_appendIfLine_0 6 rfl) ⟨Nat.zero_le _, Nat.zero_le _⟩) (fun h1 H locs hp hH => ?_)
    rw [hp] at hH; clear hp
    cases sm hF
    exact mr_vret X hr hlk hH rfl (dk DX10_appendIfLine_0 7 rfl)
-- X10_becomeDualOf
abbrev rm_X10_becomeDualOf : Room := { frames := 2, cells := 0, slots := 0, locals := 48 }
theorem hd_X10_becomeDualOf : mHd yX10_becomeDualOf 1 := ⟨by decide +kernel, by decide +kernel, by decide +kernel⟩
theorem DX10_becomeDualOf_0 : ∀ t ∈ ([(0, .aload_n 0, 1), (1, .aload_n 1, 1), (2, .getfield 37, 3), (5, .invokevirtual 60, 3), (8, .iconst 0, 1), (9, .istore_n 2, 1), (10, .iload_n 2, 1), (11, .aload_n 1, 1), (12, .getfield 29, 3), (15, .if_icmp .ge 18, 3), (18, .aload_n 0, 1), (19, .aload_n 1, 1), (20, .iload_n 2, 1), (21, .invokevirtual 64, 3), (24, .invokevirtual 67, 3), (27, .iinc 2 1, 3), (30, .goto (-20), 3), (33, .aload_n 0, 1), (34, .invokevirtual 71, 3), (37, .return_, 1)] : List (Nat × Instr × Nat)), decode cX10_becomeDualOf t.1 = .ok (t.2.1, t.2.2) := by decide +kernel
noncomputable def f_X10_becomeDualOf_10 (s_o1 : OS) : (OS × Int32) → Option ((OS × Int32) ⊕ (OS)) := fun z => match z with | (s_t, b2) => (if (s_o1.1 0) ≤ b2 then some (.inr s_t) else (f_X10_throughAt s_o1 b2).bind (fun x5 => (f_X10_appendIfLine s_t x5).bind (fun x8 => bnd (b2 + 1 : Int32) (fun v11 => some (.inl ((x8, v11)))))))
noncomputable def f_X10_becomeDualOf (st : OS) (st1 : OS) : Option (OS) := (f_X10_clear st (st1.1 1)).bind (fun x1 => (lpv (f_X10_becomeDualOf_10 st1) ((x1, 0))).bind (fun x13 => (f_X10_settle x13).bind (fun x16 => some x16)))
set_option maxHeartbeats 4000000 in
set_option maxRecDepth 100000 in
theorem w_X10_becomeDualOf_10 {p : Program} {l : Launch} {e : Env} {s : State} {m : MethodId} {args : Array Value} {below : List Frame} {meth : Method} {c : Code} {Q : State → Prop} {G : mG} {h : mM} {q : Nat → Nat} {q1 : Nat → Nat} (hq : oinj LX10 q) (hq1 : oinj LX10 q1) (ha : oap [(LX10, q), (LX10, q1)]) (X : mX G p m c cX10_becomeDualOf 3 s args RX10) (s_o1 : OS) : ∀ (z : OS × Int32) (r : OS), lpv (f_X10_becomeDualOf_10 s_o1) z = some r → ∀ (H : Heap) (locs : List Loc) (ls : Array Slot), mH G (oset LX10 G q z.1 (oset LX10 G q1 s_o1 h)) s.heap H locs → lv_has ls 3 [(0, .ref (q 5)), (1, .ref (q1 5)), (2, .int z.2)] → (∀ (H : Heap) (locs : List Loc) (ls : Array Slot), mH G (oset LX10 G q r (oset LX10 G q1 s_o1 h)) s.heap H locs → lv_has ls 3 [(0, .ref (q 5))] → W p l e rm_X10_becomeDualOf s m args below meth c H locs 0 0 Q (F0 m 33 ls [])) → W p l e rm_X10_becomeDualOf s m args below meth c H locs 0 0 Q (F0 m 10 ls []) := by
  refine lpv_rec ?_
  intro z r x hF hx H locs ls hH hl K0
  obtain ⟨s_t, b2⟩ := z
  dsimp only [f_X10_becomeDualOf_10] at hF
  try dsimp only at hH hl
  refine lv_iload_n X.x X.b (dk DX10_becomeDualOf_0 6 rfl) rfl (lv_at hl 2 rfl) ?_
  refine lv_aload_n X.x X.b (dk DX10_becomeDualOf_0 7 rfl) rfl (lv_at hl 1 rfl) ?_
  refine og_getI OX10 X hq1 (mH_perm (l1 := [(LX10, q, s_t), (LX10, q1, s_o1)]) (l2 := [(LX10, q1, s_o1), (LX10, q, s_t)]) ha [1, 0] [1, 0] rfl rfl rfl hH) 0 (by decide) rfl kF_X10_29 (dk DX10_becomeDualOf_0 8 rfl) ?_
  refine lv_icmp_ge (tgt := 33) X.x X.b (dk DX10_becomeDualOf_0 9 rfl) (by decide) (fun c4 => ?_) (fun c4 => ?_)
  · replace hF := if_t hF c4
    have hr9 := lp_r hF hx
    subst hr9
    exact K0 _ _ _ hH (lv_sub hl [0] rfl)
  · replace hF := if_f hF c4
    refine lv_aload_n X.x X.b (dk DX10_becomeDualOf_0 10 rfl) rfl (lv_at hl 0 rfl) ?_
    refine lv_aload_n X.x X.b (dk DX10_becomeDualOf_0 11 rfl) rfl (lv_at hl 1 rfl) ?_
    refine lv_iload_n X.x X.b (dk DX10_becomeDualOf_0 12 rfl) rfl (lv_at hl 2 rfl) ?_
    obtain ⟨x5, e6, hF⟩ := bd hF
    refine mr_cl0 (mH_perm (l1 := [(LX10, q, s_t), (LX10, q1, s_o1)]) (l2 := [(LX10, q1, s_o1), (LX10, q, s_t)]) ha [1, 0] [1, 0] rfl rfl rfl hH) ⟨rfl, rfl⟩ (mr_runV (As := [.int b2]) (rest := [.ref (q 5)]) X (mH_perm (l1 := [(LX10, q, s_t), (LX10, q1, s_o1)]) (l2 := [(LX10, q1, s_o1), (LX10, q, s_t)]) ha [1, 0] [1, 0] rfl rfl rfl hH) (c_X10_throughAt hq1 e6) ((oset_at hq1 (Nat.le_refl _) ohas_N).trans (congrArg some ocell_N)) OX10.1 kM_X10_64 kI_X10_throughAt kS_X10_throughAt kN_X10 kC_X10_throughAt hd_X10_throughAt ⟨Nat.le_of_ble_eq_true rfl, Nat.le_of_ble_eq_true rfl⟩ rfl hl.1 (Nat.le_of_ble_eq_true rfl) (dk DX10_becomeDualOf_0 13 rfl) ⟨Nat.zero_le _, Nat.zero_le _⟩) (fun r h1 H locs hp hH => ?_)
    obtain ⟨hr1, hr2⟩ := hp; rw [hr1]; rw [hr2] at hH; clear hr1 hr2
    replace hH : mH G (oset LX10 G q s_t (oset LX10 G q1 s_o1 h)) s.heap H locs := mH_unperm (l1 := [(LX10, q, s_t), (LX10, q1, s_o1)]) (l2 := [(LX10, q1, s_o1), (LX10, q, s_t)]) ha [1, 0] [1, 0] rfl rfl rfl hH
    obtain ⟨x8, e9, hF⟩ := bd hF
    refine mr_cv0 hH ⟨rfl, rfl⟩ (mr_runV (As := [.long x5]) (rest := []) X hH (c_X10_appendIfLine hq e9) ((oset_at hq (Nat.le_refl _) ohas_N).trans (congrArg some ocell_N)) OX10.1 kM_X10_67 kI_X10_appendIfLine kS_X10_appendIfLine kN_X10 kC_X10_appendIfLine hd_X10_appendIfLine ⟨Nat.le_of_ble_eq_true rfl, Nat.le_of_ble_eq_true rfl⟩ rfl hl.1 (Nat.le_of_ble_eq_true rfl) (dk DX10_becomeDualOf_0 14 rfl) ⟨Nat.zero_le _, Nat.zero_le _⟩) (fun h1 H locs hp hH => ?_)
    rw [hp] at hH; clear hp
    obtain ⟨v11, e12⟩ : ∃ y : Int32, y = b2 + 1 := ⟨_, rfl⟩
    replace hF := bnd_e hF e12
    refine lv_iinc (v := v11) (lv' := [(2, .int v11), (0, .ref (q 5)), (1, .ref (q1 5))]) X.x X.b (dk DX10_becomeDualOf_0 15 rfl) hl (k := 2) rfl (by rw [e12]; rfl) (by decide) rfl (fun ls hl => ?_)
    replace hl : lv_has ls 3 [(0, .ref (q 5)), (1, .ref (q1 5)), (2, .int v11)] := lv_sub hl [1, 2, 0] rfl
    refine lv_goto (tgt := 10) X.x X.b (dk DX10_becomeDualOf_0 16 rfl) (by decide) ?_
    exact (lp_l hF hx) _ _ _ hH (lv_sub hl [0, 1, 2] rfl) K0
set_option maxHeartbeats 4000000 in
set_option maxRecDepth 100000 in
theorem c_X10_becomeDualOf {l : Launch} {G : mG} {h : mM} {q : Nat → Nat} {q1 : Nat → Nat} (hq : oinj LX10 q) (hq1 : oinj LX10 q1) (ha : oap [(LX10, q), (LX10, q1)]) {st : OS} {st1 : OS} {x : OS} (hF : f_X10_becomeDualOf st st1 = some x) : cQ l G yX10_becomeDualOf cX10_becomeDualOf 3 none rm_X10_becomeDualOf [.ref (q 5), .ref (q1 5)] (oset LX10 G q st (oset LX10 G q1 st1 h)) (mQv G (fun h1 => h1 = oset LX10 G q x (oset LX10 G q1 st1 h))) := by
  refine mp_of (by decide +kernel) (Nat.le_of_ble_eq_true rfl) ?_
  intro p e s m below meth c X hr hlk hH hname ls hl
  dsimp only [f_X10_becomeDualOf] at hF
  replace hl : lv_has ls 3 [(0, .ref (q 5)), (1, .ref (q1 5))] := hl
  refine lv_aload_n X.x X.b (dk DX10_becomeDualOf_0 0 rfl) rfl (lv_at hl 0 rfl) ?_
  refine lv_aload_n X.x X.b (dk DX10_becomeDualOf_0 1 rfl) rfl (lv_at hl 1 rfl) ?_
  refine og_getI OX10 X hq1 (mH_perm (l1 := [(LX10, q, st), (LX10, q1, st1)]) (l2 := [(LX10, q1, st1), (LX10, q, st)]) ha [1, 0] [1, 0] rfl rfl rfl hH) 1 (by decide) rfl kF_X10_37 (dk DX10_becomeDualOf_0 2 rfl) ?_
  obtain ⟨x1, e2, hF⟩ := bd hF
  refine mr_cv0 hH ⟨rfl, rfl⟩ (mr_runV (As := [.int (st1.1 1)]) (rest := []) X hH (c_X10_clear hq e2) ((oset_at hq (Nat.le_refl _) ohas_N).trans (congrArg some ocell_N)) OX10.1 kM_X10_60 kI_X10_clear kS_X10_clear kN_X10 kC_X10_clear hd_X10_clear ⟨Nat.le_of_ble_eq_true rfl, Nat.le_of_ble_eq_true rfl⟩ rfl hl.1 (Nat.le_of_ble_eq_true rfl) (dk DX10_becomeDualOf_0 3 rfl) ⟨Nat.zero_le _, Nat.zero_le _⟩) (fun h1 H locs hp hH => ?_)
  rw [hp] at hH; clear hp
  refine lv_iconst (v := 0) X.x X.b (dk DX10_becomeDualOf_0 4 rfl) (by decide) ?_
  refine lv_istore_n (lv' := [(2, .int 0), (0, .ref (q 5)), (1, .ref (q1 5))]) X.x X.b (dk DX10_becomeDualOf_0 5 rfl) rfl hl (by decide) rfl (fun ls hl => ?_)
  replace hl : lv_has ls 3 [(0, .ref (q 5)), (1, .ref (q1 5)), (2, .int 0)] := lv_sub hl [1, 2, 0] rfl
  obtain ⟨x13, e14, hF⟩ := bd hF
  replace hl : lv_has ls 3 [(0, .ref (q 5)), (1, .ref (q1 5)), (2, .int 0)] := lv_sub hl [0, 1, 2] rfl
  refine w_X10_becomeDualOf_10 hq hq1 ha X st1 _ _ e14 _ _ _ hH hl (fun H locs ls hH hl => ?_)
  refine lv_aload_n X.x X.b (dk DX10_becomeDualOf_0 17 rfl) rfl (lv_at hl 0 rfl) ?_
  obtain ⟨x16, e17, hF⟩ := bd hF
  refine mr_cv0 hH ⟨rfl, rfl⟩ (mr_runV (As := []) (rest := []) X hH (c_X10_settle hq e17) ((oset_at hq (Nat.le_refl _) ohas_N).trans (congrArg some ocell_N)) OX10.1 kM_X10_71 kI_X10_settle kS_X10_settle kN_X10 kC_X10_settle hd_X10_settle ⟨Nat.le_of_ble_eq_true rfl, Nat.le_of_ble_eq_true rfl⟩ rfl hl.1 (Nat.le_of_ble_eq_true rfl) (dk DX10_becomeDualOf_0 18 rfl) ⟨Nat.zero_le _, Nat.zero_le _⟩) (fun h1 H locs hp hH => ?_)
  rw [hp] at hH; clear hp
  cases sm hF
  exact mr_vret X hr hlk hH rfl (dk DX10_becomeDualOf_0 19 rfl)
-- X10_renumbered
abbrev rm_X10_renumbered : Room := { frames := 1, cells := 0, slots := 0, locals := 22 }
theorem hd_X10_renumbered : mHd yX10_renumbered 2 := ⟨by decide +kernel, by decide +kernel, by decide +kernel⟩
theorem DX10_renumbered_0 : ∀ t ∈ ([(0, .lconst 0, 1), (1, .lstore 4, 2), (3, .iconst 0, 1), (4, .istore 6, 2), (6, .iconst 0, 1), (7, .istore 7, 2), (9, .iload 7, 2), (11, .bipush 64, 2), (13, .if_icmp .ge 39, 3), (16, .lload_n 2, 1), (17, .iload 7, 2), (19, .invokestatic 50, 3), (22, .ifCond .eq 24, 3), (25, .lload_n 0, 1), (26, .iload 7, 2), (28, .invokestatic 50, 3), (31, .ifCond .eq 12, 3), (34, .lload 4, 2), (36, .lconst 1, 1), (37, .iload 6, 2), (39, .lshl, 1), (40, .lor, 1), (41, .lstore 4, 2), (43, .iinc 6 1, 3), (46, .iinc 7 1, 3), (49, .goto (-40), 3), (52, .lload 4, 2), (54, .lreturn, 1)] : List (Nat × Instr × Nat)), decode cX10_renumbered t.1 = .ok (t.2.1, t.2.2) := by decide +kernel
noncomputable def f_X10_renumbered_9 (b0 : Int64) (b2 : Int64) : (Int64 × Int32 × Int32) → Option ((Int64 × Int32 × Int32) ⊕ (Int64)) := fun z => match z with | (b4, b6, b7) => (if 64 ≤ b7 then some (.inr b4) else (f_X10_has b2 b7).bind (fun x2 => (if x2 = 0 then bnd (b7 + 1 : Int32) (fun v6 => some (.inl ((b4, b6, v6)))) else (f_X10_has b0 b7).bind (fun x8 => (if x8 = 0 then bnd (b6 + 1 : Int32) (fun v12 => bnd (b7 + 1 : Int32) (fun v14 => some (.inl ((b4, v12, v14))))) else bnd (b4 ||| (((1 : Int64)) <<< ((b6 : Int32).toInt64 &&& 63)) : Int64) (fun v16 => bnd (b6 + 1 : Int32) (fun v18 => bnd (b7 + 1 : Int32) (fun v20 => some (.inl ((v16, v18, v20)))))))))))
noncomputable def f_X10_renumbered (a0 : Int64) (a1 : Int64) : Option (Int64) := (lpv (f_X10_renumbered_9 a0 a1) ((0, 0, 0))).bind (fun x22 => some x22)
set_option maxHeartbeats 4000000 in
set_option maxRecDepth 100000 in
theorem w_X10_renumbered_9 {p : Program} {l : Launch} {e : Env} {s : State} {m : MethodId} {args : Array Value} {below : List Frame} {meth : Method} {c : Code} {Q : State → Prop} {G : mG} {h : mM}  (X : mX G p m c cX10_renumbered 8 s args RX10) (b0 : Int64) (b2 : Int64) : ∀ (z : Int64 × Int32 × Int32) (r : Int64), lpv (f_X10_renumbered_9 b0 b2) z = some r → ∀ (H : Heap) (locs : List Loc) (ls : Array Slot), mH G (h) s.heap H locs → lv_has ls 8 [(0, .long b0), (2, .long b2), (4, .long z.1), (6, .int z.2.1), (7, .int z.2.2)] → (∀ (H : Heap) (locs : List Loc) (ls : Array Slot), mH G (h) s.heap H locs → lv_has ls 8 [(4, .long r)] → W p l e rm_X10_renumbered s m args below meth c H locs 0 0 Q (F0 m 52 ls [])) → W p l e rm_X10_renumbered s m args below meth c H locs 0 0 Q (F0 m 9 ls []) := by
  refine lpv_rec ?_
  intro z r x hF hx H locs ls hH hl K0
  obtain ⟨b4, b6, b7⟩ := z
  dsimp only [f_X10_renumbered_9] at hF
  try dsimp only at hH hl
  refine lv_iload X.x X.b (dk DX10_renumbered_0 6 rfl) (lv_at hl 4 rfl) ?_
  refine lv_bipush (v := 64) X.x X.b (dk DX10_renumbered_0 7 rfl) (by decide) ?_
  refine lv_icmp_ge (tgt := 52) X.x X.b (dk DX10_renumbered_0 8 rfl) (by decide) (fun c1 => ?_) (fun c1 => ?_)
  · replace hF := if_t hF c1
    have hr9 := lp_r hF hx
    subst hr9
    exact K0 _ _ _ hH (lv_sub hl [2] rfl)
  · replace hF := if_f hF c1
    refine lv_lload_n X.x X.b (dk DX10_renumbered_0 9 rfl) rfl (lv_at hl 1 rfl) ?_
    refine lv_iload X.x X.b (dk DX10_renumbered_0 10 rfl) (lv_at hl 4 rfl) ?_
    obtain ⟨x2, e3, hF⟩ := bd hF
    refine mr_ci0 hH ⟨rfl, rfl⟩ (mr_runS (As := [.long b2, .int b7]) (rest := []) X hH (c_X10_has e3) kM_X10_50 kT_X10_has kN_X10 kC_X10_has hd_X10_has ⟨Nat.le_of_ble_eq_true rfl, Nat.le_of_ble_eq_true rfl⟩ rfl hl.1 (Nat.le_of_ble_eq_true rfl) (dk DX10_renumbered_0 11 rfl) ⟨Nat.zero_le _, Nat.zero_le _⟩) (fun r h1 H locs hp hH => ?_)
    obtain ⟨hr1, hr2⟩ := hp; rw [hr1]; rw [hr2] at hH; clear hr1 hr2
    refine lv_if_eq (tgt := 46) X.x X.b (dk DX10_renumbered_0 12 rfl) (by decide) (fun c5 => ?_) (fun c5 => ?_)
    · replace hF := if_t hF c5
      obtain ⟨v6, e7⟩ : ∃ y : Int32, y = b7 + 1 := ⟨_, rfl⟩
      replace hF := bnd_e hF e7
      refine lv_iinc (v := v6) (lv' := [(7, .int v6), (0, .long b0), (2, .long b2), (4, .long b4), (6, .int b6)]) X.x X.b (dk DX10_renumbered_0 24 rfl) hl (k := 4) rfl (by rw [e7]; rfl) (by decide) rfl (fun ls hl => ?_)
      replace hl : lv_has ls 8 [(0, .long b0), (2, .long b2), (4, .long b4), (6, .int b6), (7, .int v6)] := lv_sub hl [1, 2, 3, 4, 0] rfl
      refine lv_goto (tgt := 9) X.x X.b (dk DX10_renumbered_0 25 rfl) (by decide) ?_
      exact (lp_l hF hx) _ _ _ hH (lv_sub hl [0, 1, 2, 3, 4] rfl) K0
    · replace hF := if_f hF c5
      refine lv_lload_n X.x X.b (dk DX10_renumbered_0 13 rfl) rfl (lv_at hl 0 rfl) ?_
      refine lv_iload X.x X.b (dk DX10_renumbered_0 14 rfl) (lv_at hl 4 rfl) ?_
      obtain ⟨x8, e9, hF⟩ := bd hF
      refine mr_ci0 hH ⟨rfl, rfl⟩ (mr_runS (As := [.long b0, .int b7]) (rest := []) X hH (c_X10_has e9) kM_X10_50 kT_X10_has kN_X10 kC_X10_has hd_X10_has ⟨Nat.le_of_ble_eq_true rfl, Nat.le_of_ble_eq_true rfl⟩ rfl hl.1 (Nat.le_of_ble_eq_true rfl) (dk DX10_renumbered_0 15 rfl) ⟨Nat.zero_le _, Nat.zero_le _⟩) (fun r h1 H locs hp hH => ?_)
      obtain ⟨hr1, hr2⟩ := hp; rw [hr1]; rw [hr2] at hH; clear hr1 hr2
      refine lv_if_eq (tgt := 43) X.x X.b (dk DX10_renumbered_0 16 rfl) (by decide) (fun c11 => ?_) (fun c11 => ?_)
      · replace hF := if_t hF c11
        obtain ⟨v12, e13⟩ : ∃ y : Int32, y = b6 + 1 := ⟨_, rfl⟩
        replace hF := bnd_e hF e13
        refine lv_iinc (v := v12) (lv' := [(6, .int v12), (0, .long b0), (2, .long b2), (4, .long b4), (7, .int b7)]) X.x X.b (dk DX10_renumbered_0 23 rfl) hl (k := 3) rfl (by rw [e13]; rfl) (by decide) rfl (fun ls hl => ?_)
        replace hl : lv_has ls 8 [(0, .long b0), (2, .long b2), (4, .long b4), (6, .int v12), (7, .int b7)] := lv_sub hl [1, 2, 3, 0, 4] rfl
        obtain ⟨v14, e15⟩ : ∃ y : Int32, y = b7 + 1 := ⟨_, rfl⟩
        replace hF := bnd_e hF e15
        refine lv_iinc (v := v14) (lv' := [(7, .int v14), (0, .long b0), (2, .long b2), (4, .long b4), (6, .int v12)]) X.x X.b (dk DX10_renumbered_0 24 rfl) hl (k := 4) rfl (by rw [e15]; rfl) (by decide) rfl (fun ls hl => ?_)
        replace hl : lv_has ls 8 [(0, .long b0), (2, .long b2), (4, .long b4), (6, .int v12), (7, .int v14)] := lv_sub hl [1, 2, 3, 4, 0] rfl
        refine lv_goto (tgt := 9) X.x X.b (dk DX10_renumbered_0 25 rfl) (by decide) ?_
        exact (lp_l hF hx) _ _ _ hH (lv_sub hl [0, 1, 2, 3, 4] rfl) K0
      · replace hF := if_f hF c11
        refine lv_lload X.x X.b (dk DX10_renumbered_0 17 rfl) (lv_at hl 2 rfl) ?_
        refine lv_lconst (v := 1) X.x X.b (dk DX10_renumbered_0 18 rfl) (by decide) ?_
        refine lv_iload X.x X.b (dk DX10_renumbered_0 19 rfl) (lv_at hl 3 rfl) ?_
        refine lv_lshl X.x X.b (dk DX10_renumbered_0 20 rfl) rfl ?_
        refine lv_lor X.x X.b (dk DX10_renumbered_0 21 rfl) ?_
        refine lv_topl (fun v16 e17 => ?_)
        replace hF := bnd_e hF e17
        refine lv_lstore (lv' := [(4, .long v16), (0, .long b0), (2, .long b2), (6, .int b6), (7, .int b7)]) X.x X.b (dk DX10_renumbered_0 22 rfl) hl (by decide) rfl (fun ls hl => ?_)
        replace hl : lv_has ls 8 [(0, .long b0), (2, .long b2), (4, .long v16), (6, .int b6), (7, .int b7)] := lv_sub hl [1, 2, 0, 3, 4] rfl
        obtain ⟨v18, e19⟩ : ∃ y : Int32, y = b6 + 1 := ⟨_, rfl⟩
        replace hF := bnd_e hF e19
        refine lv_iinc (v := v18) (lv' := [(6, .int v18), (0, .long b0), (2, .long b2), (4, .long v16), (7, .int b7)]) X.x X.b (dk DX10_renumbered_0 23 rfl) hl (k := 3) rfl (by rw [e19]; rfl) (by decide) rfl (fun ls hl => ?_)
        replace hl : lv_has ls 8 [(0, .long b0), (2, .long b2), (4, .long v16), (6, .int v18), (7, .int b7)] := lv_sub hl [1, 2, 3, 0, 4] rfl
        obtain ⟨v20, e21⟩ : ∃ y : Int32, y = b7 + 1 := ⟨_, rfl⟩
        replace hF := bnd_e hF e21
        refine lv_iinc (v := v20) (lv' := [(7, .int v20), (0, .long b0), (2, .long b2), (4, .long v16), (6, .int v18)]) X.x X.b (dk DX10_renumbered_0 24 rfl) hl (k := 4) rfl (by rw [e21]; rfl) (by decide) rfl (fun ls hl => ?_)
        replace hl : lv_has ls 8 [(0, .long b0), (2, .long b2), (4, .long v16), (6, .int v18), (7, .int v20)] := lv_sub hl [1, 2, 3, 4, 0] rfl
        refine lv_goto (tgt := 9) X.x X.b (dk DX10_renumbered_0 25 rfl) (by decide) ?_
        exact (lp_l hF hx) _ _ _ hH (lv_sub hl [0, 1, 2, 3, 4] rfl) K0
set_option maxHeartbeats 4000000 in
set_option maxRecDepth 100000 in
theorem c_X10_renumbered {l : Launch} {G : mG} {h : mM}  {a0 : Int64} {a1 : Int64} {x : Int64} (hF : f_X10_renumbered a0 a1 = some x) : cQ l G yX10_renumbered cX10_renumbered 8 (some FieldType.long) rm_X10_renumbered [.long a0, .long a1] (h) (mQl G (fun r h1 => r = x ∧ h1 = h)) := by
  refine mp_of (by decide +kernel) (Nat.le_of_ble_eq_true rfl) ?_
  intro p e s m below meth c X hr hlk hH hname ls hl
  dsimp only [f_X10_renumbered] at hF
  replace hl : lv_has ls 8 [(0, .long a0), (2, .long a1)] := hl
  refine lv_lconst (v := 0) X.x X.b (dk DX10_renumbered_0 0 rfl) (by decide) ?_
  refine lv_lstore (lv' := [(4, .long 0), (0, .long a0), (2, .long a1)]) X.x X.b (dk DX10_renumbered_0 1 rfl) hl (by decide) rfl (fun ls hl => ?_)
  replace hl : lv_has ls 8 [(0, .long a0), (2, .long a1), (4, .long 0)] := lv_sub hl [1, 2, 0] rfl
  refine lv_iconst (v := 0) X.x X.b (dk DX10_renumbered_0 2 rfl) (by decide) ?_
  refine lv_istore (lv' := [(6, .int 0), (0, .long a0), (2, .long a1), (4, .long 0)]) X.x X.b (dk DX10_renumbered_0 3 rfl) hl (by decide) rfl (fun ls hl => ?_)
  replace hl : lv_has ls 8 [(0, .long a0), (2, .long a1), (4, .long 0), (6, .int 0)] := lv_sub hl [1, 2, 3, 0] rfl
  refine lv_iconst (v := 0) X.x X.b (dk DX10_renumbered_0 4 rfl) (by decide) ?_
  refine lv_istore (lv' := [(7, .int 0), (0, .long a0), (2, .long a1), (4, .long 0), (6, .int 0)]) X.x X.b (dk DX10_renumbered_0 5 rfl) hl (by decide) rfl (fun ls hl => ?_)
  replace hl : lv_has ls 8 [(0, .long a0), (2, .long a1), (4, .long 0), (6, .int 0), (7, .int 0)] := lv_sub hl [1, 2, 3, 4, 0] rfl
  obtain ⟨x22, e23, hF⟩ := bd hF
  replace hl : lv_has ls 8 [(0, .long a0), (2, .long a1), (4, .long 0), (6, .int 0), (7, .int 0)] := lv_sub hl [0, 1, 2, 3, 4] rfl
  refine w_X10_renumbered_9 X a0 a1 _ _ e23 _ _ _ hH hl (fun H locs ls hH hl => ?_)
  refine lv_lload X.x X.b (dk DX10_renumbered_0 26 rfl) (lv_at hl 0 rfl) ?_
  cases sm hF
  exact mr_lret X hr hlk hH ⟨rfl, rfl⟩ (dk DX10_renumbered_0 27 rfl)
-- X10_becomeLeftOf
abbrev rm_X10_becomeLeftOf : Room := { frames := 2, cells := 0, slots := 0, locals := 49 }
theorem hd_X10_becomeLeftOf : mHd yX10_becomeLeftOf 2 := ⟨by decide +kernel, by decide +kernel, by decide +kernel⟩
theorem DX10_becomeLeftOf_0 : ∀ t ∈ ([(0, .aload_n 1, 1), (1, .invokevirtual 74, 3), (4, .aload_n 1, 1), (5, .iload_n 2, 1), (6, .invokevirtual 78, 3), (9, .lconst 1, 1), (10, .iload_n 2, 1), (11, .lshl, 1), (12, .lor, 1), (13, .ldc2_w 21, 3), (16, .lxor, 1), (17, .land, 1), (18, .lstore_n 3, 1), (19, .aload_n 0, 1), (20, .lload_n 3, 1), (21, .invokestatic 81, 3), (24, .invokevirtual 60, 3), (27, .iconst 0, 1), (28, .istore 5, 2), (30, .iload 5, 2), (32, .aload_n 1, 1), (33, .getfield 37, 3), (36, .if_icmp .ge 23, 3), (39, .aload_n 0, 1), (40, .aload_n 1, 1), (41, .iload 5, 2), (43, .invokevirtual 84, 3), (46, .lload_n 3, 1), (47, .invokestatic 87, 3), (50, .invokevirtual 67, 3), (53, .iinc 5 1, 3), (56, .goto (-26), 3), (59, .aload_n 0, 1), (60, .invokevirtual 71, 3), (63, .return_, 1)] : List (Nat × Instr × Nat)), decode cX10_becomeLeftOf t.1 = .ok (t.2.1, t.2.2) := by decide +kernel
noncomputable def f_X10_becomeLeftOf_30 (s_o1 : OS) (b3 : Int64) : (OS × Int32) → Option ((OS × Int32) ⊕ (OS)) := fun z => match z with | (s_t, b5) => (if (s_o1.1 1) ≤ b5 then some (.inr s_t) else (f_X10_setAt s_o1 b5).bind (fun x16 => (f_X10_renumbered x16 b3).bind (fun x19 => (f_X10_appendIfLine s_t x19).bind (fun x22 => bnd (b5 + 1 : Int32) (fun v25 => some (.inl ((x22, v25))))))))
noncomputable def f_X10_becomeLeftOf (st : OS) (st1 : OS) (a1 : Int32) : Option (OS) := (f_X10_all st1).bind (fun x1 => (f_X10_nearAt st1 a1).bind (fun x4 => bnd (x1 &&& ((x4 ||| (((1 : Int64)) <<< ((a1 : Int32).toInt64 &&& 63))) ^^^ ((-1))) : Int64) (fun v7 => (f_J13_bitCount_95d88 v7).bind (fun x9 => (f_X10_clear st x9).bind (fun x12 => (lpv (f_X10_becomeLeftOf_30 st1 v7) ((x12, 0))).bind (fun x27 => (f_X10_settle x27).bind (fun x30 => some x30)))))))
set_option maxHeartbeats 4000000 in
set_option maxRecDepth 100000 in
theorem w_X10_becomeLeftOf_30 {p : Program} {l : Launch} {e : Env} {s : State} {m : MethodId} {args : Array Value} {below : List Frame} {meth : Method} {c : Code} {Q : State → Prop} {G : mG} {h : mM} {q : Nat → Nat} {q1 : Nat → Nat} (hq : oinj LX10 q) (hq1 : oinj LX10 q1) (ha : oap [(LX10, q), (LX10, q1)]) (X : mX G p m c cX10_becomeLeftOf 6 s args RX10) (s_o1 : OS) (b3 : Int64) : ∀ (z : OS × Int32) (r : OS), lpv (f_X10_becomeLeftOf_30 s_o1 b3) z = some r → ∀ (H : Heap) (locs : List Loc) (ls : Array Slot), mH G (oset LX10 G q z.1 (oset LX10 G q1 s_o1 h)) s.heap H locs → lv_has ls 6 [(0, .ref (q 5)), (1, .ref (q1 5)), (3, .long b3), (5, .int z.2)] → (∀ (H : Heap) (locs : List Loc) (ls : Array Slot), mH G (oset LX10 G q r (oset LX10 G q1 s_o1 h)) s.heap H locs → lv_has ls 6 [(0, .ref (q 5))] → W p l e rm_X10_becomeLeftOf s m args below meth c H locs 0 0 Q (F0 m 59 ls [])) → W p l e rm_X10_becomeLeftOf s m args below meth c H locs 0 0 Q (F0 m 30 ls []) := by
  refine lpv_rec ?_
  intro z r x hF hx H locs ls hH hl K0
  obtain ⟨s_t, b5⟩ := z
  dsimp only [f_X10_becomeLeftOf_30] at hF
  try dsimp only at hH hl
  refine lv_iload X.x X.b (dk DX10_becomeLeftOf_0 19 rfl) (lv_at hl 3 rfl) ?_
  refine lv_aload_n X.x X.b (dk DX10_becomeLeftOf_0 20 rfl) rfl (lv_at hl 1 rfl) ?_
  refine og_getI OX10 X hq1 (mH_perm (l1 := [(LX10, q, s_t), (LX10, q1, s_o1)]) (l2 := [(LX10, q1, s_o1), (LX10, q, s_t)]) ha [1, 0] [1, 0] rfl rfl rfl hH) 1 (by decide) rfl kF_X10_37 (dk DX10_becomeLeftOf_0 21 rfl) ?_
  refine lv_icmp_ge (tgt := 59) X.x X.b (dk DX10_becomeLeftOf_0 22 rfl) (by decide) (fun c15 => ?_) (fun c15 => ?_)
  · replace hF := if_t hF c15
    have hr9 := lp_r hF hx
    subst hr9
    exact K0 _ _ _ hH (lv_sub hl [0] rfl)
  · replace hF := if_f hF c15
    refine lv_aload_n X.x X.b (dk DX10_becomeLeftOf_0 23 rfl) rfl (lv_at hl 0 rfl) ?_
    refine lv_aload_n X.x X.b (dk DX10_becomeLeftOf_0 24 rfl) rfl (lv_at hl 1 rfl) ?_
    refine lv_iload X.x X.b (dk DX10_becomeLeftOf_0 25 rfl) (lv_at hl 3 rfl) ?_
    obtain ⟨x16, e17, hF⟩ := bd hF
    refine mr_cl0 (mH_perm (l1 := [(LX10, q, s_t), (LX10, q1, s_o1)]) (l2 := [(LX10, q1, s_o1), (LX10, q, s_t)]) ha [1, 0] [1, 0] rfl rfl rfl hH) ⟨rfl, rfl⟩ (mr_runV (As := [.int b5]) (rest := [.ref (q 5)]) X (mH_perm (l1 := [(LX10, q, s_t), (LX10, q1, s_o1)]) (l2 := [(LX10, q1, s_o1), (LX10, q, s_t)]) ha [1, 0] [1, 0] rfl rfl rfl hH) (c_X10_setAt hq1 e17) ((oset_at hq1 (Nat.le_refl _) ohas_N).trans (congrArg some ocell_N)) OX10.1 kM_X10_84 kI_X10_setAt kS_X10_setAt kN_X10 kC_X10_setAt hd_X10_setAt ⟨Nat.le_of_ble_eq_true rfl, Nat.le_of_ble_eq_true rfl⟩ rfl hl.1 (Nat.le_of_ble_eq_true rfl) (dk DX10_becomeLeftOf_0 26 rfl) ⟨Nat.zero_le _, Nat.zero_le _⟩) (fun r h1 H locs hp hH => ?_)
    obtain ⟨hr1, hr2⟩ := hp; rw [hr1]; rw [hr2] at hH; clear hr1 hr2
    replace hH : mH G (oset LX10 G q s_t (oset LX10 G q1 s_o1 h)) s.heap H locs := mH_unperm (l1 := [(LX10, q, s_t), (LX10, q1, s_o1)]) (l2 := [(LX10, q1, s_o1), (LX10, q, s_t)]) ha [1, 0] [1, 0] rfl rfl rfl hH
    refine lv_lload_n X.x X.b (dk DX10_becomeLeftOf_0 27 rfl) rfl (lv_at hl 2 rfl) ?_
    obtain ⟨x19, e20, hF⟩ := bd hF
    refine mr_cl0 hH ⟨rfl, rfl⟩ (mr_runS (As := [.long x16, .long b3]) (rest := [.ref (q 5)]) X hH (c_X10_renumbered e20) kM_X10_87 kT_X10_renumbered kN_X10 kC_X10_renumbered hd_X10_renumbered ⟨Nat.le_of_ble_eq_true rfl, Nat.le_of_ble_eq_true rfl⟩ rfl hl.1 (Nat.le_of_ble_eq_true rfl) (dk DX10_becomeLeftOf_0 28 rfl) ⟨Nat.zero_le _, Nat.zero_le _⟩) (fun r h1 H locs hp hH => ?_)
    obtain ⟨hr1, hr2⟩ := hp; rw [hr1]; rw [hr2] at hH; clear hr1 hr2
    obtain ⟨x22, e23, hF⟩ := bd hF
    refine mr_cv0 hH ⟨rfl, rfl⟩ (mr_runV (As := [.long x19]) (rest := []) X hH (c_X10_appendIfLine hq e23) ((oset_at hq (Nat.le_refl _) ohas_N).trans (congrArg some ocell_N)) OX10.1 kM_X10_67 kI_X10_appendIfLine kS_X10_appendIfLine kN_X10 kC_X10_appendIfLine hd_X10_appendIfLine ⟨Nat.le_of_ble_eq_true rfl, Nat.le_of_ble_eq_true rfl⟩ rfl hl.1 (Nat.le_of_ble_eq_true rfl) (dk DX10_becomeLeftOf_0 29 rfl) ⟨Nat.zero_le _, Nat.zero_le _⟩) (fun h1 H locs hp hH => ?_)
    rw [hp] at hH; clear hp
    obtain ⟨v25, e26⟩ : ∃ y : Int32, y = b5 + 1 := ⟨_, rfl⟩
    replace hF := bnd_e hF e26
    refine lv_iinc (v := v25) (lv' := [(5, .int v25), (0, .ref (q 5)), (1, .ref (q1 5)), (3, .long b3)]) X.x X.b (dk DX10_becomeLeftOf_0 30 rfl) hl (k := 3) rfl (by rw [e26]; rfl) (by decide) rfl (fun ls hl => ?_)
    replace hl : lv_has ls 6 [(0, .ref (q 5)), (1, .ref (q1 5)), (3, .long b3), (5, .int v25)] := lv_sub hl [1, 2, 3, 0] rfl
    refine lv_goto (tgt := 30) X.x X.b (dk DX10_becomeLeftOf_0 31 rfl) (by decide) ?_
    exact (lp_l hF hx) _ _ _ hH (lv_sub hl [0, 1, 2, 3] rfl) K0
set_option maxHeartbeats 4000000 in
set_option maxRecDepth 100000 in
theorem c_X10_becomeLeftOf {l : Launch} {G : mG} {h : mM} {q : Nat → Nat} {q1 : Nat → Nat} (hq : oinj LX10 q) (hq1 : oinj LX10 q1) (ha : oap [(LX10, q), (LX10, q1)]) {st : OS} {st1 : OS} {a1 : Int32} {x : OS} (hF : f_X10_becomeLeftOf st st1 a1 = some x) : cQ l G yX10_becomeLeftOf cX10_becomeLeftOf 6 none rm_X10_becomeLeftOf [.ref (q 5), .ref (q1 5), .int a1] (oset LX10 G q st (oset LX10 G q1 st1 h)) (mQv G (fun h1 => h1 = oset LX10 G q x (oset LX10 G q1 st1 h))) := by
  refine mp_of (by decide +kernel) (Nat.le_of_ble_eq_true rfl) ?_
  intro p e s m below meth c X hr hlk hH hname ls hl
  dsimp only [f_X10_becomeLeftOf] at hF
  replace hl : lv_has ls 6 [(0, .ref (q 5)), (1, .ref (q1 5)), (2, .int a1)] := hl
  refine lv_aload_n X.x X.b (dk DX10_becomeLeftOf_0 0 rfl) rfl (lv_at hl 1 rfl) ?_
  obtain ⟨x1, e2, hF⟩ := bd hF
  refine mr_cl0 (mH_perm (l1 := [(LX10, q, st), (LX10, q1, st1)]) (l2 := [(LX10, q1, st1), (LX10, q, st)]) ha [1, 0] [1, 0] rfl rfl rfl hH) ⟨rfl, rfl⟩ (mr_runV (As := []) (rest := []) X (mH_perm (l1 := [(LX10, q, st), (LX10, q1, st1)]) (l2 := [(LX10, q1, st1), (LX10, q, st)]) ha [1, 0] [1, 0] rfl rfl rfl hH) (c_X10_all hq1 e2) ((oset_at hq1 (Nat.le_refl _) ohas_N).trans (congrArg some ocell_N)) OX10.1 kM_X10_74 kI_X10_all kS_X10_all kN_X10 kC_X10_all hd_X10_all ⟨Nat.le_of_ble_eq_true rfl, Nat.le_of_ble_eq_true rfl⟩ rfl hl.1 (Nat.le_of_ble_eq_true rfl) (dk DX10_becomeLeftOf_0 1 rfl) ⟨Nat.zero_le _, Nat.zero_le _⟩) (fun r h1 H locs hp hH => ?_)
  obtain ⟨hr1, hr2⟩ := hp; rw [hr1]; rw [hr2] at hH; clear hr1 hr2
  replace hH : mH G (oset LX10 G q st (oset LX10 G q1 st1 h)) s.heap H locs := mH_unperm (l1 := [(LX10, q, st), (LX10, q1, st1)]) (l2 := [(LX10, q1, st1), (LX10, q, st)]) ha [1, 0] [1, 0] rfl rfl rfl hH
  refine lv_aload_n X.x X.b (dk DX10_becomeLeftOf_0 2 rfl) rfl (lv_at hl 1 rfl) ?_
  refine lv_iload_n X.x X.b (dk DX10_becomeLeftOf_0 3 rfl) rfl (lv_at hl 2 rfl) ?_
  obtain ⟨x4, e5, hF⟩ := bd hF
  refine mr_cl0 (mH_perm (l1 := [(LX10, q, st), (LX10, q1, st1)]) (l2 := [(LX10, q1, st1), (LX10, q, st)]) ha [1, 0] [1, 0] rfl rfl rfl hH) ⟨rfl, rfl⟩ (mr_runV (As := [.int a1]) (rest := [.long x1]) X (mH_perm (l1 := [(LX10, q, st), (LX10, q1, st1)]) (l2 := [(LX10, q1, st1), (LX10, q, st)]) ha [1, 0] [1, 0] rfl rfl rfl hH) (c_X10_nearAt hq1 e5) ((oset_at hq1 (Nat.le_refl _) ohas_N).trans (congrArg some ocell_N)) OX10.1 kM_X10_78 kI_X10_nearAt kS_X10_nearAt kN_X10 kC_X10_nearAt hd_X10_nearAt ⟨Nat.le_of_ble_eq_true rfl, Nat.le_of_ble_eq_true rfl⟩ rfl hl.1 (Nat.le_of_ble_eq_true rfl) (dk DX10_becomeLeftOf_0 4 rfl) ⟨Nat.zero_le _, Nat.zero_le _⟩) (fun r h1 H locs hp hH => ?_)
  obtain ⟨hr1, hr2⟩ := hp; rw [hr1]; rw [hr2] at hH; clear hr1 hr2
  replace hH : mH G (oset LX10 G q st (oset LX10 G q1 st1 h)) s.heap H locs := mH_unperm (l1 := [(LX10, q, st), (LX10, q1, st1)]) (l2 := [(LX10, q1, st1), (LX10, q, st)]) ha [1, 0] [1, 0] rfl rfl rfl hH
  refine lv_lconst (v := 1) X.x X.b (dk DX10_becomeLeftOf_0 5 rfl) (by decide) ?_
  refine lv_iload_n X.x X.b (dk DX10_becomeLeftOf_0 6 rfl) rfl (lv_at hl 2 rfl) ?_
  refine lv_lshl X.x X.b (dk DX10_becomeLeftOf_0 7 rfl) rfl ?_
  refine lv_lor X.x X.b (dk DX10_becomeLeftOf_0 8 rfl) ?_
  refine lv_ldc2 (v := (-1)) X.x X.b X.ow (X.ts _ kK_X10_21) (dk DX10_becomeLeftOf_0 9 rfl) ?_
  refine lv_lxor X.x X.b (dk DX10_becomeLeftOf_0 10 rfl) ?_
  refine lv_land X.x X.b (dk DX10_becomeLeftOf_0 11 rfl) ?_
  refine lv_topl (fun v7 e8 => ?_)
  replace hF := bnd_e hF e8
  refine lv_lstore_n (lv' := [(3, .long v7), (0, .ref (q 5)), (1, .ref (q1 5)), (2, .int a1)]) X.x X.b (dk DX10_becomeLeftOf_0 12 rfl) rfl hl (by decide) rfl (fun ls hl => ?_)
  replace hl : lv_has ls 6 [(0, .ref (q 5)), (1, .ref (q1 5)), (3, .long v7)] := lv_sub hl [1, 2, 0] rfl
  refine lv_aload_n X.x X.b (dk DX10_becomeLeftOf_0 13 rfl) rfl (lv_at hl 0 rfl) ?_
  refine lv_lload_n X.x X.b (dk DX10_becomeLeftOf_0 14 rfl) rfl (lv_at hl 2 rfl) ?_
  obtain ⟨x9, e10, hF⟩ := bd hF
  refine mr_ci0 hH ⟨rfl, rfl⟩ (mr_runS (As := [.long v7]) (rest := [.ref (q 5)]) X hH (c_J13_bitCount_95d88 e10) kM_X10_81 kT_J13_bitCount_95d88 kN_J13 kC_J13_bitCount_95d88 hd_J13_bitCount_95d88 ⟨Nat.le_of_ble_eq_true rfl, Nat.le_of_ble_eq_true rfl⟩ rfl hl.1 (Nat.le_of_ble_eq_true rfl) (dk DX10_becomeLeftOf_0 15 rfl) ⟨Nat.zero_le _, Nat.zero_le _⟩) (fun r h1 H locs hp hH => ?_)
  obtain ⟨hr1, hr2⟩ := hp; rw [hr1]; rw [hr2] at hH; clear hr1 hr2
  obtain ⟨x12, e13, hF⟩ := bd hF
  refine mr_cv0 hH ⟨rfl, rfl⟩ (mr_runV (As := [.int x9]) (rest := []) X hH (c_X10_clear hq e13) ((oset_at hq (Nat.le_refl _) ohas_N).trans (congrArg some ocell_N)) OX10.1 kM_X10_60 kI_X10_clear kS_X10_clear kN_X10 kC_X10_clear hd_X10_clear ⟨Nat.le_of_ble_eq_true rfl, Nat.le_of_ble_eq_true rfl⟩ rfl hl.1 (Nat.le_of_ble_eq_true rfl) (dk DX10_becomeLeftOf_0 16 rfl) ⟨Nat.zero_le _, Nat.zero_le _⟩) (fun h1 H locs hp hH => ?_)
  rw [hp] at hH; clear hp
  refine lv_iconst (v := 0) X.x X.b (dk DX10_becomeLeftOf_0 17 rfl) (by decide) ?_
  refine lv_istore (lv' := [(5, .int 0), (0, .ref (q 5)), (1, .ref (q1 5)), (3, .long v7)]) X.x X.b (dk DX10_becomeLeftOf_0 18 rfl) hl (by decide) rfl (fun ls hl => ?_)
  replace hl : lv_has ls 6 [(0, .ref (q 5)), (1, .ref (q1 5)), (3, .long v7), (5, .int 0)] := lv_sub hl [1, 2, 3, 0] rfl
  obtain ⟨x27, e28, hF⟩ := bd hF
  replace hl : lv_has ls 6 [(0, .ref (q 5)), (1, .ref (q1 5)), (3, .long v7), (5, .int 0)] := lv_sub hl [0, 1, 2, 3] rfl
  refine w_X10_becomeLeftOf_30 hq hq1 ha X st1 v7 _ _ e28 _ _ _ hH hl (fun H locs ls hH hl => ?_)
  refine lv_aload_n X.x X.b (dk DX10_becomeLeftOf_0 32 rfl) rfl (lv_at hl 0 rfl) ?_
  obtain ⟨x30, e31, hF⟩ := bd hF
  refine mr_cv0 hH ⟨rfl, rfl⟩ (mr_runV (As := []) (rest := []) X hH (c_X10_settle hq e31) ((oset_at hq (Nat.le_refl _) ohas_N).trans (congrArg some ocell_N)) OX10.1 kM_X10_71 kI_X10_settle kS_X10_settle kN_X10 kC_X10_settle hd_X10_settle ⟨Nat.le_of_ble_eq_true rfl, Nat.le_of_ble_eq_true rfl⟩ rfl hl.1 (Nat.le_of_ble_eq_true rfl) (dk DX10_becomeLeftOf_0 33 rfl) ⟨Nat.zero_le _, Nat.zero_le _⟩) (fun h1 H locs hp hH => ?_)
  rw [hp] at hH; clear hp
  cases sm hF
  exact mr_vret X hr hlk hH rfl (dk DX10_becomeLeftOf_0 34 rfl)
-- X10_acrossFrom
abbrev rm_X10_acrossFrom : Room := { frames := 2, cells := 0, slots := 0, locals := 40 }
theorem hd_X10_acrossFrom : mHd yX10_acrossFrom 1 := ⟨by decide +kernel, by decide +kernel, by decide +kernel⟩
theorem DX10_acrossFrom_0 : ∀ t ∈ ([(0, .aload_n 0, 1), (1, .invokevirtual 74, 3), (4, .lstore_n 3, 1), (5, .iconst 0, 1), (6, .istore 5, 2), (8, .iload 5, 2), (10, .aload_n 0, 1), (11, .getfield 29, 3), (14, .if_icmp .ge 32, 3), (17, .lload_n 1, 1), (18, .iload 5, 2), (20, .invokestatic 50, 3), (23, .ifCond .eq 17, 3), (26, .lload_n 3, 1), (27, .aload_n 0, 1), (28, .iload 5, 2), (30, .invokevirtual 78, 3), (33, .lconst 1, 1), (34, .iload 5, 2), (36, .lshl, 1), (37, .lor, 1), (38, .land, 1), (39, .lstore_n 3, 1), (40, .iinc 5 1, 3), (43, .goto (-35), 3), (46, .lload_n 3, 1), (47, .lreturn, 1)] : List (Nat × Instr × Nat)), decode cX10_acrossFrom t.1 = .ok (t.2.1, t.2.2) := by decide +kernel
noncomputable def f_X10_acrossFrom_8 (s_t : OS) (b1 : Int64) : (Int64 × Int32) → Option ((Int64 × Int32) ⊕ (Int64)) := fun z => match z with | (b3, b5) => (if (s_t.1 0) ≤ b5 then some (.inr b3) else (f_X10_has b1 b5).bind (fun x5 => (if x5 = 0 then bnd (b5 + 1 : Int32) (fun v9 => some (.inl ((b3, v9)))) else (f_X10_nearAt s_t b5).bind (fun x11 => bnd (b3 &&& (x11 ||| (((1 : Int64)) <<< ((b5 : Int32).toInt64 &&& 63))) : Int64) (fun v14 => bnd (b5 + 1 : Int32) (fun v16 => some (.inl ((v14, v16)))))))))
noncomputable def f_X10_acrossFrom (st : OS) (a0 : Int64) : Option (Int64) := (f_X10_all st).bind (fun x1 => (lpv (f_X10_acrossFrom_8 st a0) ((x1, 0))).bind (fun x18 => some x18))
set_option maxHeartbeats 4000000 in
set_option maxRecDepth 100000 in
theorem w_X10_acrossFrom_8 {p : Program} {l : Launch} {e : Env} {s : State} {m : MethodId} {args : Array Value} {below : List Frame} {meth : Method} {c : Code} {Q : State → Prop} {G : mG} {h : mM} {q : Nat → Nat} (hq : oinj LX10 q) (X : mX G p m c cX10_acrossFrom 6 s args RX10) (s_t : OS) (b1 : Int64) : ∀ (z : Int64 × Int32) (r : Int64), lpv (f_X10_acrossFrom_8 s_t b1) z = some r → ∀ (H : Heap) (locs : List Loc) (ls : Array Slot), mH G (oset LX10 G q s_t h) s.heap H locs → lv_has ls 6 [(0, .ref (q 5)), (1, .long b1), (3, .long z.1), (5, .int z.2)] → (∀ (H : Heap) (locs : List Loc) (ls : Array Slot), mH G (oset LX10 G q s_t h) s.heap H locs → lv_has ls 6 [(3, .long r)] → W p l e rm_X10_acrossFrom s m args below meth c H locs 0 0 Q (F0 m 46 ls [])) → W p l e rm_X10_acrossFrom s m args below meth c H locs 0 0 Q (F0 m 8 ls []) := by
  refine lpv_rec ?_
  intro z r x hF hx H locs ls hH hl K0
  obtain ⟨b3, b5⟩ := z
  dsimp only [f_X10_acrossFrom_8] at hF
  try dsimp only at hH hl
  refine lv_iload X.x X.b (dk DX10_acrossFrom_0 5 rfl) (lv_at hl 3 rfl) ?_
  refine lv_aload_n X.x X.b (dk DX10_acrossFrom_0 6 rfl) rfl (lv_at hl 0 rfl) ?_
  refine og_getI OX10 X hq hH 0 (by decide) rfl kF_X10_29 (dk DX10_acrossFrom_0 7 rfl) ?_
  refine lv_icmp_ge (tgt := 46) X.x X.b (dk DX10_acrossFrom_0 8 rfl) (by decide) (fun c4 => ?_) (fun c4 => ?_)
  · replace hF := if_t hF c4
    have hr9 := lp_r hF hx
    subst hr9
    exact K0 _ _ _ hH (lv_sub hl [2] rfl)
  · replace hF := if_f hF c4
    refine lv_lload_n X.x X.b (dk DX10_acrossFrom_0 9 rfl) rfl (lv_at hl 1 rfl) ?_
    refine lv_iload X.x X.b (dk DX10_acrossFrom_0 10 rfl) (lv_at hl 3 rfl) ?_
    obtain ⟨x5, e6, hF⟩ := bd hF
    refine mr_ci0 hH ⟨rfl, rfl⟩ (mr_runS (As := [.long b1, .int b5]) (rest := []) X hH (c_X10_has e6) kM_X10_50 kT_X10_has kN_X10 kC_X10_has hd_X10_has ⟨Nat.le_of_ble_eq_true rfl, Nat.le_of_ble_eq_true rfl⟩ rfl hl.1 (Nat.le_of_ble_eq_true rfl) (dk DX10_acrossFrom_0 11 rfl) ⟨Nat.zero_le _, Nat.zero_le _⟩) (fun r h1 H locs hp hH => ?_)
    obtain ⟨hr1, hr2⟩ := hp; rw [hr1]; rw [hr2] at hH; clear hr1 hr2
    refine lv_if_eq (tgt := 40) X.x X.b (dk DX10_acrossFrom_0 12 rfl) (by decide) (fun c8 => ?_) (fun c8 => ?_)
    · replace hF := if_t hF c8
      obtain ⟨v9, e10⟩ : ∃ y : Int32, y = b5 + 1 := ⟨_, rfl⟩
      replace hF := bnd_e hF e10
      refine lv_iinc (v := v9) (lv' := [(5, .int v9), (0, .ref (q 5)), (1, .long b1), (3, .long b3)]) X.x X.b (dk DX10_acrossFrom_0 23 rfl) hl (k := 3) rfl (by rw [e10]; rfl) (by decide) rfl (fun ls hl => ?_)
      replace hl : lv_has ls 6 [(0, .ref (q 5)), (1, .long b1), (3, .long b3), (5, .int v9)] := lv_sub hl [1, 2, 3, 0] rfl
      refine lv_goto (tgt := 8) X.x X.b (dk DX10_acrossFrom_0 24 rfl) (by decide) ?_
      exact (lp_l hF hx) _ _ _ hH (lv_sub hl [0, 1, 2, 3] rfl) K0
    · replace hF := if_f hF c8
      refine lv_lload_n X.x X.b (dk DX10_acrossFrom_0 13 rfl) rfl (lv_at hl 2 rfl) ?_
      refine lv_aload_n X.x X.b (dk DX10_acrossFrom_0 14 rfl) rfl (lv_at hl 0 rfl) ?_
      refine lv_iload X.x X.b (dk DX10_acrossFrom_0 15 rfl) (lv_at hl 3 rfl) ?_
      obtain ⟨x11, e12, hF⟩ := bd hF
      refine mr_cl0 hH ⟨rfl, rfl⟩ (mr_runV (As := [.int b5]) (rest := [.long b3]) X hH (c_X10_nearAt hq e12) ((oset_at hq (Nat.le_refl _) ohas_N).trans (congrArg some ocell_N)) OX10.1 kM_X10_78 kI_X10_nearAt kS_X10_nearAt kN_X10 kC_X10_nearAt hd_X10_nearAt ⟨Nat.le_of_ble_eq_true rfl, Nat.le_of_ble_eq_true rfl⟩ rfl hl.1 (Nat.le_of_ble_eq_true rfl) (dk DX10_acrossFrom_0 16 rfl) ⟨Nat.zero_le _, Nat.zero_le _⟩) (fun r h1 H locs hp hH => ?_)
      obtain ⟨hr1, hr2⟩ := hp; rw [hr1]; rw [hr2] at hH; clear hr1 hr2
      refine lv_lconst (v := 1) X.x X.b (dk DX10_acrossFrom_0 17 rfl) (by decide) ?_
      refine lv_iload X.x X.b (dk DX10_acrossFrom_0 18 rfl) (lv_at hl 3 rfl) ?_
      refine lv_lshl X.x X.b (dk DX10_acrossFrom_0 19 rfl) rfl ?_
      refine lv_lor X.x X.b (dk DX10_acrossFrom_0 20 rfl) ?_
      refine lv_land X.x X.b (dk DX10_acrossFrom_0 21 rfl) ?_
      refine lv_topl (fun v14 e15 => ?_)
      replace hF := bnd_e hF e15
      refine lv_lstore_n (lv' := [(3, .long v14), (0, .ref (q 5)), (1, .long b1), (5, .int b5)]) X.x X.b (dk DX10_acrossFrom_0 22 rfl) rfl hl (by decide) rfl (fun ls hl => ?_)
      replace hl : lv_has ls 6 [(0, .ref (q 5)), (1, .long b1), (3, .long v14), (5, .int b5)] := lv_sub hl [1, 2, 0, 3] rfl
      obtain ⟨v16, e17⟩ : ∃ y : Int32, y = b5 + 1 := ⟨_, rfl⟩
      replace hF := bnd_e hF e17
      refine lv_iinc (v := v16) (lv' := [(5, .int v16), (0, .ref (q 5)), (1, .long b1), (3, .long v14)]) X.x X.b (dk DX10_acrossFrom_0 23 rfl) hl (k := 3) rfl (by rw [e17]; rfl) (by decide) rfl (fun ls hl => ?_)
      replace hl : lv_has ls 6 [(0, .ref (q 5)), (1, .long b1), (3, .long v14), (5, .int v16)] := lv_sub hl [1, 2, 3, 0] rfl
      refine lv_goto (tgt := 8) X.x X.b (dk DX10_acrossFrom_0 24 rfl) (by decide) ?_
      exact (lp_l hF hx) _ _ _ hH (lv_sub hl [0, 1, 2, 3] rfl) K0
set_option maxHeartbeats 4000000 in
set_option maxRecDepth 100000 in
theorem c_X10_acrossFrom {l : Launch} {G : mG} {h : mM} {q : Nat → Nat} (hq : oinj LX10 q) {st : OS} {a0 : Int64} {x : Int64} (hF : f_X10_acrossFrom st a0 = some x) : cQ l G yX10_acrossFrom cX10_acrossFrom 6 (some FieldType.long) rm_X10_acrossFrom [.ref (q 5), .long a0] (oset LX10 G q st h) (mQl G (fun r h1 => r = x ∧ h1 = oset LX10 G q st h)) := by
  refine mp_of (by decide +kernel) (Nat.le_of_ble_eq_true rfl) ?_
  intro p e s m below meth c X hr hlk hH hname ls hl
  dsimp only [f_X10_acrossFrom] at hF
  replace hl : lv_has ls 6 [(0, .ref (q 5)), (1, .long a0)] := hl
  refine lv_aload_n X.x X.b (dk DX10_acrossFrom_0 0 rfl) rfl (lv_at hl 0 rfl) ?_
  obtain ⟨x1, e2, hF⟩ := bd hF
  refine mr_cl0 hH ⟨rfl, rfl⟩ (mr_runV (As := []) (rest := []) X hH (c_X10_all hq e2) ((oset_at hq (Nat.le_refl _) ohas_N).trans (congrArg some ocell_N)) OX10.1 kM_X10_74 kI_X10_all kS_X10_all kN_X10 kC_X10_all hd_X10_all ⟨Nat.le_of_ble_eq_true rfl, Nat.le_of_ble_eq_true rfl⟩ rfl hl.1 (Nat.le_of_ble_eq_true rfl) (dk DX10_acrossFrom_0 1 rfl) ⟨Nat.zero_le _, Nat.zero_le _⟩) (fun r h1 H locs hp hH => ?_)
  obtain ⟨hr1, hr2⟩ := hp; rw [hr1]; rw [hr2] at hH; clear hr1 hr2
  refine lv_lstore_n (lv' := [(3, .long x1), (0, .ref (q 5)), (1, .long a0)]) X.x X.b (dk DX10_acrossFrom_0 2 rfl) rfl hl (by decide) rfl (fun ls hl => ?_)
  replace hl : lv_has ls 6 [(0, .ref (q 5)), (1, .long a0), (3, .long x1)] := lv_sub hl [1, 2, 0] rfl
  refine lv_iconst (v := 0) X.x X.b (dk DX10_acrossFrom_0 3 rfl) (by decide) ?_
  refine lv_istore (lv' := [(5, .int 0), (0, .ref (q 5)), (1, .long a0), (3, .long x1)]) X.x X.b (dk DX10_acrossFrom_0 4 rfl) hl (by decide) rfl (fun ls hl => ?_)
  replace hl : lv_has ls 6 [(0, .ref (q 5)), (1, .long a0), (3, .long x1), (5, .int 0)] := lv_sub hl [1, 2, 3, 0] rfl
  obtain ⟨x18, e19, hF⟩ := bd hF
  replace hl : lv_has ls 6 [(0, .ref (q 5)), (1, .long a0), (3, .long x1), (5, .int 0)] := lv_sub hl [0, 1, 2, 3] rfl
  refine w_X10_acrossFrom_8 hq X st a0 _ _ e19 _ _ _ hH hl (fun H locs ls hH hl => ?_)
  refine lv_lload_n X.x X.b (dk DX10_acrossFrom_0 25 rfl) rfl (lv_at hl 0 rfl) ?_
  cases sm hF
  exact mr_lret X hr hlk hH ⟨rfl, rfl⟩ (dk DX10_acrossFrom_0 26 rfl)
-- X10_spanOf
abbrev rm_X10_spanOf : Room := { frames := 1, cells := 0, slots := 0, locals := 21 }
theorem hd_X10_spanOf : mHd yX10_spanOf 1 := ⟨by decide +kernel, by decide +kernel, by decide +kernel⟩
theorem DX10_spanOf_0 : ∀ t ∈ ([(0, .lload_n 1, 1), (1, .lstore_n 3, 1), (2, .iconst 0, 1), (3, .istore 5, 2), (5, .iload 5, 2), (7, .bipush 64, 2), (9, .if_icmp .gt 64, 3), (12, .lload_n 3, 1), (13, .lstore 6, 2), (15, .iconst 0, 1), (16, .istore 8, 2), (18, .iload 8, 2), (20, .aload_n 0, 1), (21, .getfield 37, 3), (24, .if_icmp .ge 33, 3), (27, .aload_n 0, 1), (28, .iload 8, 2), (30, .invokevirtual 84, 3), (33, .lload_n 3, 1), (34, .land, 1), (35, .invokestatic 81, 3), (38, .iconst 2, 1), (39, .if_icmp .lt 12, 3), (42, .lload_n 3, 1), (43, .aload_n 0, 1), (44, .iload 8, 2), (46, .invokevirtual 84, 3), (49, .lor, 1), (50, .lstore_n 3, 1), (51, .iinc 8 1, 3), (54, .goto (-36), 3), (57, .lload_n 3, 1), (58, .lload 6, 2), (60, .lcmp, 1), (61, .ifCond .ne 6, 3), (64, .goto 9, 3), (67, .iinc 5 1, 3), (70, .goto (-65), 3), (73, .lload_n 3, 1), (74, .lreturn, 1)] : List (Nat × Instr × Nat)), decode cX10_spanOf t.1 = .ok (t.2.1, t.2.2) := by decide +kernel
noncomputable def f_X10_spanOf_18 (s_t : OS) (b5 : Int32) (b6 : Int64) : (Int64 × Int32) → Option ((Int64 × Int32) ⊕ (Int64)) := fun z => match z with | (b3, b8) => (if (s_t.1 1) ≤ b8 then some (.inr b3) else (f_X10_setAt s_t b8).bind (fun x3 => (f_J13_bitCount_95d88 (x3 &&& b3)).bind (fun x6 => (if x6 < 2 then bnd (b8 + 1 : Int32) (fun v10 => some (.inl ((b3, v10)))) else (f_X10_setAt s_t b8).bind (fun x12 => bnd (b3 ||| x12 : Int64) (fun v15 => bnd (b8 + 1 : Int32) (fun v17 => some (.inl ((v15, v17))))))))))
noncomputable def f_X10_spanOf_5 (s_t : OS) : (Int64 × Int32) → Option ((Int64 × Int32) ⊕ (Nat × Int64)) := fun z => match z with | (b3, b5) => (if 64 < b5 then some (.inr ((1, b3))) else (lpv (f_X10_spanOf_18 s_t b5 b3) ((b3, 0))).bind (fun x19 => (if (lg_cmp x19 b3) = 0 then some (.inr ((0, x19))) else bnd (b5 + 1 : Int32) (fun v23 => some (.inl ((x19, v23)))))))
noncomputable def f_X10_spanOf (st : OS) (a0 : Int64) : Option (Int64) := (lpv (f_X10_spanOf_5 st) ((a0, 0))).bind (fun x25 => match x25 with | (k28, v27) => (if k28 = 0 then some v27 else some v27))
set_option maxHeartbeats 4000000 in
set_option maxRecDepth 100000 in
theorem w_X10_spanOf_18 {p : Program} {l : Launch} {e : Env} {s : State} {m : MethodId} {args : Array Value} {below : List Frame} {meth : Method} {c : Code} {Q : State → Prop} {G : mG} {h : mM} {q : Nat → Nat} (hq : oinj LX10 q) (X : mX G p m c cX10_spanOf 9 s args RX10) (s_t : OS) (b5 : Int32) (b6 : Int64) : ∀ (z : Int64 × Int32) (r : Int64), lpv (f_X10_spanOf_18 s_t b5 b6) z = some r → ∀ (H : Heap) (locs : List Loc) (ls : Array Slot), mH G (oset LX10 G q s_t h) s.heap H locs → lv_has ls 9 [(0, .ref (q 5)), (3, .long z.1), (5, .int b5), (6, .long b6), (8, .int z.2)] → (∀ (H : Heap) (locs : List Loc) (ls : Array Slot), mH G (oset LX10 G q s_t h) s.heap H locs → lv_has ls 9 [(0, .ref (q 5)), (3, .long r), (5, .int b5), (6, .long b6)] → W p l e rm_X10_spanOf s m args below meth c H locs 0 0 Q (F0 m 57 ls [])) → W p l e rm_X10_spanOf s m args below meth c H locs 0 0 Q (F0 m 18 ls []) := by
  refine lpv_rec ?_
  intro z r x hF hx H locs ls hH hl K0
  obtain ⟨b3, b8⟩ := z
  dsimp only [f_X10_spanOf_18] at hF
  try dsimp only at hH hl
  refine lv_iload X.x X.b (dk DX10_spanOf_0 11 rfl) (lv_at hl 4 rfl) ?_
  refine lv_aload_n X.x X.b (dk DX10_spanOf_0 12 rfl) rfl (lv_at hl 0 rfl) ?_
  refine og_getI OX10 X hq hH 1 (by decide) rfl kF_X10_37 (dk DX10_spanOf_0 13 rfl) ?_
  refine lv_icmp_ge (tgt := 57) X.x X.b (dk DX10_spanOf_0 14 rfl) (by decide) (fun c2 => ?_) (fun c2 => ?_)
  · replace hF := if_t hF c2
    have hr9 := lp_r hF hx
    subst hr9
    exact K0 _ _ _ hH (lv_sub hl [0, 1, 2, 3] rfl)
  · replace hF := if_f hF c2
    refine lv_aload_n X.x X.b (dk DX10_spanOf_0 15 rfl) rfl (lv_at hl 0 rfl) ?_
    refine lv_iload X.x X.b (dk DX10_spanOf_0 16 rfl) (lv_at hl 4 rfl) ?_
    obtain ⟨x3, e4, hF⟩ := bd hF
    refine mr_cl0 hH ⟨rfl, rfl⟩ (mr_runV (As := [.int b8]) (rest := []) X hH (c_X10_setAt hq e4) ((oset_at hq (Nat.le_refl _) ohas_N).trans (congrArg some ocell_N)) OX10.1 kM_X10_84 kI_X10_setAt kS_X10_setAt kN_X10 kC_X10_setAt hd_X10_setAt ⟨Nat.le_of_ble_eq_true rfl, Nat.le_of_ble_eq_true rfl⟩ rfl hl.1 (Nat.le_of_ble_eq_true rfl) (dk DX10_spanOf_0 17 rfl) ⟨Nat.zero_le _, Nat.zero_le _⟩) (fun r h1 H locs hp hH => ?_)
    obtain ⟨hr1, hr2⟩ := hp; rw [hr1]; rw [hr2] at hH; clear hr1 hr2
    refine lv_lload_n X.x X.b (dk DX10_spanOf_0 18 rfl) rfl (lv_at hl 1 rfl) ?_
    refine lv_land X.x X.b (dk DX10_spanOf_0 19 rfl) ?_
    obtain ⟨x6, e7, hF⟩ := bd hF
    refine mr_ci0 hH ⟨rfl, rfl⟩ (mr_runS (As := [.long (x3 &&& b3)]) (rest := []) X hH (c_J13_bitCount_95d88 e7) kM_X10_81 kT_J13_bitCount_95d88 kN_J13 kC_J13_bitCount_95d88 hd_J13_bitCount_95d88 ⟨Nat.le_of_ble_eq_true rfl, Nat.le_of_ble_eq_true rfl⟩ rfl hl.1 (Nat.le_of_ble_eq_true rfl) (dk DX10_spanOf_0 20 rfl) ⟨Nat.zero_le _, Nat.zero_le _⟩) (fun r h1 H locs hp hH => ?_)
    obtain ⟨hr1, hr2⟩ := hp; rw [hr1]; rw [hr2] at hH; clear hr1 hr2
    refine lv_iconst (v := 2) X.x X.b (dk DX10_spanOf_0 21 rfl) (by decide) ?_
    refine lv_icmp_lt (tgt := 51) X.x X.b (dk DX10_spanOf_0 22 rfl) (by decide) (fun c9 => ?_) (fun c9 => ?_)
    · replace hF := if_t hF c9
      obtain ⟨v10, e11⟩ : ∃ y : Int32, y = b8 + 1 := ⟨_, rfl⟩
      replace hF := bnd_e hF e11
      refine lv_iinc (v := v10) (lv' := [(8, .int v10), (0, .ref (q 5)), (3, .long b3), (5, .int b5), (6, .long b6)]) X.x X.b (dk DX10_spanOf_0 29 rfl) hl (k := 4) rfl (by rw [e11]; rfl) (by decide) rfl (fun ls hl => ?_)
      replace hl : lv_has ls 9 [(0, .ref (q 5)), (3, .long b3), (5, .int b5), (6, .long b6), (8, .int v10)] := lv_sub hl [1, 2, 3, 4, 0] rfl
      refine lv_goto (tgt := 18) X.x X.b (dk DX10_spanOf_0 30 rfl) (by decide) ?_
      exact (lp_l hF hx) _ _ _ hH (lv_sub hl [0, 1, 2, 3, 4] rfl) K0
    · replace hF := if_f hF c9
      refine lv_lload_n X.x X.b (dk DX10_spanOf_0 23 rfl) rfl (lv_at hl 1 rfl) ?_
      refine lv_aload_n X.x X.b (dk DX10_spanOf_0 24 rfl) rfl (lv_at hl 0 rfl) ?_
      refine lv_iload X.x X.b (dk DX10_spanOf_0 25 rfl) (lv_at hl 4 rfl) ?_
      obtain ⟨x12, e13, hF⟩ := bd hF
      refine mr_cl0 hH ⟨rfl, rfl⟩ (mr_runV (As := [.int b8]) (rest := [.long b3]) X hH (c_X10_setAt hq e13) ((oset_at hq (Nat.le_refl _) ohas_N).trans (congrArg some ocell_N)) OX10.1 kM_X10_84 kI_X10_setAt kS_X10_setAt kN_X10 kC_X10_setAt hd_X10_setAt ⟨Nat.le_of_ble_eq_true rfl, Nat.le_of_ble_eq_true rfl⟩ rfl hl.1 (Nat.le_of_ble_eq_true rfl) (dk DX10_spanOf_0 26 rfl) ⟨Nat.zero_le _, Nat.zero_le _⟩) (fun r h1 H locs hp hH => ?_)
      obtain ⟨hr1, hr2⟩ := hp; rw [hr1]; rw [hr2] at hH; clear hr1 hr2
      refine lv_lor X.x X.b (dk DX10_spanOf_0 27 rfl) ?_
      refine lv_topl (fun v15 e16 => ?_)
      replace hF := bnd_e hF e16
      refine lv_lstore_n (lv' := [(3, .long v15), (0, .ref (q 5)), (5, .int b5), (6, .long b6), (8, .int b8)]) X.x X.b (dk DX10_spanOf_0 28 rfl) rfl hl (by decide) rfl (fun ls hl => ?_)
      replace hl : lv_has ls 9 [(0, .ref (q 5)), (3, .long v15), (5, .int b5), (6, .long b6), (8, .int b8)] := lv_sub hl [1, 0, 2, 3, 4] rfl
      obtain ⟨v17, e18⟩ : ∃ y : Int32, y = b8 + 1 := ⟨_, rfl⟩
      replace hF := bnd_e hF e18
      refine lv_iinc (v := v17) (lv' := [(8, .int v17), (0, .ref (q 5)), (3, .long v15), (5, .int b5), (6, .long b6)]) X.x X.b (dk DX10_spanOf_0 29 rfl) hl (k := 4) rfl (by rw [e18]; rfl) (by decide) rfl (fun ls hl => ?_)
      replace hl : lv_has ls 9 [(0, .ref (q 5)), (3, .long v15), (5, .int b5), (6, .long b6), (8, .int v17)] := lv_sub hl [1, 2, 3, 4, 0] rfl
      refine lv_goto (tgt := 18) X.x X.b (dk DX10_spanOf_0 30 rfl) (by decide) ?_
      exact (lp_l hF hx) _ _ _ hH (lv_sub hl [0, 1, 2, 3, 4] rfl) K0
set_option maxHeartbeats 4000000 in
set_option maxRecDepth 100000 in
theorem w_X10_spanOf_5 {p : Program} {l : Launch} {e : Env} {s : State} {m : MethodId} {args : Array Value} {below : List Frame} {meth : Method} {c : Code} {Q : State → Prop} {G : mG} {h : mM} {q : Nat → Nat} (hq : oinj LX10 q) (X : mX G p m c cX10_spanOf 9 s args RX10) (s_t : OS) : ∀ (z : Int64 × Int32) (r : Nat × Int64), lpv (f_X10_spanOf_5 s_t) z = some r → ∀ (H : Heap) (locs : List Loc) (ls : Array Slot), mH G (oset LX10 G q s_t h) s.heap H locs → lv_has ls 9 [(0, .ref (q 5)), (3, .long z.1), (5, .int z.2)] → (r.1 = 0 → ∀ (H : Heap) (locs : List Loc) (ls : Array Slot), mH G (oset LX10 G q s_t h) s.heap H locs → lv_has ls 9 [(3, .long r.2)] → W p l e rm_X10_spanOf s m args below meth c H locs 0 0 Q (F0 m 64 ls [])) → (r.1 = 1 → ∀ (H : Heap) (locs : List Loc) (ls : Array Slot), mH G (oset LX10 G q s_t h) s.heap H locs → lv_has ls 9 [(3, .long r.2)] → W p l e rm_X10_spanOf s m args below meth c H locs 0 0 Q (F0 m 73 ls [])) → W p l e rm_X10_spanOf s m args below meth c H locs 0 0 Q (F0 m 5 ls []) := by
  refine lpv_rec ?_
  intro z r x hF hx H locs ls hH hl K0 K1
  obtain ⟨b3, b5⟩ := z
  dsimp only [f_X10_spanOf_5] at hF
  try dsimp only at hH hl
  refine lv_iload X.x X.b (dk DX10_spanOf_0 4 rfl) (lv_at hl 2 rfl) ?_
  refine lv_bipush (v := 64) X.x X.b (dk DX10_spanOf_0 5 rfl) (by decide) ?_
  refine lv_icmp_gt (tgt := 73) X.x X.b (dk DX10_spanOf_0 6 rfl) (by decide) (fun c1 => ?_) (fun c1 => ?_)
  · replace hF := if_t hF c1
    have hr9 := lp_r hF hx
    subst hr9
    exact K1 rfl _ _ _ hH (lv_sub hl [1] rfl)
  · replace hF := if_f hF c1
    refine lv_lload_n X.x X.b (dk DX10_spanOf_0 7 rfl) rfl (lv_at hl 1 rfl) ?_
    refine lv_lstore (lv' := [(6, .long b3), (0, .ref (q 5)), (3, .long b3), (5, .int b5)]) X.x X.b (dk DX10_spanOf_0 8 rfl) hl (by decide) rfl (fun ls hl => ?_)
    replace hl : lv_has ls 9 [(0, .ref (q 5)), (3, .long b3), (5, .int b5), (6, .long b3)] := lv_sub hl [1, 2, 3, 0] rfl
    refine lv_iconst (v := 0) X.x X.b (dk DX10_spanOf_0 9 rfl) (by decide) ?_
    refine lv_istore (lv' := [(8, .int 0), (0, .ref (q 5)), (3, .long b3), (5, .int b5), (6, .long b3)]) X.x X.b (dk DX10_spanOf_0 10 rfl) hl (by decide) rfl (fun ls hl => ?_)
    replace hl : lv_has ls 9 [(0, .ref (q 5)), (3, .long b3), (5, .int b5), (6, .long b3), (8, .int 0)] := lv_sub hl [1, 2, 3, 4, 0] rfl
    obtain ⟨x19, e20, hF⟩ := bd hF
    replace hl : lv_has ls 9 [(0, .ref (q 5)), (3, .long b3), (5, .int b5), (6, .long b3), (8, .int 0)] := lv_sub hl [0, 1, 2, 3, 4] rfl
    refine w_X10_spanOf_18 hq X s_t b5 b3 _ _ e20 _ _ _ hH hl (fun H locs ls hH hl => ?_)
    refine lv_lload_n X.x X.b (dk DX10_spanOf_0 31 rfl) rfl (lv_at hl 1 rfl) ?_
    refine lv_lload X.x X.b (dk DX10_spanOf_0 32 rfl) (lv_at hl 3 rfl) ?_
    refine W.lcmp X.x X.b (dk DX10_spanOf_0 33 rfl) ?_
    refine lv_if_ne (tgt := 67) X.x X.b (dk DX10_spanOf_0 34 rfl) (by decide) (fun c22 => ?_) (fun c22 => ?_)
    · replace hF := if_f hF c22
      obtain ⟨v23, e24⟩ : ∃ y : Int32, y = b5 + 1 := ⟨_, rfl⟩
      replace hF := bnd_e hF e24
      refine lv_iinc (v := v23) (lv' := [(5, .int v23), (0, .ref (q 5)), (3, .long x19), (6, .long b3)]) X.x X.b (dk DX10_spanOf_0 36 rfl) hl (k := 2) rfl (by rw [e24]; rfl) (by decide) rfl (fun ls hl => ?_)
      replace hl : lv_has ls 9 [(0, .ref (q 5)), (3, .long x19), (5, .int v23)] := lv_sub hl [1, 2, 0] rfl
      refine lv_goto (tgt := 5) X.x X.b (dk DX10_spanOf_0 37 rfl) (by decide) ?_
      exact (lp_l hF hx) _ _ _ hH (lv_sub hl [0, 1, 2] rfl) K0 K1
    · replace hF := if_t hF c22
      have hr9 := lp_r hF hx
      subst hr9
      exact K0 rfl _ _ _ hH (lv_sub hl [1] rfl)
set_option maxHeartbeats 4000000 in
set_option maxRecDepth 100000 in
theorem c_X10_spanOf {l : Launch} {G : mG} {h : mM} {q : Nat → Nat} (hq : oinj LX10 q) {st : OS} {a0 : Int64} {x : Int64} (hF : f_X10_spanOf st a0 = some x) : cQ l G yX10_spanOf cX10_spanOf 9 (some FieldType.long) rm_X10_spanOf [.ref (q 5), .long a0] (oset LX10 G q st h) (mQl G (fun r h1 => r = x ∧ h1 = oset LX10 G q st h)) := by
  refine mp_of (by decide +kernel) (Nat.le_of_ble_eq_true rfl) ?_
  intro p e s m below meth c X hr hlk hH hname ls hl
  dsimp only [f_X10_spanOf] at hF
  replace hl : lv_has ls 9 [(0, .ref (q 5)), (1, .long a0)] := hl
  refine lv_lload_n X.x X.b (dk DX10_spanOf_0 0 rfl) rfl (lv_at hl 1 rfl) ?_
  refine lv_lstore_n (lv' := [(3, .long a0), (0, .ref (q 5)), (1, .long a0)]) X.x X.b (dk DX10_spanOf_0 1 rfl) rfl hl (by decide) rfl (fun ls hl => ?_)
  replace hl : lv_has ls 9 [(0, .ref (q 5)), (3, .long a0)] := lv_sub hl [1, 0] rfl
  refine lv_iconst (v := 0) X.x X.b (dk DX10_spanOf_0 2 rfl) (by decide) ?_
  refine lv_istore (lv' := [(5, .int 0), (0, .ref (q 5)), (3, .long a0)]) X.x X.b (dk DX10_spanOf_0 3 rfl) hl (by decide) rfl (fun ls hl => ?_)
  replace hl : lv_has ls 9 [(0, .ref (q 5)), (3, .long a0), (5, .int 0)] := lv_sub hl [1, 2, 0] rfl
  obtain ⟨x25, e26, hF⟩ := bd hF
  replace hl : lv_has ls 9 [(0, .ref (q 5)), (3, .long a0), (5, .int 0)] := lv_sub hl [0, 1, 2] rfl
  obtain ⟨k28, v27⟩ := x25
  try dsimp only at hF
  refine w_X10_spanOf_5 hq X st _ _ e26 _ _ _ hH hl (fun hk H locs ls hH hl => ?_) (fun hk H locs ls hH hl => ?_)
  · try dsimp only at hH hl
    try dsimp only at hk
    subst hk
    replace hF := if_t hF rfl
    refine lv_goto (tgt := 73) X.x X.b (dk DX10_spanOf_0 35 rfl) (by decide) ?_
    refine lv_lload_n X.x X.b (dk DX10_spanOf_0 38 rfl) rfl (lv_at hl 0 rfl) ?_
    cases sm hF
    exact mr_lret X hr hlk hH ⟨rfl, rfl⟩ (dk DX10_spanOf_0 39 rfl)
  · try dsimp only at hH hl
    try dsimp only at hk
    subst hk
    replace hF := if_f hF (by decide)
    refine lv_lload_n X.x X.b (dk DX10_spanOf_0 38 rfl) rfl (lv_at hl 0 rfl) ?_
    cases sm hF
    exact mr_lret X hr hlk hH ⟨rfl, rfl⟩ (dk DX10_spanOf_0 39 rfl)
-- X10_hyperOf
abbrev rm_X10_hyperOf : Room := { frames := 3, cells := 0, slots := 0, locals := 65 }
theorem hd_X10_hyperOf : mHd yX10_hyperOf 2 := ⟨by decide +kernel, by decide +kernel, by decide +kernel⟩
theorem DX10_hyperOf_0 : ∀ t ∈ ([(0, .iload_n 1, 1), (1, .iload_n 2, 1), (2, .if_icmp .eq 15, 3), (5, .aload_n 0, 1), (6, .iload_n 1, 1), (7, .invokevirtual 78, 3), (10, .iload_n 2, 1), (11, .invokestatic 50, 3), (14, .ifCond .eq 5, 3), (17, .lconst 0, 1), (18, .lreturn, 1), (19, .aload_n 0, 1), (20, .aload_n 0, 1), (21, .lconst 1, 1), (22, .iload_n 1, 1), (23, .lshl, 1), (24, .lconst 1, 1), (25, .iload_n 2, 1), (26, .lshl, 1), (27, .lor, 1), (28, .invokevirtual 94, 3), (31, .invokevirtual 94, 3), (34, .lreturn, 1)] : List (Nat × Instr × Nat)), decode cX10_hyperOf t.1 = .ok (t.2.1, t.2.2) := by decide +kernel
noncomputable def f_X10_hyperOf (st : OS) (a0 : Int32) (a1 : Int32) : Option (Int64) := (if a0 = a1 then some 0 else (f_X10_nearAt st a0).bind (fun x2 => (f_X10_has x2 a1).bind (fun x5 => (if x5 = 0 then (f_X10_acrossFrom st ((((1 : Int64)) <<< ((a0 : Int32).toInt64 &&& 63)) ||| (((1 : Int64)) <<< ((a1 : Int32).toInt64 &&& 63)))).bind (fun x9 => (f_X10_acrossFrom st x9).bind (fun x12 => some x12)) else some 0))))
set_option maxHeartbeats 4000000 in
set_option maxRecDepth 100000 in
theorem c_X10_hyperOf {l : Launch} {G : mG} {h : mM} {q : Nat → Nat} (hq : oinj LX10 q) {st : OS} {a0 : Int32} {a1 : Int32} {x : Int64} (hF : f_X10_hyperOf st a0 a1 = some x) : cQ l G yX10_hyperOf cX10_hyperOf 3 (some FieldType.long) rm_X10_hyperOf [.ref (q 5), .int a0, .int a1] (oset LX10 G q st h) (mQl G (fun r h1 => r = x ∧ h1 = oset LX10 G q st h)) := by
  refine mp_of (by decide +kernel) (Nat.le_of_ble_eq_true rfl) ?_
  intro p e s m below meth c X hr hlk hH hname ls hl
  dsimp only [f_X10_hyperOf] at hF
  replace hl : lv_has ls 3 [(0, .ref (q 5)), (1, .int a0), (2, .int a1)] := hl
  refine lv_iload_n X.x X.b (dk DX10_hyperOf_0 0 rfl) rfl (lv_at hl 1 rfl) ?_
  refine lv_iload_n X.x X.b (dk DX10_hyperOf_0 1 rfl) rfl (lv_at hl 2 rfl) ?_
  refine lv_icmp_eq (tgt := 17) X.x X.b (dk DX10_hyperOf_0 2 rfl) (by decide) (fun c1 => ?_) (fun c1 => ?_)
  · replace hF := if_t hF c1
    refine lv_lconst (v := 0) X.x X.b (dk DX10_hyperOf_0 9 rfl) (by decide) ?_
    cases sm hF
    exact mr_lret X hr hlk hH ⟨rfl, rfl⟩ (dk DX10_hyperOf_0 10 rfl)
  · replace hF := if_f hF c1
    refine lv_aload_n X.x X.b (dk DX10_hyperOf_0 3 rfl) rfl (lv_at hl 0 rfl) ?_
    refine lv_iload_n X.x X.b (dk DX10_hyperOf_0 4 rfl) rfl (lv_at hl 1 rfl) ?_
    obtain ⟨x2, e3, hF⟩ := bd hF
    refine mr_cl0 hH ⟨rfl, rfl⟩ (mr_runV (As := [.int a0]) (rest := []) X hH (c_X10_nearAt hq e3) ((oset_at hq (Nat.le_refl _) ohas_N).trans (congrArg some ocell_N)) OX10.1 kM_X10_78 kI_X10_nearAt kS_X10_nearAt kN_X10 kC_X10_nearAt hd_X10_nearAt ⟨Nat.le_of_ble_eq_true rfl, Nat.le_of_ble_eq_true rfl⟩ rfl hl.1 (Nat.le_of_ble_eq_true rfl) (dk DX10_hyperOf_0 5 rfl) ⟨Nat.zero_le _, Nat.zero_le _⟩) (fun r h1 H locs hp hH => ?_)
    obtain ⟨hr1, hr2⟩ := hp; rw [hr1]; rw [hr2] at hH; clear hr1 hr2
    refine lv_iload_n X.x X.b (dk DX10_hyperOf_0 6 rfl) rfl (lv_at hl 2 rfl) ?_
    obtain ⟨x5, e6, hF⟩ := bd hF
    refine mr_ci0 hH ⟨rfl, rfl⟩ (mr_runS (As := [.long x2, .int a1]) (rest := []) X hH (c_X10_has e6) kM_X10_50 kT_X10_has kN_X10 kC_X10_has hd_X10_has ⟨Nat.le_of_ble_eq_true rfl, Nat.le_of_ble_eq_true rfl⟩ rfl hl.1 (Nat.le_of_ble_eq_true rfl) (dk DX10_hyperOf_0 7 rfl) ⟨Nat.zero_le _, Nat.zero_le _⟩) (fun r h1 H locs hp hH => ?_)
    obtain ⟨hr1, hr2⟩ := hp; rw [hr1]; rw [hr2] at hH; clear hr1 hr2
    refine lv_if_eq (tgt := 19) X.x X.b (dk DX10_hyperOf_0 8 rfl) (by decide) (fun c8 => ?_) (fun c8 => ?_)
    · replace hF := if_t hF c8
      refine lv_aload_n X.x X.b (dk DX10_hyperOf_0 11 rfl) rfl (lv_at hl 0 rfl) ?_
      refine lv_aload_n X.x X.b (dk DX10_hyperOf_0 12 rfl) rfl (lv_at hl 0 rfl) ?_
      refine lv_lconst (v := 1) X.x X.b (dk DX10_hyperOf_0 13 rfl) (by decide) ?_
      refine lv_iload_n X.x X.b (dk DX10_hyperOf_0 14 rfl) rfl (lv_at hl 1 rfl) ?_
      refine lv_lshl X.x X.b (dk DX10_hyperOf_0 15 rfl) rfl ?_
      refine lv_lconst (v := 1) X.x X.b (dk DX10_hyperOf_0 16 rfl) (by decide) ?_
      refine lv_iload_n X.x X.b (dk DX10_hyperOf_0 17 rfl) rfl (lv_at hl 2 rfl) ?_
      refine lv_lshl X.x X.b (dk DX10_hyperOf_0 18 rfl) rfl ?_
      refine lv_lor X.x X.b (dk DX10_hyperOf_0 19 rfl) ?_
      obtain ⟨x9, e10, hF⟩ := bd hF
      refine mr_cl0 hH ⟨rfl, rfl⟩ (mr_runV (As := [.long ((((1 : Int64)) <<< ((a0 : Int32).toInt64 &&& 63)) ||| (((1 : Int64)) <<< ((a1 : Int32).toInt64 &&& 63)))]) (rest := [.ref (q 5)]) X hH (c_X10_acrossFrom hq e10) ((oset_at hq (Nat.le_refl _) ohas_N).trans (congrArg some ocell_N)) OX10.1 kM_X10_94 kI_X10_acrossFrom kS_X10_acrossFrom kN_X10 kC_X10_acrossFrom hd_X10_acrossFrom ⟨Nat.le_of_ble_eq_true rfl, Nat.le_of_ble_eq_true rfl⟩ rfl hl.1 (Nat.le_of_ble_eq_true rfl) (dk DX10_hyperOf_0 20 rfl) ⟨Nat.zero_le _, Nat.zero_le _⟩) (fun r h1 H locs hp hH => ?_)
      obtain ⟨hr1, hr2⟩ := hp; rw [hr1]; rw [hr2] at hH; clear hr1 hr2
      obtain ⟨x12, e13, hF⟩ := bd hF
      refine mr_cl0 hH ⟨rfl, rfl⟩ (mr_runV (As := [.long x9]) (rest := []) X hH (c_X10_acrossFrom hq e13) ((oset_at hq (Nat.le_refl _) ohas_N).trans (congrArg some ocell_N)) OX10.1 kM_X10_94 kI_X10_acrossFrom kS_X10_acrossFrom kN_X10 kC_X10_acrossFrom hd_X10_acrossFrom ⟨Nat.le_of_ble_eq_true rfl, Nat.le_of_ble_eq_true rfl⟩ rfl hl.1 (Nat.le_of_ble_eq_true rfl) (dk DX10_hyperOf_0 21 rfl) ⟨Nat.zero_le _, Nat.zero_le _⟩) (fun r h1 H locs hp hH => ?_)
      obtain ⟨hr1, hr2⟩ := hp; rw [hr1]; rw [hr2] at hH; clear hr1 hr2
      cases sm hF
      exact mr_lret X hr hlk hH ⟨rfl, rfl⟩ (dk DX10_hyperOf_0 22 rfl)
    · replace hF := if_f hF c8
      refine lv_lconst (v := 0) X.x X.b (dk DX10_hyperOf_0 9 rfl) (by decide) ?_
      cases sm hF
      exact mr_lret X hr hlk hH ⟨rfl, rfl⟩ (dk DX10_hyperOf_0 10 rfl)
theorem hd_X0_init : mHd yX0_init 0 := ⟨by decide +kernel, by decide +kernel, by decide +kernel⟩
theorem DX0_init_0 : ∀ t ∈ ([(0, .aload_n 0, 1), (1, .invokespecial 3, 3), (4, .aload_n 0, 1), (5, .bipush 64, 2), (7, .newarray .long, 2), (9, .putfield 11, 3), (12, .aload_n 0, 1), (13, .bipush 64, 2), (15, .newarray .long, 2), (17, .putfield 17, 3), (20, .aload_n 0, 1), (21, .bipush 64, 2), (23, .newarray .long, 2), (25, .putfield 20, 3), (28, .aload_n 0, 1), (29, .bipush 65, 2), (31, .newarray .long, 2), (33, .putfield 23, 3), (36, .aload_n 0, 1), (37, .bipush 65, 2), (39, .newarray .long, 2), (41, .putfield 26, 3), (44, .aload_n 0, 1), (45, .bipush 65, 2), (47, .newarray .long, 2), (49, .putfield 29, 3), (52, .aload_n 0, 1), (53, .bipush 65, 2), (55, .newarray .long, 2), (57, .putfield 32, 3), (60, .return_, 1)] : List (Nat × Instr × Nat)), decode cX0_init t.1 = .ok (t.2.1, t.2.2) := by decide +kernel
/-- what a new X0 holds -/
def stX0 : OS := os0
abbrev rm_X0_init : Room := { frames := 1, cells := 7, slots := 452, locals := 12 }
set_option maxHeartbeats 4000000 in
set_option maxRecDepth 100000 in
theorem c_X0_init {l : Launch} {G : mG} {h : mM} {a : Nat} (ha : h a = some (.inr (0, dflt LX0))) : cQ l G yX0_init cX0_init 1 none rm_X0_init [.ref a] h (mQv G (fun h1 => ∃ q : Nat → Nat, q 11 = a ∧ h1 = oset LX0 G q stX0 h ∧ oinj LX0 q ∧ ∀ k, k < 11 → ohas LX0 k = true → h (q k) = none)) := by
  refine mp_of (by decide +kernel) (Nat.le_of_ble_eq_true rfl) ?_
  intro p e s m below meth c X hr hlk hH hname ls hl
  replace hl : lv_has ls 1 [(0, .ref a)] := hl
  have hB := Bl.start (L := LX0) (G := G) (fun _ => 0) ha
  refine lv_aload_n X.x X.b (dk DX0_init_0 0 rfl) rfl (lv_at hl 0 rfl) ?_
  refine mr_objInit X hl.1 kM_X0_3 kI_bjectInit kC_bjectInit (dk DX0_init_0 1 rfl) (Nat.le_of_ble_eq_true rfl) (Nat.le_of_ble_eq_true rfl) ?_
  refine lv_aload_n X.x X.b (dk DX0_init_0 2 rfl) rfl (lv_at hl 0 rfl) ?_
  refine lv_bipush (v := 64) X.x X.b (dk DX0_init_0 3 rfl) (by decide) ?_
  refine mr_newJ (N := 64) X hH kA_FieldTypelong (by decide) rfl (by decide) (Nat.le_of_ble_eq_true rfl) (Nat.le_of_ble_eq_true rfl) (dk DX0_init_0 4 rfl) (fun x1 H hx hH => ?_)
  obtain ⟨M, hH, hB⟩ := lump hH (hB.arr hx (k := 0) (by decide) (by decide) (by decide) rfl)
  refine mr_putF X hH hB.1 hinX0 tyX0 tyX0_ok nmX0 rfl 0 (by decide) kF_X0_11 rfl hname rfl rfl rfl (by rw [pfs_len]; decide) (dk DX0_init_0 5 rfl) (fun H locs hH => ?_)
  obtain ⟨M, hH, hB⟩ := lump hH (hB.ref (k := 0) (t := 1) rfl (by simp [va_up]))
  refine lv_aload_n X.x X.b (dk DX0_init_0 6 rfl) rfl (lv_at hl 0 rfl) ?_
  refine lv_bipush (v := 64) X.x X.b (dk DX0_init_0 7 rfl) (by decide) ?_
  refine mr_newJ (N := 64) X hH kA_FieldTypelong (by decide) rfl (by decide) (Nat.le_of_ble_eq_true rfl) (Nat.le_of_ble_eq_true rfl) (dk DX0_init_0 8 rfl) (fun x2 H hx hH => ?_)
  obtain ⟨M, hH, hB⟩ := lump hH (hB.arr hx (k := 1) (by decide) (by decide) (by decide) rfl)
  refine mr_putF X hH hB.1 hinX0 tyX0 tyX0_ok nmX0 rfl 1 (by decide) kF_X0_17 rfl hname rfl rfl rfl (by rw [pfs_len]; decide) (dk DX0_init_0 9 rfl) (fun H locs hH => ?_)
  obtain ⟨M, hH, hB⟩ := lump hH (hB.ref (k := 1) (t := 1) rfl (by simp [va_up]))
  refine lv_aload_n X.x X.b (dk DX0_init_0 10 rfl) rfl (lv_at hl 0 rfl) ?_
  refine lv_bipush (v := 64) X.x X.b (dk DX0_init_0 11 rfl) (by decide) ?_
  refine mr_newJ (N := 64) X hH kA_FieldTypelong (by decide) rfl (by decide) (Nat.le_of_ble_eq_true rfl) (Nat.le_of_ble_eq_true rfl) (dk DX0_init_0 12 rfl) (fun x3 H hx hH => ?_)
  obtain ⟨M, hH, hB⟩ := lump hH (hB.arr hx (k := 2) (by decide) (by decide) (by decide) rfl)
  refine mr_putF X hH hB.1 hinX0 tyX0 tyX0_ok nmX0 rfl 2 (by decide) kF_X0_20 rfl hname rfl rfl rfl (by rw [pfs_len]; decide) (dk DX0_init_0 13 rfl) (fun H locs hH => ?_)
  obtain ⟨M, hH, hB⟩ := lump hH (hB.ref (k := 2) (t := 1) rfl (by simp [va_up]))
  refine lv_aload_n X.x X.b (dk DX0_init_0 14 rfl) rfl (lv_at hl 0 rfl) ?_
  refine lv_bipush (v := 65) X.x X.b (dk DX0_init_0 15 rfl) (by decide) ?_
  refine mr_newJ (N := 65) X hH kA_FieldTypelong (by decide) rfl (by decide) (Nat.le_of_ble_eq_true rfl) (Nat.le_of_ble_eq_true rfl) (dk DX0_init_0 16 rfl) (fun x4 H hx hH => ?_)
  obtain ⟨M, hH, hB⟩ := lump hH (hB.arr hx (k := 4) (by decide) (by decide) (by decide) rfl)
  refine mr_putF X hH hB.1 hinX0 tyX0 tyX0_ok nmX0 rfl 4 (by decide) kF_X0_23 rfl hname rfl rfl rfl (by rw [pfs_len]; decide) (dk DX0_init_0 17 rfl) (fun H locs hH => ?_)
  obtain ⟨M, hH, hB⟩ := lump hH (hB.ref (k := 4) (t := 1) rfl (by simp [va_up]))
  refine lv_aload_n X.x X.b (dk DX0_init_0 18 rfl) rfl (lv_at hl 0 rfl) ?_
  refine lv_bipush (v := 65) X.x X.b (dk DX0_init_0 19 rfl) (by decide) ?_
  refine mr_newJ (N := 65) X hH kA_FieldTypelong (by decide) rfl (by decide) (Nat.le_of_ble_eq_true rfl) (Nat.le_of_ble_eq_true rfl) (dk DX0_init_0 20 rfl) (fun x5 H hx hH => ?_)
  obtain ⟨M, hH, hB⟩ := lump hH (hB.arr hx (k := 5) (by decide) (by decide) (by decide) rfl)
  refine mr_putF X hH hB.1 hinX0 tyX0 tyX0_ok nmX0 rfl 5 (by decide) kF_X0_26 rfl hname rfl rfl rfl (by rw [pfs_len]; decide) (dk DX0_init_0 21 rfl) (fun H locs hH => ?_)
  obtain ⟨M, hH, hB⟩ := lump hH (hB.ref (k := 5) (t := 1) rfl (by simp [va_up]))
  refine lv_aload_n X.x X.b (dk DX0_init_0 22 rfl) rfl (lv_at hl 0 rfl) ?_
  refine lv_bipush (v := 65) X.x X.b (dk DX0_init_0 23 rfl) (by decide) ?_
  refine mr_newJ (N := 65) X hH kA_FieldTypelong (by decide) rfl (by decide) (Nat.le_of_ble_eq_true rfl) (Nat.le_of_ble_eq_true rfl) (dk DX0_init_0 24 rfl) (fun x6 H hx hH => ?_)
  obtain ⟨M, hH, hB⟩ := lump hH (hB.arr hx (k := 6) (by decide) (by decide) (by decide) rfl)
  refine mr_putF X hH hB.1 hinX0 tyX0 tyX0_ok nmX0 rfl 6 (by decide) kF_X0_29 rfl hname rfl rfl rfl (by rw [pfs_len]; decide) (dk DX0_init_0 25 rfl) (fun H locs hH => ?_)
  obtain ⟨M, hH, hB⟩ := lump hH (hB.ref (k := 6) (t := 1) rfl (by simp [va_up]))
  refine lv_aload_n X.x X.b (dk DX0_init_0 26 rfl) rfl (lv_at hl 0 rfl) ?_
  refine lv_bipush (v := 65) X.x X.b (dk DX0_init_0 27 rfl) (by decide) ?_
  refine mr_newJ (N := 65) X hH kA_FieldTypelong (by decide) rfl (by decide) (Nat.le_of_ble_eq_true rfl) (Nat.le_of_ble_eq_true rfl) (dk DX0_init_0 28 rfl) (fun x7 H hx hH => ?_)
  obtain ⟨M, hH, hB⟩ := lump hH (hB.arr hx (k := 7) (by decide) (by decide) (by decide) rfl)
  refine mr_putF X hH hB.1 hinX0 tyX0 tyX0_ok nmX0 rfl 7 (by decide) kF_X0_32 rfl hname rfl rfl rfl (by rw [pfs_len]; decide) (dk DX0_init_0 29 rfl) (fun H locs hH => ?_)
  obtain ⟨M, hH, hB⟩ := lump hH (hB.ref (k := 7) (t := 1) rfl (by simp [va_up]))
  obtain ⟨hM, hq, hnew⟩ := hB.done (by decide +kernel)
  subst hM
  exact mr_vret X hr hlk hH ⟨_, va_up_s, rfl, hq, hnew⟩ (dk DX0_init_0 30 rfl)
theorem hd_X4_init : mHd yX4_init 0 := ⟨by decide +kernel, by decide +kernel, by decide +kernel⟩
theorem DX4_init_0 : ∀ t ∈ ([(0, .aload_n 0, 1), (1, .invokespecial 5, 3), (4, .aload_n 0, 1), (5, .sipush 4096, 3), (8, .newarray .int, 2), (10, .putfield 13, 3), (13, .aload_n 0, 1), (14, .bipush 64, 2), (16, .newarray .long, 2), (18, .putfield 17, 3), (21, .aload_n 0, 1), (22, .bipush 16, 2), (24, .newarray .long, 2), (26, .putfield 21, 3), (29, .return_, 1)] : List (Nat × Instr × Nat)), decode cX4_init t.1 = .ok (t.2.1, t.2.2) := by decide +kernel
/-- what a new X4 holds -/
def stX4 : OS := os0
abbrev rm_X4_init : Room := { frames := 1, cells := 3, slots := 4176, locals := 12 }
set_option maxHeartbeats 4000000 in
set_option maxRecDepth 100000 in
theorem c_X4_init {l : Launch} {G : mG} {h : mM} {a : Nat} (ha : h a = some (.inr (3, dflt LX4))) : cQ l G yX4_init cX4_init 1 none rm_X4_init [.ref a] h (mQv G (fun h1 => ∃ q : Nat → Nat, q 3 = a ∧ h1 = oset LX4 G q stX4 h ∧ oinj LX4 q ∧ ∀ k, k < 3 → ohas LX4 k = true → h (q k) = none)) := by
  refine mp_of (by decide +kernel) (Nat.le_of_ble_eq_true rfl) ?_
  intro p e s m below meth c X hr hlk hH hname ls hl
  replace hl : lv_has ls 1 [(0, .ref a)] := hl
  have hB := Bl.start (L := LX4) (G := G) (fun _ => 0) ha
  refine lv_aload_n X.x X.b (dk DX4_init_0 0 rfl) rfl (lv_at hl 0 rfl) ?_
  refine mr_objInit X hl.1 kM_X4_5 kI_bjectInit kC_bjectInit (dk DX4_init_0 1 rfl) (Nat.le_of_ble_eq_true rfl) (Nat.le_of_ble_eq_true rfl) ?_
  refine lv_aload_n X.x X.b (dk DX4_init_0 2 rfl) rfl (lv_at hl 0 rfl) ?_
  refine lv_sipush (v := 4096) X.x X.b (dk DX4_init_0 3 rfl) (by decide) ?_
  refine mr_newI (N := 4096) X hH kA_FieldTypeint (by decide) rfl (by decide) (Nat.le_of_ble_eq_true rfl) (Nat.le_of_ble_eq_true rfl) (dk DX4_init_0 4 rfl) (fun x1 H hx hH => ?_)
  obtain ⟨M, hH, hB⟩ := lump hH (hB.arr hx (k := 0) (by decide) (by decide) (by decide) rfl)
  refine mr_putF X hH hB.1 hinX4 tyX4 tyX4_ok nmX4 rfl 0 (by decide) kF_X4_13 rfl hname rfl rfl rfl (by rw [pfs_len]; decide) (dk DX4_init_0 5 rfl) (fun H locs hH => ?_)
  obtain ⟨M, hH, hB⟩ := lump hH (hB.ref (k := 0) (t := 0) rfl (by simp [va_up]))
  refine lv_aload_n X.x X.b (dk DX4_init_0 6 rfl) rfl (lv_at hl 0 rfl) ?_
  refine lv_bipush (v := 64) X.x X.b (dk DX4_init_0 7 rfl) (by decide) ?_
  refine mr_newJ (N := 64) X hH kA_FieldTypelong (by decide) rfl (by decide) (Nat.le_of_ble_eq_true rfl) (Nat.le_of_ble_eq_true rfl) (dk DX4_init_0 8 rfl) (fun x2 H hx hH => ?_)
  obtain ⟨M, hH, hB⟩ := lump hH (hB.arr hx (k := 1) (by decide) (by decide) (by decide) rfl)
  refine mr_putF X hH hB.1 hinX4 tyX4 tyX4_ok nmX4 rfl 1 (by decide) kF_X4_17 rfl hname rfl rfl rfl (by rw [pfs_len]; decide) (dk DX4_init_0 9 rfl) (fun H locs hH => ?_)
  obtain ⟨M, hH, hB⟩ := lump hH (hB.ref (k := 1) (t := 1) rfl (by simp [va_up]))
  refine lv_aload_n X.x X.b (dk DX4_init_0 10 rfl) rfl (lv_at hl 0 rfl) ?_
  refine lv_bipush (v := 16) X.x X.b (dk DX4_init_0 11 rfl) (by decide) ?_
  refine mr_newJ (N := 16) X hH kA_FieldTypelong (by decide) rfl (by decide) (Nat.le_of_ble_eq_true rfl) (Nat.le_of_ble_eq_true rfl) (dk DX4_init_0 12 rfl) (fun x3 H hx hH => ?_)
  obtain ⟨M, hH, hB⟩ := lump hH (hB.arr hx (k := 2) (by decide) (by decide) (by decide) rfl)
  refine mr_putF X hH hB.1 hinX4 tyX4 tyX4_ok nmX4 rfl 2 (by decide) kF_X4_21 rfl hname rfl rfl rfl (by rw [pfs_len]; decide) (dk DX4_init_0 13 rfl) (fun H locs hH => ?_)
  obtain ⟨M, hH, hB⟩ := lump hH (hB.ref (k := 2) (t := 1) rfl (by simp [va_up]))
  obtain ⟨hM, hq, hnew⟩ := hB.done (by decide +kernel)
  subst hM
  exact mr_vret X hr hlk hH ⟨_, va_up_s, rfl, hq, hnew⟩ (dk DX4_init_0 14 rfl)
theorem hd_X7_init : mHd yX7_init 0 := ⟨by decide +kernel, by decide +kernel, by decide +kernel⟩
theorem DX7_init_0 : ∀ t ∈ ([(0, .aload_n 0, 1), (1, .invokespecial 1, 3), (4, .aload_n 0, 1), (5, .bipush 40, 2), (7, .newarray .long, 2), (9, .putfield 9, 3), (12, .return_, 1)] : List (Nat × Instr × Nat)), decode cX7_init t.1 = .ok (t.2.1, t.2.2) := by decide +kernel
/-- what a new X7 holds -/
def stX7 : OS := os0
abbrev rm_X7_init : Room := { frames := 1, cells := 1, slots := 40, locals := 12 }
set_option maxHeartbeats 4000000 in
set_option maxRecDepth 100000 in
theorem c_X7_init {l : Launch} {G : mG} {h : mM} {a : Nat} (ha : h a = some (.inr (5, dflt LX7))) : cQ l G yX7_init cX7_init 1 none rm_X7_init [.ref a] h (mQv G (fun h1 => ∃ q : Nat → Nat, q 3 = a ∧ h1 = oset LX7 G q stX7 h ∧ oinj LX7 q ∧ ∀ k, k < 3 → ohas LX7 k = true → h (q k) = none)) := by
  refine mp_of (by decide +kernel) (Nat.le_of_ble_eq_true rfl) ?_
  intro p e s m below meth c X hr hlk hH hname ls hl
  replace hl : lv_has ls 1 [(0, .ref a)] := hl
  have hB := Bl.start (L := LX7) (G := G) (fun _ => 0) ha
  refine lv_aload_n X.x X.b (dk DX7_init_0 0 rfl) rfl (lv_at hl 0 rfl) ?_
  refine mr_objInit X hl.1 kM_X7_1 kI_bjectInit kC_bjectInit (dk DX7_init_0 1 rfl) (Nat.le_of_ble_eq_true rfl) (Nat.le_of_ble_eq_true rfl) ?_
  refine lv_aload_n X.x X.b (dk DX7_init_0 2 rfl) rfl (lv_at hl 0 rfl) ?_
  refine lv_bipush (v := 40) X.x X.b (dk DX7_init_0 3 rfl) (by decide) ?_
  refine mr_newJ (N := 40) X hH kA_FieldTypelong (by decide) rfl (by decide) (Nat.le_of_ble_eq_true rfl) (Nat.le_of_ble_eq_true rfl) (dk DX7_init_0 4 rfl) (fun x1 H hx hH => ?_)
  obtain ⟨M, hH, hB⟩ := lump hH (hB.arr hx (k := 2) (by decide) (by decide) (by decide) rfl)
  refine mr_putF X hH hB.1 hinX7 tyX7 tyX7_ok nmX7 rfl 2 (by decide) kF_X7_9 rfl hname rfl rfl rfl (by rw [pfs_len]; decide) (dk DX7_init_0 5 rfl) (fun H locs hH => ?_)
  obtain ⟨M, hH, hB⟩ := lump hH (hB.ref (k := 2) (t := 1) rfl (by simp [va_up]))
  obtain ⟨hM, hq, hnew⟩ := hB.done (by decide +kernel)
  subst hM
  exact mr_vret X hr hlk hH ⟨_, va_up_s, rfl, hq, hnew⟩ (dk DX7_init_0 6 rfl)
theorem hd_X8_init : mHd yX8_init 0 := ⟨by decide +kernel, by decide +kernel, by decide +kernel⟩
theorem DX8_init_0 : ∀ t ∈ ([(0, .aload_n 0, 1), (1, .invokespecial 7, 3), (4, .aload_n 0, 1), (5, .bipush 64, 2), (7, .newarray .long, 2), (9, .putfield 13, 3), (12, .aload_n 0, 1), (13, .bipush 64, 2), (15, .newarray .long, 2), (17, .putfield 17, 3), (20, .aload_n 0, 1), (21, .bipush 16, 2), (23, .newarray .long, 2), (25, .putfield 20, 3), (28, .aload_n 0, 1), (29, .bipush 16, 2), (31, .newarray .long, 2), (33, .putfield 23, 3), (36, .aload_n 0, 1), (37, .bipush 17, 2), (39, .newarray .int, 2), (41, .putfield 26, 3), (44, .aload_n 0, 1), (45, .sipush 1088, 3), (48, .newarray .long, 2), (50, .putfield 30, 3), (53, .aload_n 0, 1), (54, .sipush 1088, 3), (57, .newarray .long, 2), (59, .putfield 33, 3), (62, .aload_n 0, 1), (63, .bipush 64, 2), (65, .newarray .long, 2), (67, .putfield 36, 3), (70, .aload_n 0, 1), (71, .bipush 64, 2), (73, .newarray .long, 2), (75, .putfield 39, 3), (78, .aload_n 0, 1), (79, .bipush 16, 2), (81, .newarray .int, 2), (83, .putfield 42, 3), (86, .aload_n 0, 1), (87, .bipush 16, 2), (89, .newarray .int, 2), (91, .putfield 45, 3), (94, .aload_n 0, 1), (95, .bipush 16, 2), (97, .newarray .long, 2), (99, .putfield 48, 3), (102, .aload_n 0, 1), (103, .bipush 16, 2), (105, .newarray .int, 2), (107, .putfield 51, 3), (110, .return_, 1)] : List (Nat × Instr × Nat)), decode cX8_init t.1 = .ok (t.2.1, t.2.2) := by decide +kernel
/-- what a new X8 holds -/
def stX8 : OS := os0
abbrev rm_X8_init : Room := { frames := 1, cells := 13, slots := 2545, locals := 12 }
set_option maxHeartbeats 4000000 in
set_option maxRecDepth 100000 in
theorem c_X8_init {l : Launch} {G : mG} {h : mM} {a : Nat} (ha : h a = some (.inr (6, dflt LX8))) : cQ l G yX8_init cX8_init 1 none rm_X8_init [.ref a] h (mQv G (fun h1 => ∃ q : Nat → Nat, q 15 = a ∧ h1 = oset LX8 G q stX8 h ∧ oinj LX8 q ∧ ∀ k, k < 15 → ohas LX8 k = true → h (q k) = none)) := by
  refine mp_of (by decide +kernel) (Nat.le_of_ble_eq_true rfl) ?_
  intro p e s m below meth c X hr hlk hH hname ls hl
  replace hl : lv_has ls 1 [(0, .ref a)] := hl
  have hB := Bl.start (L := LX8) (G := G) (fun _ => 0) ha
  refine lv_aload_n X.x X.b (dk DX8_init_0 0 rfl) rfl (lv_at hl 0 rfl) ?_
  refine mr_objInit X hl.1 kM_X8_7 kI_bjectInit kC_bjectInit (dk DX8_init_0 1 rfl) (Nat.le_of_ble_eq_true rfl) (Nat.le_of_ble_eq_true rfl) ?_
  refine lv_aload_n X.x X.b (dk DX8_init_0 2 rfl) rfl (lv_at hl 0 rfl) ?_
  refine lv_bipush (v := 64) X.x X.b (dk DX8_init_0 3 rfl) (by decide) ?_
  refine mr_newJ (N := 64) X hH kA_FieldTypelong (by decide) rfl (by decide) (Nat.le_of_ble_eq_true rfl) (Nat.le_of_ble_eq_true rfl) (dk DX8_init_0 4 rfl) (fun x1 H hx hH => ?_)
  obtain ⟨M, hH, hB⟩ := lump hH (hB.arr hx (k := 2) (by decide) (by decide) (by decide) rfl)
  refine mr_putF X hH hB.1 hinX8 tyX8 tyX8_ok nmX8 rfl 2 (by decide) kF_X8_13 rfl hname rfl rfl rfl (by rw [pfs_len]; decide) (dk DX8_init_0 5 rfl) (fun H locs hH => ?_)
  obtain ⟨M, hH, hB⟩ := lump hH (hB.ref (k := 2) (t := 1) rfl (by simp [va_up]))
  refine lv_aload_n X.x X.b (dk DX8_init_0 6 rfl) rfl (lv_at hl 0 rfl) ?_
  refine lv_bipush (v := 64) X.x X.b (dk DX8_init_0 7 rfl) (by decide) ?_
  refine mr_newJ (N := 64) X hH kA_FieldTypelong (by decide) rfl (by decide) (Nat.le_of_ble_eq_true rfl) (Nat.le_of_ble_eq_true rfl) (dk DX8_init_0 8 rfl) (fun x2 H hx hH => ?_)
  obtain ⟨M, hH, hB⟩ := lump hH (hB.arr hx (k := 3) (by decide) (by decide) (by decide) rfl)
  refine mr_putF X hH hB.1 hinX8 tyX8 tyX8_ok nmX8 rfl 3 (by decide) kF_X8_17 rfl hname rfl rfl rfl (by rw [pfs_len]; decide) (dk DX8_init_0 9 rfl) (fun H locs hH => ?_)
  obtain ⟨M, hH, hB⟩ := lump hH (hB.ref (k := 3) (t := 1) rfl (by simp [va_up]))
  refine lv_aload_n X.x X.b (dk DX8_init_0 10 rfl) rfl (lv_at hl 0 rfl) ?_
  refine lv_bipush (v := 16) X.x X.b (dk DX8_init_0 11 rfl) (by decide) ?_
  refine mr_newJ (N := 16) X hH kA_FieldTypelong (by decide) rfl (by decide) (Nat.le_of_ble_eq_true rfl) (Nat.le_of_ble_eq_true rfl) (dk DX8_init_0 12 rfl) (fun x3 H hx hH => ?_)
  obtain ⟨M, hH, hB⟩ := lump hH (hB.arr hx (k := 4) (by decide) (by decide) (by decide) rfl)
  refine mr_putF X hH hB.1 hinX8 tyX8 tyX8_ok nmX8 rfl 4 (by decide) kF_X8_20 rfl hname rfl rfl rfl (by rw [pfs_len]; decide) (dk DX8_init_0 13 rfl) (fun H locs hH => ?_)
  obtain ⟨M, hH, hB⟩ := lump hH (hB.ref (k := 4) (t := 1) rfl (by simp [va_up]))
  refine lv_aload_n X.x X.b (dk DX8_init_0 14 rfl) rfl (lv_at hl 0 rfl) ?_
  refine lv_bipush (v := 16) X.x X.b (dk DX8_init_0 15 rfl) (by decide) ?_
  refine mr_newJ (N := 16) X hH kA_FieldTypelong (by decide) rfl (by decide) (Nat.le_of_ble_eq_true rfl) (Nat.le_of_ble_eq_true rfl) (dk DX8_init_0 16 rfl) (fun x4 H hx hH => ?_)
  obtain ⟨M, hH, hB⟩ := lump hH (hB.arr hx (k := 5) (by decide) (by decide) (by decide) rfl)
  refine mr_putF X hH hB.1 hinX8 tyX8 tyX8_ok nmX8 rfl 5 (by decide) kF_X8_23 rfl hname rfl rfl rfl (by rw [pfs_len]; decide) (dk DX8_init_0 17 rfl) (fun H locs hH => ?_)
  obtain ⟨M, hH, hB⟩ := lump hH (hB.ref (k := 5) (t := 1) rfl (by simp [va_up]))
  refine lv_aload_n X.x X.b (dk DX8_init_0 18 rfl) rfl (lv_at hl 0 rfl) ?_
  refine lv_bipush (v := 17) X.x X.b (dk DX8_init_0 19 rfl) (by decide) ?_
  refine mr_newI (N := 17) X hH kA_FieldTypeint (by decide) rfl (by decide) (Nat.le_of_ble_eq_true rfl) (Nat.le_of_ble_eq_true rfl) (dk DX8_init_0 20 rfl) (fun x5 H hx hH => ?_)
  obtain ⟨M, hH, hB⟩ := lump hH (hB.arr hx (k := 6) (by decide) (by decide) (by decide) rfl)
  refine mr_putF X hH hB.1 hinX8 tyX8 tyX8_ok nmX8 rfl 6 (by decide) kF_X8_26 rfl hname rfl rfl rfl (by rw [pfs_len]; decide) (dk DX8_init_0 21 rfl) (fun H locs hH => ?_)
  obtain ⟨M, hH, hB⟩ := lump hH (hB.ref (k := 6) (t := 0) rfl (by simp [va_up]))
  refine lv_aload_n X.x X.b (dk DX8_init_0 22 rfl) rfl (lv_at hl 0 rfl) ?_
  refine lv_sipush (v := 1088) X.x X.b (dk DX8_init_0 23 rfl) (by decide) ?_
  refine mr_newJ (N := 1088) X hH kA_FieldTypelong (by decide) rfl (by decide) (Nat.le_of_ble_eq_true rfl) (Nat.le_of_ble_eq_true rfl) (dk DX8_init_0 24 rfl) (fun x6 H hx hH => ?_)
  obtain ⟨M, hH, hB⟩ := lump hH (hB.arr hx (k := 7) (by decide) (by decide) (by decide) rfl)
  refine mr_putF X hH hB.1 hinX8 tyX8 tyX8_ok nmX8 rfl 7 (by decide) kF_X8_30 rfl hname rfl rfl rfl (by rw [pfs_len]; decide) (dk DX8_init_0 25 rfl) (fun H locs hH => ?_)
  obtain ⟨M, hH, hB⟩ := lump hH (hB.ref (k := 7) (t := 1) rfl (by simp [va_up]))
  refine lv_aload_n X.x X.b (dk DX8_init_0 26 rfl) rfl (lv_at hl 0 rfl) ?_
  refine lv_sipush (v := 1088) X.x X.b (dk DX8_init_0 27 rfl) (by decide) ?_
  refine mr_newJ (N := 1088) X hH kA_FieldTypelong (by decide) rfl (by decide) (Nat.le_of_ble_eq_true rfl) (Nat.le_of_ble_eq_true rfl) (dk DX8_init_0 28 rfl) (fun x7 H hx hH => ?_)
  obtain ⟨M, hH, hB⟩ := lump hH (hB.arr hx (k := 8) (by decide) (by decide) (by decide) rfl)
  refine mr_putF X hH hB.1 hinX8 tyX8 tyX8_ok nmX8 rfl 8 (by decide) kF_X8_33 rfl hname rfl rfl rfl (by rw [pfs_len]; decide) (dk DX8_init_0 29 rfl) (fun H locs hH => ?_)
  obtain ⟨M, hH, hB⟩ := lump hH (hB.ref (k := 8) (t := 1) rfl (by simp [va_up]))
  refine lv_aload_n X.x X.b (dk DX8_init_0 30 rfl) rfl (lv_at hl 0 rfl) ?_
  refine lv_bipush (v := 64) X.x X.b (dk DX8_init_0 31 rfl) (by decide) ?_
  refine mr_newJ (N := 64) X hH kA_FieldTypelong (by decide) rfl (by decide) (Nat.le_of_ble_eq_true rfl) (Nat.le_of_ble_eq_true rfl) (dk DX8_init_0 32 rfl) (fun x8 H hx hH => ?_)
  obtain ⟨M, hH, hB⟩ := lump hH (hB.arr hx (k := 9) (by decide) (by decide) (by decide) rfl)
  refine mr_putF X hH hB.1 hinX8 tyX8 tyX8_ok nmX8 rfl 9 (by decide) kF_X8_36 rfl hname rfl rfl rfl (by rw [pfs_len]; decide) (dk DX8_init_0 33 rfl) (fun H locs hH => ?_)
  obtain ⟨M, hH, hB⟩ := lump hH (hB.ref (k := 9) (t := 1) rfl (by simp [va_up]))
  refine lv_aload_n X.x X.b (dk DX8_init_0 34 rfl) rfl (lv_at hl 0 rfl) ?_
  refine lv_bipush (v := 64) X.x X.b (dk DX8_init_0 35 rfl) (by decide) ?_
  refine mr_newJ (N := 64) X hH kA_FieldTypelong (by decide) rfl (by decide) (Nat.le_of_ble_eq_true rfl) (Nat.le_of_ble_eq_true rfl) (dk DX8_init_0 36 rfl) (fun x9 H hx hH => ?_)
  obtain ⟨M, hH, hB⟩ := lump hH (hB.arr hx (k := 10) (by decide) (by decide) (by decide) rfl)
  refine mr_putF X hH hB.1 hinX8 tyX8 tyX8_ok nmX8 rfl 10 (by decide) kF_X8_39 rfl hname rfl rfl rfl (by rw [pfs_len]; decide) (dk DX8_init_0 37 rfl) (fun H locs hH => ?_)
  obtain ⟨M, hH, hB⟩ := lump hH (hB.ref (k := 10) (t := 1) rfl (by simp [va_up]))
  refine lv_aload_n X.x X.b (dk DX8_init_0 38 rfl) rfl (lv_at hl 0 rfl) ?_
  refine lv_bipush (v := 16) X.x X.b (dk DX8_init_0 39 rfl) (by decide) ?_
  refine mr_newI (N := 16) X hH kA_FieldTypeint (by decide) rfl (by decide) (Nat.le_of_ble_eq_true rfl) (Nat.le_of_ble_eq_true rfl) (dk DX8_init_0 40 rfl) (fun x10 H hx hH => ?_)
  obtain ⟨M, hH, hB⟩ := lump hH (hB.arr hx (k := 11) (by decide) (by decide) (by decide) rfl)
  refine mr_putF X hH hB.1 hinX8 tyX8 tyX8_ok nmX8 rfl 11 (by decide) kF_X8_42 rfl hname rfl rfl rfl (by rw [pfs_len]; decide) (dk DX8_init_0 41 rfl) (fun H locs hH => ?_)
  obtain ⟨M, hH, hB⟩ := lump hH (hB.ref (k := 11) (t := 0) rfl (by simp [va_up]))
  refine lv_aload_n X.x X.b (dk DX8_init_0 42 rfl) rfl (lv_at hl 0 rfl) ?_
  refine lv_bipush (v := 16) X.x X.b (dk DX8_init_0 43 rfl) (by decide) ?_
  refine mr_newI (N := 16) X hH kA_FieldTypeint (by decide) rfl (by decide) (Nat.le_of_ble_eq_true rfl) (Nat.le_of_ble_eq_true rfl) (dk DX8_init_0 44 rfl) (fun x11 H hx hH => ?_)
  obtain ⟨M, hH, hB⟩ := lump hH (hB.arr hx (k := 12) (by decide) (by decide) (by decide) rfl)
  refine mr_putF X hH hB.1 hinX8 tyX8 tyX8_ok nmX8 rfl 12 (by decide) kF_X8_45 rfl hname rfl rfl rfl (by rw [pfs_len]; decide) (dk DX8_init_0 45 rfl) (fun H locs hH => ?_)
  obtain ⟨M, hH, hB⟩ := lump hH (hB.ref (k := 12) (t := 0) rfl (by simp [va_up]))
  refine lv_aload_n X.x X.b (dk DX8_init_0 46 rfl) rfl (lv_at hl 0 rfl) ?_
  refine lv_bipush (v := 16) X.x X.b (dk DX8_init_0 47 rfl) (by decide) ?_
  refine mr_newJ (N := 16) X hH kA_FieldTypelong (by decide) rfl (by decide) (Nat.le_of_ble_eq_true rfl) (Nat.le_of_ble_eq_true rfl) (dk DX8_init_0 48 rfl) (fun x12 H hx hH => ?_)
  obtain ⟨M, hH, hB⟩ := lump hH (hB.arr hx (k := 13) (by decide) (by decide) (by decide) rfl)
  refine mr_putF X hH hB.1 hinX8 tyX8 tyX8_ok nmX8 rfl 13 (by decide) kF_X8_48 rfl hname rfl rfl rfl (by rw [pfs_len]; decide) (dk DX8_init_0 49 rfl) (fun H locs hH => ?_)
  obtain ⟨M, hH, hB⟩ := lump hH (hB.ref (k := 13) (t := 1) rfl (by simp [va_up]))
  refine lv_aload_n X.x X.b (dk DX8_init_0 50 rfl) rfl (lv_at hl 0 rfl) ?_
  refine lv_bipush (v := 16) X.x X.b (dk DX8_init_0 51 rfl) (by decide) ?_
  refine mr_newI (N := 16) X hH kA_FieldTypeint (by decide) rfl (by decide) (Nat.le_of_ble_eq_true rfl) (Nat.le_of_ble_eq_true rfl) (dk DX8_init_0 52 rfl) (fun x13 H hx hH => ?_)
  obtain ⟨M, hH, hB⟩ := lump hH (hB.arr hx (k := 14) (by decide) (by decide) (by decide) rfl)
  refine mr_putF X hH hB.1 hinX8 tyX8 tyX8_ok nmX8 rfl 14 (by decide) kF_X8_51 rfl hname rfl rfl rfl (by rw [pfs_len]; decide) (dk DX8_init_0 53 rfl) (fun H locs hH => ?_)
  obtain ⟨M, hH, hB⟩ := lump hH (hB.ref (k := 14) (t := 0) rfl (by simp [va_up]))
  obtain ⟨hM, hq, hnew⟩ := hB.done (by decide +kernel)
  subst hM
  exact mr_vret X hr hlk hH ⟨_, va_up_s, rfl, hq, hnew⟩ (dk DX8_init_0 54 rfl)
theorem hd_X9_init : mHd yX9_init 0 := ⟨by decide +kernel, by decide +kernel, by decide +kernel⟩
theorem DX9_init_0 : ∀ t ∈ ([(0, .aload_n 0, 1), (1, .invokespecial 5, 3), (4, .aload_n 0, 1), (5, .bipush 64, 2), (7, .newarray .long, 2), (9, .putfield 11, 3), (12, .aload_n 0, 1), (13, .bipush 64, 2), (15, .newarray .long, 2), (17, .putfield 17, 3), (20, .aload_n 0, 1), (21, .bipush 64, 2), (23, .newarray .long, 2), (25, .putfield 20, 3), (28, .aload_n 0, 1), (29, .sipush 128, 3), (32, .newarray .int, 2), (34, .putfield 23, 3), (37, .aload_n 0, 1), (38, .sipush 128, 3), (41, .newarray .int, 2), (43, .putfield 27, 3), (46, .aload_n 0, 1), (47, .sipush 128, 3), (50, .newarray .int, 2), (52, .putfield 30, 3), (55, .return_, 1)] : List (Nat × Instr × Nat)), decode cX9_init t.1 = .ok (t.2.1, t.2.2) := by decide +kernel
/-- what a new X9 holds -/
def stX9 : OS := os0
abbrev rm_X9_init : Room := { frames := 1, cells := 6, slots := 576, locals := 12 }
set_option maxHeartbeats 4000000 in
set_option maxRecDepth 100000 in
theorem c_X9_init {l : Launch} {G : mG} {h : mM} {a : Nat} (ha : h a = some (.inr (7, dflt LX9))) : cQ l G yX9_init cX9_init 1 none rm_X9_init [.ref a] h (mQv G (fun h1 => ∃ q : Nat → Nat, q 7 = a ∧ h1 = oset LX9 G q stX9 h ∧ oinj LX9 q ∧ ∀ k, k < 7 → ohas LX9 k = true → h (q k) = none)) := by
  refine mp_of (by decide +kernel) (Nat.le_of_ble_eq_true rfl) ?_
  intro p e s m below meth c X hr hlk hH hname ls hl
  replace hl : lv_has ls 1 [(0, .ref a)] := hl
  have hB := Bl.start (L := LX9) (G := G) (fun _ => 0) ha
  refine lv_aload_n X.x X.b (dk DX9_init_0 0 rfl) rfl (lv_at hl 0 rfl) ?_
  refine mr_objInit X hl.1 kM_X9_5 kI_bjectInit kC_bjectInit (dk DX9_init_0 1 rfl) (Nat.le_of_ble_eq_true rfl) (Nat.le_of_ble_eq_true rfl) ?_
  refine lv_aload_n X.x X.b (dk DX9_init_0 2 rfl) rfl (lv_at hl 0 rfl) ?_
  refine lv_bipush (v := 64) X.x X.b (dk DX9_init_0 3 rfl) (by decide) ?_
  refine mr_newJ (N := 64) X hH kA_FieldTypelong (by decide) rfl (by decide) (Nat.le_of_ble_eq_true rfl) (Nat.le_of_ble_eq_true rfl) (dk DX9_init_0 4 rfl) (fun x1 H hx hH => ?_)
  obtain ⟨M, hH, hB⟩ := lump hH (hB.arr hx (k := 0) (by decide) (by decide) (by decide) rfl)
  refine mr_putF X hH hB.1 hinX9 tyX9 tyX9_ok nmX9 rfl 0 (by decide) kF_X9_11 rfl hname rfl rfl rfl (by rw [pfs_len]; decide) (dk DX9_init_0 5 rfl) (fun H locs hH => ?_)
  obtain ⟨M, hH, hB⟩ := lump hH (hB.ref (k := 0) (t := 1) rfl (by simp [va_up]))
  refine lv_aload_n X.x X.b (dk DX9_init_0 6 rfl) rfl (lv_at hl 0 rfl) ?_
  refine lv_bipush (v := 64) X.x X.b (dk DX9_init_0 7 rfl) (by decide) ?_
  refine mr_newJ (N := 64) X hH kA_FieldTypelong (by decide) rfl (by decide) (Nat.le_of_ble_eq_true rfl) (Nat.le_of_ble_eq_true rfl) (dk DX9_init_0 8 rfl) (fun x2 H hx hH => ?_)
  obtain ⟨M, hH, hB⟩ := lump hH (hB.arr hx (k := 1) (by decide) (by decide) (by decide) rfl)
  refine mr_putF X hH hB.1 hinX9 tyX9 tyX9_ok nmX9 rfl 1 (by decide) kF_X9_17 rfl hname rfl rfl rfl (by rw [pfs_len]; decide) (dk DX9_init_0 9 rfl) (fun H locs hH => ?_)
  obtain ⟨M, hH, hB⟩ := lump hH (hB.ref (k := 1) (t := 1) rfl (by simp [va_up]))
  refine lv_aload_n X.x X.b (dk DX9_init_0 10 rfl) rfl (lv_at hl 0 rfl) ?_
  refine lv_bipush (v := 64) X.x X.b (dk DX9_init_0 11 rfl) (by decide) ?_
  refine mr_newJ (N := 64) X hH kA_FieldTypelong (by decide) rfl (by decide) (Nat.le_of_ble_eq_true rfl) (Nat.le_of_ble_eq_true rfl) (dk DX9_init_0 12 rfl) (fun x3 H hx hH => ?_)
  obtain ⟨M, hH, hB⟩ := lump hH (hB.arr hx (k := 2) (by decide) (by decide) (by decide) rfl)
  refine mr_putF X hH hB.1 hinX9 tyX9 tyX9_ok nmX9 rfl 2 (by decide) kF_X9_20 rfl hname rfl rfl rfl (by rw [pfs_len]; decide) (dk DX9_init_0 13 rfl) (fun H locs hH => ?_)
  obtain ⟨M, hH, hB⟩ := lump hH (hB.ref (k := 2) (t := 1) rfl (by simp [va_up]))
  refine lv_aload_n X.x X.b (dk DX9_init_0 14 rfl) rfl (lv_at hl 0 rfl) ?_
  refine lv_sipush (v := 128) X.x X.b (dk DX9_init_0 15 rfl) (by decide) ?_
  refine mr_newI (N := 128) X hH kA_FieldTypeint (by decide) rfl (by decide) (Nat.le_of_ble_eq_true rfl) (Nat.le_of_ble_eq_true rfl) (dk DX9_init_0 16 rfl) (fun x4 H hx hH => ?_)
  obtain ⟨M, hH, hB⟩ := lump hH (hB.arr hx (k := 3) (by decide) (by decide) (by decide) rfl)
  refine mr_putF X hH hB.1 hinX9 tyX9 tyX9_ok nmX9 rfl 3 (by decide) kF_X9_23 rfl hname rfl rfl rfl (by rw [pfs_len]; decide) (dk DX9_init_0 17 rfl) (fun H locs hH => ?_)
  obtain ⟨M, hH, hB⟩ := lump hH (hB.ref (k := 3) (t := 0) rfl (by simp [va_up]))
  refine lv_aload_n X.x X.b (dk DX9_init_0 18 rfl) rfl (lv_at hl 0 rfl) ?_
  refine lv_sipush (v := 128) X.x X.b (dk DX9_init_0 19 rfl) (by decide) ?_
  refine mr_newI (N := 128) X hH kA_FieldTypeint (by decide) rfl (by decide) (Nat.le_of_ble_eq_true rfl) (Nat.le_of_ble_eq_true rfl) (dk DX9_init_0 20 rfl) (fun x5 H hx hH => ?_)
  obtain ⟨M, hH, hB⟩ := lump hH (hB.arr hx (k := 4) (by decide) (by decide) (by decide) rfl)
  refine mr_putF X hH hB.1 hinX9 tyX9 tyX9_ok nmX9 rfl 4 (by decide) kF_X9_27 rfl hname rfl rfl rfl (by rw [pfs_len]; decide) (dk DX9_init_0 21 rfl) (fun H locs hH => ?_)
  obtain ⟨M, hH, hB⟩ := lump hH (hB.ref (k := 4) (t := 0) rfl (by simp [va_up]))
  refine lv_aload_n X.x X.b (dk DX9_init_0 22 rfl) rfl (lv_at hl 0 rfl) ?_
  refine lv_sipush (v := 128) X.x X.b (dk DX9_init_0 23 rfl) (by decide) ?_
  refine mr_newI (N := 128) X hH kA_FieldTypeint (by decide) rfl (by decide) (Nat.le_of_ble_eq_true rfl) (Nat.le_of_ble_eq_true rfl) (dk DX9_init_0 24 rfl) (fun x6 H hx hH => ?_)
  obtain ⟨M, hH, hB⟩ := lump hH (hB.arr hx (k := 5) (by decide) (by decide) (by decide) rfl)
  refine mr_putF X hH hB.1 hinX9 tyX9 tyX9_ok nmX9 rfl 5 (by decide) kF_X9_30 rfl hname rfl rfl rfl (by rw [pfs_len]; decide) (dk DX9_init_0 25 rfl) (fun H locs hH => ?_)
  obtain ⟨M, hH, hB⟩ := lump hH (hB.ref (k := 5) (t := 0) rfl (by simp [va_up]))
  obtain ⟨hM, hq, hnew⟩ := hB.done (by decide +kernel)
  subst hM
  exact mr_vret X hr hlk hH ⟨_, va_up_s, rfl, hq, hnew⟩ (dk DX9_init_0 26 rfl)
theorem hd_X10_init : mHd yX10_init 0 := ⟨by decide +kernel, by decide +kernel, by decide +kernel⟩
theorem DX10_init_0 : ∀ t ∈ ([(0, .aload_n 0, 1), (1, .invokespecial 3, 3), (4, .aload_n 0, 1), (5, .bipush 64, 2), (7, .newarray .long, 2), (9, .putfield 11, 3), (12, .aload_n 0, 1), (13, .bipush 64, 2), (15, .newarray .long, 2), (17, .putfield 15, 3), (20, .aload_n 0, 1), (21, .bipush 64, 2), (23, .newarray .long, 2), (25, .putfield 18, 3), (28, .return_, 1)] : List (Nat × Instr × Nat)), decode cX10_init t.1 = .ok (t.2.1, t.2.2) := by decide +kernel
/-- what a new X10 holds -/
def stX10 : OS := os0
abbrev rm_X10_init : Room := { frames := 1, cells := 3, slots := 192, locals := 12 }
set_option maxHeartbeats 4000000 in
set_option maxRecDepth 100000 in
theorem c_X10_init {l : Launch} {G : mG} {h : mM} {a : Nat} (ha : h a = some (.inr (8, dflt LX10))) : cQ l G yX10_init cX10_init 1 none rm_X10_init [.ref a] h (mQv G (fun h1 => ∃ q : Nat → Nat, q 5 = a ∧ h1 = oset LX10 G q stX10 h ∧ oinj LX10 q ∧ ∀ k, k < 5 → ohas LX10 k = true → h (q k) = none)) := by
  refine mp_of (by decide +kernel) (Nat.le_of_ble_eq_true rfl) ?_
  intro p e s m below meth c X hr hlk hH hname ls hl
  replace hl : lv_has ls 1 [(0, .ref a)] := hl
  have hB := Bl.start (L := LX10) (G := G) (fun _ => 0) ha
  refine lv_aload_n X.x X.b (dk DX10_init_0 0 rfl) rfl (lv_at hl 0 rfl) ?_
  refine mr_objInit X hl.1 kM_X10_3 kI_bjectInit kC_bjectInit (dk DX10_init_0 1 rfl) (Nat.le_of_ble_eq_true rfl) (Nat.le_of_ble_eq_true rfl) ?_
  refine lv_aload_n X.x X.b (dk DX10_init_0 2 rfl) rfl (lv_at hl 0 rfl) ?_
  refine lv_bipush (v := 64) X.x X.b (dk DX10_init_0 3 rfl) (by decide) ?_
  refine mr_newJ (N := 64) X hH kA_FieldTypelong (by decide) rfl (by decide) (Nat.le_of_ble_eq_true rfl) (Nat.le_of_ble_eq_true rfl) (dk DX10_init_0 4 rfl) (fun x1 H hx hH => ?_)
  obtain ⟨M, hH, hB⟩ := lump hH (hB.arr hx (k := 2) (by decide) (by decide) (by decide) rfl)
  refine mr_putF X hH hB.1 hinX10 tyX10 tyX10_ok nmX10 rfl 2 (by decide) kF_X10_11 rfl hname rfl rfl rfl (by rw [pfs_len]; decide) (dk DX10_init_0 5 rfl) (fun H locs hH => ?_)
  obtain ⟨M, hH, hB⟩ := lump hH (hB.ref (k := 2) (t := 1) rfl (by simp [va_up]))
  refine lv_aload_n X.x X.b (dk DX10_init_0 6 rfl) rfl (lv_at hl 0 rfl) ?_
  refine lv_bipush (v := 64) X.x X.b (dk DX10_init_0 7 rfl) (by decide) ?_
  refine mr_newJ (N := 64) X hH kA_FieldTypelong (by decide) rfl (by decide) (Nat.le_of_ble_eq_true rfl) (Nat.le_of_ble_eq_true rfl) (dk DX10_init_0 8 rfl) (fun x2 H hx hH => ?_)
  obtain ⟨M, hH, hB⟩ := lump hH (hB.arr hx (k := 3) (by decide) (by decide) (by decide) rfl)
  refine mr_putF X hH hB.1 hinX10 tyX10 tyX10_ok nmX10 rfl 3 (by decide) kF_X10_15 rfl hname rfl rfl rfl (by rw [pfs_len]; decide) (dk DX10_init_0 9 rfl) (fun H locs hH => ?_)
  obtain ⟨M, hH, hB⟩ := lump hH (hB.ref (k := 3) (t := 1) rfl (by simp [va_up]))
  refine lv_aload_n X.x X.b (dk DX10_init_0 10 rfl) rfl (lv_at hl 0 rfl) ?_
  refine lv_bipush (v := 64) X.x X.b (dk DX10_init_0 11 rfl) (by decide) ?_
  refine mr_newJ (N := 64) X hH kA_FieldTypelong (by decide) rfl (by decide) (Nat.le_of_ble_eq_true rfl) (Nat.le_of_ble_eq_true rfl) (dk DX10_init_0 12 rfl) (fun x3 H hx hH => ?_)
  obtain ⟨M, hH, hB⟩ := lump hH (hB.arr hx (k := 4) (by decide) (by decide) (by decide) rfl)
  refine mr_putF X hH hB.1 hinX10 tyX10 tyX10_ok nmX10 rfl 4 (by decide) kF_X10_18 rfl hname rfl rfl rfl (by rw [pfs_len]; decide) (dk DX10_init_0 13 rfl) (fun H locs hH => ?_)
  obtain ⟨M, hH, hB⟩ := lump hH (hB.ref (k := 4) (t := 1) rfl (by simp [va_up]))
  obtain ⟨hM, hq, hnew⟩ := hB.done (by decide +kernel)
  subst hM
  exact mr_vret X hr hlk hH ⟨_, va_up_s, rfl, hq, hnew⟩ (dk DX10_init_0 14 rfl)
