-- X12_add
abbrev rm_X12_add : Room := { frames := 4, cells := 0, slots := 0, locals := 89 }
theorem hd_X12_add : mHd yX12_add 1 := ⟨by decide +kernel, by decide +kernel, by decide +kernel⟩
theorem DX12_add_0 : ∀ t ∈ ([(0, .aload_n 0, 1), (1, .aload_n 0, 1), (2, .lload_n 1, 1), (3, .invokevirtual 275, 3), (6, .ifCond .eq 15, 3), (9, .lload_n 1, 1), (10, .invokestatic 283, 3), (13, .iconst 2, 1), (14, .if_icmp .lt 7, 3), (17, .iconst 0, 1), (18, .goto 4, 3), (21, .iconst 1, 1), (22, .putfield 106, 3), (25, .aload_n 0, 1), (26, .getfield 106, 3), (29, .ifCond .le 7, 3), (32, .iconst 0, 1), (33, .goto 8, 3), (36, .aload_n 0, 1), (37, .lload_n 1, 1), (38, .invokevirtual 420, 3), (41, .ireturn, 1)] : List (Nat × Instr × Nat)), decode cX12_add t.1 = .ok (t.2.1, t.2.2) := by decide +kernel
noncomputable def f_X12_add (st : OS) (a0 : Int64) : Option (Int32 × OS) := (f_X12_isSet st a0).bind (fun x1 => (if x1 = 0 then bnd (oI st 2 1) (fun t4 => (if (t4.1 2) ≤ 0 then (f_X12_adds t4 a0).bind (fun x7 => match x7 with | (v10, t9) => some ((v10, t9))) else some ((0, t4)))) else (f_X12_ones a0).bind (fun x11 => (if x11 < 2 then bnd (oI st 2 1) (fun t14 => (if (t14.1 2) ≤ 0 then (f_X12_adds t14 a0).bind (fun x17 => match x17 with | (v20, t19) => some ((v20, t19))) else some ((0, t14)))) else bnd (oI st 2 0) (fun t21 => (if (t21.1 2) ≤ 0 then (f_X12_adds t21 a0).bind (fun x24 => match x24 with | (v27, t26) => some ((v27, t26))) else some ((0, t21))))))))
set_option maxHeartbeats 4000000 in
set_option maxRecDepth 100000 in
theorem c_X12_add {l : Launch} {G : mG} {h : mM} {q : Nat → Nat} (hq : oinj LX12 q) {st : OS} {a0 : Int64} {x : Int32 × OS} (hF : f_X12_add st a0 = some x) : cQ l G yX12_add cX12_add 3 (some FieldType.int) rm_X12_add [.ref (q 53), .long a0] (oset LX12 G q st h) (mQi G (fun r h1 => r = x.1 ∧ h1 = oset LX12 G q x.2 h)) := by
  refine mp_of (by decide +kernel) (Nat.le_of_ble_eq_true rfl) ?_
  intro p e s m below meth c X hr hlk hH hname ls hl
  dsimp only [f_X12_add] at hF
  replace hl : lv_has ls 3 [(0, .ref (q 53)), (1, .long a0)] := hl
  refine lv_aload_n X.x X.b (dk DX12_add_0 0 rfl) rfl (lv_at hl 0 rfl) ?_
  refine lv_aload_n X.x X.b (dk DX12_add_0 1 rfl) rfl (lv_at hl 0 rfl) ?_
  refine lv_lload_n X.x X.b (dk DX12_add_0 2 rfl) rfl (lv_at hl 1 rfl) ?_
  obtain ⟨x1, e2, hF⟩ := bd hF
  refine mr_ci0 hH ⟨rfl, rfl⟩ (mr_runV (As := [.long a0]) (rest := [.ref (q 53)]) X hH (c_X12_isSet hq e2) ((oset_at hq (Nat.le_refl _) ohas_N).trans (congrArg some ocell_N)) OX12.1 kM_X12_275 kI_X12_isSet kS_X12_isSet kN_X12 kC_X12_isSet hd_X12_isSet ⟨Nat.le_of_ble_eq_true rfl, Nat.le_of_ble_eq_true rfl⟩ rfl hl.1 (Nat.le_of_ble_eq_true rfl) (dk DX12_add_0 3 rfl) ⟨Nat.zero_le _, Nat.zero_le _⟩) (fun r h1 H locs hp hH => ?_)
  obtain ⟨hr1, hr2⟩ := hp; rw [hr1]; rw [hr2] at hH; clear hr1 hr2
  refine lv_if_eq (tgt := 21) X.x X.b (dk DX12_add_0 4 rfl) (by decide) (fun c3 => ?_) (fun c3 => ?_)
  · replace hF := if_t hF c3
    refine lv_iconst (v := 1) X.x X.b (dk DX12_add_0 11 rfl) (by decide) ?_
    refine og_putI OX12 X hq hH 2 (by decide) rfl kF_X12_106 rfl rfl rfl (dk DX12_add_0 12 rfl) (fun H locs hH => ?_)
    obtain ⟨t4, e5⟩ : ∃ y, y = oI st 2 1 := ⟨_, rfl⟩
    rw [← e5] at hH
    replace hF := bnd_e hF e5
    refine lv_aload_n X.x X.b (dk DX12_add_0 13 rfl) rfl (lv_at hl 0 rfl) ?_
    refine og_getI OX12 X hq hH 2 (by decide) rfl kF_X12_106 (dk DX12_add_0 14 rfl) ?_
    refine lv_if_le (tgt := 36) X.x X.b (dk DX12_add_0 15 rfl) (by decide) (fun c6 => ?_) (fun c6 => ?_)
    · replace hF := if_t hF c6
      refine lv_aload_n X.x X.b (dk DX12_add_0 18 rfl) rfl (lv_at hl 0 rfl) ?_
      refine lv_lload_n X.x X.b (dk DX12_add_0 19 rfl) rfl (lv_at hl 1 rfl) ?_
      obtain ⟨x7, e8, hF⟩ := bd hF
      refine mr_ci0 hH ⟨rfl, rfl⟩ (mr_runV (As := [.long a0]) (rest := []) X hH (c_X12_adds hq e8) ((oset_at hq (Nat.le_refl _) ohas_N).trans (congrArg some ocell_N)) OX12.1 kM_X12_420 kI_X12_adds kS_X12_adds kN_X12 kC_X12_adds hd_X12_adds ⟨Nat.le_of_ble_eq_true rfl, Nat.le_of_ble_eq_true rfl⟩ rfl hl.1 (Nat.le_of_ble_eq_true rfl) (dk DX12_add_0 20 rfl) ⟨Nat.zero_le _, Nat.zero_le _⟩) (fun r h1 H locs hp hH => ?_)
      obtain ⟨hr1, hr2⟩ := hp; rw [hr1]; rw [hr2] at hH; clear hr1 hr2
      obtain ⟨v10, t9⟩ := x7
      try dsimp only at hF hH ⊢
      cases sm hF
      exact mr_iret X hr hlk hH ⟨rfl, rfl⟩ (dk DX12_add_0 21 rfl)
    · replace hF := if_f hF c6
      refine lv_iconst (v := 0) X.x X.b (dk DX12_add_0 16 rfl) (by decide) ?_
      refine lv_goto (tgt := 41) X.x X.b (dk DX12_add_0 17 rfl) (by decide) ?_
      cases sm hF
      exact mr_iret X hr hlk hH ⟨rfl, rfl⟩ (dk DX12_add_0 21 rfl)
  · replace hF := if_f hF c3
    refine lv_lload_n X.x X.b (dk DX12_add_0 5 rfl) rfl (lv_at hl 1 rfl) ?_
    obtain ⟨x11, e12, hF⟩ := bd hF
    refine mr_ci0 hH ⟨rfl, rfl⟩ (mr_runS (As := [.long a0]) (rest := [.ref (q 53)]) X hH (c_X12_ones e12) kM_X12_283 kT_X12_ones kN_X12 kC_X12_ones hd_X12_ones ⟨Nat.le_of_ble_eq_true rfl, Nat.le_of_ble_eq_true rfl⟩ rfl hl.1 (Nat.le_of_ble_eq_true rfl) (dk DX12_add_0 6 rfl) ⟨Nat.zero_le _, Nat.zero_le _⟩) (fun r h1 H locs hp hH => ?_)
    obtain ⟨hr1, hr2⟩ := hp; rw [hr1]; rw [hr2] at hH; clear hr1 hr2
    refine lv_iconst (v := 2) X.x X.b (dk DX12_add_0 7 rfl) (by decide) ?_
    refine lv_icmp_lt (tgt := 21) X.x X.b (dk DX12_add_0 8 rfl) (by decide) (fun c13 => ?_) (fun c13 => ?_)
    · replace hF := if_t hF c13
      refine lv_iconst (v := 1) X.x X.b (dk DX12_add_0 11 rfl) (by decide) ?_
      refine og_putI OX12 X hq hH 2 (by decide) rfl kF_X12_106 rfl rfl rfl (dk DX12_add_0 12 rfl) (fun H locs hH => ?_)
      obtain ⟨t14, e15⟩ : ∃ y, y = oI st 2 1 := ⟨_, rfl⟩
      rw [← e15] at hH
      replace hF := bnd_e hF e15
      refine lv_aload_n X.x X.b (dk DX12_add_0 13 rfl) rfl (lv_at hl 0 rfl) ?_
      refine og_getI OX12 X hq hH 2 (by decide) rfl kF_X12_106 (dk DX12_add_0 14 rfl) ?_
      refine lv_if_le (tgt := 36) X.x X.b (dk DX12_add_0 15 rfl) (by decide) (fun c16 => ?_) (fun c16 => ?_)
      · replace hF := if_t hF c16
        refine lv_aload_n X.x X.b (dk DX12_add_0 18 rfl) rfl (lv_at hl 0 rfl) ?_
        refine lv_lload_n X.x X.b (dk DX12_add_0 19 rfl) rfl (lv_at hl 1 rfl) ?_
        obtain ⟨x17, e18, hF⟩ := bd hF
        refine mr_ci0 hH ⟨rfl, rfl⟩ (mr_runV (As := [.long a0]) (rest := []) X hH (c_X12_adds hq e18) ((oset_at hq (Nat.le_refl _) ohas_N).trans (congrArg some ocell_N)) OX12.1 kM_X12_420 kI_X12_adds kS_X12_adds kN_X12 kC_X12_adds hd_X12_adds ⟨Nat.le_of_ble_eq_true rfl, Nat.le_of_ble_eq_true rfl⟩ rfl hl.1 (Nat.le_of_ble_eq_true rfl) (dk DX12_add_0 20 rfl) ⟨Nat.zero_le _, Nat.zero_le _⟩) (fun r h1 H locs hp hH => ?_)
        obtain ⟨hr1, hr2⟩ := hp; rw [hr1]; rw [hr2] at hH; clear hr1 hr2
        obtain ⟨v20, t19⟩ := x17
        try dsimp only at hF hH ⊢
        cases sm hF
        exact mr_iret X hr hlk hH ⟨rfl, rfl⟩ (dk DX12_add_0 21 rfl)
      · replace hF := if_f hF c16
        refine lv_iconst (v := 0) X.x X.b (dk DX12_add_0 16 rfl) (by decide) ?_
        refine lv_goto (tgt := 41) X.x X.b (dk DX12_add_0 17 rfl) (by decide) ?_
        cases sm hF
        exact mr_iret X hr hlk hH ⟨rfl, rfl⟩ (dk DX12_add_0 21 rfl)
    · replace hF := if_f hF c13
      refine lv_iconst (v := 0) X.x X.b (dk DX12_add_0 9 rfl) (by decide) ?_
      refine lv_goto (tgt := 22) X.x X.b (dk DX12_add_0 10 rfl) (by decide) ?_
      refine og_putI OX12 X hq hH 2 (by decide) rfl kF_X12_106 rfl rfl rfl (dk DX12_add_0 12 rfl) (fun H locs hH => ?_)
      obtain ⟨t21, e22⟩ : ∃ y, y = oI st 2 0 := ⟨_, rfl⟩
      rw [← e22] at hH
      replace hF := bnd_e hF e22
      refine lv_aload_n X.x X.b (dk DX12_add_0 13 rfl) rfl (lv_at hl 0 rfl) ?_
      refine og_getI OX12 X hq hH 2 (by decide) rfl kF_X12_106 (dk DX12_add_0 14 rfl) ?_
      refine lv_if_le (tgt := 36) X.x X.b (dk DX12_add_0 15 rfl) (by decide) (fun c23 => ?_) (fun c23 => ?_)
      · replace hF := if_t hF c23
        refine lv_aload_n X.x X.b (dk DX12_add_0 18 rfl) rfl (lv_at hl 0 rfl) ?_
        refine lv_lload_n X.x X.b (dk DX12_add_0 19 rfl) rfl (lv_at hl 1 rfl) ?_
        obtain ⟨x24, e25, hF⟩ := bd hF
        refine mr_ci0 hH ⟨rfl, rfl⟩ (mr_runV (As := [.long a0]) (rest := []) X hH (c_X12_adds hq e25) ((oset_at hq (Nat.le_refl _) ohas_N).trans (congrArg some ocell_N)) OX12.1 kM_X12_420 kI_X12_adds kS_X12_adds kN_X12 kC_X12_adds hd_X12_adds ⟨Nat.le_of_ble_eq_true rfl, Nat.le_of_ble_eq_true rfl⟩ rfl hl.1 (Nat.le_of_ble_eq_true rfl) (dk DX12_add_0 20 rfl) ⟨Nat.zero_le _, Nat.zero_le _⟩) (fun r h1 H locs hp hH => ?_)
        obtain ⟨hr1, hr2⟩ := hp; rw [hr1]; rw [hr2] at hH; clear hr1 hr2
        obtain ⟨v27, t26⟩ := x24
        try dsimp only at hF hH ⊢
        cases sm hF
        exact mr_iret X hr hlk hH ⟨rfl, rfl⟩ (dk DX12_add_0 21 rfl)
      · replace hF := if_f hF c23
        refine lv_iconst (v := 0) X.x X.b (dk DX12_add_0 16 rfl) (by decide) ?_
        refine lv_goto (tgt := 41) X.x X.b (dk DX12_add_0 17 rfl) (by decide) ?_
        cases sm hF
        exact mr_iret X hr hlk hH ⟨rfl, rfl⟩ (dk DX12_add_0 21 rfl)
-- X12_drops
abbrev rm_X12_drops : Room := { frames := 3, cells := 0, slots := 0, locals := 67 }
theorem hd_X12_drops : mHd yX12_drops 1 := ⟨by decide +kernel, by decide +kernel, by decide +kernel⟩
theorem DX12_drops_0 : ∀ t ∈ ([(0, .aload_n 0, 1), (1, .invokevirtual 417, 3), (4, .aload_n 0, 1), (5, .getfield 7, 3), (8, .iload_n 1, 1), (9, .laload, 1), (10, .lstore_n 2, 1), (11, .aload_n 0, 1), (12, .dup, 1), (13, .getfield 250, 3), (16, .iconst 1, 1), (17, .isub, 1), (18, .putfield 250, 3), (21, .iload_n 1, 1), (22, .istore 4, 2), (24, .iload 4, 2), (26, .aload_n 0, 1), (27, .getfield 250, 3), (30, .if_icmp .ge 25, 3), (33, .aload_n 0, 1), (34, .getfield 7, 3), (37, .iload 4, 2), (39, .aload_n 0, 1), (40, .getfield 7, 3), (43, .iload 4, 2), (45, .iconst 1, 1), (46, .iadd, 1), (47, .laload, 1), (48, .lastore, 1), (49, .iinc 4 1, 3), (52, .goto (-28), 3), (55, .lload_n 2, 1), (56, .lreturn, 1)] : List (Nat × Instr × Nat)), decode cX12_drops t.1 = .ok (t.2.1, t.2.2) := by decide +kernel
noncomputable def f_X12_drops_24 (b2 : Int64) : (OS × Int32) → Option ((OS × Int32) ⊕ (OS)) := fun z => match z with | (s0, b4) => (if (s0.1 1) ≤ b4 then some (.inr s0) else if inb (b4 + 1) 64 = true then if inb b4 64 = true then bnd (oB s0 3 (vp_updL (s0.2.2.2 3) (b4 : Int32).toNatClampNeg (s0.2.2.2 3 (b4 + 1 : Int32).toNatClampNeg))) (fun t11 => bnd (b4 + 1 : Int32) (fun v13 => some (.inl ((t11, v13))))) else none else none)
noncomputable def f_X12_drops (st : OS) (a0 : Int32) : Option (Int64 × OS) := (f_X12_acts st).bind (fun x1 => if inb a0 64 = true then bnd (x1.2.2.2 3 (a0 : Int32).toNatClampNeg : Int64) (fun v4 => bnd (oI x1 1 ((x1.1 1) - 1)) (fun t6 => (lpv (f_X12_drops_24 v4) ((t6, a0))).bind (fun x15 => some ((v4, x15))))) else none)
set_option maxHeartbeats 4000000 in
set_option maxRecDepth 100000 in
theorem w_X12_drops_24 {p : Program} {l : Launch} {e : Env} {s : State} {m : MethodId} {args : Array Value} {below : List Frame} {meth : Method} {c : Code} {Q : State → Prop} {G : mG} {h : mM} {q : Nat → Nat} (hq : oinj LX12 q) (X : mX G p m c cX12_drops 5 s args RX12) (b2 : Int64) : ∀ (z : OS × Int32) (r : OS), lpv (f_X12_drops_24 b2) z = some r → ∀ (H : Heap) (locs : List Loc) (ls : Array Slot), mH G (oset LX12 G q z.1 h) s.heap H locs → lv_has ls 5 [(0, .ref (q 53)), (2, .long b2), (4, .int z.2)] → (∀ (H : Heap) (locs : List Loc) (ls : Array Slot), mH G (oset LX12 G q r h) s.heap H locs → lv_has ls 5 [(2, .long b2)] → W p l e rm_X12_drops s m args below meth c H locs 0 0 Q (F0 m 55 ls [])) → W p l e rm_X12_drops s m args below meth c H locs 0 0 Q (F0 m 24 ls []) := by
  refine lpv_rec ?_
  intro z r x hF hx H locs ls hH hl K0
  obtain ⟨s0, b4⟩ := z
  dsimp only [f_X12_drops_24] at hF
  try dsimp only at hH hl
  refine lv_iload X.x X.b (dk DX12_drops_0 15 rfl) (lv_at hl 2 rfl) ?_
  refine lv_aload_n X.x X.b (dk DX12_drops_0 16 rfl) rfl (lv_at hl 0 rfl) ?_
  refine og_getI OX12 X hq hH 1 (by decide) rfl kF_X12_250 (dk DX12_drops_0 17 rfl) ?_
  refine lv_icmp_ge (tgt := 55) X.x X.b (dk DX12_drops_0 18 rfl) (by decide) (fun c8 => ?_) (fun c8 => ?_)
  · replace hF := if_t hF c8
    have hr9 := lp_r hF hx
    subst hr9
    exact K0 _ _ _ hH (lv_sub hl [1] rfl)
  · replace hF := if_f hF c8
    refine lv_aload_n X.x X.b (dk DX12_drops_0 19 rfl) rfl (lv_at hl 0 rfl) ?_
    refine og_getR (t := 1) OX12 X hq hH 3 (by decide) rfl kF_X12_7 (dk DX12_drops_0 20 rfl) ?_
    refine lv_iload X.x X.b (dk DX12_drops_0 21 rfl) (lv_at hl 2 rfl) ?_
    refine lv_aload_n X.x X.b (dk DX12_drops_0 22 rfl) rfl (lv_at hl 0 rfl) ?_
    refine og_getR (t := 1) OX12 X hq hH 3 (by decide) rfl kF_X12_7 (dk DX12_drops_0 23 rfl) ?_
    refine lv_iload X.x X.b (dk DX12_drops_0 24 rfl) (lv_at hl 2 rfl) ?_
    refine lv_iconst (v := 1) X.x X.b (dk DX12_drops_0 25 rfl) (by decide) ?_
    refine lv_iadd X.x X.b (dk DX12_drops_0 26 rfl) ?_
    obtain ⟨c9, hF⟩ := gd hF
    refine og_lald X hq hH 3 (by decide) rfl (inb_in c9) (dk DX12_drops_0 27 rfl) ?_
    obtain ⟨c10, hF⟩ := gd hF
    refine og_last X hq hH 3 (by decide) rfl (inb_in c10) (dk DX12_drops_0 28 rfl) (fun H locs hH => ?_)
    obtain ⟨t11, e12⟩ : ∃ y, y = oB s0 3 (vp_updL (s0.2.2.2 3) (b4 : Int32).toNatClampNeg (s0.2.2.2 3 (b4 + 1 : Int32).toNatClampNeg)) := ⟨_, rfl⟩
    rw [← e12] at hH
    replace hF := bnd_e hF e12
    obtain ⟨v13, e14⟩ : ∃ y : Int32, y = b4 + 1 := ⟨_, rfl⟩
    replace hF := bnd_e hF e14
    refine lv_iinc (v := v13) (lv' := [(4, .int v13), (0, .ref (q 53)), (2, .long b2)]) X.x X.b (dk DX12_drops_0 29 rfl) hl (k := 2) rfl (by rw [e14]; rfl) (by decide) rfl (fun ls hl => ?_)
    replace hl : lv_has ls 5 [(0, .ref (q 53)), (2, .long b2), (4, .int v13)] := lv_sub hl [1, 2, 0] rfl
    refine lv_goto (tgt := 24) X.x X.b (dk DX12_drops_0 30 rfl) (by decide) ?_
    exact (lp_l hF hx) _ _ _ hH (lv_sub hl [0, 1, 2] rfl) K0
set_option maxHeartbeats 4000000 in
set_option maxRecDepth 100000 in
theorem c_X12_drops {l : Launch} {G : mG} {h : mM} {q : Nat → Nat} (hq : oinj LX12 q) {st : OS} {a0 : Int32} {x : Int64 × OS} (hF : f_X12_drops st a0 = some x) : cQ l G yX12_drops cX12_drops 5 (some FieldType.long) rm_X12_drops [.ref (q 53), .int a0] (oset LX12 G q st h) (mQl G (fun r h1 => r = x.1 ∧ h1 = oset LX12 G q x.2 h)) := by
  refine mp_of (by decide +kernel) (Nat.le_of_ble_eq_true rfl) ?_
  intro p e s m below meth c X hr hlk hH hname ls hl
  dsimp only [f_X12_drops] at hF
  replace hl : lv_has ls 5 [(0, .ref (q 53)), (1, .int a0)] := hl
  refine lv_aload_n X.x X.b (dk DX12_drops_0 0 rfl) rfl (lv_at hl 0 rfl) ?_
  obtain ⟨x1, e2, hF⟩ := bd hF
  refine mr_cv0 hH ⟨rfl, rfl⟩ (mr_runV (As := []) (rest := []) X hH (c_X12_acts hq e2) ((oset_at hq (Nat.le_refl _) ohas_N).trans (congrArg some ocell_N)) OX12.1 kM_X12_417 kI_X12_acts kS_X12_acts kN_X12 kC_X12_acts hd_X12_acts ⟨Nat.le_of_ble_eq_true rfl, Nat.le_of_ble_eq_true rfl⟩ rfl hl.1 (Nat.le_of_ble_eq_true rfl) (dk DX12_drops_0 1 rfl) ⟨Nat.zero_le _, Nat.zero_le _⟩) (fun h1 H locs hp hH => ?_)
  rw [hp] at hH; clear hp
  refine lv_aload_n X.x X.b (dk DX12_drops_0 2 rfl) rfl (lv_at hl 0 rfl) ?_
  refine og_getR (t := 1) OX12 X hq hH 3 (by decide) rfl kF_X12_7 (dk DX12_drops_0 3 rfl) ?_
  refine lv_iload_n X.x X.b (dk DX12_drops_0 4 rfl) rfl (lv_at hl 1 rfl) ?_
  obtain ⟨c3, hF⟩ := gd hF
  refine og_lald X hq hH 3 (by decide) rfl (inb_in c3) (dk DX12_drops_0 5 rfl) ?_
  refine lv_topl (fun v4 e5 => ?_)
  replace hF := bnd_e hF e5
  refine lv_lstore_n (lv' := [(2, .long v4), (0, .ref (q 53)), (1, .int a0)]) X.x X.b (dk DX12_drops_0 6 rfl) rfl hl (by decide) rfl (fun ls hl => ?_)
  replace hl : lv_has ls 5 [(0, .ref (q 53)), (1, .int a0), (2, .long v4)] := lv_sub hl [1, 2, 0] rfl
  refine lv_aload_n X.x X.b (dk DX12_drops_0 7 rfl) rfl (lv_at hl 0 rfl) ?_
  refine lv_dup X.x X.b (dk DX12_drops_0 8 rfl) rfl ?_
  refine og_getI OX12 X hq hH 1 (by decide) rfl kF_X12_250 (dk DX12_drops_0 9 rfl) ?_
  refine lv_iconst (v := 1) X.x X.b (dk DX12_drops_0 10 rfl) (by decide) ?_
  refine lv_isub X.x X.b (dk DX12_drops_0 11 rfl) ?_
  refine og_putI OX12 X hq hH 1 (by decide) rfl kF_X12_250 rfl rfl rfl (dk DX12_drops_0 12 rfl) (fun H locs hH => ?_)
  obtain ⟨t6, e7⟩ : ∃ y, y = oI x1 1 ((x1.1 1) - 1) := ⟨_, rfl⟩
  rw [← e7] at hH
  replace hF := bnd_e hF e7
  refine lv_iload_n X.x X.b (dk DX12_drops_0 13 rfl) rfl (lv_at hl 1 rfl) ?_
  refine lv_istore (lv' := [(4, .int a0), (0, .ref (q 53)), (1, .int a0), (2, .long v4)]) X.x X.b (dk DX12_drops_0 14 rfl) hl (by decide) rfl (fun ls hl => ?_)
  replace hl : lv_has ls 5 [(0, .ref (q 53)), (2, .long v4), (4, .int a0)] := lv_sub hl [1, 3, 0] rfl
  obtain ⟨x15, e16, hF⟩ := bd hF
  replace hl : lv_has ls 5 [(0, .ref (q 53)), (2, .long v4), (4, .int a0)] := lv_sub hl [0, 1, 2] rfl
  refine w_X12_drops_24 hq X v4 _ _ e16 _ _ _ hH hl (fun H locs ls hH hl => ?_)
  refine lv_lload_n X.x X.b (dk DX12_drops_0 31 rfl) rfl (lv_at hl 0 rfl) ?_
  cases sm hF
  exact mr_lret X hr hlk hH ⟨rfl, rfl⟩ (dk DX12_drops_0 32 rfl)
-- X12_drop
abbrev rm_X12_drop : Room := { frames := 4, cells := 0, slots := 0, locals := 91 }
theorem hd_X12_drop : mHd yX12_drop 1 := ⟨by decide +kernel, by decide +kernel, by decide +kernel⟩
theorem DX12_drop_0 : ∀ t ∈ ([(0, .aload_n 0, 1), (1, .iconst 0, 1), (2, .putfield 106, 3), (5, .aload_n 0, 1), (6, .iload_n 1, 1), (7, .invokevirtual 263, 3), (10, .ifCond .eq 11, 3), (13, .aload_n 0, 1), (14, .iload_n 1, 1), (15, .invokevirtual 423, 3), (18, .goto 9, 3), (21, .aload_n 0, 1), (22, .iconst 1, 1), (23, .invokevirtual 236, 3), (26, .i2l, 1), (27, .lreturn, 1)] : List (Nat × Instr × Nat)), decode cX12_drop t.1 = .ok (t.2.1, t.2.2) := by decide +kernel
noncomputable def f_X12_drop (st : OS) (a0 : Int32) : Option (Int64 × OS) := bnd (oI st 2 0) (fun t1 => (f_X12_isLine t1 a0).bind (fun x3 => (if x3 = 0 then (f_X12_fails t1 1).bind (fun x6 => match x6 with | (v9, t8) => some (((v9 : Int32).toInt64, t8))) else (f_X12_drops t1 a0).bind (fun x10 => match x10 with | (v13, t12) => some ((v13, t12))))))
set_option maxHeartbeats 4000000 in
set_option maxRecDepth 100000 in
theorem c_X12_drop {l : Launch} {G : mG} {h : mM} {q : Nat → Nat} (hq : oinj LX12 q) {st : OS} {a0 : Int32} {x : Int64 × OS} (hF : f_X12_drop st a0 = some x) : cQ l G yX12_drop cX12_drop 2 (some FieldType.long) rm_X12_drop [.ref (q 53), .int a0] (oset LX12 G q st h) (mQl G (fun r h1 => r = x.1 ∧ h1 = oset LX12 G q x.2 h)) := by
  refine mp_of (by decide +kernel) (Nat.le_of_ble_eq_true rfl) ?_
  intro p e s m below meth c X hr hlk hH hname ls hl
  dsimp only [f_X12_drop] at hF
  replace hl : lv_has ls 2 [(0, .ref (q 53)), (1, .int a0)] := hl
  refine lv_aload_n X.x X.b (dk DX12_drop_0 0 rfl) rfl (lv_at hl 0 rfl) ?_
  refine lv_iconst (v := 0) X.x X.b (dk DX12_drop_0 1 rfl) (by decide) ?_
  refine og_putI OX12 X hq hH 2 (by decide) rfl kF_X12_106 rfl rfl rfl (dk DX12_drop_0 2 rfl) (fun H locs hH => ?_)
  obtain ⟨t1, e2⟩ : ∃ y, y = oI st 2 0 := ⟨_, rfl⟩
  rw [← e2] at hH
  replace hF := bnd_e hF e2
  refine lv_aload_n X.x X.b (dk DX12_drop_0 3 rfl) rfl (lv_at hl 0 rfl) ?_
  refine lv_iload_n X.x X.b (dk DX12_drop_0 4 rfl) rfl (lv_at hl 1 rfl) ?_
  obtain ⟨x3, e4, hF⟩ := bd hF
  refine mr_ci0 hH ⟨rfl, rfl⟩ (mr_runV (As := [.int a0]) (rest := []) X hH (c_X12_isLine hq e4) ((oset_at hq (Nat.le_refl _) ohas_N).trans (congrArg some ocell_N)) OX12.1 kM_X12_263 kI_X12_isLine kS_X12_isLine kN_X12 kC_X12_isLine hd_X12_isLine ⟨Nat.le_of_ble_eq_true rfl, Nat.le_of_ble_eq_true rfl⟩ rfl hl.1 (Nat.le_of_ble_eq_true rfl) (dk DX12_drop_0 5 rfl) ⟨Nat.zero_le _, Nat.zero_le _⟩) (fun r h1 H locs hp hH => ?_)
  obtain ⟨hr1, hr2⟩ := hp; rw [hr1]; rw [hr2] at hH; clear hr1 hr2
  refine lv_if_eq (tgt := 21) X.x X.b (dk DX12_drop_0 6 rfl) (by decide) (fun c5 => ?_) (fun c5 => ?_)
  · replace hF := if_t hF c5
    refine lv_aload_n X.x X.b (dk DX12_drop_0 11 rfl) rfl (lv_at hl 0 rfl) ?_
    refine lv_iconst (v := 1) X.x X.b (dk DX12_drop_0 12 rfl) (by decide) ?_
    obtain ⟨x6, e7, hF⟩ := bd hF
    refine mr_ci0 hH ⟨rfl, rfl⟩ (mr_runV (As := [.int 1]) (rest := []) X hH (c_X12_fails hq e7) ((oset_at hq (Nat.le_refl _) ohas_N).trans (congrArg some ocell_N)) OX12.1 kM_X12_236 kI_X12_fails kS_X12_fails kN_X12 kC_X12_fails hd_X12_fails ⟨Nat.le_of_ble_eq_true rfl, Nat.le_of_ble_eq_true rfl⟩ rfl hl.1 (Nat.le_of_ble_eq_true rfl) (dk DX12_drop_0 13 rfl) ⟨Nat.zero_le _, Nat.zero_le _⟩) (fun r h1 H locs hp hH => ?_)
    obtain ⟨hr1, hr2⟩ := hp; rw [hr1]; rw [hr2] at hH; clear hr1 hr2
    obtain ⟨v9, t8⟩ := x6
    try dsimp only at hF hH ⊢
    refine lv_i2l X.x X.b (dk DX12_drop_0 14 rfl) rfl ?_
    cases sm hF
    exact mr_lret X hr hlk hH ⟨rfl, rfl⟩ (dk DX12_drop_0 15 rfl)
  · replace hF := if_f hF c5
    refine lv_aload_n X.x X.b (dk DX12_drop_0 7 rfl) rfl (lv_at hl 0 rfl) ?_
    refine lv_iload_n X.x X.b (dk DX12_drop_0 8 rfl) rfl (lv_at hl 1 rfl) ?_
    obtain ⟨x10, e11, hF⟩ := bd hF
    refine mr_cl0 hH ⟨rfl, rfl⟩ (mr_runV (As := [.int a0]) (rest := []) X hH (c_X12_drops hq e11) ((oset_at hq (Nat.le_refl _) ohas_N).trans (congrArg some ocell_N)) OX12.1 kM_X12_423 kI_X12_drops kS_X12_drops kN_X12 kC_X12_drops hd_X12_drops ⟨Nat.le_of_ble_eq_true rfl, Nat.le_of_ble_eq_true rfl⟩ rfl hl.1 (Nat.le_of_ble_eq_true rfl) (dk DX12_drop_0 9 rfl) ⟨Nat.zero_le _, Nat.zero_le _⟩) (fun r h1 H locs hp hH => ?_)
    obtain ⟨hr1, hr2⟩ := hp; rw [hr1]; rw [hr2] at hH; clear hr1 hr2
    obtain ⟨v13, t12⟩ := x10
    try dsimp only at hF hH ⊢
    refine lv_goto (tgt := 27) X.x X.b (dk DX12_drop_0 10 rfl) (by decide) ?_
    cases sm hF
    exact mr_lret X hr hlk hH ⟨rfl, rfl⟩ (dk DX12_drop_0 15 rfl)
-- X12_duals
abbrev rm_X12_duals : Room := { frames := 3, cells := 0, slots := 0, locals := 67 }
theorem hd_X12_duals : mHd yX12_duals 0 := ⟨by decide +kernel, by decide +kernel, by decide +kernel⟩
theorem DX12_duals_0 : ∀ t ∈ ([(0, .aload_n 0, 1), (1, .invokevirtual 417, 3), (4, .iconst 0, 1), (5, .istore_n 1, 1), (6, .iconst 0, 1), (7, .istore_n 2, 1), (8, .iload_n 2, 1), (9, .aload_n 0, 1), (10, .getfield 248, 3), (13, .if_icmp .ge 36, 3), (16, .aload_n 0, 1), (17, .iload_n 2, 1), (18, .invokevirtual 269, 3), (21, .lstore_n 3, 1), (22, .lload_n 3, 1), (23, .invokestatic 283, 3), (26, .iconst 2, 1), (27, .if_icmp .ge 6, 3), (30, .goto 13, 3), (33, .aload_n 0, 1), (34, .getfield 21, 3), (37, .iload_n 1, 1), (38, .lload_n 3, 1), (39, .lastore, 1), (40, .iinc 1 1, 3), (43, .iinc 2 1, 3), (46, .goto (-38), 3), (49, .aload_n 0, 1), (50, .aload_n 0, 1), (51, .getfield 250, 3), (54, .putfield 248, 3), (57, .aload_n 0, 1), (58, .iload_n 1, 1), (59, .putfield 250, 3), (62, .iconst 0, 1), (63, .istore_n 2, 1), (64, .iload_n 2, 1), (65, .iload_n 1, 1), (66, .if_icmp .ge 21, 3), (69, .aload_n 0, 1), (70, .getfield 7, 3), (73, .iload_n 2, 1), (74, .aload_n 0, 1), (75, .getfield 21, 3), (78, .iload_n 2, 1), (79, .laload, 1), (80, .lastore, 1), (81, .iinc 2 1, 3), (84, .goto (-20), 3), (87, .return_, 1)] : List (Nat × Instr × Nat)), decode cX12_duals t.1 = .ok (t.2.1, t.2.2) := by decide +kernel
noncomputable def f_X12_duals_8 : (OS × Int32 × Int32) → Option ((OS × Int32 × Int32) ⊕ (OS × Int32)) := fun z => match z with | (s0, b1, b2) => (if (s0.1 0) ≤ b2 then some (.inr ((s0, b1))) else (f_X12_throughOf s0 b2).bind (fun x4 => (f_X12_ones x4).bind (fun x6 => (if 2 ≤ x6 then if inb b1 64 = true then bnd (oB s0 17 (vp_updL (s0.2.2.2 17) (b1 : Int32).toNatClampNeg x4)) (fun t10 => bnd (b1 + 1 : Int32) (fun v12 => bnd (b2 + 1 : Int32) (fun v14 => some (.inl ((t10, v12, v14)))))) else none else bnd (b2 + 1 : Int32) (fun v16 => some (.inl ((s0, b1, v16))))))))
noncomputable def f_X12_duals_64 (b1 : Int32) : (OS × Int32) → Option ((OS × Int32) ⊕ (OS)) := fun z => match z with | (s0, b2) => (if b1 ≤ b2 then some (.inr s0) else if inb b2 64 = true then bnd (oB s0 3 (vp_updL (s0.2.2.2 3) (b2 : Int32).toNatClampNeg (s0.2.2.2 17 (b2 : Int32).toNatClampNeg))) (fun t28 => bnd (b2 + 1 : Int32) (fun v30 => some (.inl ((t28, v30))))) else none)
noncomputable def f_X12_duals (st : OS) : Option (OS) := (f_X12_acts st).bind (fun x1 => (lpv (f_X12_duals_8) ((x1, 0, 0))).bind (fun x18 => match x18 with | (t20, v21) => bnd (oI t20 0 (t20.1 1)) (fun t22 => bnd (oI t22 1 v21) (fun t24 => (lpv (f_X12_duals_64 v21) ((t24, 0))).bind (fun x32 => some x32)))))
set_option maxHeartbeats 4000000 in
set_option maxRecDepth 100000 in
theorem w_X12_duals_8 {p : Program} {l : Launch} {e : Env} {s : State} {m : MethodId} {args : Array Value} {below : List Frame} {meth : Method} {c : Code} {Q : State → Prop} {G : mG} {h : mM} {q : Nat → Nat} (hq : oinj LX12 q) (X : mX G p m c cX12_duals 5 s args RX12) : ∀ (z : OS × Int32 × Int32) (r : OS × Int32), lpv (f_X12_duals_8) z = some r → ∀ (H : Heap) (locs : List Loc) (ls : Array Slot), mH G (oset LX12 G q z.1 h) s.heap H locs → lv_has ls 5 [(0, .ref (q 53)), (1, .int z.2.1), (2, .int z.2.2)] → (∀ (H : Heap) (locs : List Loc) (ls : Array Slot), mH G (oset LX12 G q r.1 h) s.heap H locs → lv_has ls 5 [(0, .ref (q 53)), (1, .int r.2)] → W p l e rm_X12_duals s m args below meth c H locs 0 0 Q (F0 m 49 ls [])) → W p l e rm_X12_duals s m args below meth c H locs 0 0 Q (F0 m 8 ls []) := by
  refine lpv_rec ?_
  intro z r x hF hx H locs ls hH hl K0
  obtain ⟨s0, b1, b2⟩ := z
  dsimp only [f_X12_duals_8] at hF
  try dsimp only at hH hl
  refine lv_iload_n X.x X.b (dk DX12_duals_0 6 rfl) rfl (lv_at hl 2 rfl) ?_
  refine lv_aload_n X.x X.b (dk DX12_duals_0 7 rfl) rfl (lv_at hl 0 rfl) ?_
  refine og_getI OX12 X hq hH 0 (by decide) rfl kF_X12_248 (dk DX12_duals_0 8 rfl) ?_
  refine lv_icmp_ge (tgt := 49) X.x X.b (dk DX12_duals_0 9 rfl) (by decide) (fun c3 => ?_) (fun c3 => ?_)
  · replace hF := if_t hF c3
    have hr9 := lp_r hF hx
    subst hr9
    exact K0 _ _ _ hH (lv_sub hl [0, 1] rfl)
  · replace hF := if_f hF c3
    refine lv_aload_n X.x X.b (dk DX12_duals_0 10 rfl) rfl (lv_at hl 0 rfl) ?_
    refine lv_iload_n X.x X.b (dk DX12_duals_0 11 rfl) rfl (lv_at hl 2 rfl) ?_
    obtain ⟨x4, e5, hF⟩ := bd hF
    refine mr_cl0 hH ⟨rfl, rfl⟩ (mr_runV (As := [.int b2]) (rest := []) X hH (c_X12_throughOf hq e5) ((oset_at hq (Nat.le_refl _) ohas_N).trans (congrArg some ocell_N)) OX12.1 kM_X12_269 kI_X12_throughOf kS_X12_throughOf kN_X12 kC_X12_throughOf hd_X12_throughOf ⟨Nat.le_of_ble_eq_true rfl, Nat.le_of_ble_eq_true rfl⟩ rfl hl.1 (Nat.le_of_ble_eq_true rfl) (dk DX12_duals_0 12 rfl) ⟨Nat.zero_le _, Nat.zero_le _⟩) (fun r h1 H locs hp hH => ?_)
    obtain ⟨hr1, hr2⟩ := hp; rw [hr1]; rw [hr2] at hH; clear hr1 hr2
    refine lv_lstore_n (lv' := [(3, .long x4), (0, .ref (q 53)), (1, .int b1), (2, .int b2)]) X.x X.b (dk DX12_duals_0 13 rfl) rfl hl (by decide) rfl (fun ls hl => ?_)
    replace hl : lv_has ls 5 [(0, .ref (q 53)), (1, .int b1), (2, .int b2), (3, .long x4)] := lv_sub hl [1, 2, 3, 0] rfl
    refine lv_lload_n X.x X.b (dk DX12_duals_0 14 rfl) rfl (lv_at hl 3 rfl) ?_
    obtain ⟨x6, e7, hF⟩ := bd hF
    refine mr_ci0 hH ⟨rfl, rfl⟩ (mr_runS (As := [.long x4]) (rest := []) X hH (c_X12_ones e7) kM_X12_283 kT_X12_ones kN_X12 kC_X12_ones hd_X12_ones ⟨Nat.le_of_ble_eq_true rfl, Nat.le_of_ble_eq_true rfl⟩ rfl hl.1 (Nat.le_of_ble_eq_true rfl) (dk DX12_duals_0 15 rfl) ⟨Nat.zero_le _, Nat.zero_le _⟩) (fun r h1 H locs hp hH => ?_)
    obtain ⟨hr1, hr2⟩ := hp; rw [hr1]; rw [hr2] at hH; clear hr1 hr2
    refine lv_iconst (v := 2) X.x X.b (dk DX12_duals_0 16 rfl) (by decide) ?_
    refine lv_icmp_ge (tgt := 33) X.x X.b (dk DX12_duals_0 17 rfl) (by decide) (fun c8 => ?_) (fun c8 => ?_)
    · replace hF := if_t hF c8
      refine lv_aload_n X.x X.b (dk DX12_duals_0 19 rfl) rfl (lv_at hl 0 rfl) ?_
      refine og_getR (t := 1) OX12 X hq hH 17 (by decide) rfl kF_X12_21 (dk DX12_duals_0 20 rfl) ?_
      refine lv_iload_n X.x X.b (dk DX12_duals_0 21 rfl) rfl (lv_at hl 1 rfl) ?_
      refine lv_lload_n X.x X.b (dk DX12_duals_0 22 rfl) rfl (lv_at hl 3 rfl) ?_
      obtain ⟨c9, hF⟩ := gd hF
      refine og_last X hq hH 17 (by decide) rfl (inb_in c9) (dk DX12_duals_0 23 rfl) (fun H locs hH => ?_)
      obtain ⟨t10, e11⟩ : ∃ y, y = oB s0 17 (vp_updL (s0.2.2.2 17) (b1 : Int32).toNatClampNeg x4) := ⟨_, rfl⟩
      rw [← e11] at hH
      replace hF := bnd_e hF e11
      obtain ⟨v12, e13⟩ : ∃ y : Int32, y = b1 + 1 := ⟨_, rfl⟩
      replace hF := bnd_e hF e13
      refine lv_iinc (v := v12) (lv' := [(1, .int v12), (0, .ref (q 53)), (2, .int b2), (3, .long x4)]) X.x X.b (dk DX12_duals_0 24 rfl) hl (k := 1) rfl (by rw [e13]; rfl) (by decide) rfl (fun ls hl => ?_)
      replace hl : lv_has ls 5 [(0, .ref (q 53)), (1, .int v12), (2, .int b2)] := lv_sub hl [1, 0, 2] rfl
      obtain ⟨v14, e15⟩ : ∃ y : Int32, y = b2 + 1 := ⟨_, rfl⟩
      replace hF := bnd_e hF e15
      refine lv_iinc (v := v14) (lv' := [(2, .int v14), (0, .ref (q 53)), (1, .int v12)]) X.x X.b (dk DX12_duals_0 25 rfl) hl (k := 2) rfl (by rw [e15]; rfl) (by decide) rfl (fun ls hl => ?_)
      replace hl : lv_has ls 5 [(0, .ref (q 53)), (1, .int v12), (2, .int v14)] := lv_sub hl [1, 2, 0] rfl
      refine lv_goto (tgt := 8) X.x X.b (dk DX12_duals_0 26 rfl) (by decide) ?_
      exact (lp_l hF hx) _ _ _ hH (lv_sub hl [0, 1, 2] rfl) K0
    · replace hF := if_f hF c8
      refine lv_goto (tgt := 43) X.x X.b (dk DX12_duals_0 18 rfl) (by decide) ?_
      obtain ⟨v16, e17⟩ : ∃ y : Int32, y = b2 + 1 := ⟨_, rfl⟩
      replace hF := bnd_e hF e17
      refine lv_iinc (v := v16) (lv' := [(2, .int v16), (0, .ref (q 53)), (1, .int b1), (3, .long x4)]) X.x X.b (dk DX12_duals_0 25 rfl) hl (k := 2) rfl (by rw [e17]; rfl) (by decide) rfl (fun ls hl => ?_)
      replace hl : lv_has ls 5 [(0, .ref (q 53)), (1, .int b1), (2, .int v16)] := lv_sub hl [1, 2, 0] rfl
      refine lv_goto (tgt := 8) X.x X.b (dk DX12_duals_0 26 rfl) (by decide) ?_
      exact (lp_l hF hx) _ _ _ hH (lv_sub hl [0, 1, 2] rfl) K0
set_option maxHeartbeats 4000000 in
set_option maxRecDepth 100000 in
theorem w_X12_duals_64 {p : Program} {l : Launch} {e : Env} {s : State} {m : MethodId} {args : Array Value} {below : List Frame} {meth : Method} {c : Code} {Q : State → Prop} {G : mG} {h : mM} {q : Nat → Nat} (hq : oinj LX12 q) (X : mX G p m c cX12_duals 5 s args RX12) (b1 : Int32) : ∀ (z : OS × Int32) (r : OS), lpv (f_X12_duals_64 b1) z = some r → ∀ (H : Heap) (locs : List Loc) (ls : Array Slot), mH G (oset LX12 G q z.1 h) s.heap H locs → lv_has ls 5 [(0, .ref (q 53)), (1, .int b1), (2, .int z.2)] → (∀ (H : Heap) (locs : List Loc) (ls : Array Slot), mH G (oset LX12 G q r h) s.heap H locs → lv_has ls 5 [] → W p l e rm_X12_duals s m args below meth c H locs 0 0 Q (F0 m 87 ls [])) → W p l e rm_X12_duals s m args below meth c H locs 0 0 Q (F0 m 64 ls []) := by
  refine lpv_rec ?_
  intro z r x hF hx H locs ls hH hl K0
  obtain ⟨s0, b2⟩ := z
  dsimp only [f_X12_duals_64] at hF
  try dsimp only at hH hl
  refine lv_iload_n X.x X.b (dk DX12_duals_0 36 rfl) rfl (lv_at hl 2 rfl) ?_
  refine lv_iload_n X.x X.b (dk DX12_duals_0 37 rfl) rfl (lv_at hl 1 rfl) ?_
  refine lv_icmp_ge (tgt := 87) X.x X.b (dk DX12_duals_0 38 rfl) (by decide) (fun c26 => ?_) (fun c26 => ?_)
  · replace hF := if_t hF c26
    have hr9 := lp_r hF hx
    subst hr9
    exact K0 _ _ _ hH (lv_sub hl [] rfl)
  · replace hF := if_f hF c26
    refine lv_aload_n X.x X.b (dk DX12_duals_0 39 rfl) rfl (lv_at hl 0 rfl) ?_
    refine og_getR (t := 1) OX12 X hq hH 3 (by decide) rfl kF_X12_7 (dk DX12_duals_0 40 rfl) ?_
    refine lv_iload_n X.x X.b (dk DX12_duals_0 41 rfl) rfl (lv_at hl 2 rfl) ?_
    refine lv_aload_n X.x X.b (dk DX12_duals_0 42 rfl) rfl (lv_at hl 0 rfl) ?_
    refine og_getR (t := 1) OX12 X hq hH 17 (by decide) rfl kF_X12_21 (dk DX12_duals_0 43 rfl) ?_
    refine lv_iload_n X.x X.b (dk DX12_duals_0 44 rfl) rfl (lv_at hl 2 rfl) ?_
    obtain ⟨c27, hF⟩ := gd hF
    refine og_lald X hq hH 17 (by decide) rfl (inb_in c27) (dk DX12_duals_0 45 rfl) ?_
    refine og_last X hq hH 3 (by decide) rfl (inb_in c27) (dk DX12_duals_0 46 rfl) (fun H locs hH => ?_)
    obtain ⟨t28, e29⟩ : ∃ y, y = oB s0 3 (vp_updL (s0.2.2.2 3) (b2 : Int32).toNatClampNeg (s0.2.2.2 17 (b2 : Int32).toNatClampNeg)) := ⟨_, rfl⟩
    rw [← e29] at hH
    replace hF := bnd_e hF e29
    obtain ⟨v30, e31⟩ : ∃ y : Int32, y = b2 + 1 := ⟨_, rfl⟩
    replace hF := bnd_e hF e31
    refine lv_iinc (v := v30) (lv' := [(2, .int v30), (0, .ref (q 53)), (1, .int b1)]) X.x X.b (dk DX12_duals_0 47 rfl) hl (k := 2) rfl (by rw [e31]; rfl) (by decide) rfl (fun ls hl => ?_)
    replace hl : lv_has ls 5 [(0, .ref (q 53)), (1, .int b1), (2, .int v30)] := lv_sub hl [1, 2, 0] rfl
    refine lv_goto (tgt := 64) X.x X.b (dk DX12_duals_0 48 rfl) (by decide) ?_
    exact (lp_l hF hx) _ _ _ hH (lv_sub hl [0, 1, 2] rfl) K0
set_option maxHeartbeats 4000000 in
set_option maxRecDepth 100000 in
theorem c_X12_duals {l : Launch} {G : mG} {h : mM} {q : Nat → Nat} (hq : oinj LX12 q) {st : OS} {x : OS} (hF : f_X12_duals st = some x) : cQ l G yX12_duals cX12_duals 5 none rm_X12_duals [.ref (q 53)] (oset LX12 G q st h) (mQv G (fun h1 => h1 = oset LX12 G q x h)) := by
  refine mp_of (by decide +kernel) (Nat.le_of_ble_eq_true rfl) ?_
  intro p e s m below meth c X hr hlk hH hname ls hl
  dsimp only [f_X12_duals] at hF
  replace hl : lv_has ls 5 [(0, .ref (q 53))] := hl
  refine lv_aload_n X.x X.b (dk DX12_duals_0 0 rfl) rfl (lv_at hl 0 rfl) ?_
  obtain ⟨x1, e2, hF⟩ := bd hF
  refine mr_cv0 hH ⟨rfl, rfl⟩ (mr_runV (As := []) (rest := []) X hH (c_X12_acts hq e2) ((oset_at hq (Nat.le_refl _) ohas_N).trans (congrArg some ocell_N)) OX12.1 kM_X12_417 kI_X12_acts kS_X12_acts kN_X12 kC_X12_acts hd_X12_acts ⟨Nat.le_of_ble_eq_true rfl, Nat.le_of_ble_eq_true rfl⟩ rfl hl.1 (Nat.le_of_ble_eq_true rfl) (dk DX12_duals_0 1 rfl) ⟨Nat.zero_le _, Nat.zero_le _⟩) (fun h1 H locs hp hH => ?_)
  rw [hp] at hH; clear hp
  refine lv_iconst (v := 0) X.x X.b (dk DX12_duals_0 2 rfl) (by decide) ?_
  refine lv_istore_n (lv' := [(1, .int 0), (0, .ref (q 53))]) X.x X.b (dk DX12_duals_0 3 rfl) rfl hl (by decide) rfl (fun ls hl => ?_)
  replace hl : lv_has ls 5 [(0, .ref (q 53)), (1, .int 0)] := lv_sub hl [1, 0] rfl
  refine lv_iconst (v := 0) X.x X.b (dk DX12_duals_0 4 rfl) (by decide) ?_
  refine lv_istore_n (lv' := [(2, .int 0), (0, .ref (q 53)), (1, .int 0)]) X.x X.b (dk DX12_duals_0 5 rfl) rfl hl (by decide) rfl (fun ls hl => ?_)
  replace hl : lv_has ls 5 [(0, .ref (q 53)), (1, .int 0), (2, .int 0)] := lv_sub hl [1, 2, 0] rfl
  obtain ⟨x18, e19, hF⟩ := bd hF
  replace hl : lv_has ls 5 [(0, .ref (q 53)), (1, .int 0), (2, .int 0)] := lv_sub hl [0, 1, 2] rfl
  obtain ⟨t20, v21⟩ := x18
  try dsimp only at hF
  refine w_X12_duals_8 hq X _ _ e19 _ _ _ hH hl (fun H locs ls hH hl => ?_)
  try dsimp only at hH hl
  refine lv_aload_n X.x X.b (dk DX12_duals_0 27 rfl) rfl (lv_at hl 0 rfl) ?_
  refine lv_aload_n X.x X.b (dk DX12_duals_0 28 rfl) rfl (lv_at hl 0 rfl) ?_
  refine og_getI OX12 X hq hH 1 (by decide) rfl kF_X12_250 (dk DX12_duals_0 29 rfl) ?_
  refine og_putI OX12 X hq hH 0 (by decide) rfl kF_X12_248 rfl rfl rfl (dk DX12_duals_0 30 rfl) (fun H locs hH => ?_)
  obtain ⟨t22, e23⟩ : ∃ y, y = oI t20 0 (t20.1 1) := ⟨_, rfl⟩
  rw [← e23] at hH
  replace hF := bnd_e hF e23
  refine lv_aload_n X.x X.b (dk DX12_duals_0 31 rfl) rfl (lv_at hl 0 rfl) ?_
  refine lv_iload_n X.x X.b (dk DX12_duals_0 32 rfl) rfl (lv_at hl 1 rfl) ?_
  refine og_putI OX12 X hq hH 1 (by decide) rfl kF_X12_250 rfl rfl rfl (dk DX12_duals_0 33 rfl) (fun H locs hH => ?_)
  obtain ⟨t24, e25⟩ : ∃ y, y = oI t22 1 v21 := ⟨_, rfl⟩
  rw [← e25] at hH
  replace hF := bnd_e hF e25
  refine lv_iconst (v := 0) X.x X.b (dk DX12_duals_0 34 rfl) (by decide) ?_
  refine lv_istore_n (lv' := [(2, .int 0), (0, .ref (q 53)), (1, .int v21)]) X.x X.b (dk DX12_duals_0 35 rfl) rfl hl (by decide) rfl (fun ls hl => ?_)
  replace hl : lv_has ls 5 [(0, .ref (q 53)), (1, .int v21), (2, .int 0)] := lv_sub hl [1, 2, 0] rfl
  obtain ⟨x32, e33, hF⟩ := bd hF
  replace hl : lv_has ls 5 [(0, .ref (q 53)), (1, .int v21), (2, .int 0)] := lv_sub hl [0, 1, 2] rfl
  refine w_X12_duals_64 hq X v21 _ _ e33 _ _ _ hH hl (fun H locs ls hH hl => ?_)
  cases sm hF
  exact mr_vret X hr hlk hH rfl (dk DX12_duals_0 49 rfl)
-- X12_dual
abbrev rm_X12_dual : Room := { frames := 4, cells := 0, slots := 0, locals := 91 }
theorem hd_X12_dual : mHd yX12_dual 0 := ⟨by decide +kernel, by decide +kernel, by decide +kernel⟩
theorem DX12_dual_0 : ∀ t ∈ ([(0, .aload_n 0, 1), (1, .iconst 0, 1), (2, .putfield 106, 3), (5, .aload_n 0, 1), (6, .invokevirtual 426, 3), (9, .aload_n 0, 1), (10, .getfield 248, 3), (13, .ireturn, 1)] : List (Nat × Instr × Nat)), decode cX12_dual t.1 = .ok (t.2.1, t.2.2) := by decide +kernel
noncomputable def f_X12_dual (st : OS) : Option (Int32 × OS) := bnd (oI st 2 0) (fun t1 => (f_X12_duals t1).bind (fun x3 => some ((x3.1 0, x3))))
set_option maxHeartbeats 4000000 in
set_option maxRecDepth 100000 in
theorem c_X12_dual {l : Launch} {G : mG} {h : mM} {q : Nat → Nat} (hq : oinj LX12 q) {st : OS} {x : Int32 × OS} (hF : f_X12_dual st = some x) : cQ l G yX12_dual cX12_dual 1 (some FieldType.int) rm_X12_dual [.ref (q 53)] (oset LX12 G q st h) (mQi G (fun r h1 => r = x.1 ∧ h1 = oset LX12 G q x.2 h)) := by
  refine mp_of (by decide +kernel) (Nat.le_of_ble_eq_true rfl) ?_
  intro p e s m below meth c X hr hlk hH hname ls hl
  dsimp only [f_X12_dual] at hF
  replace hl : lv_has ls 1 [(0, .ref (q 53))] := hl
  refine lv_aload_n X.x X.b (dk DX12_dual_0 0 rfl) rfl (lv_at hl 0 rfl) ?_
  refine lv_iconst (v := 0) X.x X.b (dk DX12_dual_0 1 rfl) (by decide) ?_
  refine og_putI OX12 X hq hH 2 (by decide) rfl kF_X12_106 rfl rfl rfl (dk DX12_dual_0 2 rfl) (fun H locs hH => ?_)
  obtain ⟨t1, e2⟩ : ∃ y, y = oI st 2 0 := ⟨_, rfl⟩
  rw [← e2] at hH
  replace hF := bnd_e hF e2
  refine lv_aload_n X.x X.b (dk DX12_dual_0 3 rfl) rfl (lv_at hl 0 rfl) ?_
  obtain ⟨x3, e4, hF⟩ := bd hF
  refine mr_cv0 hH ⟨rfl, rfl⟩ (mr_runV (As := []) (rest := []) X hH (c_X12_duals hq e4) ((oset_at hq (Nat.le_refl _) ohas_N).trans (congrArg some ocell_N)) OX12.1 kM_X12_426 kI_X12_duals kS_X12_duals kN_X12 kC_X12_duals hd_X12_duals ⟨Nat.le_of_ble_eq_true rfl, Nat.le_of_ble_eq_true rfl⟩ rfl hl.1 (Nat.le_of_ble_eq_true rfl) (dk DX12_dual_0 4 rfl) ⟨Nat.zero_le _, Nat.zero_le _⟩) (fun h1 H locs hp hH => ?_)
  rw [hp] at hH; clear hp
  refine lv_aload_n X.x X.b (dk DX12_dual_0 5 rfl) rfl (lv_at hl 0 rfl) ?_
  refine og_getI OX12 X hq hH 0 (by decide) rfl kF_X12_248 (dk DX12_dual_0 6 rfl) ?_
  cases sm hF
  exact mr_iret X hr hlk hH ⟨rfl, rfl⟩ (dk DX12_dual_0 7 rfl)
-- X12_leaves
abbrev rm_X12_leaves : Room := { frames := 3, cells := 0, slots := 0, locals := 67 }
theorem hd_X12_leaves : mHd yX12_leaves 1 := ⟨by decide +kernel, by decide +kernel, by decide +kernel⟩
theorem DX12_leaves_0 : ∀ t ∈ ([(0, .aload_n 0, 1), (1, .invokevirtual 417, 3), (4, .aload_n 0, 1), (5, .invokevirtual 272, 3), (8, .aload_n 0, 1), (9, .invokevirtual 259, 3), (12, .aload_n 0, 1), (13, .getfield 30, 3), (16, .iload_n 1, 1), (17, .laload, 1), (18, .ldc2_w 109, 3), (21, .lxor, 1), (22, .land, 1), (23, .iload_n 1, 1), (24, .invokestatic 111, 3), (27, .ldc2_w 109, 3), (30, .lxor, 1), (31, .land, 1), (32, .lstore_n 2, 1), (33, .iconst 0, 1), (34, .istore 4, 2), (36, .iconst 0, 1), (37, .istore 5, 2), (39, .iload 5, 2), (41, .aload_n 0, 1), (42, .getfield 250, 3), (45, .if_icmp .ge 108, 3), (48, .aload_n 0, 1), (49, .getfield 7, 3), (52, .iload 5, 2), (54, .laload, 1), (55, .lload_n 2, 1), (56, .land, 1), (57, .invokestatic 283, 3), (60, .iconst 2, 1), (61, .if_icmp .ge 6, 3), (64, .goto 83, 3), (67, .lconst 0, 1), (68, .lstore 6, 2), (70, .iconst 0, 1), (71, .istore 8, 2), (73, .iconst 0, 1), (74, .istore 9, 2), (76, .iload 9, 2), (78, .aload_n 0, 1), (79, .getfield 248, 3), (82, .if_icmp .ge 53, 3), (85, .lload_n 2, 1), (86, .iload 9, 2), (88, .invokestatic 232, 3), (91, .ifCond .ne 6, 3), (94, .goto 35, 3), (97, .lload 6, 2), (99, .aload_n 0, 1), (100, .getfield 7, 3), (103, .iload 5, 2), (105, .laload, 1), (106, .iload 9, 2), (108, .invokestatic 232, 3), (111, .ifCond .eq 11, 3)] : List (Nat × Instr × Nat)), decode cX12_leaves t.1 = .ok (t.2.1, t.2.2) := by decide +kernel
theorem DX12_leaves_1 : ∀ t ∈ ([(114, .iload 8, 2), (116, .invokestatic 111, 3), (119, .goto 4, 3), (122, .lconst 0, 1), (123, .lor, 1), (124, .lstore 6, 2), (126, .iinc 8 1, 3), (129, .iinc 9 1, 3), (132, .goto (-56), 3), (135, .aload_n 0, 1), (136, .getfield 21, 3), (139, .iload 4, 2), (141, .lload 6, 2), (143, .lastore, 1), (144, .iinc 4 1, 3), (147, .iinc 5 1, 3), (150, .goto (-111), 3), (153, .aload_n 0, 1), (154, .lload_n 2, 1), (155, .invokestatic 283, 3), (158, .putfield 248, 3), (161, .aload_n 0, 1), (162, .iload 4, 2), (164, .putfield 250, 3), (167, .iconst 0, 1), (168, .istore 5, 2), (170, .iload 5, 2), (172, .iload 4, 2), (174, .if_icmp .ge 23, 3), (177, .aload_n 0, 1), (178, .getfield 7, 3), (181, .iload 5, 2), (183, .aload_n 0, 1), (184, .getfield 21, 3), (187, .iload 5, 2), (189, .laload, 1), (190, .lastore, 1), (191, .iinc 5 1, 3), (194, .goto (-24), 3), (197, .return_, 1)] : List (Nat × Instr × Nat)), decode cX12_leaves t.1 = .ok (t.2.1, t.2.2) := by decide +kernel
noncomputable def f_X12_leaves_76 (s0 : OS) (b2 : Int64) (b4 : Int32) (b5 : Int32) : (Int64 × Int32 × Int32) → Option ((Int64 × Int32 × Int32) ⊕ (Int64)) := fun z => match z with | (b6, b8, b9) => (if (s0.1 0) ≤ b9 then some (.inr b6) else (f_X12_has b2 b9).bind (fun x18 => (if x18 = 0 then bnd (b9 + 1 : Int32) (fun v39 => some (.inl ((b6, b8, v39)))) else if inb b5 64 = true then (f_X12_has (s0.2.2.2 3 (b5 : Int32).toNatClampNeg) b9).bind (fun x22 => (if x22 = 0 then bnd (b6 ||| 0 : Int64) (fun v25 => bnd (b8 + 1 : Int32) (fun v27 => bnd (b9 + 1 : Int32) (fun v29 => some (.inl ((v25, v27, v29)))))) else (f_X12_bit b8).bind (fun x31 => bnd (b6 ||| x31 : Int64) (fun v33 => bnd (b8 + 1 : Int32) (fun v35 => bnd (b9 + 1 : Int32) (fun v37 => some (.inl ((v33, v35, v37))))))))) else none)))
noncomputable def f_X12_leaves_39 (b2 : Int64) : (OS × Int32 × Int32) → Option ((OS × Int32 × Int32) ⊕ (OS × Int32)) := fun z => match z with | (s0, b4, b5) => (if (s0.1 1) ≤ b5 then some (.inr ((s0, b4))) else if inb b5 64 = true then (f_X12_ones ((s0.2.2.2 3 (b5 : Int32).toNatClampNeg) &&& b2)).bind (fun x14 => (if 2 ≤ x14 then (lpv (f_X12_leaves_76 s0 b2 b4 b5) ((0, 0, 0))).bind (fun x41 => if inb b4 64 = true then bnd (oB s0 17 (vp_updL (s0.2.2.2 17) (b4 : Int32).toNatClampNeg x41)) (fun t45 => bnd (b4 + 1 : Int32) (fun v47 => bnd (b5 + 1 : Int32) (fun v49 => some (.inl ((t45, v47, v49)))))) else none) else bnd (b5 + 1 : Int32) (fun v51 => some (.inl ((s0, b4, v51)))))) else none)
noncomputable def f_X12_leaves_170 (b4 : Int32) : (OS × Int32) → Option ((OS × Int32) ⊕ (OS)) := fun z => match z with | (s0, b5) => (if b4 ≤ b5 then some (.inr s0) else if inb b5 64 = true then bnd (oB s0 3 (vp_updL (s0.2.2.2 3) (b5 : Int32).toNatClampNeg (s0.2.2.2 17 (b5 : Int32).toNatClampNeg))) (fun t65 => bnd (b5 + 1 : Int32) (fun v67 => some (.inl ((t65, v67))))) else none)
noncomputable def f_X12_leaves (st : OS) (a0 : Int32) : Option (OS) := (f_X12_acts st).bind (fun x1 => (f_X12_layNears x1).bind (fun x3 => (f_X12_all x3).bind (fun x5 => if inb a0 64 = true then (f_X12_bit a0).bind (fun x8 => bnd ((x5 &&& ((x3.2.2.2 20 (a0 : Int32).toNatClampNeg) ^^^ ((-1)))) &&& (x8 ^^^ ((-1))) : Int64) (fun v10 => (lpv (f_X12_leaves_39 v10) ((x3, 0, 0))).bind (fun x53 => match x53 with | (t55, v56) => (f_X12_ones v10).bind (fun x57 => bnd (oI t55 0 x57) (fun t59 => bnd (oI t59 1 v56) (fun t61 => (lpv (f_X12_leaves_170 v56) ((t61, 0))).bind (fun x69 => some x69))))))) else none)))
set_option maxHeartbeats 4000000 in
set_option maxRecDepth 100000 in
theorem w_X12_leaves_76 {p : Program} {l : Launch} {e : Env} {s : State} {m : MethodId} {args : Array Value} {below : List Frame} {meth : Method} {c : Code} {Q : State → Prop} {G : mG} {h : mM} {q : Nat → Nat} (hq : oinj LX12 q) (X : mX G p m c cX12_leaves 10 s args RX12) (s0 : OS) (b2 : Int64) (b4 : Int32) (b5 : Int32) : ∀ (z : Int64 × Int32 × Int32) (r : Int64), lpv (f_X12_leaves_76 s0 b2 b4 b5) z = some r → ∀ (H : Heap) (locs : List Loc) (ls : Array Slot), mH G (oset LX12 G q s0 h) s.heap H locs → lv_has ls 10 [(0, .ref (q 53)), (2, .long b2), (4, .int b4), (5, .int b5), (6, .long z.1), (8, .int z.2.1), (9, .int z.2.2)] → (∀ (H : Heap) (locs : List Loc) (ls : Array Slot), mH G (oset LX12 G q s0 h) s.heap H locs → lv_has ls 10 [(0, .ref (q 53)), (2, .long b2), (4, .int b4), (5, .int b5), (6, .long r)] → W p l e rm_X12_leaves s m args below meth c H locs 0 0 Q (F0 m 135 ls [])) → W p l e rm_X12_leaves s m args below meth c H locs 0 0 Q (F0 m 76 ls []) := by
  refine lpv_rec ?_
  intro z r x hF hx H locs ls hH hl K0
  obtain ⟨b6, b8, b9⟩ := z
  dsimp only [f_X12_leaves_76] at hF
  try dsimp only at hH hl
  refine lv_iload X.x X.b (dk DX12_leaves_0 43 rfl) (lv_at hl 6 rfl) ?_
  refine lv_aload_n X.x X.b (dk DX12_leaves_0 44 rfl) rfl (lv_at hl 0 rfl) ?_
  refine og_getI OX12 X hq hH 0 (by decide) rfl kF_X12_248 (dk DX12_leaves_0 45 rfl) ?_
  refine lv_icmp_ge (tgt := 135) X.x X.b (dk DX12_leaves_0 46 rfl) (by decide) (fun c17 => ?_) (fun c17 => ?_)
  · replace hF := if_t hF c17
    have hr9 := lp_r hF hx
    subst hr9
    exact K0 _ _ _ hH (lv_sub hl [0, 1, 2, 3, 4] rfl)
  · replace hF := if_f hF c17
    refine lv_lload_n X.x X.b (dk DX12_leaves_0 47 rfl) rfl (lv_at hl 1 rfl) ?_
    refine lv_iload X.x X.b (dk DX12_leaves_0 48 rfl) (lv_at hl 6 rfl) ?_
    obtain ⟨x18, e19, hF⟩ := bd hF
    refine mr_ci0 hH ⟨rfl, rfl⟩ (mr_runS (As := [.long b2, .int b9]) (rest := []) X hH (c_X12_has e19) kM_X12_232 kT_X12_has kN_X12 kC_X12_has hd_X12_has ⟨Nat.le_of_ble_eq_true rfl, Nat.le_of_ble_eq_true rfl⟩ rfl hl.1 (Nat.le_of_ble_eq_true rfl) (dk DX12_leaves_0 49 rfl) ⟨Nat.zero_le _, Nat.zero_le _⟩) (fun r h1 H locs hp hH => ?_)
    obtain ⟨hr1, hr2⟩ := hp; rw [hr1]; rw [hr2] at hH; clear hr1 hr2
    refine lv_if_ne (tgt := 97) X.x X.b (dk DX12_leaves_0 50 rfl) (by decide) (fun c20 => ?_) (fun c20 => ?_)
    · replace hF := if_f hF c20
      refine lv_lload X.x X.b (dk DX12_leaves_0 52 rfl) (lv_at hl 4 rfl) ?_
      refine lv_aload_n X.x X.b (dk DX12_leaves_0 53 rfl) rfl (lv_at hl 0 rfl) ?_
      refine og_getR (t := 1) OX12 X hq hH 3 (by decide) rfl kF_X12_7 (dk DX12_leaves_0 54 rfl) ?_
      refine lv_iload X.x X.b (dk DX12_leaves_0 55 rfl) (lv_at hl 3 rfl) ?_
      obtain ⟨c21, hF⟩ := gd hF
      refine og_lald X hq hH 3 (by decide) rfl (inb_in c21) (dk DX12_leaves_0 56 rfl) ?_
      refine lv_iload X.x X.b (dk DX12_leaves_0 57 rfl) (lv_at hl 6 rfl) ?_
      obtain ⟨x22, e23, hF⟩ := bd hF
      refine mr_ci0 hH ⟨rfl, rfl⟩ (mr_runS (As := [.long (s0.2.2.2 3 (b5 : Int32).toNatClampNeg), .int b9]) (rest := [.long b6]) X hH (c_X12_has e23) kM_X12_232 kT_X12_has kN_X12 kC_X12_has hd_X12_has ⟨Nat.le_of_ble_eq_true rfl, Nat.le_of_ble_eq_true rfl⟩ rfl hl.1 (Nat.le_of_ble_eq_true rfl) (dk DX12_leaves_0 58 rfl) ⟨Nat.zero_le _, Nat.zero_le _⟩) (fun r h1 H locs hp hH => ?_)
      obtain ⟨hr1, hr2⟩ := hp; rw [hr1]; rw [hr2] at hH; clear hr1 hr2
      refine lv_if_eq (tgt := 122) X.x X.b (dk DX12_leaves_0 59 rfl) (by decide) (fun c24 => ?_) (fun c24 => ?_)
      · replace hF := if_t hF c24
        refine lv_lconst (v := 0) X.x X.b (dk DX12_leaves_1 3 rfl) (by decide) ?_
        refine lv_lor X.x X.b (dk DX12_leaves_1 4 rfl) ?_
        refine lv_topl (fun v25 e26 => ?_)
        replace hF := bnd_e hF e26
        refine lv_lstore (lv' := [(6, .long v25), (0, .ref (q 53)), (2, .long b2), (4, .int b4), (5, .int b5), (8, .int b8), (9, .int b9)]) X.x X.b (dk DX12_leaves_1 5 rfl) hl (by decide) rfl (fun ls hl => ?_)
        replace hl : lv_has ls 10 [(0, .ref (q 53)), (2, .long b2), (4, .int b4), (5, .int b5), (6, .long v25), (8, .int b8), (9, .int b9)] := lv_sub hl [1, 2, 3, 4, 0, 5, 6] rfl
        obtain ⟨v27, e28⟩ : ∃ y : Int32, y = b8 + 1 := ⟨_, rfl⟩
        replace hF := bnd_e hF e28
        refine lv_iinc (v := v27) (lv' := [(8, .int v27), (0, .ref (q 53)), (2, .long b2), (4, .int b4), (5, .int b5), (6, .long v25), (9, .int b9)]) X.x X.b (dk DX12_leaves_1 6 rfl) hl (k := 5) rfl (by rw [e28]; rfl) (by decide) rfl (fun ls hl => ?_)
        replace hl : lv_has ls 10 [(0, .ref (q 53)), (2, .long b2), (4, .int b4), (5, .int b5), (6, .long v25), (8, .int v27), (9, .int b9)] := lv_sub hl [1, 2, 3, 4, 5, 0, 6] rfl
        obtain ⟨v29, e30⟩ : ∃ y : Int32, y = b9 + 1 := ⟨_, rfl⟩
        replace hF := bnd_e hF e30
        refine lv_iinc (v := v29) (lv' := [(9, .int v29), (0, .ref (q 53)), (2, .long b2), (4, .int b4), (5, .int b5), (6, .long v25), (8, .int v27)]) X.x X.b (dk DX12_leaves_1 7 rfl) hl (k := 6) rfl (by rw [e30]; rfl) (by decide) rfl (fun ls hl => ?_)
        replace hl : lv_has ls 10 [(0, .ref (q 53)), (2, .long b2), (4, .int b4), (5, .int b5), (6, .long v25), (8, .int v27), (9, .int v29)] := lv_sub hl [1, 2, 3, 4, 5, 6, 0] rfl
        refine lv_goto (tgt := 76) X.x X.b (dk DX12_leaves_1 8 rfl) (by decide) ?_
        exact (lp_l hF hx) _ _ _ hH (lv_sub hl [0, 1, 2, 3, 4, 5, 6] rfl) K0
      · replace hF := if_f hF c24
        refine lv_iload X.x X.b (dk DX12_leaves_1 0 rfl) (lv_at hl 5 rfl) ?_
        obtain ⟨x31, e32, hF⟩ := bd hF
        refine mr_cl0 hH ⟨rfl, rfl⟩ (mr_runS (As := [.int b8]) (rest := [.long b6]) X hH (c_X12_bit e32) kM_X12_111 kT_X12_bit kN_X12 kC_X12_bit hd_X12_bit ⟨Nat.le_of_ble_eq_true rfl, Nat.le_of_ble_eq_true rfl⟩ rfl hl.1 (Nat.le_of_ble_eq_true rfl) (dk DX12_leaves_1 1 rfl) ⟨Nat.zero_le _, Nat.zero_le _⟩) (fun r h1 H locs hp hH => ?_)
        obtain ⟨hr1, hr2⟩ := hp; rw [hr1]; rw [hr2] at hH; clear hr1 hr2
        refine lv_goto (tgt := 123) X.x X.b (dk DX12_leaves_1 2 rfl) (by decide) ?_
        refine lv_lor X.x X.b (dk DX12_leaves_1 4 rfl) ?_
        refine lv_topl (fun v33 e34 => ?_)
        replace hF := bnd_e hF e34
        refine lv_lstore (lv' := [(6, .long v33), (0, .ref (q 53)), (2, .long b2), (4, .int b4), (5, .int b5), (8, .int b8), (9, .int b9)]) X.x X.b (dk DX12_leaves_1 5 rfl) hl (by decide) rfl (fun ls hl => ?_)
        replace hl : lv_has ls 10 [(0, .ref (q 53)), (2, .long b2), (4, .int b4), (5, .int b5), (6, .long v33), (8, .int b8), (9, .int b9)] := lv_sub hl [1, 2, 3, 4, 0, 5, 6] rfl
        obtain ⟨v35, e36⟩ : ∃ y : Int32, y = b8 + 1 := ⟨_, rfl⟩
        replace hF := bnd_e hF e36
        refine lv_iinc (v := v35) (lv' := [(8, .int v35), (0, .ref (q 53)), (2, .long b2), (4, .int b4), (5, .int b5), (6, .long v33), (9, .int b9)]) X.x X.b (dk DX12_leaves_1 6 rfl) hl (k := 5) rfl (by rw [e36]; rfl) (by decide) rfl (fun ls hl => ?_)
        replace hl : lv_has ls 10 [(0, .ref (q 53)), (2, .long b2), (4, .int b4), (5, .int b5), (6, .long v33), (8, .int v35), (9, .int b9)] := lv_sub hl [1, 2, 3, 4, 5, 0, 6] rfl
        obtain ⟨v37, e38⟩ : ∃ y : Int32, y = b9 + 1 := ⟨_, rfl⟩
        replace hF := bnd_e hF e38
        refine lv_iinc (v := v37) (lv' := [(9, .int v37), (0, .ref (q 53)), (2, .long b2), (4, .int b4), (5, .int b5), (6, .long v33), (8, .int v35)]) X.x X.b (dk DX12_leaves_1 7 rfl) hl (k := 6) rfl (by rw [e38]; rfl) (by decide) rfl (fun ls hl => ?_)
        replace hl : lv_has ls 10 [(0, .ref (q 53)), (2, .long b2), (4, .int b4), (5, .int b5), (6, .long v33), (8, .int v35), (9, .int v37)] := lv_sub hl [1, 2, 3, 4, 5, 6, 0] rfl
        refine lv_goto (tgt := 76) X.x X.b (dk DX12_leaves_1 8 rfl) (by decide) ?_
        exact (lp_l hF hx) _ _ _ hH (lv_sub hl [0, 1, 2, 3, 4, 5, 6] rfl) K0
    · replace hF := if_t hF c20
      refine lv_goto (tgt := 129) X.x X.b (dk DX12_leaves_0 51 rfl) (by decide) ?_
      obtain ⟨v39, e40⟩ : ∃ y : Int32, y = b9 + 1 := ⟨_, rfl⟩
      replace hF := bnd_e hF e40
      refine lv_iinc (v := v39) (lv' := [(9, .int v39), (0, .ref (q 53)), (2, .long b2), (4, .int b4), (5, .int b5), (6, .long b6), (8, .int b8)]) X.x X.b (dk DX12_leaves_1 7 rfl) hl (k := 6) rfl (by rw [e40]; rfl) (by decide) rfl (fun ls hl => ?_)
      replace hl : lv_has ls 10 [(0, .ref (q 53)), (2, .long b2), (4, .int b4), (5, .int b5), (6, .long b6), (8, .int b8), (9, .int v39)] := lv_sub hl [1, 2, 3, 4, 5, 6, 0] rfl
      refine lv_goto (tgt := 76) X.x X.b (dk DX12_leaves_1 8 rfl) (by decide) ?_
      exact (lp_l hF hx) _ _ _ hH (lv_sub hl [0, 1, 2, 3, 4, 5, 6] rfl) K0
set_option maxHeartbeats 4000000 in
set_option maxRecDepth 100000 in
theorem w_X12_leaves_39 {p : Program} {l : Launch} {e : Env} {s : State} {m : MethodId} {args : Array Value} {below : List Frame} {meth : Method} {c : Code} {Q : State → Prop} {G : mG} {h : mM} {q : Nat → Nat} (hq : oinj LX12 q) (X : mX G p m c cX12_leaves 10 s args RX12) (b2 : Int64) : ∀ (z : OS × Int32 × Int32) (r : OS × Int32), lpv (f_X12_leaves_39 b2) z = some r → ∀ (H : Heap) (locs : List Loc) (ls : Array Slot), mH G (oset LX12 G q z.1 h) s.heap H locs → lv_has ls 10 [(0, .ref (q 53)), (2, .long b2), (4, .int z.2.1), (5, .int z.2.2)] → (∀ (H : Heap) (locs : List Loc) (ls : Array Slot), mH G (oset LX12 G q r.1 h) s.heap H locs → lv_has ls 10 [(0, .ref (q 53)), (2, .long b2), (4, .int r.2)] → W p l e rm_X12_leaves s m args below meth c H locs 0 0 Q (F0 m 153 ls [])) → W p l e rm_X12_leaves s m args below meth c H locs 0 0 Q (F0 m 39 ls []) := by
  refine lpv_rec ?_
  intro z r x hF hx H locs ls hH hl K0
  obtain ⟨s0, b4, b5⟩ := z
  dsimp only [f_X12_leaves_39] at hF
  try dsimp only at hH hl
  refine lv_iload X.x X.b (dk DX12_leaves_0 23 rfl) (lv_at hl 3 rfl) ?_
  refine lv_aload_n X.x X.b (dk DX12_leaves_0 24 rfl) rfl (lv_at hl 0 rfl) ?_
  refine og_getI OX12 X hq hH 1 (by decide) rfl kF_X12_250 (dk DX12_leaves_0 25 rfl) ?_
  refine lv_icmp_ge (tgt := 153) X.x X.b (dk DX12_leaves_0 26 rfl) (by decide) (fun c12 => ?_) (fun c12 => ?_)
  · replace hF := if_t hF c12
    have hr9 := lp_r hF hx
    subst hr9
    exact K0 _ _ _ hH (lv_sub hl [0, 1, 2] rfl)
  · replace hF := if_f hF c12
    refine lv_aload_n X.x X.b (dk DX12_leaves_0 27 rfl) rfl (lv_at hl 0 rfl) ?_
    refine og_getR (t := 1) OX12 X hq hH 3 (by decide) rfl kF_X12_7 (dk DX12_leaves_0 28 rfl) ?_
    refine lv_iload X.x X.b (dk DX12_leaves_0 29 rfl) (lv_at hl 3 rfl) ?_
    obtain ⟨c13, hF⟩ := gd hF
    refine og_lald X hq hH 3 (by decide) rfl (inb_in c13) (dk DX12_leaves_0 30 rfl) ?_
    refine lv_lload_n X.x X.b (dk DX12_leaves_0 31 rfl) rfl (lv_at hl 1 rfl) ?_
    refine lv_land X.x X.b (dk DX12_leaves_0 32 rfl) ?_
    obtain ⟨x14, e15, hF⟩ := bd hF
    refine mr_ci0 hH ⟨rfl, rfl⟩ (mr_runS (As := [.long ((s0.2.2.2 3 (b5 : Int32).toNatClampNeg) &&& b2)]) (rest := []) X hH (c_X12_ones e15) kM_X12_283 kT_X12_ones kN_X12 kC_X12_ones hd_X12_ones ⟨Nat.le_of_ble_eq_true rfl, Nat.le_of_ble_eq_true rfl⟩ rfl hl.1 (Nat.le_of_ble_eq_true rfl) (dk DX12_leaves_0 33 rfl) ⟨Nat.zero_le _, Nat.zero_le _⟩) (fun r h1 H locs hp hH => ?_)
    obtain ⟨hr1, hr2⟩ := hp; rw [hr1]; rw [hr2] at hH; clear hr1 hr2
    refine lv_iconst (v := 2) X.x X.b (dk DX12_leaves_0 34 rfl) (by decide) ?_
    refine lv_icmp_ge (tgt := 67) X.x X.b (dk DX12_leaves_0 35 rfl) (by decide) (fun c16 => ?_) (fun c16 => ?_)
    · replace hF := if_t hF c16
      refine lv_lconst (v := 0) X.x X.b (dk DX12_leaves_0 37 rfl) (by decide) ?_
      refine lv_lstore (lv' := [(6, .long 0), (0, .ref (q 53)), (2, .long b2), (4, .int b4), (5, .int b5)]) X.x X.b (dk DX12_leaves_0 38 rfl) hl (by decide) rfl (fun ls hl => ?_)
      replace hl : lv_has ls 10 [(0, .ref (q 53)), (2, .long b2), (4, .int b4), (5, .int b5), (6, .long 0)] := lv_sub hl [1, 2, 3, 4, 0] rfl
      refine lv_iconst (v := 0) X.x X.b (dk DX12_leaves_0 39 rfl) (by decide) ?_
      refine lv_istore (lv' := [(8, .int 0), (0, .ref (q 53)), (2, .long b2), (4, .int b4), (5, .int b5), (6, .long 0)]) X.x X.b (dk DX12_leaves_0 40 rfl) hl (by decide) rfl (fun ls hl => ?_)
      replace hl : lv_has ls 10 [(0, .ref (q 53)), (2, .long b2), (4, .int b4), (5, .int b5), (6, .long 0), (8, .int 0)] := lv_sub hl [1, 2, 3, 4, 5, 0] rfl
      refine lv_iconst (v := 0) X.x X.b (dk DX12_leaves_0 41 rfl) (by decide) ?_
      refine lv_istore (lv' := [(9, .int 0), (0, .ref (q 53)), (2, .long b2), (4, .int b4), (5, .int b5), (6, .long 0), (8, .int 0)]) X.x X.b (dk DX12_leaves_0 42 rfl) hl (by decide) rfl (fun ls hl => ?_)
      replace hl : lv_has ls 10 [(0, .ref (q 53)), (2, .long b2), (4, .int b4), (5, .int b5), (6, .long 0), (8, .int 0), (9, .int 0)] := lv_sub hl [1, 2, 3, 4, 5, 6, 0] rfl
      obtain ⟨x41, e42, hF⟩ := bd hF
      replace hl : lv_has ls 10 [(0, .ref (q 53)), (2, .long b2), (4, .int b4), (5, .int b5), (6, .long 0), (8, .int 0), (9, .int 0)] := lv_sub hl [0, 1, 2, 3, 4, 5, 6] rfl
      refine w_X12_leaves_76 hq X s0 b2 b4 b5 _ _ e42 _ _ _ hH hl (fun H locs ls hH hl => ?_)
      refine lv_aload_n X.x X.b (dk DX12_leaves_1 9 rfl) rfl (lv_at hl 0 rfl) ?_
      refine og_getR (t := 1) OX12 X hq hH 17 (by decide) rfl kF_X12_21 (dk DX12_leaves_1 10 rfl) ?_
      refine lv_iload X.x X.b (dk DX12_leaves_1 11 rfl) (lv_at hl 2 rfl) ?_
      refine lv_lload X.x X.b (dk DX12_leaves_1 12 rfl) (lv_at hl 4 rfl) ?_
      obtain ⟨c44, hF⟩ := gd hF
      refine og_last X hq hH 17 (by decide) rfl (inb_in c44) (dk DX12_leaves_1 13 rfl) (fun H locs hH => ?_)
      obtain ⟨t45, e46⟩ : ∃ y, y = oB s0 17 (vp_updL (s0.2.2.2 17) (b4 : Int32).toNatClampNeg x41) := ⟨_, rfl⟩
      rw [← e46] at hH
      replace hF := bnd_e hF e46
      obtain ⟨v47, e48⟩ : ∃ y : Int32, y = b4 + 1 := ⟨_, rfl⟩
      replace hF := bnd_e hF e48
      refine lv_iinc (v := v47) (lv' := [(4, .int v47), (0, .ref (q 53)), (2, .long b2), (5, .int b5), (6, .long x41)]) X.x X.b (dk DX12_leaves_1 14 rfl) hl (k := 2) rfl (by rw [e48]; rfl) (by decide) rfl (fun ls hl => ?_)
      replace hl : lv_has ls 10 [(0, .ref (q 53)), (2, .long b2), (4, .int v47), (5, .int b5)] := lv_sub hl [1, 2, 0, 3] rfl
      obtain ⟨v49, e50⟩ : ∃ y : Int32, y = b5 + 1 := ⟨_, rfl⟩
      replace hF := bnd_e hF e50
      refine lv_iinc (v := v49) (lv' := [(5, .int v49), (0, .ref (q 53)), (2, .long b2), (4, .int v47)]) X.x X.b (dk DX12_leaves_1 15 rfl) hl (k := 3) rfl (by rw [e50]; rfl) (by decide) rfl (fun ls hl => ?_)
      replace hl : lv_has ls 10 [(0, .ref (q 53)), (2, .long b2), (4, .int v47), (5, .int v49)] := lv_sub hl [1, 2, 3, 0] rfl
      refine lv_goto (tgt := 39) X.x X.b (dk DX12_leaves_1 16 rfl) (by decide) ?_
      exact (lp_l hF hx) _ _ _ hH (lv_sub hl [0, 1, 2, 3] rfl) K0
    · replace hF := if_f hF c16
      refine lv_goto (tgt := 147) X.x X.b (dk DX12_leaves_0 36 rfl) (by decide) ?_
      obtain ⟨v51, e52⟩ : ∃ y : Int32, y = b5 + 1 := ⟨_, rfl⟩
      replace hF := bnd_e hF e52
      refine lv_iinc (v := v51) (lv' := [(5, .int v51), (0, .ref (q 53)), (2, .long b2), (4, .int b4)]) X.x X.b (dk DX12_leaves_1 15 rfl) hl (k := 3) rfl (by rw [e52]; rfl) (by decide) rfl (fun ls hl => ?_)
      replace hl : lv_has ls 10 [(0, .ref (q 53)), (2, .long b2), (4, .int b4), (5, .int v51)] := lv_sub hl [1, 2, 3, 0] rfl
      refine lv_goto (tgt := 39) X.x X.b (dk DX12_leaves_1 16 rfl) (by decide) ?_
      exact (lp_l hF hx) _ _ _ hH (lv_sub hl [0, 1, 2, 3] rfl) K0
set_option maxHeartbeats 4000000 in
set_option maxRecDepth 100000 in
theorem w_X12_leaves_170 {p : Program} {l : Launch} {e : Env} {s : State} {m : MethodId} {args : Array Value} {below : List Frame} {meth : Method} {c : Code} {Q : State → Prop} {G : mG} {h : mM} {q : Nat → Nat} (hq : oinj LX12 q) (X : mX G p m c cX12_leaves 10 s args RX12) (b4 : Int32) : ∀ (z : OS × Int32) (r : OS), lpv (f_X12_leaves_170 b4) z = some r → ∀ (H : Heap) (locs : List Loc) (ls : Array Slot), mH G (oset LX12 G q z.1 h) s.heap H locs → lv_has ls 10 [(0, .ref (q 53)), (4, .int b4), (5, .int z.2)] → (∀ (H : Heap) (locs : List Loc) (ls : Array Slot), mH G (oset LX12 G q r h) s.heap H locs → lv_has ls 10 [] → W p l e rm_X12_leaves s m args below meth c H locs 0 0 Q (F0 m 197 ls [])) → W p l e rm_X12_leaves s m args below meth c H locs 0 0 Q (F0 m 170 ls []) := by
  refine lpv_rec ?_
  intro z r x hF hx H locs ls hH hl K0
  obtain ⟨s0, b5⟩ := z
  dsimp only [f_X12_leaves_170] at hF
  try dsimp only at hH hl
  refine lv_iload X.x X.b (dk DX12_leaves_1 26 rfl) (lv_at hl 2 rfl) ?_
  refine lv_iload X.x X.b (dk DX12_leaves_1 27 rfl) (lv_at hl 1 rfl) ?_
  refine lv_icmp_ge (tgt := 197) X.x X.b (dk DX12_leaves_1 28 rfl) (by decide) (fun c63 => ?_) (fun c63 => ?_)
  · replace hF := if_t hF c63
    have hr9 := lp_r hF hx
    subst hr9
    exact K0 _ _ _ hH (lv_sub hl [] rfl)
  · replace hF := if_f hF c63
    refine lv_aload_n X.x X.b (dk DX12_leaves_1 29 rfl) rfl (lv_at hl 0 rfl) ?_
    refine og_getR (t := 1) OX12 X hq hH 3 (by decide) rfl kF_X12_7 (dk DX12_leaves_1 30 rfl) ?_
    refine lv_iload X.x X.b (dk DX12_leaves_1 31 rfl) (lv_at hl 2 rfl) ?_
    refine lv_aload_n X.x X.b (dk DX12_leaves_1 32 rfl) rfl (lv_at hl 0 rfl) ?_
    refine og_getR (t := 1) OX12 X hq hH 17 (by decide) rfl kF_X12_21 (dk DX12_leaves_1 33 rfl) ?_
    refine lv_iload X.x X.b (dk DX12_leaves_1 34 rfl) (lv_at hl 2 rfl) ?_
    obtain ⟨c64, hF⟩ := gd hF
    refine og_lald X hq hH 17 (by decide) rfl (inb_in c64) (dk DX12_leaves_1 35 rfl) ?_
    refine og_last X hq hH 3 (by decide) rfl (inb_in c64) (dk DX12_leaves_1 36 rfl) (fun H locs hH => ?_)
    obtain ⟨t65, e66⟩ : ∃ y, y = oB s0 3 (vp_updL (s0.2.2.2 3) (b5 : Int32).toNatClampNeg (s0.2.2.2 17 (b5 : Int32).toNatClampNeg)) := ⟨_, rfl⟩
    rw [← e66] at hH
    replace hF := bnd_e hF e66
    obtain ⟨v67, e68⟩ : ∃ y : Int32, y = b5 + 1 := ⟨_, rfl⟩
    replace hF := bnd_e hF e68
    refine lv_iinc (v := v67) (lv' := [(5, .int v67), (0, .ref (q 53)), (4, .int b4)]) X.x X.b (dk DX12_leaves_1 37 rfl) hl (k := 2) rfl (by rw [e68]; rfl) (by decide) rfl (fun ls hl => ?_)
    replace hl : lv_has ls 10 [(0, .ref (q 53)), (4, .int b4), (5, .int v67)] := lv_sub hl [1, 2, 0] rfl
    refine lv_goto (tgt := 170) X.x X.b (dk DX12_leaves_1 38 rfl) (by decide) ?_
    exact (lp_l hF hx) _ _ _ hH (lv_sub hl [0, 1, 2] rfl) K0
set_option maxHeartbeats 4000000 in
set_option maxRecDepth 100000 in
theorem c_X12_leaves {l : Launch} {G : mG} {h : mM} {q : Nat → Nat} (hq : oinj LX12 q) {st : OS} {a0 : Int32} {x : OS} (hF : f_X12_leaves st a0 = some x) : cQ l G yX12_leaves cX12_leaves 10 none rm_X12_leaves [.ref (q 53), .int a0] (oset LX12 G q st h) (mQv G (fun h1 => h1 = oset LX12 G q x h)) := by
  refine mp_of (by decide +kernel) (Nat.le_of_ble_eq_true rfl) ?_
  intro p e s m below meth c X hr hlk hH hname ls hl
  dsimp only [f_X12_leaves] at hF
  replace hl : lv_has ls 10 [(0, .ref (q 53)), (1, .int a0)] := hl
  refine lv_aload_n X.x X.b (dk DX12_leaves_0 0 rfl) rfl (lv_at hl 0 rfl) ?_
  obtain ⟨x1, e2, hF⟩ := bd hF
  refine mr_cv0 hH ⟨rfl, rfl⟩ (mr_runV (As := []) (rest := []) X hH (c_X12_acts hq e2) ((oset_at hq (Nat.le_refl _) ohas_N).trans (congrArg some ocell_N)) OX12.1 kM_X12_417 kI_X12_acts kS_X12_acts kN_X12 kC_X12_acts hd_X12_acts ⟨Nat.le_of_ble_eq_true rfl, Nat.le_of_ble_eq_true rfl⟩ rfl hl.1 (Nat.le_of_ble_eq_true rfl) (dk DX12_leaves_0 1 rfl) ⟨Nat.zero_le _, Nat.zero_le _⟩) (fun h1 H locs hp hH => ?_)
  rw [hp] at hH; clear hp
  refine lv_aload_n X.x X.b (dk DX12_leaves_0 2 rfl) rfl (lv_at hl 0 rfl) ?_
  obtain ⟨x3, e4, hF⟩ := bd hF
  refine mr_cv0 hH ⟨rfl, rfl⟩ (mr_runV (As := []) (rest := []) X hH (c_X12_layNears hq e4) ((oset_at hq (Nat.le_refl _) ohas_N).trans (congrArg some ocell_N)) OX12.1 kM_X12_272 kI_X12_layNears kS_X12_layNears kN_X12 kC_X12_layNears hd_X12_layNears ⟨Nat.le_of_ble_eq_true rfl, Nat.le_of_ble_eq_true rfl⟩ rfl hl.1 (Nat.le_of_ble_eq_true rfl) (dk DX12_leaves_0 3 rfl) ⟨Nat.zero_le _, Nat.zero_le _⟩) (fun h1 H locs hp hH => ?_)
  rw [hp] at hH; clear hp
  refine lv_aload_n X.x X.b (dk DX12_leaves_0 4 rfl) rfl (lv_at hl 0 rfl) ?_
  obtain ⟨x5, e6, hF⟩ := bd hF
  refine mr_cl0 hH ⟨rfl, rfl⟩ (mr_runV (As := []) (rest := []) X hH (c_X12_all hq e6) ((oset_at hq (Nat.le_refl _) ohas_N).trans (congrArg some ocell_N)) OX12.1 kM_X12_259 kI_X12_all kS_X12_all kN_X12 kC_X12_all hd_X12_all ⟨Nat.le_of_ble_eq_true rfl, Nat.le_of_ble_eq_true rfl⟩ rfl hl.1 (Nat.le_of_ble_eq_true rfl) (dk DX12_leaves_0 5 rfl) ⟨Nat.zero_le _, Nat.zero_le _⟩) (fun r h1 H locs hp hH => ?_)
  obtain ⟨hr1, hr2⟩ := hp; rw [hr1]; rw [hr2] at hH; clear hr1 hr2
  refine lv_aload_n X.x X.b (dk DX12_leaves_0 6 rfl) rfl (lv_at hl 0 rfl) ?_
  refine og_getR (t := 1) OX12 X hq hH 20 (by decide) rfl kF_X12_30 (dk DX12_leaves_0 7 rfl) ?_
  refine lv_iload_n X.x X.b (dk DX12_leaves_0 8 rfl) rfl (lv_at hl 1 rfl) ?_
  obtain ⟨c7, hF⟩ := gd hF
  refine og_lald X hq hH 20 (by decide) rfl (inb_in c7) (dk DX12_leaves_0 9 rfl) ?_
  refine lv_ldc2 (v := (-1)) X.x X.b X.ow (X.ts _ kK_X12_109) (dk DX12_leaves_0 10 rfl) ?_
  refine lv_lxor X.x X.b (dk DX12_leaves_0 11 rfl) ?_
  refine lv_land X.x X.b (dk DX12_leaves_0 12 rfl) ?_
  refine lv_iload_n X.x X.b (dk DX12_leaves_0 13 rfl) rfl (lv_at hl 1 rfl) ?_
  obtain ⟨x8, e9, hF⟩ := bd hF
  refine mr_cl0 hH ⟨rfl, rfl⟩ (mr_runS (As := [.int a0]) (rest := [.long (x5 &&& ((x3.2.2.2 20 (a0 : Int32).toNatClampNeg) ^^^ ((-1))))]) X hH (c_X12_bit e9) kM_X12_111 kT_X12_bit kN_X12 kC_X12_bit hd_X12_bit ⟨Nat.le_of_ble_eq_true rfl, Nat.le_of_ble_eq_true rfl⟩ rfl hl.1 (Nat.le_of_ble_eq_true rfl) (dk DX12_leaves_0 14 rfl) ⟨Nat.zero_le _, Nat.zero_le _⟩) (fun r h1 H locs hp hH => ?_)
  obtain ⟨hr1, hr2⟩ := hp; rw [hr1]; rw [hr2] at hH; clear hr1 hr2
  refine lv_ldc2 (v := (-1)) X.x X.b X.ow (X.ts _ kK_X12_109) (dk DX12_leaves_0 15 rfl) ?_
  refine lv_lxor X.x X.b (dk DX12_leaves_0 16 rfl) ?_
  refine lv_land X.x X.b (dk DX12_leaves_0 17 rfl) ?_
  refine lv_topl (fun v10 e11 => ?_)
  replace hF := bnd_e hF e11
  refine lv_lstore_n (lv' := [(2, .long v10), (0, .ref (q 53)), (1, .int a0)]) X.x X.b (dk DX12_leaves_0 18 rfl) rfl hl (by decide) rfl (fun ls hl => ?_)
  replace hl : lv_has ls 10 [(0, .ref (q 53)), (2, .long v10)] := lv_sub hl [1, 0] rfl
  refine lv_iconst (v := 0) X.x X.b (dk DX12_leaves_0 19 rfl) (by decide) ?_
  refine lv_istore (lv' := [(4, .int 0), (0, .ref (q 53)), (2, .long v10)]) X.x X.b (dk DX12_leaves_0 20 rfl) hl (by decide) rfl (fun ls hl => ?_)
  replace hl : lv_has ls 10 [(0, .ref (q 53)), (2, .long v10), (4, .int 0)] := lv_sub hl [1, 2, 0] rfl
  refine lv_iconst (v := 0) X.x X.b (dk DX12_leaves_0 21 rfl) (by decide) ?_
  refine lv_istore (lv' := [(5, .int 0), (0, .ref (q 53)), (2, .long v10), (4, .int 0)]) X.x X.b (dk DX12_leaves_0 22 rfl) hl (by decide) rfl (fun ls hl => ?_)
  replace hl : lv_has ls 10 [(0, .ref (q 53)), (2, .long v10), (4, .int 0), (5, .int 0)] := lv_sub hl [1, 2, 3, 0] rfl
  obtain ⟨x53, e54, hF⟩ := bd hF
  replace hl : lv_has ls 10 [(0, .ref (q 53)), (2, .long v10), (4, .int 0), (5, .int 0)] := lv_sub hl [0, 1, 2, 3] rfl
  obtain ⟨t55, v56⟩ := x53
  try dsimp only at hF
  refine w_X12_leaves_39 hq X v10 _ _ e54 _ _ _ hH hl (fun H locs ls hH hl => ?_)
  try dsimp only at hH hl
  refine lv_aload_n X.x X.b (dk DX12_leaves_1 17 rfl) rfl (lv_at hl 0 rfl) ?_
  refine lv_lload_n X.x X.b (dk DX12_leaves_1 18 rfl) rfl (lv_at hl 1 rfl) ?_
  obtain ⟨x57, e58, hF⟩ := bd hF
  refine mr_ci0 hH ⟨rfl, rfl⟩ (mr_runS (As := [.long v10]) (rest := [.ref (q 53)]) X hH (c_X12_ones e58) kM_X12_283 kT_X12_ones kN_X12 kC_X12_ones hd_X12_ones ⟨Nat.le_of_ble_eq_true rfl, Nat.le_of_ble_eq_true rfl⟩ rfl hl.1 (Nat.le_of_ble_eq_true rfl) (dk DX12_leaves_1 19 rfl) ⟨Nat.zero_le _, Nat.zero_le _⟩) (fun r h1 H locs hp hH => ?_)
  obtain ⟨hr1, hr2⟩ := hp; rw [hr1]; rw [hr2] at hH; clear hr1 hr2
  refine og_putI OX12 X hq hH 0 (by decide) rfl kF_X12_248 rfl rfl rfl (dk DX12_leaves_1 20 rfl) (fun H locs hH => ?_)
  obtain ⟨t59, e60⟩ : ∃ y, y = oI t55 0 x57 := ⟨_, rfl⟩
  rw [← e60] at hH
  replace hF := bnd_e hF e60
  refine lv_aload_n X.x X.b (dk DX12_leaves_1 21 rfl) rfl (lv_at hl 0 rfl) ?_
  refine lv_iload X.x X.b (dk DX12_leaves_1 22 rfl) (lv_at hl 2 rfl) ?_
  refine og_putI OX12 X hq hH 1 (by decide) rfl kF_X12_250 rfl rfl rfl (dk DX12_leaves_1 23 rfl) (fun H locs hH => ?_)
  obtain ⟨t61, e62⟩ : ∃ y, y = oI t59 1 v56 := ⟨_, rfl⟩
  rw [← e62] at hH
  replace hF := bnd_e hF e62
  refine lv_iconst (v := 0) X.x X.b (dk DX12_leaves_1 24 rfl) (by decide) ?_
  refine lv_istore (lv' := [(5, .int 0), (0, .ref (q 53)), (2, .long v10), (4, .int v56)]) X.x X.b (dk DX12_leaves_1 25 rfl) hl (by decide) rfl (fun ls hl => ?_)
  replace hl : lv_has ls 10 [(0, .ref (q 53)), (4, .int v56), (5, .int 0)] := lv_sub hl [1, 3, 0] rfl
  obtain ⟨x69, e70, hF⟩ := bd hF
  replace hl : lv_has ls 10 [(0, .ref (q 53)), (4, .int v56), (5, .int 0)] := lv_sub hl [0, 1, 2] rfl
  refine w_X12_leaves_170 hq X v56 _ _ e70 _ _ _ hH hl (fun H locs ls hH hl => ?_)
  cases sm hF
  exact mr_vret X hr hlk hH rfl (dk DX12_leaves_1 39 rfl)
-- X12_left
abbrev rm_X12_left : Room := { frames := 4, cells := 0, slots := 0, locals := 96 }
theorem hd_X12_left : mHd yX12_left 1 := ⟨by decide +kernel, by decide +kernel, by decide +kernel⟩
theorem DX12_left_0 : ∀ t ∈ ([(0, .aload_n 0, 1), (1, .iconst 0, 1), (2, .putfield 106, 3), (5, .aload_n 0, 1), (6, .iload_n 1, 1), (7, .invokevirtual 266, 3), (10, .ifCond .ne 9, 3), (13, .aload_n 0, 1), (14, .iconst 1, 1), (15, .invokevirtual 236, 3), (18, .ireturn, 1), (19, .aload_n 0, 1), (20, .iload_n 1, 1), (21, .invokevirtual 429, 3), (24, .aload_n 0, 1), (25, .getfield 248, 3), (28, .ireturn, 1)] : List (Nat × Instr × Nat)), decode cX12_left t.1 = .ok (t.2.1, t.2.2) := by decide +kernel
noncomputable def f_X12_left (st : OS) (a0 : Int32) : Option (Int32 × OS) := bnd (oI st 2 0) (fun t1 => (f_X12_isPoint t1 a0).bind (fun x3 => (if x3 = 0 then (f_X12_fails t1 1).bind (fun x8 => match x8 with | (v11, t10) => some ((v11, t10))) else (f_X12_leaves t1 a0).bind (fun x6 => some ((x6.1 0, x6))))))
set_option maxHeartbeats 4000000 in
set_option maxRecDepth 100000 in
theorem c_X12_left {l : Launch} {G : mG} {h : mM} {q : Nat → Nat} (hq : oinj LX12 q) {st : OS} {a0 : Int32} {x : Int32 × OS} (hF : f_X12_left st a0 = some x) : cQ l G yX12_left cX12_left 2 (some FieldType.int) rm_X12_left [.ref (q 53), .int a0] (oset LX12 G q st h) (mQi G (fun r h1 => r = x.1 ∧ h1 = oset LX12 G q x.2 h)) := by
  refine mp_of (by decide +kernel) (Nat.le_of_ble_eq_true rfl) ?_
  intro p e s m below meth c X hr hlk hH hname ls hl
  dsimp only [f_X12_left] at hF
  replace hl : lv_has ls 2 [(0, .ref (q 53)), (1, .int a0)] := hl
  refine lv_aload_n X.x X.b (dk DX12_left_0 0 rfl) rfl (lv_at hl 0 rfl) ?_
  refine lv_iconst (v := 0) X.x X.b (dk DX12_left_0 1 rfl) (by decide) ?_
  refine og_putI OX12 X hq hH 2 (by decide) rfl kF_X12_106 rfl rfl rfl (dk DX12_left_0 2 rfl) (fun H locs hH => ?_)
  obtain ⟨t1, e2⟩ : ∃ y, y = oI st 2 0 := ⟨_, rfl⟩
  rw [← e2] at hH
  replace hF := bnd_e hF e2
  refine lv_aload_n X.x X.b (dk DX12_left_0 3 rfl) rfl (lv_at hl 0 rfl) ?_
  refine lv_iload_n X.x X.b (dk DX12_left_0 4 rfl) rfl (lv_at hl 1 rfl) ?_
  obtain ⟨x3, e4, hF⟩ := bd hF
  refine mr_ci0 hH ⟨rfl, rfl⟩ (mr_runV (As := [.int a0]) (rest := []) X hH (c_X12_isPoint hq e4) ((oset_at hq (Nat.le_refl _) ohas_N).trans (congrArg some ocell_N)) OX12.1 kM_X12_266 kI_X12_isPoint kS_X12_isPoint kN_X12 kC_X12_isPoint hd_X12_isPoint ⟨Nat.le_of_ble_eq_true rfl, Nat.le_of_ble_eq_true rfl⟩ rfl hl.1 (Nat.le_of_ble_eq_true rfl) (dk DX12_left_0 5 rfl) ⟨Nat.zero_le _, Nat.zero_le _⟩) (fun r h1 H locs hp hH => ?_)
  obtain ⟨hr1, hr2⟩ := hp; rw [hr1]; rw [hr2] at hH; clear hr1 hr2
  refine lv_if_ne (tgt := 19) X.x X.b (dk DX12_left_0 6 rfl) (by decide) (fun c5 => ?_) (fun c5 => ?_)
  · replace hF := if_f hF c5
    refine lv_aload_n X.x X.b (dk DX12_left_0 11 rfl) rfl (lv_at hl 0 rfl) ?_
    refine lv_iload_n X.x X.b (dk DX12_left_0 12 rfl) rfl (lv_at hl 1 rfl) ?_
    obtain ⟨x6, e7, hF⟩ := bd hF
    refine mr_cv0 hH ⟨rfl, rfl⟩ (mr_runV (As := [.int a0]) (rest := []) X hH (c_X12_leaves hq e7) ((oset_at hq (Nat.le_refl _) ohas_N).trans (congrArg some ocell_N)) OX12.1 kM_X12_429 kI_X12_leaves kS_X12_leaves kN_X12 kC_X12_leaves hd_X12_leaves ⟨Nat.le_of_ble_eq_true rfl, Nat.le_of_ble_eq_true rfl⟩ rfl hl.1 (Nat.le_of_ble_eq_true rfl) (dk DX12_left_0 13 rfl) ⟨Nat.zero_le _, Nat.zero_le _⟩) (fun h1 H locs hp hH => ?_)
    rw [hp] at hH; clear hp
    refine lv_aload_n X.x X.b (dk DX12_left_0 14 rfl) rfl (lv_at hl 0 rfl) ?_
    refine og_getI OX12 X hq hH 0 (by decide) rfl kF_X12_248 (dk DX12_left_0 15 rfl) ?_
    cases sm hF
    exact mr_iret X hr hlk hH ⟨rfl, rfl⟩ (dk DX12_left_0 16 rfl)
  · replace hF := if_t hF c5
    refine lv_aload_n X.x X.b (dk DX12_left_0 7 rfl) rfl (lv_at hl 0 rfl) ?_
    refine lv_iconst (v := 1) X.x X.b (dk DX12_left_0 8 rfl) (by decide) ?_
    obtain ⟨x8, e9, hF⟩ := bd hF
    refine mr_ci0 hH ⟨rfl, rfl⟩ (mr_runV (As := [.int 1]) (rest := []) X hH (c_X12_fails hq e9) ((oset_at hq (Nat.le_refl _) ohas_N).trans (congrArg some ocell_N)) OX12.1 kM_X12_236 kI_X12_fails kS_X12_fails kN_X12 kC_X12_fails hd_X12_fails ⟨Nat.le_of_ble_eq_true rfl, Nat.le_of_ble_eq_true rfl⟩ rfl hl.1 (Nat.le_of_ble_eq_true rfl) (dk DX12_left_0 9 rfl) ⟨Nat.zero_le _, Nat.zero_le _⟩) (fun r h1 H locs hp hH => ?_)
    obtain ⟨hr1, hr2⟩ := hp; rw [hr1]; rw [hr2] at hH; clear hr1 hr2
    obtain ⟨v11, t10⟩ := x8
    try dsimp only at hF hH ⊢
    cases sm hF
    exact mr_iret X hr hlk hH ⟨rfl, rfl⟩ (dk DX12_left_0 10 rfl)
-- X12_undoes
abbrev rm_X12_undoes : Room := { frames := 1, cells := 0, slots := 0, locals := 25 }
theorem hd_X12_undoes : mHd yX12_undoes 0 := ⟨by decide +kernel, by decide +kernel, by decide +kernel⟩
theorem DX12_undoes_0 : ∀ t ∈ ([(0, .aload_n 0, 1), (1, .getfield 253, 3), (4, .ifCond .ne 5, 3), (7, .iconst 0, 1), (8, .ireturn, 1), (9, .aload_n 0, 1), (10, .aload_n 0, 1), (11, .getfield 69, 3), (14, .aload_n 0, 1), (15, .getfield 78, 3), (18, .aload_n 0, 1), (19, .getfield 81, 3), (22, .aload_n 0, 1), (23, .getfield 256, 3), (26, .invokevirtual 410, 3), (29, .aload_n 0, 1), (30, .dup, 1), (31, .getfield 256, 3), (34, .iconst 1, 1), (35, .iadd, 1), (36, .putfield 256, 3), (39, .aload_n 0, 1), (40, .dup, 1), (41, .getfield 253, 3), (44, .iconst 1, 1), (45, .isub, 1), (46, .putfield 253, 3), (49, .aload_n 0, 1), (50, .aload_n 0, 1), (51, .getfield 66, 3), (54, .aload_n 0, 1), (55, .getfield 72, 3), (58, .aload_n 0, 1), (59, .getfield 75, 3), (62, .aload_n 0, 1), (63, .getfield 253, 3), (66, .invokevirtual 432, 3), (69, .iconst 1, 1), (70, .ireturn, 1)] : List (Nat × Instr × Nat)), decode cX12_undoes t.1 = .ok (t.2.1, t.2.2) := by decide +kernel
noncomputable def f_X12_undoes (st : OS) : Option (Int32 × OS) := (if (st.1 44) = 0 then some ((0, st)) else (f_X12_keeps st 39 1280 42 20 43 20 (st.1 45)).bind (fun x2 => bnd (oI x2 45 ((x2.1 45) + 1)) (fun t4 => bnd (oI t4 44 ((t4.1 44) - 1)) (fun t6 => (f_X12_takes t6 38 1280 40 20 41 20 (t6.1 44)).bind (fun x8 => some ((1, x8)))))))
set_option maxHeartbeats 4000000 in
set_option maxRecDepth 100000 in
theorem c_X12_undoes {l : Launch} {G : mG} {h : mM} {q : Nat → Nat} (hq : oinj LX12 q) {st : OS} {x : Int32 × OS} (hF : f_X12_undoes st = some x) : cQ l G yX12_undoes cX12_undoes 1 (some FieldType.boolean) rm_X12_undoes [.ref (q 53)] (oset LX12 G q st h) (mQi G (fun r h1 => r = x.1 ∧ h1 = oset LX12 G q x.2 h)) := by
  refine mp_of (by decide +kernel) (Nat.le_of_ble_eq_true rfl) ?_
  intro p e s m below meth c X hr hlk hH hname ls hl
  dsimp only [f_X12_undoes] at hF
  replace hl : lv_has ls 1 [(0, .ref (q 53))] := hl
  refine lv_aload_n X.x X.b (dk DX12_undoes_0 0 rfl) rfl (lv_at hl 0 rfl) ?_
  refine og_getI OX12 X hq hH 44 (by decide) rfl kF_X12_253 (dk DX12_undoes_0 1 rfl) ?_
  refine lv_if_ne (tgt := 9) X.x X.b (dk DX12_undoes_0 2 rfl) (by decide) (fun c1 => ?_) (fun c1 => ?_)
  · replace hF := if_f hF c1
    refine lv_aload_n X.x X.b (dk DX12_undoes_0 5 rfl) rfl (lv_at hl 0 rfl) ?_
    refine lv_aload_n X.x X.b (dk DX12_undoes_0 6 rfl) rfl (lv_at hl 0 rfl) ?_
    refine og_getR (t := 1) OX12 X hq hH 39 (by decide) rfl kF_X12_69 (dk DX12_undoes_0 7 rfl) ?_
    refine lv_aload_n X.x X.b (dk DX12_undoes_0 8 rfl) rfl (lv_at hl 0 rfl) ?_
    refine og_getR (t := 0) OX12 X hq hH 42 (by decide) rfl kF_X12_78 (dk DX12_undoes_0 9 rfl) ?_
    refine lv_aload_n X.x X.b (dk DX12_undoes_0 10 rfl) rfl (lv_at hl 0 rfl) ?_
    refine og_getR (t := 0) OX12 X hq hH 43 (by decide) rfl kF_X12_81 (dk DX12_undoes_0 11 rfl) ?_
    refine lv_aload_n X.x X.b (dk DX12_undoes_0 12 rfl) rfl (lv_at hl 0 rfl) ?_
    refine og_getI OX12 X hq hH 45 (by decide) rfl kF_X12_256 (dk DX12_undoes_0 13 rfl) ?_
    obtain ⟨x2, e3, hF⟩ := bd hF
    refine mr_cv0 hH ⟨rfl, rfl⟩ (mr_runV (As := [.ref (q 39), .ref (q 42), .ref (q 43), .int (st.1 45)]) (rest := []) X hH (c_X12_keeps hq (by decide) rfl (by decide) rfl (by decide) rfl e3) ((oset_at hq (Nat.le_refl _) ohas_N).trans (congrArg some ocell_N)) OX12.1 kM_X12_410 kI_X12_keeps kS_X12_keeps kN_X12 kC_X12_keeps hd_X12_keeps ⟨Nat.le_of_ble_eq_true rfl, Nat.le_of_ble_eq_true rfl⟩ rfl hl.1 (Nat.le_of_ble_eq_true rfl) (dk DX12_undoes_0 14 rfl) ⟨Nat.zero_le _, Nat.zero_le _⟩) (fun h1 H locs hp hH => ?_)
    rw [hp] at hH; clear hp
    refine lv_aload_n X.x X.b (dk DX12_undoes_0 15 rfl) rfl (lv_at hl 0 rfl) ?_
    refine lv_dup X.x X.b (dk DX12_undoes_0 16 rfl) rfl ?_
    refine og_getI OX12 X hq hH 45 (by decide) rfl kF_X12_256 (dk DX12_undoes_0 17 rfl) ?_
    refine lv_iconst (v := 1) X.x X.b (dk DX12_undoes_0 18 rfl) (by decide) ?_
    refine lv_iadd X.x X.b (dk DX12_undoes_0 19 rfl) ?_
    refine og_putI OX12 X hq hH 45 (by decide) rfl kF_X12_256 rfl rfl rfl (dk DX12_undoes_0 20 rfl) (fun H locs hH => ?_)
    obtain ⟨t4, e5⟩ : ∃ y, y = oI x2 45 ((x2.1 45) + 1) := ⟨_, rfl⟩
    rw [← e5] at hH
    replace hF := bnd_e hF e5
    refine lv_aload_n X.x X.b (dk DX12_undoes_0 21 rfl) rfl (lv_at hl 0 rfl) ?_
    refine lv_dup X.x X.b (dk DX12_undoes_0 22 rfl) rfl ?_
    refine og_getI OX12 X hq hH 44 (by decide) rfl kF_X12_253 (dk DX12_undoes_0 23 rfl) ?_
    refine lv_iconst (v := 1) X.x X.b (dk DX12_undoes_0 24 rfl) (by decide) ?_
    refine lv_isub X.x X.b (dk DX12_undoes_0 25 rfl) ?_
    refine og_putI OX12 X hq hH 44 (by decide) rfl kF_X12_253 rfl rfl rfl (dk DX12_undoes_0 26 rfl) (fun H locs hH => ?_)
    obtain ⟨t6, e7⟩ : ∃ y, y = oI t4 44 ((t4.1 44) - 1) := ⟨_, rfl⟩
    rw [← e7] at hH
    replace hF := bnd_e hF e7
    refine lv_aload_n X.x X.b (dk DX12_undoes_0 27 rfl) rfl (lv_at hl 0 rfl) ?_
    refine lv_aload_n X.x X.b (dk DX12_undoes_0 28 rfl) rfl (lv_at hl 0 rfl) ?_
    refine og_getR (t := 1) OX12 X hq hH 38 (by decide) rfl kF_X12_66 (dk DX12_undoes_0 29 rfl) ?_
    refine lv_aload_n X.x X.b (dk DX12_undoes_0 30 rfl) rfl (lv_at hl 0 rfl) ?_
    refine og_getR (t := 0) OX12 X hq hH 40 (by decide) rfl kF_X12_72 (dk DX12_undoes_0 31 rfl) ?_
    refine lv_aload_n X.x X.b (dk DX12_undoes_0 32 rfl) rfl (lv_at hl 0 rfl) ?_
    refine og_getR (t := 0) OX12 X hq hH 41 (by decide) rfl kF_X12_75 (dk DX12_undoes_0 33 rfl) ?_
    refine lv_aload_n X.x X.b (dk DX12_undoes_0 34 rfl) rfl (lv_at hl 0 rfl) ?_
    refine og_getI OX12 X hq hH 44 (by decide) rfl kF_X12_253 (dk DX12_undoes_0 35 rfl) ?_
    obtain ⟨x8, e9, hF⟩ := bd hF
    refine mr_cv0 hH ⟨rfl, rfl⟩ (mr_runV (As := [.ref (q 38), .ref (q 40), .ref (q 41), .int (t6.1 44)]) (rest := []) X hH (c_X12_takes hq (by decide) rfl (by decide) rfl (by decide) rfl e9) ((oset_at hq (Nat.le_refl _) ohas_N).trans (congrArg some ocell_N)) OX12.1 kM_X12_432 kI_X12_takes kS_X12_takes kN_X12 kC_X12_takes hd_X12_takes ⟨Nat.le_of_ble_eq_true rfl, Nat.le_of_ble_eq_true rfl⟩ rfl hl.1 (Nat.le_of_ble_eq_true rfl) (dk DX12_undoes_0 36 rfl) ⟨Nat.zero_le _, Nat.zero_le _⟩) (fun h1 H locs hp hH => ?_)
    rw [hp] at hH; clear hp
    refine lv_iconst (v := 1) X.x X.b (dk DX12_undoes_0 37 rfl) (by decide) ?_
    cases sm hF
    exact mr_zret X hr hlk hH rfl ⟨rfl, rfl⟩ (dk DX12_undoes_0 38 rfl)
  · replace hF := if_t hF c1
    refine lv_iconst (v := 0) X.x X.b (dk DX12_undoes_0 3 rfl) (by decide) ?_
    cases sm hF
    exact mr_zret X hr hlk hH rfl ⟨rfl, rfl⟩ (dk DX12_undoes_0 4 rfl)
-- X12_doesAgain
abbrev rm_X12_doesAgain : Room := { frames := 2, cells := 0, slots := 0, locals := 47 }
theorem hd_X12_doesAgain : mHd yX12_doesAgain 0 := ⟨by decide +kernel, by decide +kernel, by decide +kernel⟩
theorem DX12_doesAgain_0 : ∀ t ∈ ([(0, .aload_n 0, 1), (1, .getfield 256, 3), (4, .ifCond .ne 5, 3), (7, .iconst 0, 1), (8, .ireturn, 1), (9, .aload_n 0, 1), (10, .invokevirtual 414, 3), (13, .aload_n 0, 1), (14, .dup, 1), (15, .getfield 256, 3), (18, .iconst 1, 1), (19, .isub, 1), (20, .putfield 256, 3), (23, .aload_n 0, 1), (24, .aload_n 0, 1), (25, .getfield 69, 3), (28, .aload_n 0, 1), (29, .getfield 78, 3), (32, .aload_n 0, 1), (33, .getfield 81, 3), (36, .aload_n 0, 1), (37, .getfield 256, 3), (40, .invokevirtual 432, 3), (43, .iconst 1, 1), (44, .ireturn, 1)] : List (Nat × Instr × Nat)), decode cX12_doesAgain t.1 = .ok (t.2.1, t.2.2) := by decide +kernel
noncomputable def f_X12_doesAgain (st : OS) : Option (Int32 × OS) := (if (st.1 45) = 0 then some ((0, st)) else (f_X12_notes st).bind (fun x2 => bnd (oI x2 45 ((x2.1 45) - 1)) (fun t4 => (f_X12_takes t4 39 1280 42 20 43 20 (t4.1 45)).bind (fun x6 => some ((1, x6))))))
set_option maxHeartbeats 4000000 in
set_option maxRecDepth 100000 in
theorem c_X12_doesAgain {l : Launch} {G : mG} {h : mM} {q : Nat → Nat} (hq : oinj LX12 q) {st : OS} {x : Int32 × OS} (hF : f_X12_doesAgain st = some x) : cQ l G yX12_doesAgain cX12_doesAgain 1 (some FieldType.boolean) rm_X12_doesAgain [.ref (q 53)] (oset LX12 G q st h) (mQi G (fun r h1 => r = x.1 ∧ h1 = oset LX12 G q x.2 h)) := by
  refine mp_of (by decide +kernel) (Nat.le_of_ble_eq_true rfl) ?_
  intro p e s m below meth c X hr hlk hH hname ls hl
  dsimp only [f_X12_doesAgain] at hF
  replace hl : lv_has ls 1 [(0, .ref (q 53))] := hl
  refine lv_aload_n X.x X.b (dk DX12_doesAgain_0 0 rfl) rfl (lv_at hl 0 rfl) ?_
  refine og_getI OX12 X hq hH 45 (by decide) rfl kF_X12_256 (dk DX12_doesAgain_0 1 rfl) ?_
  refine lv_if_ne (tgt := 9) X.x X.b (dk DX12_doesAgain_0 2 rfl) (by decide) (fun c1 => ?_) (fun c1 => ?_)
  · replace hF := if_f hF c1
    refine lv_aload_n X.x X.b (dk DX12_doesAgain_0 5 rfl) rfl (lv_at hl 0 rfl) ?_
    obtain ⟨x2, e3, hF⟩ := bd hF
    refine mr_cv0 hH ⟨rfl, rfl⟩ (mr_runV (As := []) (rest := []) X hH (c_X12_notes hq e3) ((oset_at hq (Nat.le_refl _) ohas_N).trans (congrArg some ocell_N)) OX12.1 kM_X12_414 kI_X12_notes kS_X12_notes kN_X12 kC_X12_notes hd_X12_notes ⟨Nat.le_of_ble_eq_true rfl, Nat.le_of_ble_eq_true rfl⟩ rfl hl.1 (Nat.le_of_ble_eq_true rfl) (dk DX12_doesAgain_0 6 rfl) ⟨Nat.zero_le _, Nat.zero_le _⟩) (fun h1 H locs hp hH => ?_)
    rw [hp] at hH; clear hp
    refine lv_aload_n X.x X.b (dk DX12_doesAgain_0 7 rfl) rfl (lv_at hl 0 rfl) ?_
    refine lv_dup X.x X.b (dk DX12_doesAgain_0 8 rfl) rfl ?_
    refine og_getI OX12 X hq hH 45 (by decide) rfl kF_X12_256 (dk DX12_doesAgain_0 9 rfl) ?_
    refine lv_iconst (v := 1) X.x X.b (dk DX12_doesAgain_0 10 rfl) (by decide) ?_
    refine lv_isub X.x X.b (dk DX12_doesAgain_0 11 rfl) ?_
    refine og_putI OX12 X hq hH 45 (by decide) rfl kF_X12_256 rfl rfl rfl (dk DX12_doesAgain_0 12 rfl) (fun H locs hH => ?_)
    obtain ⟨t4, e5⟩ : ∃ y, y = oI x2 45 ((x2.1 45) - 1) := ⟨_, rfl⟩
    rw [← e5] at hH
    replace hF := bnd_e hF e5
    refine lv_aload_n X.x X.b (dk DX12_doesAgain_0 13 rfl) rfl (lv_at hl 0 rfl) ?_
    refine lv_aload_n X.x X.b (dk DX12_doesAgain_0 14 rfl) rfl (lv_at hl 0 rfl) ?_
    refine og_getR (t := 1) OX12 X hq hH 39 (by decide) rfl kF_X12_69 (dk DX12_doesAgain_0 15 rfl) ?_
    refine lv_aload_n X.x X.b (dk DX12_doesAgain_0 16 rfl) rfl (lv_at hl 0 rfl) ?_
    refine og_getR (t := 0) OX12 X hq hH 42 (by decide) rfl kF_X12_78 (dk DX12_doesAgain_0 17 rfl) ?_
    refine lv_aload_n X.x X.b (dk DX12_doesAgain_0 18 rfl) rfl (lv_at hl 0 rfl) ?_
    refine og_getR (t := 0) OX12 X hq hH 43 (by decide) rfl kF_X12_81 (dk DX12_doesAgain_0 19 rfl) ?_
    refine lv_aload_n X.x X.b (dk DX12_doesAgain_0 20 rfl) rfl (lv_at hl 0 rfl) ?_
    refine og_getI OX12 X hq hH 45 (by decide) rfl kF_X12_256 (dk DX12_doesAgain_0 21 rfl) ?_
    obtain ⟨x6, e7, hF⟩ := bd hF
    refine mr_cv0 hH ⟨rfl, rfl⟩ (mr_runV (As := [.ref (q 39), .ref (q 42), .ref (q 43), .int (t4.1 45)]) (rest := []) X hH (c_X12_takes hq (by decide) rfl (by decide) rfl (by decide) rfl e7) ((oset_at hq (Nat.le_refl _) ohas_N).trans (congrArg some ocell_N)) OX12.1 kM_X12_432 kI_X12_takes kS_X12_takes kN_X12 kC_X12_takes hd_X12_takes ⟨Nat.le_of_ble_eq_true rfl, Nat.le_of_ble_eq_true rfl⟩ rfl hl.1 (Nat.le_of_ble_eq_true rfl) (dk DX12_doesAgain_0 22 rfl) ⟨Nat.zero_le _, Nat.zero_le _⟩) (fun h1 H locs hp hH => ?_)
    rw [hp] at hH; clear hp
    refine lv_iconst (v := 1) X.x X.b (dk DX12_doesAgain_0 23 rfl) (by decide) ?_
    cases sm hF
    exact mr_zret X hr hlk hH rfl ⟨rfl, rfl⟩ (dk DX12_doesAgain_0 24 rfl)
  · replace hF := if_t hF c1
    refine lv_iconst (v := 0) X.x X.b (dk DX12_doesAgain_0 3 rfl) (by decide) ?_
    cases sm hF
    exact mr_zret X hr hlk hH rfl ⟨rfl, rfl⟩ (dk DX12_doesAgain_0 4 rfl)
-- X12_undo
abbrev rm_X12_undo : Room := { frames := 2, cells := 0, slots := 0, locals := 45 }
theorem hd_X12_undo : mHd yX12_undo 0 := ⟨by decide +kernel, by decide +kernel, by decide +kernel⟩
theorem DX12_undo_0 : ∀ t ∈ ([(0, .aload_n 0, 1), (1, .iconst 0, 1), (2, .putfield 106, 3), (5, .aload_n 0, 1), (6, .invokevirtual 435, 3), (9, .ireturn, 1)] : List (Nat × Instr × Nat)), decode cX12_undo t.1 = .ok (t.2.1, t.2.2) := by decide +kernel
noncomputable def f_X12_undo (st : OS) : Option (Int32 × OS) := bnd (oI st 2 0) (fun t1 => (f_X12_undoes t1).bind (fun x3 => match x3 with | (v6, t5) => if isb v6 = true then some ((v6, t5)) else none))
set_option maxHeartbeats 4000000 in
set_option maxRecDepth 100000 in
theorem c_X12_undo {l : Launch} {G : mG} {h : mM} {q : Nat → Nat} (hq : oinj LX12 q) {st : OS} {x : Int32 × OS} (hF : f_X12_undo st = some x) : cQ l G yX12_undo cX12_undo 1 (some FieldType.boolean) rm_X12_undo [.ref (q 53)] (oset LX12 G q st h) (mQi G (fun r h1 => r = x.1 ∧ h1 = oset LX12 G q x.2 h)) := by
  refine mp_of (by decide +kernel) (Nat.le_of_ble_eq_true rfl) ?_
  intro p e s m below meth c X hr hlk hH hname ls hl
  dsimp only [f_X12_undo] at hF
  replace hl : lv_has ls 1 [(0, .ref (q 53))] := hl
  refine lv_aload_n X.x X.b (dk DX12_undo_0 0 rfl) rfl (lv_at hl 0 rfl) ?_
  refine lv_iconst (v := 0) X.x X.b (dk DX12_undo_0 1 rfl) (by decide) ?_
  refine og_putI OX12 X hq hH 2 (by decide) rfl kF_X12_106 rfl rfl rfl (dk DX12_undo_0 2 rfl) (fun H locs hH => ?_)
  obtain ⟨t1, e2⟩ : ∃ y, y = oI st 2 0 := ⟨_, rfl⟩
  rw [← e2] at hH
  replace hF := bnd_e hF e2
  refine lv_aload_n X.x X.b (dk DX12_undo_0 3 rfl) rfl (lv_at hl 0 rfl) ?_
  obtain ⟨x3, e4, hF⟩ := bd hF
  refine mr_ci0 hH ⟨rfl, rfl⟩ (mr_runV (As := []) (rest := []) X hH (c_X12_undoes hq e4) ((oset_at hq (Nat.le_refl _) ohas_N).trans (congrArg some ocell_N)) OX12.1 kM_X12_435 kI_X12_undoes kS_X12_undoes kN_X12 kC_X12_undoes hd_X12_undoes ⟨Nat.le_of_ble_eq_true rfl, Nat.le_of_ble_eq_true rfl⟩ rfl hl.1 (Nat.le_of_ble_eq_true rfl) (dk DX12_undo_0 4 rfl) ⟨Nat.zero_le _, Nat.zero_le _⟩) (fun r h1 H locs hp hH => ?_)
  obtain ⟨hr1, hr2⟩ := hp; rw [hr1]; rw [hr2] at hH; clear hr1 hr2
  obtain ⟨v6, t5⟩ := x3
  try dsimp only at hF hH ⊢
  obtain ⟨c7, hF⟩ := gd hF
  cases sm hF
  exact mr_zret X hr hlk hH (isb_nar c7) ⟨rfl, rfl⟩ (dk DX12_undo_0 5 rfl)
-- X12_again
abbrev rm_X12_again : Room := { frames := 3, cells := 0, slots := 0, locals := 67 }
theorem hd_X12_again : mHd yX12_again 0 := ⟨by decide +kernel, by decide +kernel, by decide +kernel⟩
theorem DX12_again_0 : ∀ t ∈ ([(0, .aload_n 0, 1), (1, .iconst 0, 1), (2, .putfield 106, 3), (5, .aload_n 0, 1), (6, .invokevirtual 438, 3), (9, .ireturn, 1)] : List (Nat × Instr × Nat)), decode cX12_again t.1 = .ok (t.2.1, t.2.2) := by decide +kernel
noncomputable def f_X12_again (st : OS) : Option (Int32 × OS) := bnd (oI st 2 0) (fun t1 => (f_X12_doesAgain t1).bind (fun x3 => match x3 with | (v6, t5) => if isb v6 = true then some ((v6, t5)) else none))
set_option maxHeartbeats 4000000 in
set_option maxRecDepth 100000 in
theorem c_X12_again {l : Launch} {G : mG} {h : mM} {q : Nat → Nat} (hq : oinj LX12 q) {st : OS} {x : Int32 × OS} (hF : f_X12_again st = some x) : cQ l G yX12_again cX12_again 1 (some FieldType.boolean) rm_X12_again [.ref (q 53)] (oset LX12 G q st h) (mQi G (fun r h1 => r = x.1 ∧ h1 = oset LX12 G q x.2 h)) := by
  refine mp_of (by decide +kernel) (Nat.le_of_ble_eq_true rfl) ?_
  intro p e s m below meth c X hr hlk hH hname ls hl
  dsimp only [f_X12_again] at hF
  replace hl : lv_has ls 1 [(0, .ref (q 53))] := hl
  refine lv_aload_n X.x X.b (dk DX12_again_0 0 rfl) rfl (lv_at hl 0 rfl) ?_
  refine lv_iconst (v := 0) X.x X.b (dk DX12_again_0 1 rfl) (by decide) ?_
  refine og_putI OX12 X hq hH 2 (by decide) rfl kF_X12_106 rfl rfl rfl (dk DX12_again_0 2 rfl) (fun H locs hH => ?_)
  obtain ⟨t1, e2⟩ : ∃ y, y = oI st 2 0 := ⟨_, rfl⟩
  rw [← e2] at hH
  replace hF := bnd_e hF e2
  refine lv_aload_n X.x X.b (dk DX12_again_0 3 rfl) rfl (lv_at hl 0 rfl) ?_
  obtain ⟨x3, e4, hF⟩ := bd hF
  refine mr_ci0 hH ⟨rfl, rfl⟩ (mr_runV (As := []) (rest := []) X hH (c_X12_doesAgain hq e4) ((oset_at hq (Nat.le_refl _) ohas_N).trans (congrArg some ocell_N)) OX12.1 kM_X12_438 kI_X12_doesAgain kS_X12_doesAgain kN_X12 kC_X12_doesAgain hd_X12_doesAgain ⟨Nat.le_of_ble_eq_true rfl, Nat.le_of_ble_eq_true rfl⟩ rfl hl.1 (Nat.le_of_ble_eq_true rfl) (dk DX12_again_0 4 rfl) ⟨Nat.zero_le _, Nat.zero_le _⟩) (fun r h1 H locs hp hH => ?_)
  obtain ⟨hr1, hr2⟩ := hp; rw [hr1]; rw [hr2] at hH; clear hr1 hr2
  obtain ⟨v6, t5⟩ := x3
  try dsimp only at hF hH ⊢
  obtain ⟨c7, hF⟩ := gd hF
  cases sm hF
  exact mr_zret X hr hlk hH (isb_nar c7) ⟨rfl, rfl⟩ (dk DX12_again_0 5 rfl)
-- X12_does
abbrev rm_X12_does : Room := { frames := 4, cells := 0, slots := 0, locals := 96 }
theorem hd_X12_does : mHd yX12_does 2 := ⟨by decide +kernel, by decide +kernel, by decide +kernel⟩
theorem DX12_does_0 : ∀ t ∈ ([(0, .aload_n 0, 1), (1, .getfield 90, 3), (4, .bipush 40, 2), (6, .iload_n 1, 1), (7, .imul, 1), (8, .iload_n 2, 1), (9, .iadd, 1), (10, .laload, 1), (11, .lstore_n 3, 1), (12, .iload_n 2, 1), (13, .iconst 1, 1), (14, .iadd, 1), (15, .aload_n 0, 1), (16, .getfield 87, 3), (19, .iload_n 1, 1), (20, .iaload, 1), (21, .if_icmp .ge 19, 3), (24, .aload_n 0, 1), (25, .getfield 90, 3), (28, .bipush 40, 2), (30, .iload_n 1, 1), (31, .imul, 1), (32, .iload_n 2, 1), (33, .iadd, 1), (34, .iconst 1, 1), (35, .iadd, 1), (36, .laload, 1), (37, .goto 6, 3), (40, .ldc2_w 109, 3), (43, .lstore 5, 2), (45, .lload_n 3, 1), (46, .ldc2_w 109, 3), (49, .lcmp, 1), (50, .ifCond .ne 115, 3), (53, .lconst 0, 1), (54, .lstore 7, 2), (56, .iload_n 2, 1), (57, .iconst 1, 1), (58, .iadd, 1), (59, .istore 9, 2), (61, .iload 9, 2), (63, .aload_n 0, 1), (64, .getfield 87, 3), (67, .iload_n 1, 1), (68, .iaload, 1), (69, .if_icmp .ge 70, 3), (72, .aload_n 0, 1), (73, .getfield 90, 3), (76, .bipush 40, 2), (78, .iload_n 1, 1), (79, .imul, 1), (80, .iload 9, 2), (82, .iadd, 1), (83, .laload, 1), (84, .lconst 0, 1), (85, .lcmp, 1), (86, .ifCond .lt 53, 3), (89, .aload_n 0, 1), (90, .getfield 90, 3), (93, .bipush 40, 2)] : List (Nat × Instr × Nat)), decode cX12_does t.1 = .ok (t.2.1, t.2.2) := by decide +kernel
theorem DX12_does_1 : ∀ t ∈ ([(95, .iload_n 1, 1), (96, .imul, 1), (97, .iload 9, 2), (99, .iadd, 1), (100, .laload, 1), (101, .aload_n 0, 1), (102, .getfield 248, 3), (105, .i2l, 1), (106, .lcmp, 1), (107, .ifCond .lt 5, 3), (110, .iconst (-1), 1), (111, .ireturn, 1), (112, .lload 7, 2), (114, .aload_n 0, 1), (115, .getfield 90, 3), (118, .bipush 40, 2), (120, .iload_n 1, 1), (121, .imul, 1), (122, .iload 9, 2), (124, .iadd, 1), (125, .laload, 1), (126, .l2i, 1), (127, .invokestatic 111, 3), (130, .lor, 1), (131, .lstore 7, 2), (133, .iinc 9 1, 3), (136, .goto (-75), 3), (139, .lload 7, 2), (141, .invokestatic 283, 3), (144, .iconst 2, 1), (145, .if_icmp .lt 13, 3), (148, .aload_n 0, 1), (149, .lload 7, 2), (151, .invokevirtual 420, 3), (154, .iconst (-1), 1), (155, .if_icmp .ne 7, 3), (158, .iconst (-1), 1), (159, .goto 5, 3), (162, .iload 9, 2), (164, .ireturn, 1), (165, .lload_n 3, 1), (166, .ldc2_w 332, 3), (169, .lcmp, 1), (170, .ifCond .ne 33, 3), (173, .lload 5, 2), (175, .lconst 0, 1), (176, .aload_n 0, 1), (177, .getfield 250, 3), (180, .iconst 1, 1), (181, .isub, 1), (182, .i2l, 1), (183, .invokestatic 171, 3), (186, .ifCond .ne 5, 3), (189, .iconst (-1), 1), (190, .ireturn, 1), (191, .aload_n 0, 1), (192, .lload 5, 2), (194, .l2i, 1), (195, .invokevirtual 423, 3), (198, .pop2, 1)] : List (Nat × Instr × Nat)), decode cX12_does t.1 = .ok (t.2.1, t.2.2) := by decide +kernel
theorem DX12_does_2 : ∀ t ∈ ([(199, .iload_n 2, 1), (200, .iconst 2, 1), (201, .iadd, 1), (202, .ireturn, 1), (203, .lload_n 3, 1), (204, .ldc2_w 441, 3), (207, .lcmp, 1), (208, .ifCond .ne 32, 3), (211, .lload 5, 2), (213, .lconst 0, 1), (214, .aload_n 0, 1), (215, .getfield 248, 3), (218, .iconst 1, 1), (219, .isub, 1), (220, .i2l, 1), (221, .invokestatic 171, 3), (224, .ifCond .ne 5, 3), (227, .iconst (-1), 1), (228, .ireturn, 1), (229, .aload_n 0, 1), (230, .lload 5, 2), (232, .l2i, 1), (233, .invokevirtual 429, 3), (236, .iload_n 2, 1), (237, .iconst 2, 1), (238, .iadd, 1), (239, .ireturn, 1), (240, .lload_n 3, 1), (241, .ldc2_w 443, 3), (244, .lcmp, 1), (245, .ifCond .ne 7, 3), (248, .aload_n 0, 1), (249, .invokevirtual 426, 3), (252, .lload_n 3, 1), (253, .ldc2_w 443, 3), (256, .lcmp, 1), (257, .ifCond .eq 33, 3), (260, .lload_n 3, 1), (261, .ldc2_w 445, 3), (264, .lcmp, 1), (265, .ifCond .ne 10, 3), (268, .aload_n 0, 1), (269, .invokevirtual 435, 3), (272, .ifCond .ne 18, 3), (275, .lload_n 3, 1), (276, .ldc2_w 447, 3), (279, .lcmp, 1), (280, .ifCond .ne 14, 3), (283, .aload_n 0, 1), (284, .invokevirtual 438, 3), (287, .ifCond .eq 7, 3), (290, .iconst 1, 1), (291, .goto 4, 3), (294, .iconst 0, 1), (295, .istore 7, 2), (297, .iload 7, 2), (299, .ifCond .eq 9, 3), (302, .iload_n 2, 1), (303, .iconst 1, 1), (304, .iadd, 1)] : List (Nat × Instr × Nat)), decode cX12_does t.1 = .ok (t.2.1, t.2.2) := by decide +kernel
theorem DX12_does_3 : ∀ t ∈ ([(305, .goto 4, 3), (308, .iconst (-1), 1), (309, .ireturn, 1)] : List (Nat × Instr × Nat)), decode cX12_does t.1 = .ok (t.2.1, t.2.2) := by decide +kernel
noncomputable def f_X12_does_61 (s0 : OS) (b1 : Int32) : (Int64 × Int32) → Option ((Int64 × Int32) ⊕ (Nat × Int64 × Int32)) := fun z => match z with | (b7, b9) => if inb b1 4 = true then (if (s0.2.2.1 47 (b1 : Int32).toNatClampNeg) ≤ b9 then some (.inr ((1, b7, b9))) else if inb (((40 : Int32) * b1) + b9) 160 = true then (if (lg_cmp (s0.2.2.2 48 (((40 : Int32) * b1) + b9 : Int32).toNatClampNeg) 0) < 0 then some (.inr ((1, b7, b9))) else (if (lg_cmp (s0.2.2.2 48 (((40 : Int32) * b1) + b9 : Int32).toNatClampNeg) ((s0.1 0 : Int32).toInt64)) < 0 then (f_X12_bit ((s0.2.2.2 48 (((40 : Int32) * b1) + b9 : Int32).toNatClampNeg : Int64).toInt32)).bind (fun x85 => bnd (b7 ||| x85 : Int64) (fun v87 => bnd (b9 + 1 : Int32) (fun v89 => some (.inl ((v87, v89)))))) else some (.inr ((0, b7, b9))))) else none) else none
noncomputable def f_X12_does (st : OS) (a0 : Int32) (a1 : Int32) : Option (Int32 × OS) := if inb (((40 : Int32) * a0) + a1) 160 = true then bnd (st.2.2.2 48 (((40 : Int32) * a0) + a1 : Int32).toNatClampNeg : Int64) (fun v2 => if inb a0 4 = true then (if (st.2.2.1 47 (a0 : Int32).toNatClampNeg) ≤ (a1 + 1) then (if (lg_cmp v2 ((-1))) = 0 then bnd (a1 + 1 : Int32) (fun v78 => (lpv (f_X12_does_61 st a0) ((0, v78))).bind (fun x91 => match x91 with | (k95, v93, v94) => (if k95 = 0 then some (((-1), st)) else (f_X12_ones v93).bind (fun x96 => (if x96 < 2 then some (((-1), st)) else (f_X12_adds st v93).bind (fun x99 => match x99 with | (v102, t101) => (if v102 = ((-1)) then some (((-1), t101)) else some ((v94, t101))))))))) else (if (lg_cmp v2 ((-2))) = 0 then (f_X12_within ((-1)) 0 (((st.1 1) - 1 : Int32).toInt64)).bind (fun x71 => (if x71 = 0 then some (((-1), st)) else (f_X12_drops st (((-1) : Int64).toInt32)).bind (fun x74 => match x74 with | (v77, t76) => some ((a1 + 2, t76))))) else (if (lg_cmp v2 ((-4))) = 0 then (f_X12_within ((-1)) 0 (((st.1 0) - 1 : Int32).toInt64)).bind (fun x66 => (if x66 = 0 then some (((-1), st)) else (f_X12_leaves st (((-1) : Int64).toInt32)).bind (fun x69 => some ((a1 + 2, x69))))) else (if (lg_cmp v2 ((-3))) = 0 then (f_X12_duals st).bind (fun x37 => (if (lg_cmp v2 ((-3))) = 0 then (if (1 : Int32) = 0 then some (((-1), x37)) else some ((a1 + 1, x37))) else (if (lg_cmp v2 ((-5))) = 0 then (f_X12_undoes x37).bind (fun x51 => match x51 with | (v54, t53) => (if v54 = 0 then (if (lg_cmp v2 ((-6))) = 0 then (f_X12_doesAgain t53).bind (fun x59 => match x59 with | (v62, t61) => (if v62 = 0 then (if (0 : Int32) = 0 then some (((-1), t61)) else some ((a1 + 1, t61))) else (if (1 : Int32) = 0 then some (((-1), t61)) else some ((a1 + 1, t61))))) else (if (0 : Int32) = 0 then some (((-1), t53)) else some ((a1 + 1, t53)))) else (if (1 : Int32) = 0 then some (((-1), t53)) else some ((a1 + 1, t53))))) else (if (lg_cmp v2 ((-6))) = 0 then (f_X12_doesAgain x37).bind (fun x44 => match x44 with | (v47, t46) => (if v47 = 0 then (if (0 : Int32) = 0 then some (((-1), t46)) else some ((a1 + 1, t46))) else (if (1 : Int32) = 0 then some (((-1), t46)) else some ((a1 + 1, t46))))) else (if (0 : Int32) = 0 then some (((-1), x37)) else some ((a1 + 1, x37))))))) else (if (lg_cmp v2 ((-3))) = 0 then (if (1 : Int32) = 0 then some (((-1), st)) else some ((a1 + 1, st))) else (if (lg_cmp v2 ((-5))) = 0 then (f_X12_undoes st).bind (fun x22 => match x22 with | (v25, t24) => (if v25 = 0 then (if (lg_cmp v2 ((-6))) = 0 then (f_X12_doesAgain t24).bind (fun x30 => match x30 with | (v33, t32) => (if v33 = 0 then (if (0 : Int32) = 0 then some (((-1), t32)) else some ((a1 + 1, t32))) else (if (1 : Int32) = 0 then some (((-1), t32)) else some ((a1 + 1, t32))))) else (if (0 : Int32) = 0 then some (((-1), t24)) else some ((a1 + 1, t24)))) else (if (1 : Int32) = 0 then some (((-1), t24)) else some ((a1 + 1, t24))))) else (if (lg_cmp v2 ((-6))) = 0 then (f_X12_doesAgain st).bind (fun x15 => match x15 with | (v18, t17) => (if v18 = 0 then (if (0 : Int32) = 0 then some (((-1), t17)) else some ((a1 + 1, t17))) else (if (1 : Int32) = 0 then some (((-1), t17)) else some ((a1 + 1, t17))))) else (if (0 : Int32) = 0 then some (((-1), st)) else some ((a1 + 1, st)))))))))) else if inb ((((40 : Int32) * a0) + a1) + 1) 160 = true then bnd (st.2.2.2 48 ((((40 : Int32) * a0) + a1) + 1 : Int32).toNatClampNeg : Int64) (fun v105 => (if (lg_cmp v2 ((-1))) = 0 then bnd (a1 + 1 : Int32) (fun v179 => (lpv (f_X12_does_61 st a0) ((0, v179))).bind (fun x181 => match x181 with | (k185, v183, v184) => (if k185 = 0 then some (((-1), st)) else (f_X12_ones v183).bind (fun x186 => (if x186 < 2 then some (((-1), st)) else (f_X12_adds st v183).bind (fun x189 => match x189 with | (v192, t191) => (if v192 = ((-1)) then some (((-1), t191)) else some ((v184, t191))))))))) else (if (lg_cmp v2 ((-2))) = 0 then (f_X12_within v105 0 (((st.1 1) - 1 : Int32).toInt64)).bind (fun x172 => (if x172 = 0 then some (((-1), st)) else (f_X12_drops st ((v105 : Int64).toInt32)).bind (fun x175 => match x175 with | (v178, t177) => some ((a1 + 2, t177))))) else (if (lg_cmp v2 ((-4))) = 0 then (f_X12_within v105 0 (((st.1 0) - 1 : Int32).toInt64)).bind (fun x167 => (if x167 = 0 then some (((-1), st)) else (f_X12_leaves st ((v105 : Int64).toInt32)).bind (fun x170 => some ((a1 + 2, x170))))) else (if (lg_cmp v2 ((-3))) = 0 then (f_X12_duals st).bind (fun x138 => (if (lg_cmp v2 ((-3))) = 0 then (if (1 : Int32) = 0 then some (((-1), x138)) else some ((a1 + 1, x138))) else (if (lg_cmp v2 ((-5))) = 0 then (f_X12_undoes x138).bind (fun x152 => match x152 with | (v155, t154) => (if v155 = 0 then (if (lg_cmp v2 ((-6))) = 0 then (f_X12_doesAgain t154).bind (fun x160 => match x160 with | (v163, t162) => (if v163 = 0 then (if (0 : Int32) = 0 then some (((-1), t162)) else some ((a1 + 1, t162))) else (if (1 : Int32) = 0 then some (((-1), t162)) else some ((a1 + 1, t162))))) else (if (0 : Int32) = 0 then some (((-1), t154)) else some ((a1 + 1, t154)))) else (if (1 : Int32) = 0 then some (((-1), t154)) else some ((a1 + 1, t154))))) else (if (lg_cmp v2 ((-6))) = 0 then (f_X12_doesAgain x138).bind (fun x145 => match x145 with | (v148, t147) => (if v148 = 0 then (if (0 : Int32) = 0 then some (((-1), t147)) else some ((a1 + 1, t147))) else (if (1 : Int32) = 0 then some (((-1), t147)) else some ((a1 + 1, t147))))) else (if (0 : Int32) = 0 then some (((-1), x138)) else some ((a1 + 1, x138))))))) else (if (lg_cmp v2 ((-3))) = 0 then (if (1 : Int32) = 0 then some (((-1), st)) else some ((a1 + 1, st))) else (if (lg_cmp v2 ((-5))) = 0 then (f_X12_undoes st).bind (fun x123 => match x123 with | (v126, t125) => (if v126 = 0 then (if (lg_cmp v2 ((-6))) = 0 then (f_X12_doesAgain t125).bind (fun x131 => match x131 with | (v134, t133) => (if v134 = 0 then (if (0 : Int32) = 0 then some (((-1), t133)) else some ((a1 + 1, t133))) else (if (1 : Int32) = 0 then some (((-1), t133)) else some ((a1 + 1, t133))))) else (if (0 : Int32) = 0 then some (((-1), t125)) else some ((a1 + 1, t125)))) else (if (1 : Int32) = 0 then some (((-1), t125)) else some ((a1 + 1, t125))))) else (if (lg_cmp v2 ((-6))) = 0 then (f_X12_doesAgain st).bind (fun x116 => match x116 with | (v119, t118) => (if v119 = 0 then (if (0 : Int32) = 0 then some (((-1), t118)) else some ((a1 + 1, t118))) else (if (1 : Int32) = 0 then some (((-1), t118)) else some ((a1 + 1, t118))))) else (if (0 : Int32) = 0 then some (((-1), st)) else some ((a1 + 1, st))))))))))) else none) else none) else none
set_option maxHeartbeats 4000000 in
set_option maxRecDepth 100000 in
theorem w_X12_does_61 {p : Program} {l : Launch} {e : Env} {s : State} {m : MethodId} {args : Array Value} {below : List Frame} {meth : Method} {c : Code} {Q : State → Prop} {G : mG} {h : mM} {q : Nat → Nat} (hq : oinj LX12 q) (X : mX G p m c cX12_does 10 s args RX12) (s0 : OS) (b1 : Int32) : ∀ (z : Int64 × Int32) (r : Nat × Int64 × Int32), lpv (f_X12_does_61 s0 b1) z = some r → ∀ (H : Heap) (locs : List Loc) (ls : Array Slot), mH G (oset LX12 G q s0 h) s.heap H locs → lv_has ls 10 [(0, .ref (q 53)), (1, .int b1), (7, .long z.1), (9, .int z.2)] → (r.1 = 0 → ∀ (H : Heap) (locs : List Loc) (ls : Array Slot), mH G (oset LX12 G q s0 h) s.heap H locs → lv_has ls 10 [] → W p l e rm_X12_does s m args below meth c H locs 0 0 Q (F0 m 110 ls [])) → (r.1 = 1 → ∀ (H : Heap) (locs : List Loc) (ls : Array Slot), mH G (oset LX12 G q s0 h) s.heap H locs → lv_has ls 10 [(0, .ref (q 53)), (7, .long r.2.1), (9, .int r.2.2)] → W p l e rm_X12_does s m args below meth c H locs 0 0 Q (F0 m 139 ls [])) → W p l e rm_X12_does s m args below meth c H locs 0 0 Q (F0 m 61 ls []) := by
  refine lpv_rec ?_
  intro z r x hF hx H locs ls hH hl K0 K1
  obtain ⟨b7, b9⟩ := z
  dsimp only [f_X12_does_61] at hF
  try dsimp only at hH hl
  refine lv_iload X.x X.b (dk DX12_does_0 40 rfl) (lv_at hl 3 rfl) ?_
  refine lv_aload_n X.x X.b (dk DX12_does_0 41 rfl) rfl (lv_at hl 0 rfl) ?_
  refine og_getR (t := 0) OX12 X hq hH 47 (by decide) rfl kF_X12_87 (dk DX12_does_0 42 rfl) ?_
  refine lv_iload_n X.x X.b (dk DX12_does_0 43 rfl) rfl (lv_at hl 1 rfl) ?_
  obtain ⟨c80, hF⟩ := gd hF
  refine og_iald X hq hH 47 (by decide) rfl (inb_in c80) (dk DX12_does_0 44 rfl) ?_
  refine lv_icmp_ge (tgt := 139) X.x X.b (dk DX12_does_0 45 rfl) (by decide) (fun c81 => ?_) (fun c81 => ?_)
  · replace hF := if_t hF c81
    have hr9 := lp_r hF hx
    subst hr9
    exact K1 rfl _ _ _ hH (lv_sub hl [0, 2, 3] rfl)
  · replace hF := if_f hF c81
    refine lv_aload_n X.x X.b (dk DX12_does_0 46 rfl) rfl (lv_at hl 0 rfl) ?_
    refine og_getR (t := 1) OX12 X hq hH 48 (by decide) rfl kF_X12_90 (dk DX12_does_0 47 rfl) ?_
    refine lv_bipush (v := 40) X.x X.b (dk DX12_does_0 48 rfl) (by decide) ?_
    refine lv_iload_n X.x X.b (dk DX12_does_0 49 rfl) rfl (lv_at hl 1 rfl) ?_
    refine lv_imul X.x X.b (dk DX12_does_0 50 rfl) ?_
    refine lv_iload X.x X.b (dk DX12_does_0 51 rfl) (lv_at hl 3 rfl) ?_
    refine lv_iadd X.x X.b (dk DX12_does_0 52 rfl) ?_
    obtain ⟨c82, hF⟩ := gd hF
    refine og_lald X hq hH 48 (by decide) rfl (inb_in c82) (dk DX12_does_0 53 rfl) ?_
    refine lv_lconst (v := 0) X.x X.b (dk DX12_does_0 54 rfl) (by decide) ?_
    refine W.lcmp X.x X.b (dk DX12_does_0 55 rfl) ?_
    refine lv_if_lt (tgt := 139) X.x X.b (dk DX12_does_0 56 rfl) (by decide) (fun c83 => ?_) (fun c83 => ?_)
    · replace hF := if_t hF c83
      have hr9 := lp_r hF hx
      subst hr9
      exact K1 rfl _ _ _ hH (lv_sub hl [0, 2, 3] rfl)
    · replace hF := if_f hF c83
      refine lv_aload_n X.x X.b (dk DX12_does_0 57 rfl) rfl (lv_at hl 0 rfl) ?_
      refine og_getR (t := 1) OX12 X hq hH 48 (by decide) rfl kF_X12_90 (dk DX12_does_0 58 rfl) ?_
      refine lv_bipush (v := 40) X.x X.b (dk DX12_does_0 59 rfl) (by decide) ?_
      refine lv_iload_n X.x X.b (dk DX12_does_1 0 rfl) rfl (lv_at hl 1 rfl) ?_
      refine lv_imul X.x X.b (dk DX12_does_1 1 rfl) ?_
      refine lv_iload X.x X.b (dk DX12_does_1 2 rfl) (lv_at hl 3 rfl) ?_
      refine lv_iadd X.x X.b (dk DX12_does_1 3 rfl) ?_
      refine og_lald X hq hH 48 (by decide) rfl (inb_in c82) (dk DX12_does_1 4 rfl) ?_
      refine lv_aload_n X.x X.b (dk DX12_does_1 5 rfl) rfl (lv_at hl 0 rfl) ?_
      refine og_getI OX12 X hq hH 0 (by decide) rfl kF_X12_248 (dk DX12_does_1 6 rfl) ?_
      refine lv_i2l X.x X.b (dk DX12_does_1 7 rfl) rfl ?_
      refine W.lcmp X.x X.b (dk DX12_does_1 8 rfl) ?_
      refine lv_if_lt (tgt := 112) X.x X.b (dk DX12_does_1 9 rfl) (by decide) (fun c84 => ?_) (fun c84 => ?_)
      · replace hF := if_t hF c84
        refine lv_lload X.x X.b (dk DX12_does_1 12 rfl) (lv_at hl 2 rfl) ?_
        refine lv_aload_n X.x X.b (dk DX12_does_1 13 rfl) rfl (lv_at hl 0 rfl) ?_
        refine og_getR (t := 1) OX12 X hq hH 48 (by decide) rfl kF_X12_90 (dk DX12_does_1 14 rfl) ?_
        refine lv_bipush (v := 40) X.x X.b (dk DX12_does_1 15 rfl) (by decide) ?_
        refine lv_iload_n X.x X.b (dk DX12_does_1 16 rfl) rfl (lv_at hl 1 rfl) ?_
        refine lv_imul X.x X.b (dk DX12_does_1 17 rfl) ?_
        refine lv_iload X.x X.b (dk DX12_does_1 18 rfl) (lv_at hl 3 rfl) ?_
        refine lv_iadd X.x X.b (dk DX12_does_1 19 rfl) ?_
        refine og_lald X hq hH 48 (by decide) rfl (inb_in c82) (dk DX12_does_1 20 rfl) ?_
        refine lv_l2i X.x X.b (dk DX12_does_1 21 rfl) rfl ?_
        obtain ⟨x85, e86, hF⟩ := bd hF
        refine mr_cl0 hH ⟨rfl, rfl⟩ (mr_runS (As := [.int ((s0.2.2.2 48 (((40 : Int32) * b1) + b9 : Int32).toNatClampNeg : Int64).toInt32)]) (rest := [.long b7]) X hH (c_X12_bit e86) kM_X12_111 kT_X12_bit kN_X12 kC_X12_bit hd_X12_bit ⟨Nat.le_of_ble_eq_true rfl, Nat.le_of_ble_eq_true rfl⟩ rfl hl.1 (Nat.le_of_ble_eq_true rfl) (dk DX12_does_1 22 rfl) ⟨Nat.zero_le _, Nat.zero_le _⟩) (fun r h1 H locs hp hH => ?_)
        obtain ⟨hr1, hr2⟩ := hp; rw [hr1]; rw [hr2] at hH; clear hr1 hr2
        refine lv_lor X.x X.b (dk DX12_does_1 23 rfl) ?_
        refine lv_topl (fun v87 e88 => ?_)
        replace hF := bnd_e hF e88
        refine lv_lstore (lv' := [(7, .long v87), (0, .ref (q 53)), (1, .int b1), (9, .int b9)]) X.x X.b (dk DX12_does_1 24 rfl) hl (by decide) rfl (fun ls hl => ?_)
        replace hl : lv_has ls 10 [(0, .ref (q 53)), (1, .int b1), (7, .long v87), (9, .int b9)] := lv_sub hl [1, 2, 0, 3] rfl
        obtain ⟨v89, e90⟩ : ∃ y : Int32, y = b9 + 1 := ⟨_, rfl⟩
        replace hF := bnd_e hF e90
        refine lv_iinc (v := v89) (lv' := [(9, .int v89), (0, .ref (q 53)), (1, .int b1), (7, .long v87)]) X.x X.b (dk DX12_does_1 25 rfl) hl (k := 3) rfl (by rw [e90]; rfl) (by decide) rfl (fun ls hl => ?_)
        replace hl : lv_has ls 10 [(0, .ref (q 53)), (1, .int b1), (7, .long v87), (9, .int v89)] := lv_sub hl [1, 2, 3, 0] rfl
        refine lv_goto (tgt := 61) X.x X.b (dk DX12_does_1 26 rfl) (by decide) ?_
        exact (lp_l hF hx) _ _ _ hH (lv_sub hl [0, 1, 2, 3] rfl) K0 K1
      · replace hF := if_f hF c84
        have hr9 := lp_r hF hx
        subst hr9
        exact K0 rfl _ _ _ hH (lv_sub hl [] rfl)
set_option maxHeartbeats 4000000 in
set_option maxRecDepth 100000 in
theorem c_X12_does {l : Launch} {G : mG} {h : mM} {q : Nat → Nat} (hq : oinj LX12 q) {st : OS} {a0 : Int32} {a1 : Int32} {x : Int32 × OS} (hF : f_X12_does st a0 a1 = some x) : cQ l G yX12_does cX12_does 10 (some FieldType.int) rm_X12_does [.ref (q 53), .int a0, .int a1] (oset LX12 G q st h) (mQi G (fun r h1 => r = x.1 ∧ h1 = oset LX12 G q x.2 h)) := by
  refine mp_of (by decide +kernel) (Nat.le_of_ble_eq_true rfl) ?_
  intro p e s m below meth c X hr hlk hH hname ls hl
  dsimp only [f_X12_does] at hF
  replace hl : lv_has ls 10 [(0, .ref (q 53)), (1, .int a0), (2, .int a1)] := hl
  refine lv_aload_n X.x X.b (dk DX12_does_0 0 rfl) rfl (lv_at hl 0 rfl) ?_
  refine og_getR (t := 1) OX12 X hq hH 48 (by decide) rfl kF_X12_90 (dk DX12_does_0 1 rfl) ?_
  refine lv_bipush (v := 40) X.x X.b (dk DX12_does_0 2 rfl) (by decide) ?_
  refine lv_iload_n X.x X.b (dk DX12_does_0 3 rfl) rfl (lv_at hl 1 rfl) ?_
  refine lv_imul X.x X.b (dk DX12_does_0 4 rfl) ?_
  refine lv_iload_n X.x X.b (dk DX12_does_0 5 rfl) rfl (lv_at hl 2 rfl) ?_
  refine lv_iadd X.x X.b (dk DX12_does_0 6 rfl) ?_
  obtain ⟨c1, hF⟩ := gd hF
  refine og_lald X hq hH 48 (by decide) rfl (inb_in c1) (dk DX12_does_0 7 rfl) ?_
  refine lv_topl (fun v2 e3 => ?_)
  replace hF := bnd_e hF e3
  refine lv_lstore_n (lv' := [(3, .long v2), (0, .ref (q 53)), (1, .int a0), (2, .int a1)]) X.x X.b (dk DX12_does_0 8 rfl) rfl hl (by decide) rfl (fun ls hl => ?_)
  replace hl : lv_has ls 10 [(0, .ref (q 53)), (1, .int a0), (2, .int a1), (3, .long v2)] := lv_sub hl [1, 2, 3, 0] rfl
  refine lv_iload_n X.x X.b (dk DX12_does_0 9 rfl) rfl (lv_at hl 2 rfl) ?_
  refine lv_iconst (v := 1) X.x X.b (dk DX12_does_0 10 rfl) (by decide) ?_
  refine lv_iadd X.x X.b (dk DX12_does_0 11 rfl) ?_
  refine lv_aload_n X.x X.b (dk DX12_does_0 12 rfl) rfl (lv_at hl 0 rfl) ?_
  refine og_getR (t := 0) OX12 X hq hH 47 (by decide) rfl kF_X12_87 (dk DX12_does_0 13 rfl) ?_
  refine lv_iload_n X.x X.b (dk DX12_does_0 14 rfl) rfl (lv_at hl 1 rfl) ?_
  obtain ⟨c4, hF⟩ := gd hF
  refine og_iald X hq hH 47 (by decide) rfl (inb_in c4) (dk DX12_does_0 15 rfl) ?_
  refine lv_icmp_ge (tgt := 40) X.x X.b (dk DX12_does_0 16 rfl) (by decide) (fun c5 => ?_) (fun c5 => ?_)
  · replace hF := if_t hF c5
    refine lv_ldc2 (v := (-1)) X.x X.b X.ow (X.ts _ kK_X12_109) (dk DX12_does_0 28 rfl) ?_
    refine lv_lstore (lv' := [(5, .long ((-1))), (0, .ref (q 53)), (1, .int a0), (2, .int a1), (3, .long v2)]) X.x X.b (dk DX12_does_0 29 rfl) hl (by decide) rfl (fun ls hl => ?_)
    replace hl : lv_has ls 10 [(0, .ref (q 53)), (1, .int a0), (2, .int a1), (3, .long v2), (5, .long ((-1)))] := lv_sub hl [1, 2, 3, 4, 0] rfl
    refine lv_lload_n X.x X.b (dk DX12_does_0 30 rfl) rfl (lv_at hl 3 rfl) ?_
    refine lv_ldc2 (v := (-1)) X.x X.b X.ow (X.ts _ kK_X12_109) (dk DX12_does_0 31 rfl) ?_
    refine W.lcmp X.x X.b (dk DX12_does_0 32 rfl) ?_
    refine lv_if_ne (tgt := 165) X.x X.b (dk DX12_does_0 33 rfl) (by decide) (fun c6 => ?_) (fun c6 => ?_)
    · replace hF := if_f hF c6
      refine lv_lload_n X.x X.b (dk DX12_does_1 40 rfl) rfl (lv_at hl 3 rfl) ?_
      refine lv_ldc2 (v := (-2)) X.x X.b X.ow (X.ts _ kK_X12_332) (dk DX12_does_1 41 rfl) ?_
      refine W.lcmp X.x X.b (dk DX12_does_1 42 rfl) ?_
      refine lv_if_ne (tgt := 203) X.x X.b (dk DX12_does_1 43 rfl) (by decide) (fun c7 => ?_) (fun c7 => ?_)
      · replace hF := if_f hF c7
        refine lv_lload_n X.x X.b (dk DX12_does_2 4 rfl) rfl (lv_at hl 3 rfl) ?_
        refine lv_ldc2 (v := (-4)) X.x X.b X.ow (X.ts _ kK_X12_441) (dk DX12_does_2 5 rfl) ?_
        refine W.lcmp X.x X.b (dk DX12_does_2 6 rfl) ?_
        refine lv_if_ne (tgt := 240) X.x X.b (dk DX12_does_2 7 rfl) (by decide) (fun c8 => ?_) (fun c8 => ?_)
        · replace hF := if_f hF c8
          refine lv_lload_n X.x X.b (dk DX12_does_2 27 rfl) rfl (lv_at hl 3 rfl) ?_
          refine lv_ldc2 (v := (-3)) X.x X.b X.ow (X.ts _ kK_X12_443) (dk DX12_does_2 28 rfl) ?_
          refine W.lcmp X.x X.b (dk DX12_does_2 29 rfl) ?_
          refine lv_if_ne (tgt := 252) X.x X.b (dk DX12_does_2 30 rfl) (by decide) (fun c9 => ?_) (fun c9 => ?_)
          · replace hF := if_f hF c9
            refine lv_lload_n X.x X.b (dk DX12_does_2 33 rfl) rfl (lv_at hl 3 rfl) ?_
            refine lv_ldc2 (v := (-3)) X.x X.b X.ow (X.ts _ kK_X12_443) (dk DX12_does_2 34 rfl) ?_
            refine W.lcmp X.x X.b (dk DX12_does_2 35 rfl) ?_
            refine lv_if_eq (tgt := 290) X.x X.b (dk DX12_does_2 36 rfl) (by decide) (fun c10 => ?_) (fun c10 => ?_)
            · replace hF := if_t hF c10
              refine lv_iconst (v := 1) X.x X.b (dk DX12_does_2 51 rfl) (by decide) ?_
              refine lv_goto (tgt := 295) X.x X.b (dk DX12_does_2 52 rfl) (by decide) ?_
              refine lv_istore (lv' := [(7, .int 1), (0, .ref (q 53)), (1, .int a0), (2, .int a1), (3, .long v2), (5, .long ((-1)))]) X.x X.b (dk DX12_does_2 54 rfl) hl (by decide) rfl (fun ls hl => ?_)
              replace hl : lv_has ls 10 [(2, .int a1), (7, .int 1)] := lv_sub hl [3, 0] rfl
              refine lv_iload X.x X.b (dk DX12_does_2 55 rfl) (lv_at hl 1 rfl) ?_
              refine lv_if_eq (tgt := 308) X.x X.b (dk DX12_does_2 56 rfl) (by decide) (fun c11 => ?_) (fun c11 => ?_)
              · replace hF := if_t hF c11
                refine lv_iconst (v := (-1)) X.x X.b (dk DX12_does_3 1 rfl) (by decide) ?_
                cases sm hF
                exact mr_iret X hr hlk hH ⟨rfl, rfl⟩ (dk DX12_does_3 2 rfl)
              · replace hF := if_f hF c11
                refine lv_iload_n X.x X.b (dk DX12_does_2 57 rfl) rfl (lv_at hl 0 rfl) ?_
                refine lv_iconst (v := 1) X.x X.b (dk DX12_does_2 58 rfl) (by decide) ?_
                refine lv_iadd X.x X.b (dk DX12_does_2 59 rfl) ?_
                refine lv_goto (tgt := 309) X.x X.b (dk DX12_does_3 0 rfl) (by decide) ?_
                cases sm hF
                exact mr_iret X hr hlk hH ⟨rfl, rfl⟩ (dk DX12_does_3 2 rfl)
            · replace hF := if_f hF c10
              refine lv_lload_n X.x X.b (dk DX12_does_2 37 rfl) rfl (lv_at hl 3 rfl) ?_
              refine lv_ldc2 (v := (-5)) X.x X.b X.ow (X.ts _ kK_X12_445) (dk DX12_does_2 38 rfl) ?_
              refine W.lcmp X.x X.b (dk DX12_does_2 39 rfl) ?_
              refine lv_if_ne (tgt := 275) X.x X.b (dk DX12_does_2 40 rfl) (by decide) (fun c12 => ?_) (fun c12 => ?_)
              · replace hF := if_f hF c12
                refine lv_lload_n X.x X.b (dk DX12_does_2 44 rfl) rfl (lv_at hl 3 rfl) ?_
                refine lv_ldc2 (v := (-6)) X.x X.b X.ow (X.ts _ kK_X12_447) (dk DX12_does_2 45 rfl) ?_
                refine W.lcmp X.x X.b (dk DX12_does_2 46 rfl) ?_
                refine lv_if_ne (tgt := 294) X.x X.b (dk DX12_does_2 47 rfl) (by decide) (fun c13 => ?_) (fun c13 => ?_)
                · replace hF := if_f hF c13
                  refine lv_iconst (v := 0) X.x X.b (dk DX12_does_2 53 rfl) (by decide) ?_
                  refine lv_istore (lv' := [(7, .int 0), (0, .ref (q 53)), (1, .int a0), (2, .int a1), (3, .long v2), (5, .long ((-1)))]) X.x X.b (dk DX12_does_2 54 rfl) hl (by decide) rfl (fun ls hl => ?_)
                  replace hl : lv_has ls 10 [(2, .int a1), (7, .int 0)] := lv_sub hl [3, 0] rfl
                  refine lv_iload X.x X.b (dk DX12_does_2 55 rfl) (lv_at hl 1 rfl) ?_
                  refine lv_if_eq (tgt := 308) X.x X.b (dk DX12_does_2 56 rfl) (by decide) (fun c14 => ?_) (fun c14 => ?_)
                  · replace hF := if_t hF c14
                    refine lv_iconst (v := (-1)) X.x X.b (dk DX12_does_3 1 rfl) (by decide) ?_
                    cases sm hF
                    exact mr_iret X hr hlk hH ⟨rfl, rfl⟩ (dk DX12_does_3 2 rfl)
                  · replace hF := if_f hF c14
                    refine lv_iload_n X.x X.b (dk DX12_does_2 57 rfl) rfl (lv_at hl 0 rfl) ?_
                    refine lv_iconst (v := 1) X.x X.b (dk DX12_does_2 58 rfl) (by decide) ?_
                    refine lv_iadd X.x X.b (dk DX12_does_2 59 rfl) ?_
                    refine lv_goto (tgt := 309) X.x X.b (dk DX12_does_3 0 rfl) (by decide) ?_
                    cases sm hF
                    exact mr_iret X hr hlk hH ⟨rfl, rfl⟩ (dk DX12_does_3 2 rfl)
                · replace hF := if_t hF c13
                  refine lv_aload_n X.x X.b (dk DX12_does_2 48 rfl) rfl (lv_at hl 0 rfl) ?_
                  obtain ⟨x15, e16, hF⟩ := bd hF
                  refine mr_ci0 hH ⟨rfl, rfl⟩ (mr_runV (As := []) (rest := []) X hH (c_X12_doesAgain hq e16) ((oset_at hq (Nat.le_refl _) ohas_N).trans (congrArg some ocell_N)) OX12.1 kM_X12_438 kI_X12_doesAgain kS_X12_doesAgain kN_X12 kC_X12_doesAgain hd_X12_doesAgain ⟨Nat.le_of_ble_eq_true rfl, Nat.le_of_ble_eq_true rfl⟩ rfl hl.1 (Nat.le_of_ble_eq_true rfl) (dk DX12_does_2 49 rfl) ⟨Nat.zero_le _, Nat.zero_le _⟩) (fun r h1 H locs hp hH => ?_)
                  obtain ⟨hr1, hr2⟩ := hp; rw [hr1]; rw [hr2] at hH; clear hr1 hr2
                  obtain ⟨v18, t17⟩ := x15
                  try dsimp only at hF hH ⊢
                  refine lv_if_eq (tgt := 294) X.x X.b (dk DX12_does_2 50 rfl) (by decide) (fun c19 => ?_) (fun c19 => ?_)
                  · replace hF := if_t hF c19
                    refine lv_iconst (v := 0) X.x X.b (dk DX12_does_2 53 rfl) (by decide) ?_
                    refine lv_istore (lv' := [(7, .int 0), (0, .ref (q 53)), (1, .int a0), (2, .int a1), (3, .long v2), (5, .long ((-1)))]) X.x X.b (dk DX12_does_2 54 rfl) hl (by decide) rfl (fun ls hl => ?_)
                    replace hl : lv_has ls 10 [(2, .int a1), (7, .int 0)] := lv_sub hl [3, 0] rfl
                    refine lv_iload X.x X.b (dk DX12_does_2 55 rfl) (lv_at hl 1 rfl) ?_
                    refine lv_if_eq (tgt := 308) X.x X.b (dk DX12_does_2 56 rfl) (by decide) (fun c20 => ?_) (fun c20 => ?_)
                    · replace hF := if_t hF c20
                      refine lv_iconst (v := (-1)) X.x X.b (dk DX12_does_3 1 rfl) (by decide) ?_
                      cases sm hF
                      exact mr_iret X hr hlk hH ⟨rfl, rfl⟩ (dk DX12_does_3 2 rfl)
                    · replace hF := if_f hF c20
                      refine lv_iload_n X.x X.b (dk DX12_does_2 57 rfl) rfl (lv_at hl 0 rfl) ?_
                      refine lv_iconst (v := 1) X.x X.b (dk DX12_does_2 58 rfl) (by decide) ?_
                      refine lv_iadd X.x X.b (dk DX12_does_2 59 rfl) ?_
                      refine lv_goto (tgt := 309) X.x X.b (dk DX12_does_3 0 rfl) (by decide) ?_
                      cases sm hF
                      exact mr_iret X hr hlk hH ⟨rfl, rfl⟩ (dk DX12_does_3 2 rfl)
                  · replace hF := if_f hF c19
                    refine lv_iconst (v := 1) X.x X.b (dk DX12_does_2 51 rfl) (by decide) ?_
                    refine lv_goto (tgt := 295) X.x X.b (dk DX12_does_2 52 rfl) (by decide) ?_
                    refine lv_istore (lv' := [(7, .int 1), (0, .ref (q 53)), (1, .int a0), (2, .int a1), (3, .long v2), (5, .long ((-1)))]) X.x X.b (dk DX12_does_2 54 rfl) hl (by decide) rfl (fun ls hl => ?_)
                    replace hl : lv_has ls 10 [(2, .int a1), (7, .int 1)] := lv_sub hl [3, 0] rfl
                    refine lv_iload X.x X.b (dk DX12_does_2 55 rfl) (lv_at hl 1 rfl) ?_
                    refine lv_if_eq (tgt := 308) X.x X.b (dk DX12_does_2 56 rfl) (by decide) (fun c21 => ?_) (fun c21 => ?_)
                    · replace hF := if_t hF c21
                      refine lv_iconst (v := (-1)) X.x X.b (dk DX12_does_3 1 rfl) (by decide) ?_
                      cases sm hF
                      exact mr_iret X hr hlk hH ⟨rfl, rfl⟩ (dk DX12_does_3 2 rfl)
                    · replace hF := if_f hF c21
                      refine lv_iload_n X.x X.b (dk DX12_does_2 57 rfl) rfl (lv_at hl 0 rfl) ?_
                      refine lv_iconst (v := 1) X.x X.b (dk DX12_does_2 58 rfl) (by decide) ?_
                      refine lv_iadd X.x X.b (dk DX12_does_2 59 rfl) ?_
                      refine lv_goto (tgt := 309) X.x X.b (dk DX12_does_3 0 rfl) (by decide) ?_
                      cases sm hF
                      exact mr_iret X hr hlk hH ⟨rfl, rfl⟩ (dk DX12_does_3 2 rfl)
              · replace hF := if_t hF c12
                refine lv_aload_n X.x X.b (dk DX12_does_2 41 rfl) rfl (lv_at hl 0 rfl) ?_
                obtain ⟨x22, e23, hF⟩ := bd hF
                refine mr_ci0 hH ⟨rfl, rfl⟩ (mr_runV (As := []) (rest := []) X hH (c_X12_undoes hq e23) ((oset_at hq (Nat.le_refl _) ohas_N).trans (congrArg some ocell_N)) OX12.1 kM_X12_435 kI_X12_undoes kS_X12_undoes kN_X12 kC_X12_undoes hd_X12_undoes ⟨Nat.le_of_ble_eq_true rfl, Nat.le_of_ble_eq_true rfl⟩ rfl hl.1 (Nat.le_of_ble_eq_true rfl) (dk DX12_does_2 42 rfl) ⟨Nat.zero_le _, Nat.zero_le _⟩) (fun r h1 H locs hp hH => ?_)
                obtain ⟨hr1, hr2⟩ := hp; rw [hr1]; rw [hr2] at hH; clear hr1 hr2
                obtain ⟨v25, t24⟩ := x22
                try dsimp only at hF hH ⊢
                refine lv_if_ne (tgt := 290) X.x X.b (dk DX12_does_2 43 rfl) (by decide) (fun c26 => ?_) (fun c26 => ?_)
                · replace hF := if_f hF c26
                  refine lv_iconst (v := 1) X.x X.b (dk DX12_does_2 51 rfl) (by decide) ?_
                  refine lv_goto (tgt := 295) X.x X.b (dk DX12_does_2 52 rfl) (by decide) ?_
                  refine lv_istore (lv' := [(7, .int 1), (0, .ref (q 53)), (1, .int a0), (2, .int a1), (3, .long v2), (5, .long ((-1)))]) X.x X.b (dk DX12_does_2 54 rfl) hl (by decide) rfl (fun ls hl => ?_)
                  replace hl : lv_has ls 10 [(2, .int a1), (7, .int 1)] := lv_sub hl [3, 0] rfl
                  refine lv_iload X.x X.b (dk DX12_does_2 55 rfl) (lv_at hl 1 rfl) ?_
                  refine lv_if_eq (tgt := 308) X.x X.b (dk DX12_does_2 56 rfl) (by decide) (fun c27 => ?_) (fun c27 => ?_)
                  · replace hF := if_t hF c27
                    refine lv_iconst (v := (-1)) X.x X.b (dk DX12_does_3 1 rfl) (by decide) ?_
                    cases sm hF
                    exact mr_iret X hr hlk hH ⟨rfl, rfl⟩ (dk DX12_does_3 2 rfl)
                  · replace hF := if_f hF c27
                    refine lv_iload_n X.x X.b (dk DX12_does_2 57 rfl) rfl (lv_at hl 0 rfl) ?_
                    refine lv_iconst (v := 1) X.x X.b (dk DX12_does_2 58 rfl) (by decide) ?_
                    refine lv_iadd X.x X.b (dk DX12_does_2 59 rfl) ?_
                    refine lv_goto (tgt := 309) X.x X.b (dk DX12_does_3 0 rfl) (by decide) ?_
                    cases sm hF
                    exact mr_iret X hr hlk hH ⟨rfl, rfl⟩ (dk DX12_does_3 2 rfl)
                · replace hF := if_t hF c26
                  refine lv_lload_n X.x X.b (dk DX12_does_2 44 rfl) rfl (lv_at hl 3 rfl) ?_
                  refine lv_ldc2 (v := (-6)) X.x X.b X.ow (X.ts _ kK_X12_447) (dk DX12_does_2 45 rfl) ?_
                  refine W.lcmp X.x X.b (dk DX12_does_2 46 rfl) ?_
                  refine lv_if_ne (tgt := 294) X.x X.b (dk DX12_does_2 47 rfl) (by decide) (fun c28 => ?_) (fun c28 => ?_)
                  · replace hF := if_f hF c28
                    refine lv_iconst (v := 0) X.x X.b (dk DX12_does_2 53 rfl) (by decide) ?_
                    refine lv_istore (lv' := [(7, .int 0), (0, .ref (q 53)), (1, .int a0), (2, .int a1), (3, .long v2), (5, .long ((-1)))]) X.x X.b (dk DX12_does_2 54 rfl) hl (by decide) rfl (fun ls hl => ?_)
                    replace hl : lv_has ls 10 [(2, .int a1), (7, .int 0)] := lv_sub hl [3, 0] rfl
                    refine lv_iload X.x X.b (dk DX12_does_2 55 rfl) (lv_at hl 1 rfl) ?_
                    refine lv_if_eq (tgt := 308) X.x X.b (dk DX12_does_2 56 rfl) (by decide) (fun c29 => ?_) (fun c29 => ?_)
                    · replace hF := if_t hF c29
                      refine lv_iconst (v := (-1)) X.x X.b (dk DX12_does_3 1 rfl) (by decide) ?_
                      cases sm hF
                      exact mr_iret X hr hlk hH ⟨rfl, rfl⟩ (dk DX12_does_3 2 rfl)
                    · replace hF := if_f hF c29
                      refine lv_iload_n X.x X.b (dk DX12_does_2 57 rfl) rfl (lv_at hl 0 rfl) ?_
                      refine lv_iconst (v := 1) X.x X.b (dk DX12_does_2 58 rfl) (by decide) ?_
                      refine lv_iadd X.x X.b (dk DX12_does_2 59 rfl) ?_
                      refine lv_goto (tgt := 309) X.x X.b (dk DX12_does_3 0 rfl) (by decide) ?_
                      cases sm hF
                      exact mr_iret X hr hlk hH ⟨rfl, rfl⟩ (dk DX12_does_3 2 rfl)
                  · replace hF := if_t hF c28
                    refine lv_aload_n X.x X.b (dk DX12_does_2 48 rfl) rfl (lv_at hl 0 rfl) ?_
                    obtain ⟨x30, e31, hF⟩ := bd hF
                    refine mr_ci0 hH ⟨rfl, rfl⟩ (mr_runV (As := []) (rest := []) X hH (c_X12_doesAgain hq e31) ((oset_at hq (Nat.le_refl _) ohas_N).trans (congrArg some ocell_N)) OX12.1 kM_X12_438 kI_X12_doesAgain kS_X12_doesAgain kN_X12 kC_X12_doesAgain hd_X12_doesAgain ⟨Nat.le_of_ble_eq_true rfl, Nat.le_of_ble_eq_true rfl⟩ rfl hl.1 (Nat.le_of_ble_eq_true rfl) (dk DX12_does_2 49 rfl) ⟨Nat.zero_le _, Nat.zero_le _⟩) (fun r h1 H locs hp hH => ?_)
                    obtain ⟨hr1, hr2⟩ := hp; rw [hr1]; rw [hr2] at hH; clear hr1 hr2
                    obtain ⟨v33, t32⟩ := x30
                    try dsimp only at hF hH ⊢
                    refine lv_if_eq (tgt := 294) X.x X.b (dk DX12_does_2 50 rfl) (by decide) (fun c34 => ?_) (fun c34 => ?_)
                    · replace hF := if_t hF c34
                      refine lv_iconst (v := 0) X.x X.b (dk DX12_does_2 53 rfl) (by decide) ?_
                      refine lv_istore (lv' := [(7, .int 0), (0, .ref (q 53)), (1, .int a0), (2, .int a1), (3, .long v2), (5, .long ((-1)))]) X.x X.b (dk DX12_does_2 54 rfl) hl (by decide) rfl (fun ls hl => ?_)
                      replace hl : lv_has ls 10 [(2, .int a1), (7, .int 0)] := lv_sub hl [3, 0] rfl
                      refine lv_iload X.x X.b (dk DX12_does_2 55 rfl) (lv_at hl 1 rfl) ?_
                      refine lv_if_eq (tgt := 308) X.x X.b (dk DX12_does_2 56 rfl) (by decide) (fun c35 => ?_) (fun c35 => ?_)
                      · replace hF := if_t hF c35
                        refine lv_iconst (v := (-1)) X.x X.b (dk DX12_does_3 1 rfl) (by decide) ?_
                        cases sm hF
                        exact mr_iret X hr hlk hH ⟨rfl, rfl⟩ (dk DX12_does_3 2 rfl)
                      · replace hF := if_f hF c35
                        refine lv_iload_n X.x X.b (dk DX12_does_2 57 rfl) rfl (lv_at hl 0 rfl) ?_
                        refine lv_iconst (v := 1) X.x X.b (dk DX12_does_2 58 rfl) (by decide) ?_
                        refine lv_iadd X.x X.b (dk DX12_does_2 59 rfl) ?_
                        refine lv_goto (tgt := 309) X.x X.b (dk DX12_does_3 0 rfl) (by decide) ?_
                        cases sm hF
                        exact mr_iret X hr hlk hH ⟨rfl, rfl⟩ (dk DX12_does_3 2 rfl)
                    · replace hF := if_f hF c34
                      refine lv_iconst (v := 1) X.x X.b (dk DX12_does_2 51 rfl) (by decide) ?_
                      refine lv_goto (tgt := 295) X.x X.b (dk DX12_does_2 52 rfl) (by decide) ?_
                      refine lv_istore (lv' := [(7, .int 1), (0, .ref (q 53)), (1, .int a0), (2, .int a1), (3, .long v2), (5, .long ((-1)))]) X.x X.b (dk DX12_does_2 54 rfl) hl (by decide) rfl (fun ls hl => ?_)
                      replace hl : lv_has ls 10 [(2, .int a1), (7, .int 1)] := lv_sub hl [3, 0] rfl
                      refine lv_iload X.x X.b (dk DX12_does_2 55 rfl) (lv_at hl 1 rfl) ?_
                      refine lv_if_eq (tgt := 308) X.x X.b (dk DX12_does_2 56 rfl) (by decide) (fun c36 => ?_) (fun c36 => ?_)
                      · replace hF := if_t hF c36
                        refine lv_iconst (v := (-1)) X.x X.b (dk DX12_does_3 1 rfl) (by decide) ?_
                        cases sm hF
                        exact mr_iret X hr hlk hH ⟨rfl, rfl⟩ (dk DX12_does_3 2 rfl)
                      · replace hF := if_f hF c36
                        refine lv_iload_n X.x X.b (dk DX12_does_2 57 rfl) rfl (lv_at hl 0 rfl) ?_
                        refine lv_iconst (v := 1) X.x X.b (dk DX12_does_2 58 rfl) (by decide) ?_
                        refine lv_iadd X.x X.b (dk DX12_does_2 59 rfl) ?_
                        refine lv_goto (tgt := 309) X.x X.b (dk DX12_does_3 0 rfl) (by decide) ?_
                        cases sm hF
                        exact mr_iret X hr hlk hH ⟨rfl, rfl⟩ (dk DX12_does_3 2 rfl)
          · replace hF := if_t hF c9
            refine lv_aload_n X.x X.b (dk DX12_does_2 31 rfl) rfl (lv_at hl 0 rfl) ?_
            obtain ⟨x37, e38, hF⟩ := bd hF
            refine mr_cv0 hH ⟨rfl, rfl⟩ (mr_runV (As := []) (rest := []) X hH (c_X12_duals hq e38) ((oset_at hq (Nat.le_refl _) ohas_N).trans (congrArg some ocell_N)) OX12.1 kM_X12_426 kI_X12_duals kS_X12_duals kN_X12 kC_X12_duals hd_X12_duals ⟨Nat.le_of_ble_eq_true rfl, Nat.le_of_ble_eq_true rfl⟩ rfl hl.1 (Nat.le_of_ble_eq_true rfl) (dk DX12_does_2 32 rfl) ⟨Nat.zero_le _, Nat.zero_le _⟩) (fun h1 H locs hp hH => ?_)
            rw [hp] at hH; clear hp
            refine lv_lload_n X.x X.b (dk DX12_does_2 33 rfl) rfl (lv_at hl 3 rfl) ?_
            refine lv_ldc2 (v := (-3)) X.x X.b X.ow (X.ts _ kK_X12_443) (dk DX12_does_2 34 rfl) ?_
            refine W.lcmp X.x X.b (dk DX12_does_2 35 rfl) ?_
            refine lv_if_eq (tgt := 290) X.x X.b (dk DX12_does_2 36 rfl) (by decide) (fun c39 => ?_) (fun c39 => ?_)
            · replace hF := if_t hF c39
              refine lv_iconst (v := 1) X.x X.b (dk DX12_does_2 51 rfl) (by decide) ?_
              refine lv_goto (tgt := 295) X.x X.b (dk DX12_does_2 52 rfl) (by decide) ?_
              refine lv_istore (lv' := [(7, .int 1), (0, .ref (q 53)), (1, .int a0), (2, .int a1), (3, .long v2), (5, .long ((-1)))]) X.x X.b (dk DX12_does_2 54 rfl) hl (by decide) rfl (fun ls hl => ?_)
              replace hl : lv_has ls 10 [(2, .int a1), (7, .int 1)] := lv_sub hl [3, 0] rfl
              refine lv_iload X.x X.b (dk DX12_does_2 55 rfl) (lv_at hl 1 rfl) ?_
              refine lv_if_eq (tgt := 308) X.x X.b (dk DX12_does_2 56 rfl) (by decide) (fun c40 => ?_) (fun c40 => ?_)
              · replace hF := if_t hF c40
                refine lv_iconst (v := (-1)) X.x X.b (dk DX12_does_3 1 rfl) (by decide) ?_
                cases sm hF
                exact mr_iret X hr hlk hH ⟨rfl, rfl⟩ (dk DX12_does_3 2 rfl)
              · replace hF := if_f hF c40
                refine lv_iload_n X.x X.b (dk DX12_does_2 57 rfl) rfl (lv_at hl 0 rfl) ?_
                refine lv_iconst (v := 1) X.x X.b (dk DX12_does_2 58 rfl) (by decide) ?_
                refine lv_iadd X.x X.b (dk DX12_does_2 59 rfl) ?_
                refine lv_goto (tgt := 309) X.x X.b (dk DX12_does_3 0 rfl) (by decide) ?_
                cases sm hF
                exact mr_iret X hr hlk hH ⟨rfl, rfl⟩ (dk DX12_does_3 2 rfl)
            · replace hF := if_f hF c39
              refine lv_lload_n X.x X.b (dk DX12_does_2 37 rfl) rfl (lv_at hl 3 rfl) ?_
              refine lv_ldc2 (v := (-5)) X.x X.b X.ow (X.ts _ kK_X12_445) (dk DX12_does_2 38 rfl) ?_
              refine W.lcmp X.x X.b (dk DX12_does_2 39 rfl) ?_
              refine lv_if_ne (tgt := 275) X.x X.b (dk DX12_does_2 40 rfl) (by decide) (fun c41 => ?_) (fun c41 => ?_)
              · replace hF := if_f hF c41
                refine lv_lload_n X.x X.b (dk DX12_does_2 44 rfl) rfl (lv_at hl 3 rfl) ?_
                refine lv_ldc2 (v := (-6)) X.x X.b X.ow (X.ts _ kK_X12_447) (dk DX12_does_2 45 rfl) ?_
                refine W.lcmp X.x X.b (dk DX12_does_2 46 rfl) ?_
                refine lv_if_ne (tgt := 294) X.x X.b (dk DX12_does_2 47 rfl) (by decide) (fun c42 => ?_) (fun c42 => ?_)
                · replace hF := if_f hF c42
                  refine lv_iconst (v := 0) X.x X.b (dk DX12_does_2 53 rfl) (by decide) ?_
                  refine lv_istore (lv' := [(7, .int 0), (0, .ref (q 53)), (1, .int a0), (2, .int a1), (3, .long v2), (5, .long ((-1)))]) X.x X.b (dk DX12_does_2 54 rfl) hl (by decide) rfl (fun ls hl => ?_)
                  replace hl : lv_has ls 10 [(2, .int a1), (7, .int 0)] := lv_sub hl [3, 0] rfl
                  refine lv_iload X.x X.b (dk DX12_does_2 55 rfl) (lv_at hl 1 rfl) ?_
                  refine lv_if_eq (tgt := 308) X.x X.b (dk DX12_does_2 56 rfl) (by decide) (fun c43 => ?_) (fun c43 => ?_)
                  · replace hF := if_t hF c43
                    refine lv_iconst (v := (-1)) X.x X.b (dk DX12_does_3 1 rfl) (by decide) ?_
                    cases sm hF
                    exact mr_iret X hr hlk hH ⟨rfl, rfl⟩ (dk DX12_does_3 2 rfl)
                  · replace hF := if_f hF c43
                    refine lv_iload_n X.x X.b (dk DX12_does_2 57 rfl) rfl (lv_at hl 0 rfl) ?_
                    refine lv_iconst (v := 1) X.x X.b (dk DX12_does_2 58 rfl) (by decide) ?_
                    refine lv_iadd X.x X.b (dk DX12_does_2 59 rfl) ?_
                    refine lv_goto (tgt := 309) X.x X.b (dk DX12_does_3 0 rfl) (by decide) ?_
                    cases sm hF
                    exact mr_iret X hr hlk hH ⟨rfl, rfl⟩ (dk DX12_does_3 2 rfl)
                · replace hF := if_t hF c42
                  refine lv_aload_n X.x X.b (dk DX12_does_2 48 rfl) rfl (lv_at hl 0 rfl) ?_
                  obtain ⟨x44, e45, hF⟩ := bd hF
                  refine mr_ci0 hH ⟨rfl, rfl⟩ (mr_runV (As := []) (rest := []) X hH (c_X12_doesAgain hq e45) ((oset_at hq (Nat.le_refl _) ohas_N).trans (congrArg some ocell_N)) OX12.1 kM_X12_438 kI_X12_doesAgain kS_X12_doesAgain kN_X12 kC_X12_doesAgain hd_X12_doesAgain ⟨Nat.le_of_ble_eq_true rfl, Nat.le_of_ble_eq_true rfl⟩ rfl hl.1 (Nat.le_of_ble_eq_true rfl) (dk DX12_does_2 49 rfl) ⟨Nat.zero_le _, Nat.zero_le _⟩) (fun r h1 H locs hp hH => ?_)
                  obtain ⟨hr1, hr2⟩ := hp; rw [hr1]; rw [hr2] at hH; clear hr1 hr2
                  obtain ⟨v47, t46⟩ := x44
                  try dsimp only at hF hH ⊢
                  refine lv_if_eq (tgt := 294) X.x X.b (dk DX12_does_2 50 rfl) (by decide) (fun c48 => ?_) (fun c48 => ?_)
                  · replace hF := if_t hF c48
                    refine lv_iconst (v := 0) X.x X.b (dk DX12_does_2 53 rfl) (by decide) ?_
                    refine lv_istore (lv' := [(7, .int 0), (0, .ref (q 53)), (1, .int a0), (2, .int a1), (3, .long v2), (5, .long ((-1)))]) X.x X.b (dk DX12_does_2 54 rfl) hl (by decide) rfl (fun ls hl => ?_)
                    replace hl : lv_has ls 10 [(2, .int a1), (7, .int 0)] := lv_sub hl [3, 0] rfl
                    refine lv_iload X.x X.b (dk DX12_does_2 55 rfl) (lv_at hl 1 rfl) ?_
                    refine lv_if_eq (tgt := 308) X.x X.b (dk DX12_does_2 56 rfl) (by decide) (fun c49 => ?_) (fun c49 => ?_)
                    · replace hF := if_t hF c49
                      refine lv_iconst (v := (-1)) X.x X.b (dk DX12_does_3 1 rfl) (by decide) ?_
                      cases sm hF
                      exact mr_iret X hr hlk hH ⟨rfl, rfl⟩ (dk DX12_does_3 2 rfl)
                    · replace hF := if_f hF c49
                      refine lv_iload_n X.x X.b (dk DX12_does_2 57 rfl) rfl (lv_at hl 0 rfl) ?_
                      refine lv_iconst (v := 1) X.x X.b (dk DX12_does_2 58 rfl) (by decide) ?_
                      refine lv_iadd X.x X.b (dk DX12_does_2 59 rfl) ?_
                      refine lv_goto (tgt := 309) X.x X.b (dk DX12_does_3 0 rfl) (by decide) ?_
                      cases sm hF
                      exact mr_iret X hr hlk hH ⟨rfl, rfl⟩ (dk DX12_does_3 2 rfl)
                  · replace hF := if_f hF c48
                    refine lv_iconst (v := 1) X.x X.b (dk DX12_does_2 51 rfl) (by decide) ?_
                    refine lv_goto (tgt := 295) X.x X.b (dk DX12_does_2 52 rfl) (by decide) ?_
                    refine lv_istore (lv' := [(7, .int 1), (0, .ref (q 53)), (1, .int a0), (2, .int a1), (3, .long v2), (5, .long ((-1)))]) X.x X.b (dk DX12_does_2 54 rfl) hl (by decide) rfl (fun ls hl => ?_)
                    replace hl : lv_has ls 10 [(2, .int a1), (7, .int 1)] := lv_sub hl [3, 0] rfl
                    refine lv_iload X.x X.b (dk DX12_does_2 55 rfl) (lv_at hl 1 rfl) ?_
                    refine lv_if_eq (tgt := 308) X.x X.b (dk DX12_does_2 56 rfl) (by decide) (fun c50 => ?_) (fun c50 => ?_)
                    · replace hF := if_t hF c50
                      refine lv_iconst (v := (-1)) X.x X.b (dk DX12_does_3 1 rfl) (by decide) ?_
                      cases sm hF
                      exact mr_iret X hr hlk hH ⟨rfl, rfl⟩ (dk DX12_does_3 2 rfl)
                    · replace hF := if_f hF c50
                      refine lv_iload_n X.x X.b (dk DX12_does_2 57 rfl) rfl (lv_at hl 0 rfl) ?_
                      refine lv_iconst (v := 1) X.x X.b (dk DX12_does_2 58 rfl) (by decide) ?_
                      refine lv_iadd X.x X.b (dk DX12_does_2 59 rfl) ?_
                      refine lv_goto (tgt := 309) X.x X.b (dk DX12_does_3 0 rfl) (by decide) ?_
                      cases sm hF
                      exact mr_iret X hr hlk hH ⟨rfl, rfl⟩ (dk DX12_does_3 2 rfl)
              · replace hF := if_t hF c41
                refine lv_aload_n X.x X.b (dk DX12_does_2 41 rfl) rfl (lv_at hl 0 rfl) ?_
                obtain ⟨x51, e52, hF⟩ := bd hF
                refine mr_ci0 hH ⟨rfl, rfl⟩ (mr_runV (As := []) (rest := []) X hH (c_X12_undoes hq e52) ((oset_at hq (Nat.le_refl _) ohas_N).trans (congrArg some ocell_N)) OX12.1 kM_X12_435 kI_X12_undoes kS_X12_undoes kN_X12 kC_X12_undoes hd_X12_undoes ⟨Nat.le_of_ble_eq_true rfl, Nat.le_of_ble_eq_true rfl⟩ rfl hl.1 (Nat.le_of_ble_eq_true rfl) (dk DX12_does_2 42 rfl) ⟨Nat.zero_le _, Nat.zero_le _⟩) (fun r h1 H locs hp hH => ?_)
                obtain ⟨hr1, hr2⟩ := hp; rw [hr1]; rw [hr2] at hH; clear hr1 hr2
                obtain ⟨v54, t53⟩ := x51
                try dsimp only at hF hH ⊢
                refine lv_if_ne (tgt := 290) X.x X.b (dk DX12_does_2 43 rfl) (by decide) (fun c55 => ?_) (fun c55 => ?_)
                · replace hF := if_f hF c55
                  refine lv_iconst (v := 1) X.x X.b (dk DX12_does_2 51 rfl) (by decide) ?_
                  refine lv_goto (tgt := 295) X.x X.b (dk DX12_does_2 52 rfl) (by decide) ?_
                  refine lv_istore (lv' := [(7, .int 1), (0, .ref (q 53)), (1, .int a0), (2, .int a1), (3, .long v2), (5, .long ((-1)))]) X.x X.b (dk DX12_does_2 54 rfl) hl (by decide) rfl (fun ls hl => ?_)
                  replace hl : lv_has ls 10 [(2, .int a1), (7, .int 1)] := lv_sub hl [3, 0] rfl
                  refine lv_iload X.x X.b (dk DX12_does_2 55 rfl) (lv_at hl 1 rfl) ?_
                  refine lv_if_eq (tgt := 308) X.x X.b (dk DX12_does_2 56 rfl) (by decide) (fun c56 => ?_) (fun c56 => ?_)
                  · replace hF := if_t hF c56
                    refine lv_iconst (v := (-1)) X.x X.b (dk DX12_does_3 1 rfl) (by decide) ?_
                    cases sm hF
                    exact mr_iret X hr hlk hH ⟨rfl, rfl⟩ (dk DX12_does_3 2 rfl)
                  · replace hF := if_f hF c56
                    refine lv_iload_n X.x X.b (dk DX12_does_2 57 rfl) rfl (lv_at hl 0 rfl) ?_
                    refine lv_iconst (v := 1) X.x X.b (dk DX12_does_2 58 rfl) (by decide) ?_
                    refine lv_iadd X.x X.b (dk DX12_does_2 59 rfl) ?_
                    refine lv_goto (tgt := 309) X.x X.b (dk DX12_does_3 0 rfl) (by decide) ?_
                    cases sm hF
                    exact mr_iret X hr hlk hH ⟨rfl, rfl⟩ (dk DX12_does_3 2 rfl)
                · replace hF := if_t hF c55
                  refine lv_lload_n X.x X.b (dk DX12_does_2 44 rfl) rfl (lv_at hl 3 rfl) ?_
                  refine lv_ldc2 (v := (-6)) X.x X.b X.ow (X.ts _ kK_X12_447) (dk DX12_does_2 45 rfl) ?_
                  refine W.lcmp X.x X.b (dk DX12_does_2 46 rfl) ?_
                  refine lv_if_ne (tgt := 294) X.x X.b (dk DX12_does_2 47 rfl) (by decide) (fun c57 => ?_) (fun c57 => ?_)
                  · replace hF := if_f hF c57
                    refine lv_iconst (v := 0) X.x X.b (dk DX12_does_2 53 rfl) (by decide) ?_
                    refine lv_istore (lv' := [(7, .int 0), (0, .ref (q 53)), (1, .int a0), (2, .int a1), (3, .long v2), (5, .long ((-1)))]) X.x X.b (dk DX12_does_2 54 rfl) hl (by decide) rfl (fun ls hl => ?_)
                    replace hl : lv_has ls 10 [(2, .int a1), (7, .int 0)] := lv_sub hl [3, 0] rfl
                    refine lv_iload X.x X.b (dk DX12_does_2 55 rfl) (lv_at hl 1 rfl) ?_
                    refine lv_if_eq (tgt := 308) X.x X.b (dk DX12_does_2 56 rfl) (by decide) (fun c58 => ?_) (fun c58 => ?_)
                    · replace hF := if_t hF c58
                      refine lv_iconst (v := (-1)) X.x X.b (dk DX12_does_3 1 rfl) (by decide) ?_
                      cases sm hF
                      exact mr_iret X hr hlk hH ⟨rfl, rfl⟩ (dk DX12_does_3 2 rfl)
                    · replace hF := if_f hF c58
                      refine lv_iload_n X.x X.b (dk DX12_does_2 57 rfl) rfl (lv_at hl 0 rfl) ?_
                      refine lv_iconst (v := 1) X.x X.b (dk DX12_does_2 58 rfl) (by decide) ?_
                      refine lv_iadd X.x X.b (dk DX12_does_2 59 rfl) ?_
                      refine lv_goto (tgt := 309) X.x X.b (dk DX12_does_3 0 rfl) (by decide) ?_
                      cases sm hF
                      exact mr_iret X hr hlk hH ⟨rfl, rfl⟩ (dk DX12_does_3 2 rfl)
                  · replace hF := if_t hF c57
                    refine lv_aload_n X.x X.b (dk DX12_does_2 48 rfl) rfl (lv_at hl 0 rfl) ?_
                    obtain ⟨x59, e60, hF⟩ := bd hF
                    refine mr_ci0 hH ⟨rfl, rfl⟩ (mr_runV (As := []) (rest := []) X hH (c_X12_doesAgain hq e60) ((oset_at hq (Nat.le_refl _) ohas_N).trans (congrArg some ocell_N)) OX12.1 kM_X12_438 kI_X12_doesAgain kS_X12_doesAgain kN_X12 kC_X12_doesAgain hd_X12_doesAgain ⟨Nat.le_of_ble_eq_true rfl, Nat.le_of_ble_eq_true rfl⟩ rfl hl.1 (Nat.le_of_ble_eq_true rfl) (dk DX12_does_2 49 rfl) ⟨Nat.zero_le _, Nat.zero_le _⟩) (fun r h1 H locs hp hH => ?_)
                    obtain ⟨hr1, hr2⟩ := hp; rw [hr1]; rw [hr2] at hH; clear hr1 hr2
                    obtain ⟨v62, t61⟩ := x59
                    try dsimp only at hF hH ⊢
                    refine lv_if_eq (tgt := 294) X.x X.b (dk DX12_does_2 50 rfl) (by decide) (fun c63 => ?_) (fun c63 => ?_)
                    · replace hF := if_t hF c63
                      refine lv_iconst (v := 0) X.x X.b (dk DX12_does_2 53 rfl) (by decide) ?_
                      refine lv_istore (lv' := [(7, .int 0), (0, .ref (q 53)), (1, .int a0), (2, .int a1), (3, .long v2), (5, .long ((-1)))]) X.x X.b (dk DX12_does_2 54 rfl) hl (by decide) rfl (fun ls hl => ?_)
                      replace hl : lv_has ls 10 [(2, .int a1), (7, .int 0)] := lv_sub hl [3, 0] rfl
                      refine lv_iload X.x X.b (dk DX12_does_2 55 rfl) (lv_at hl 1 rfl) ?_
                      refine lv_if_eq (tgt := 308) X.x X.b (dk DX12_does_2 56 rfl) (by decide) (fun c64 => ?_) (fun c64 => ?_)
                      · replace hF := if_t hF c64
                        refine lv_iconst (v := (-1)) X.x X.b (dk DX12_does_3 1 rfl) (by decide) ?_
                        cases sm hF
                        exact mr_iret X hr hlk hH ⟨rfl, rfl⟩ (dk DX12_does_3 2 rfl)
                      · replace hF := if_f hF c64
                        refine lv_iload_n X.x X.b (dk DX12_does_2 57 rfl) rfl (lv_at hl 0 rfl) ?_
                        refine lv_iconst (v := 1) X.x X.b (dk DX12_does_2 58 rfl) (by decide) ?_
                        refine lv_iadd X.x X.b (dk DX12_does_2 59 rfl) ?_
                        refine lv_goto (tgt := 309) X.x X.b (dk DX12_does_3 0 rfl) (by decide) ?_
                        cases sm hF
                        exact mr_iret X hr hlk hH ⟨rfl, rfl⟩ (dk DX12_does_3 2 rfl)
                    · replace hF := if_f hF c63
                      refine lv_iconst (v := 1) X.x X.b (dk DX12_does_2 51 rfl) (by decide) ?_
                      refine lv_goto (tgt := 295) X.x X.b (dk DX12_does_2 52 rfl) (by decide) ?_
                      refine lv_istore (lv' := [(7, .int 1), (0, .ref (q 53)), (1, .int a0), (2, .int a1), (3, .long v2), (5, .long ((-1)))]) X.x X.b (dk DX12_does_2 54 rfl) hl (by decide) rfl (fun ls hl => ?_)
                      replace hl : lv_has ls 10 [(2, .int a1), (7, .int 1)] := lv_sub hl [3, 0] rfl
                      refine lv_iload X.x X.b (dk DX12_does_2 55 rfl) (lv_at hl 1 rfl) ?_
                      refine lv_if_eq (tgt := 308) X.x X.b (dk DX12_does_2 56 rfl) (by decide) (fun c65 => ?_) (fun c65 => ?_)
                      · replace hF := if_t hF c65
                        refine lv_iconst (v := (-1)) X.x X.b (dk DX12_does_3 1 rfl) (by decide) ?_
                        cases sm hF
                        exact mr_iret X hr hlk hH ⟨rfl, rfl⟩ (dk DX12_does_3 2 rfl)
                      · replace hF := if_f hF c65
                        refine lv_iload_n X.x X.b (dk DX12_does_2 57 rfl) rfl (lv_at hl 0 rfl) ?_
                        refine lv_iconst (v := 1) X.x X.b (dk DX12_does_2 58 rfl) (by decide) ?_
                        refine lv_iadd X.x X.b (dk DX12_does_2 59 rfl) ?_
                        refine lv_goto (tgt := 309) X.x X.b (dk DX12_does_3 0 rfl) (by decide) ?_
                        cases sm hF
                        exact mr_iret X hr hlk hH ⟨rfl, rfl⟩ (dk DX12_does_3 2 rfl)
        · replace hF := if_t hF c8
          refine lv_lload X.x X.b (dk DX12_does_2 8 rfl) (lv_at hl 4 rfl) ?_
          refine lv_lconst (v := 0) X.x X.b (dk DX12_does_2 9 rfl) (by decide) ?_
          refine lv_aload_n X.x X.b (dk DX12_does_2 10 rfl) rfl (lv_at hl 0 rfl) ?_
          refine og_getI OX12 X hq hH 0 (by decide) rfl kF_X12_248 (dk DX12_does_2 11 rfl) ?_
          refine lv_iconst (v := 1) X.x X.b (dk DX12_does_2 12 rfl) (by decide) ?_
          refine lv_isub X.x X.b (dk DX12_does_2 13 rfl) ?_
          refine lv_i2l X.x X.b (dk DX12_does_2 14 rfl) rfl ?_
          obtain ⟨x66, e67, hF⟩ := bd hF
          refine mr_ci0 hH ⟨rfl, rfl⟩ (mr_runS (As := [.long ((-1)), .long 0, .long (((st.1 0) - 1 : Int32).toInt64)]) (rest := []) X hH (c_X12_within e67) kM_X12_171 kT_X12_within kN_X12 kC_X12_within hd_X12_within ⟨Nat.le_of_ble_eq_true rfl, Nat.le_of_ble_eq_true rfl⟩ rfl hl.1 (Nat.le_of_ble_eq_true rfl) (dk DX12_does_2 15 rfl) ⟨Nat.zero_le _, Nat.zero_le _⟩) (fun r h1 H locs hp hH => ?_)
          obtain ⟨hr1, hr2⟩ := hp; rw [hr1]; rw [hr2] at hH; clear hr1 hr2
          refine lv_if_ne (tgt := 229) X.x X.b (dk DX12_does_2 16 rfl) (by decide) (fun c68 => ?_) (fun c68 => ?_)
          · replace hF := if_f hF c68
            refine lv_aload_n X.x X.b (dk DX12_does_2 19 rfl) rfl (lv_at hl 0 rfl) ?_
            refine lv_lload X.x X.b (dk DX12_does_2 20 rfl) (lv_at hl 4 rfl) ?_
            refine lv_l2i X.x X.b (dk DX12_does_2 21 rfl) rfl ?_
            obtain ⟨x69, e70, hF⟩ := bd hF
            refine mr_cv0 hH ⟨rfl, rfl⟩ (mr_runV (As := [.int (((-1) : Int64).toInt32)]) (rest := []) X hH (c_X12_leaves hq e70) ((oset_at hq (Nat.le_refl _) ohas_N).trans (congrArg some ocell_N)) OX12.1 kM_X12_429 kI_X12_leaves kS_X12_leaves kN_X12 kC_X12_leaves hd_X12_leaves ⟨Nat.le_of_ble_eq_true rfl, Nat.le_of_ble_eq_true rfl⟩ rfl hl.1 (Nat.le_of_ble_eq_true rfl) (dk DX12_does_2 22 rfl) ⟨Nat.zero_le _, Nat.zero_le _⟩) (fun h1 H locs hp hH => ?_)
            rw [hp] at hH; clear hp
            refine lv_iload_n X.x X.b (dk DX12_does_2 23 rfl) rfl (lv_at hl 2 rfl) ?_
            refine lv_iconst (v := 2) X.x X.b (dk DX12_does_2 24 rfl) (by decide) ?_
            refine lv_iadd X.x X.b (dk DX12_does_2 25 rfl) ?_
            cases sm hF
            exact mr_iret X hr hlk hH ⟨rfl, rfl⟩ (dk DX12_does_2 26 rfl)
          · replace hF := if_t hF c68
            refine lv_iconst (v := (-1)) X.x X.b (dk DX12_does_2 17 rfl) (by decide) ?_
            cases sm hF
            exact mr_iret X hr hlk hH ⟨rfl, rfl⟩ (dk DX12_does_2 18 rfl)
      · replace hF := if_t hF c7
        refine lv_lload X.x X.b (dk DX12_does_1 44 rfl) (lv_at hl 4 rfl) ?_
        refine lv_lconst (v := 0) X.x X.b (dk DX12_does_1 45 rfl) (by decide) ?_
        refine lv_aload_n X.x X.b (dk DX12_does_1 46 rfl) rfl (lv_at hl 0 rfl) ?_
        refine og_getI OX12 X hq hH 1 (by decide) rfl kF_X12_250 (dk DX12_does_1 47 rfl) ?_
        refine lv_iconst (v := 1) X.x X.b (dk DX12_does_1 48 rfl) (by decide) ?_
        refine lv_isub X.x X.b (dk DX12_does_1 49 rfl) ?_
        refine lv_i2l X.x X.b (dk DX12_does_1 50 rfl) rfl ?_
        obtain ⟨x71, e72, hF⟩ := bd hF
        refine mr_ci0 hH ⟨rfl, rfl⟩ (mr_runS (As := [.long ((-1)), .long 0, .long (((st.1 1) - 1 : Int32).toInt64)]) (rest := []) X hH (c_X12_within e72) kM_X12_171 kT_X12_within kN_X12 kC_X12_within hd_X12_within ⟨Nat.le_of_ble_eq_true rfl, Nat.le_of_ble_eq_true rfl⟩ rfl hl.1 (Nat.le_of_ble_eq_true rfl) (dk DX12_does_1 51 rfl) ⟨Nat.zero_le _, Nat.zero_le _⟩) (fun r h1 H locs hp hH => ?_)
        obtain ⟨hr1, hr2⟩ := hp; rw [hr1]; rw [hr2] at hH; clear hr1 hr2
        refine lv_if_ne (tgt := 191) X.x X.b (dk DX12_does_1 52 rfl) (by decide) (fun c73 => ?_) (fun c73 => ?_)
        · replace hF := if_f hF c73
          refine lv_aload_n X.x X.b (dk DX12_does_1 55 rfl) rfl (lv_at hl 0 rfl) ?_
          refine lv_lload X.x X.b (dk DX12_does_1 56 rfl) (lv_at hl 4 rfl) ?_
          refine lv_l2i X.x X.b (dk DX12_does_1 57 rfl) rfl ?_
          obtain ⟨x74, e75, hF⟩ := bd hF
          refine mr_cl0 hH ⟨rfl, rfl⟩ (mr_runV (As := [.int (((-1) : Int64).toInt32)]) (rest := []) X hH (c_X12_drops hq e75) ((oset_at hq (Nat.le_refl _) ohas_N).trans (congrArg some ocell_N)) OX12.1 kM_X12_423 kI_X12_drops kS_X12_drops kN_X12 kC_X12_drops hd_X12_drops ⟨Nat.le_of_ble_eq_true rfl, Nat.le_of_ble_eq_true rfl⟩ rfl hl.1 (Nat.le_of_ble_eq_true rfl) (dk DX12_does_1 58 rfl) ⟨Nat.zero_le _, Nat.zero_le _⟩) (fun r h1 H locs hp hH => ?_)
          obtain ⟨hr1, hr2⟩ := hp; rw [hr1]; rw [hr2] at hH; clear hr1 hr2
          obtain ⟨v77, t76⟩ := x74
          try dsimp only at hF hH ⊢
          refine lv_pop2_2 X.x X.b (dk DX12_does_1 59 rfl) rfl ?_
          refine lv_iload_n X.x X.b (dk DX12_does_2 0 rfl) rfl (lv_at hl 2 rfl) ?_
          refine lv_iconst (v := 2) X.x X.b (dk DX12_does_2 1 rfl) (by decide) ?_
          refine lv_iadd X.x X.b (dk DX12_does_2 2 rfl) ?_
          cases sm hF
          exact mr_iret X hr hlk hH ⟨rfl, rfl⟩ (dk DX12_does_2 3 rfl)
        · replace hF := if_t hF c73
          refine lv_iconst (v := (-1)) X.x X.b (dk DX12_does_1 53 rfl) (by decide) ?_
          cases sm hF
          exact mr_iret X hr hlk hH ⟨rfl, rfl⟩ (dk DX12_does_1 54 rfl)
    · replace hF := if_t hF c6
      refine lv_lconst (v := 0) X.x X.b (dk DX12_does_0 34 rfl) (by decide) ?_
      refine lv_lstore (lv' := [(7, .long 0), (0, .ref (q 53)), (1, .int a0), (2, .int a1), (3, .long v2), (5, .long ((-1)))]) X.x X.b (dk DX12_does_0 35 rfl) hl (by decide) rfl (fun ls hl => ?_)
      replace hl : lv_has ls 10 [(0, .ref (q 53)), (1, .int a0), (2, .int a1), (7, .long 0)] := lv_sub hl [1, 2, 3, 0] rfl
      refine lv_iload_n X.x X.b (dk DX12_does_0 36 rfl) rfl (lv_at hl 2 rfl) ?_
      refine lv_iconst (v := 1) X.x X.b (dk DX12_does_0 37 rfl) (by decide) ?_
      refine lv_iadd X.x X.b (dk DX12_does_0 38 rfl) ?_
      refine lv_topi (fun v78 e79 => ?_)
      replace hF := bnd_e hF e79
      refine lv_istore (lv' := [(9, .int v78), (0, .ref (q 53)), (1, .int a0), (2, .int a1), (7, .long 0)]) X.x X.b (dk DX12_does_0 39 rfl) hl (by decide) rfl (fun ls hl => ?_)
      replace hl : lv_has ls 10 [(0, .ref (q 53)), (1, .int a0), (7, .long 0), (9, .int v78)] := lv_sub hl [1, 2, 4, 0] rfl
      obtain ⟨x91, e92, hF⟩ := bd hF
      replace hl : lv_has ls 10 [(0, .ref (q 53)), (1, .int a0), (7, .long 0), (9, .int v78)] := lv_sub hl [0, 1, 2, 3] rfl
      obtain ⟨k95, v93, v94⟩ := x91
      try dsimp only at hF
      refine w_X12_does_61 hq X st a0 _ _ e92 _ _ _ hH hl (fun hk H locs ls hH hl => ?_) (fun hk H locs ls hH hl => ?_)
      · try dsimp only at hH hl
        try dsimp only at hk
        subst hk
        replace hF := if_t hF rfl
        refine lv_iconst (v := (-1)) X.x X.b (dk DX12_does_1 10 rfl) (by decide) ?_
        cases sm hF
        exact mr_iret X hr hlk hH ⟨rfl, rfl⟩ (dk DX12_does_1 11 rfl)
      · try dsimp only at hH hl
        try dsimp only at hk
        subst hk
        replace hF := if_f hF (by decide)
        refine lv_lload X.x X.b (dk DX12_does_1 27 rfl) (lv_at hl 1 rfl) ?_
        obtain ⟨x96, e97, hF⟩ := bd hF
        refine mr_ci0 hH ⟨rfl, rfl⟩ (mr_runS (As := [.long v93]) (rest := []) X hH (c_X12_ones e97) kM_X12_283 kT_X12_ones kN_X12 kC_X12_ones hd_X12_ones ⟨Nat.le_of_ble_eq_true rfl, Nat.le_of_ble_eq_true rfl⟩ rfl hl.1 (Nat.le_of_ble_eq_true rfl) (dk DX12_does_1 28 rfl) ⟨Nat.zero_le _, Nat.zero_le _⟩) (fun r h1 H locs hp hH => ?_)
        obtain ⟨hr1, hr2⟩ := hp; rw [hr1]; rw [hr2] at hH; clear hr1 hr2
        refine lv_iconst (v := 2) X.x X.b (dk DX12_does_1 29 rfl) (by decide) ?_
        refine lv_icmp_lt (tgt := 158) X.x X.b (dk DX12_does_1 30 rfl) (by decide) (fun c98 => ?_) (fun c98 => ?_)
        · replace hF := if_t hF c98
          refine lv_iconst (v := (-1)) X.x X.b (dk DX12_does_1 36 rfl) (by decide) ?_
          refine lv_goto (tgt := 164) X.x X.b (dk DX12_does_1 37 rfl) (by decide) ?_
          cases sm hF
          exact mr_iret X hr hlk hH ⟨rfl, rfl⟩ (dk DX12_does_1 39 rfl)
        · replace hF := if_f hF c98
          refine lv_aload_n X.x X.b (dk DX12_does_1 31 rfl) rfl (lv_at hl 0 rfl) ?_
          refine lv_lload X.x X.b (dk DX12_does_1 32 rfl) (lv_at hl 1 rfl) ?_
          obtain ⟨x99, e100, hF⟩ := bd hF
          refine mr_ci0 hH ⟨rfl, rfl⟩ (mr_runV (As := [.long v93]) (rest := []) X hH (c_X12_adds hq e100) ((oset_at hq (Nat.le_refl _) ohas_N).trans (congrArg some ocell_N)) OX12.1 kM_X12_420 kI_X12_adds kS_X12_adds kN_X12 kC_X12_adds hd_X12_adds ⟨Nat.le_of_ble_eq_true rfl, Nat.le_of_ble_eq_true rfl⟩ rfl hl.1 (Nat.le_of_ble_eq_true rfl) (dk DX12_does_1 33 rfl) ⟨Nat.zero_le _, Nat.zero_le _⟩) (fun r h1 H locs hp hH => ?_)
          obtain ⟨hr1, hr2⟩ := hp; rw [hr1]; rw [hr2] at hH; clear hr1 hr2
          obtain ⟨v102, t101⟩ := x99
          try dsimp only at hF hH ⊢
          refine lv_iconst (v := (-1)) X.x X.b (dk DX12_does_1 34 rfl) (by decide) ?_
          refine lv_icmp_ne (tgt := 162) X.x X.b (dk DX12_does_1 35 rfl) (by decide) (fun c103 => ?_) (fun c103 => ?_)
          · replace hF := if_f hF c103
            refine lv_iload X.x X.b (dk DX12_does_1 38 rfl) (lv_at hl 2 rfl) ?_
            cases sm hF
            exact mr_iret X hr hlk hH ⟨rfl, rfl⟩ (dk DX12_does_1 39 rfl)
          · replace hF := if_t hF c103
            refine lv_iconst (v := (-1)) X.x X.b (dk DX12_does_1 36 rfl) (by decide) ?_
            refine lv_goto (tgt := 164) X.x X.b (dk DX12_does_1 37 rfl) (by decide) ?_
            cases sm hF
            exact mr_iret X hr hlk hH ⟨rfl, rfl⟩ (dk DX12_does_1 39 rfl)
  · replace hF := if_f hF c5
    refine lv_aload_n X.x X.b (dk DX12_does_0 17 rfl) rfl (lv_at hl 0 rfl) ?_
    refine og_getR (t := 1) OX12 X hq hH 48 (by decide) rfl kF_X12_90 (dk DX12_does_0 18 rfl) ?_
    refine lv_bipush (v := 40) X.x X.b (dk DX12_does_0 19 rfl) (by decide) ?_
    refine lv_iload_n X.x X.b (dk DX12_does_0 20 rfl) rfl (lv_at hl 1 rfl) ?_
    refine lv_imul X.x X.b (dk DX12_does_0 21 rfl) ?_
    refine lv_iload_n X.x X.b (dk DX12_does_0 22 rfl) rfl (lv_at hl 2 rfl) ?_
    refine lv_iadd X.x X.b (dk DX12_does_0 23 rfl) ?_
    refine lv_iconst (v := 1) X.x X.b (dk DX12_does_0 24 rfl) (by decide) ?_
    refine lv_iadd X.x X.b (dk DX12_does_0 25 rfl) ?_
    obtain ⟨c104, hF⟩ := gd hF
    refine og_lald X hq hH 48 (by decide) rfl (inb_in c104) (dk DX12_does_0 26 rfl) ?_
    refine lv_goto (tgt := 43) X.x X.b (dk DX12_does_0 27 rfl) (by decide) ?_
    refine lv_topl (fun v105 e106 => ?_)
    replace hF := bnd_e hF e106
    refine lv_lstore (lv' := [(5, .long v105), (0, .ref (q 53)), (1, .int a0), (2, .int a1), (3, .long v2)]) X.x X.b (dk DX12_does_0 29 rfl) hl (by decide) rfl (fun ls hl => ?_)
    replace hl : lv_has ls 10 [(0, .ref (q 53)), (1, .int a0), (2, .int a1), (3, .long v2), (5, .long v105)] := lv_sub hl [1, 2, 3, 4, 0] rfl
    refine lv_lload_n X.x X.b (dk DX12_does_0 30 rfl) rfl (lv_at hl 3 rfl) ?_
    refine lv_ldc2 (v := (-1)) X.x X.b X.ow (X.ts _ kK_X12_109) (dk DX12_does_0 31 rfl) ?_
    refine W.lcmp X.x X.b (dk DX12_does_0 32 rfl) ?_
    refine lv_if_ne (tgt := 165) X.x X.b (dk DX12_does_0 33 rfl) (by decide) (fun c107 => ?_) (fun c107 => ?_)
    · replace hF := if_f hF c107
      refine lv_lload_n X.x X.b (dk DX12_does_1 40 rfl) rfl (lv_at hl 3 rfl) ?_
      refine lv_ldc2 (v := (-2)) X.x X.b X.ow (X.ts _ kK_X12_332) (dk DX12_does_1 41 rfl) ?_
      refine W.lcmp X.x X.b (dk DX12_does_1 42 rfl) ?_
      refine lv_if_ne (tgt := 203) X.x X.b (dk DX12_does_1 43 rfl) (by decide) (fun c108 => ?_) (fun c108 => ?_)
      · replace hF := if_f hF c108
        refine lv_lload_n X.x X.b (dk DX12_does_2 4 rfl) rfl (lv_at hl 3 rfl) ?_
        refine lv_ldc2 (v := (-4)) X.x X.b X.ow (X.ts _ kK_X12_441) (dk DX12_does_2 5 rfl) ?_
        refine W.lcmp X.x X.b (dk DX12_does_2 6 rfl) ?_
        refine lv_if_ne (tgt := 240) X.x X.b (dk DX12_does_2 7 rfl) (by decide) (fun c109 => ?_) (fun c109 => ?_)
        · replace hF := if_f hF c109
          refine lv_lload_n X.x X.b (dk DX12_does_2 27 rfl) rfl (lv_at hl 3 rfl) ?_
          refine lv_ldc2 (v := (-3)) X.x X.b X.ow (X.ts _ kK_X12_443) (dk DX12_does_2 28 rfl) ?_
          refine W.lcmp X.x X.b (dk DX12_does_2 29 rfl) ?_
          refine lv_if_ne (tgt := 252) X.x X.b (dk DX12_does_2 30 rfl) (by decide) (fun c110 => ?_) (fun c110 => ?_)
          · replace hF := if_f hF c110
            refine lv_lload_n X.x X.b (dk DX12_does_2 33 rfl) rfl (lv_at hl 3 rfl) ?_
            refine lv_ldc2 (v := (-3)) X.x X.b X.ow (X.ts _ kK_X12_443) (dk DX12_does_2 34 rfl) ?_
            refine W.lcmp X.x X.b (dk DX12_does_2 35 rfl) ?_
            refine lv_if_eq (tgt := 290) X.x X.b (dk DX12_does_2 36 rfl) (by decide) (fun c111 => ?_) (fun c111 => ?_)
            · replace hF := if_t hF c111
              refine lv_iconst (v := 1) X.x X.b (dk DX12_does_2 51 rfl) (by decide) ?_
              refine lv_goto (tgt := 295) X.x X.b (dk DX12_does_2 52 rfl) (by decide) ?_
              refine lv_istore (lv' := [(7, .int 1), (0, .ref (q 53)), (1, .int a0), (2, .int a1), (3, .long v2), (5, .long v105)]) X.x X.b (dk DX12_does_2 54 rfl) hl (by decide) rfl (fun ls hl => ?_)
              replace hl : lv_has ls 10 [(2, .int a1), (7, .int 1)] := lv_sub hl [3, 0] rfl
              refine lv_iload X.x X.b (dk DX12_does_2 55 rfl) (lv_at hl 1 rfl) ?_
              refine lv_if_eq (tgt := 308) X.x X.b (dk DX12_does_2 56 rfl) (by decide) (fun c112 => ?_) (fun c112 => ?_)
              · replace hF := if_t hF c112
                refine lv_iconst (v := (-1)) X.x X.b (dk DX12_does_3 1 rfl) (by decide) ?_
                cases sm hF
                exact mr_iret X hr hlk hH ⟨rfl, rfl⟩ (dk DX12_does_3 2 rfl)
              · replace hF := if_f hF c112
                refine lv_iload_n X.x X.b (dk DX12_does_2 57 rfl) rfl (lv_at hl 0 rfl) ?_
                refine lv_iconst (v := 1) X.x X.b (dk DX12_does_2 58 rfl) (by decide) ?_
                refine lv_iadd X.x X.b (dk DX12_does_2 59 rfl) ?_
                refine lv_goto (tgt := 309) X.x X.b (dk DX12_does_3 0 rfl) (by decide) ?_
                cases sm hF
                exact mr_iret X hr hlk hH ⟨rfl, rfl⟩ (dk DX12_does_3 2 rfl)
            · replace hF := if_f hF c111
              refine lv_lload_n X.x X.b (dk DX12_does_2 37 rfl) rfl (lv_at hl 3 rfl) ?_
              refine lv_ldc2 (v := (-5)) X.x X.b X.ow (X.ts _ kK_X12_445) (dk DX12_does_2 38 rfl) ?_
              refine W.lcmp X.x X.b (dk DX12_does_2 39 rfl) ?_
              refine lv_if_ne (tgt := 275) X.x X.b (dk DX12_does_2 40 rfl) (by decide) (fun c113 => ?_) (fun c113 => ?_)
              · replace hF := if_f hF c113
                refine lv_lload_n X.x X.b (dk DX12_does_2 44 rfl) rfl (lv_at hl 3 rfl) ?_
                refine lv_ldc2 (v := (-6)) X.x X.b X.ow (X.ts _ kK_X12_447) (dk DX12_does_2 45 rfl) ?_
                refine W.lcmp X.x X.b (dk DX12_does_2 46 rfl) ?_
                refine lv_if_ne (tgt := 294) X.x X.b (dk DX12_does_2 47 rfl) (by decide) (fun c114 => ?_) (fun c114 => ?_)
                · replace hF := if_f hF c114
                  refine lv_iconst (v := 0) X.x X.b (dk DX12_does_2 53 rfl) (by decide) ?_
                  refine lv_istore (lv' := [(7, .int 0), (0, .ref (q 53)), (1, .int a0), (2, .int a1), (3, .long v2), (5, .long v105)]) X.x X.b (dk DX12_does_2 54 rfl) hl (by decide) rfl (fun ls hl => ?_)
                  replace hl : lv_has ls 10 [(2, .int a1), (7, .int 0)] := lv_sub hl [3, 0] rfl
                  refine lv_iload X.x X.b (dk DX12_does_2 55 rfl) (lv_at hl 1 rfl) ?_
                  refine lv_if_eq (tgt := 308) X.x X.b (dk DX12_does_2 56 rfl) (by decide) (fun c115 => ?_) (fun c115 => ?_)
                  · replace hF := if_t hF c115
                    refine lv_iconst (v := (-1)) X.x X.b (dk DX12_does_3 1 rfl) (by decide) ?_
                    cases sm hF
                    exact mr_iret X hr hlk hH ⟨rfl, rfl⟩ (dk DX12_does_3 2 rfl)
                  · replace hF := if_f hF c115
                    refine lv_iload_n X.x X.b (dk DX12_does_2 57 rfl) rfl (lv_at hl 0 rfl) ?_
                    refine lv_iconst (v := 1) X.x X.b (dk DX12_does_2 58 rfl) (by decide) ?_
                    refine lv_iadd X.x X.b (dk DX12_does_2 59 rfl) ?_
                    refine lv_goto (tgt := 309) X.x X.b (dk DX12_does_3 0 rfl) (by decide) ?_
                    cases sm hF
                    exact mr_iret X hr hlk hH ⟨rfl, rfl⟩ (dk DX12_does_3 2 rfl)
                · replace hF := if_t hF c114
                  refine lv_aload_n X.x X.b (dk DX12_does_2 48 rfl) rfl (lv_at hl 0 rfl) ?_
                  obtain ⟨x116, e117, hF⟩ := bd hF
                  refine mr_ci0 hH ⟨rfl, rfl⟩ (mr_runV (As := []) (rest := []) X hH (c_X12_doesAgain hq e117) ((oset_at hq (Nat.le_refl _) ohas_N).trans (congrArg some ocell_N)) OX12.1 kM_X12_438 kI_X12_doesAgain kS_X12_doesAgain kN_X12 kC_X12_doesAgain hd_X12_doesAgain ⟨Nat.le_of_ble_eq_true rfl, Nat.le_of_ble_eq_true rfl⟩ rfl hl.1 (Nat.le_of_ble_eq_true rfl) (dk DX12_does_2 49 rfl) ⟨Nat.zero_le _, Nat.zero_le _⟩) (fun r h1 H locs hp hH => ?_)
                  obtain ⟨hr1, hr2⟩ := hp; rw [hr1]; rw [hr2] at hH; clear hr1 hr2
                  obtain ⟨v119, t118⟩ := x116
                  try dsimp only at hF hH ⊢
                  refine lv_if_eq (tgt := 294) X.x X.b (dk DX12_does_2 50 rfl) (by decide) (fun c120 => ?_) (fun c120 => ?_)
                  · replace hF := if_t hF c120
                    refine lv_iconst (v := 0) X.x X.b (dk DX12_does_2 53 rfl) (by decide) ?_
                    refine lv_istore (lv' := [(7, .int 0), (0, .ref (q 53)), (1, .int a0), (2, .int a1), (3, .long v2), (5, .long v105)]) X.x X.b (dk DX12_does_2 54 rfl) hl (by decide) rfl (fun ls hl => ?_)
                    replace hl : lv_has ls 10 [(2, .int a1), (7, .int 0)] := lv_sub hl [3, 0] rfl
                    refine lv_iload X.x X.b (dk DX12_does_2 55 rfl) (lv_at hl 1 rfl) ?_
                    refine lv_if_eq (tgt := 308) X.x X.b (dk DX12_does_2 56 rfl) (by decide) (fun c121 => ?_) (fun c121 => ?_)
                    · replace hF := if_t hF c121
                      refine lv_iconst (v := (-1)) X.x X.b (dk DX12_does_3 1 rfl) (by decide) ?_
                      cases sm hF
                      exact mr_iret X hr hlk hH ⟨rfl, rfl⟩ (dk DX12_does_3 2 rfl)
                    · replace hF := if_f hF c121
                      refine lv_iload_n X.x X.b (dk DX12_does_2 57 rfl) rfl (lv_at hl 0 rfl) ?_
                      refine lv_iconst (v := 1) X.x X.b (dk DX12_does_2 58 rfl) (by decide) ?_
                      refine lv_iadd X.x X.b (dk DX12_does_2 59 rfl) ?_
                      refine lv_goto (tgt := 309) X.x X.b (dk DX12_does_3 0 rfl) (by decide) ?_
                      cases sm hF
                      exact mr_iret X hr hlk hH ⟨rfl, rfl⟩ (dk DX12_does_3 2 rfl)
                  · replace hF := if_f hF c120
                    refine lv_iconst (v := 1) X.x X.b (dk DX12_does_2 51 rfl) (by decide) ?_
                    refine lv_goto (tgt := 295) X.x X.b (dk DX12_does_2 52 rfl) (by decide) ?_
                    refine lv_istore (lv' := [(7, .int 1), (0, .ref (q 53)), (1, .int a0), (2, .int a1), (3, .long v2), (5, .long v105)]) X.x X.b (dk DX12_does_2 54 rfl) hl (by decide) rfl (fun ls hl => ?_)
                    replace hl : lv_has ls 10 [(2, .int a1), (7, .int 1)] := lv_sub hl [3, 0] rfl
                    refine lv_iload X.x X.b (dk DX12_does_2 55 rfl) (lv_at hl 1 rfl) ?_
                    refine lv_if_eq (tgt := 308) X.x X.b (dk DX12_does_2 56 rfl) (by decide) (fun c122 => ?_) (fun c122 => ?_)
                    · replace hF := if_t hF c122
                      refine lv_iconst (v := (-1)) X.x X.b (dk DX12_does_3 1 rfl) (by decide) ?_
                      cases sm hF
                      exact mr_iret X hr hlk hH ⟨rfl, rfl⟩ (dk DX12_does_3 2 rfl)
                    · replace hF := if_f hF c122
                      refine lv_iload_n X.x X.b (dk DX12_does_2 57 rfl) rfl (lv_at hl 0 rfl) ?_
                      refine lv_iconst (v := 1) X.x X.b (dk DX12_does_2 58 rfl) (by decide) ?_
                      refine lv_iadd X.x X.b (dk DX12_does_2 59 rfl) ?_
                      refine lv_goto (tgt := 309) X.x X.b (dk DX12_does_3 0 rfl) (by decide) ?_
                      cases sm hF
                      exact mr_iret X hr hlk hH ⟨rfl, rfl⟩ (dk DX12_does_3 2 rfl)
              · replace hF := if_t hF c113
                refine lv_aload_n X.x X.b (dk DX12_does_2 41 rfl) rfl (lv_at hl 0 rfl) ?_
                obtain ⟨x123, e124, hF⟩ := bd hF
                refine mr_ci0 hH ⟨rfl, rfl⟩ (mr_runV (As := []) (rest := []) X hH (c_X12_undoes hq e124) ((oset_at hq (Nat.le_refl _) ohas_N).trans (congrArg some ocell_N)) OX12.1 kM_X12_435 kI_X12_undoes kS_X12_undoes kN_X12 kC_X12_undoes hd_X12_undoes ⟨Nat.le_of_ble_eq_true rfl, Nat.le_of_ble_eq_true rfl⟩ rfl hl.1 (Nat.le_of_ble_eq_true rfl) (dk DX12_does_2 42 rfl) ⟨Nat.zero_le _, Nat.zero_le _⟩) (fun r h1 H locs hp hH => ?_)
                obtain ⟨hr1, hr2⟩ := hp; rw [hr1]; rw [hr2] at hH; clear hr1 hr2
                obtain ⟨v126, t125⟩ := x123
                try dsimp only at hF hH ⊢
                refine lv_if_ne (tgt := 290) X.x X.b (dk DX12_does_2 43 rfl) (by decide) (fun c127 => ?_) (fun c127 => ?_)
                · replace hF := if_f hF c127
                  refine lv_iconst (v := 1) X.x X.b (dk DX12_does_2 51 rfl) (by decide) ?_
                  refine lv_goto (tgt := 295) X.x X.b (dk DX12_does_2 52 rfl) (by decide) ?_
                  refine lv_istore (lv' := [(7, .int 1), (0, .ref (q 53)), (1, .int a0), (2, .int a1), (3, .long v2), (5, .long v105)]) X.x X.b (dk DX12_does_2 54 rfl) hl (by decide) rfl (fun ls hl => ?_)
                  replace hl : lv_has ls 10 [(2, .int a1), (7, .int 1)] := lv_sub hl [3, 0] rfl
                  refine lv_iload X.x X.b (dk DX12_does_2 55 rfl) (lv_at hl 1 rfl) ?_
                  refine lv_if_eq (tgt := 308) X.x X.b (dk DX12_does_2 56 rfl) (by decide) (fun c128 => ?_) (fun c128 => ?_)
                  · replace hF := if_t hF c128
                    refine lv_iconst (v := (-1)) X.x X.b (dk DX12_does_3 1 rfl) (by decide) ?_
                    cases sm hF
                    exact mr_iret X hr hlk hH ⟨rfl, rfl⟩ (dk DX12_does_3 2 rfl)
                  · replace hF := if_f hF c128
                    refine lv_iload_n X.x X.b (dk DX12_does_2 57 rfl) rfl (lv_at hl 0 rfl) ?_
                    refine lv_iconst (v := 1) X.x X.b (dk DX12_does_2 58 rfl) (by decide) ?_
                    refine lv_iadd X.x X.b (dk DX12_does_2 59 rfl) ?_
                    refine lv_goto (tgt := 309) X.x X.b (dk DX12_does_3 0 rfl) (by decide) ?_
                    cases sm hF
                    exact mr_iret X hr hlk hH ⟨rfl, rfl⟩ (dk DX12_does_3 2 rfl)
                · replace hF := if_t hF c127
                  refine lv_lload_n X.x X.b (dk DX12_does_2 44 rfl) rfl (lv_at hl 3 rfl) ?_
                  refine lv_ldc2 (v := (-6)) X.x X.b X.ow (X.ts _ kK_X12_447) (dk DX12_does_2 45 rfl) ?_
                  refine W.lcmp X.x X.b (dk DX12_does_2 46 rfl) ?_
                  refine lv_if_ne (tgt := 294) X.x X.b (dk DX12_does_2 47 rfl) (by decide) (fun c129 => ?_) (fun c129 => ?_)
                  · replace hF := if_f hF c129
                    refine lv_iconst (v := 0) X.x X.b (dk DX12_does_2 53 rfl) (by decide) ?_
                    refine lv_istore (lv' := [(7, .int 0), (0, .ref (q 53)), (1, .int a0), (2, .int a1), (3, .long v2), (5, .long v105)]) X.x X.b (dk DX12_does_2 54 rfl) hl (by decide) rfl (fun ls hl => ?_)
                    replace hl : lv_has ls 10 [(2, .int a1), (7, .int 0)] := lv_sub hl [3, 0] rfl
                    refine lv_iload X.x X.b (dk DX12_does_2 55 rfl) (lv_at hl 1 rfl) ?_
                    refine lv_if_eq (tgt := 308) X.x X.b (dk DX12_does_2 56 rfl) (by decide) (fun c130 => ?_) (fun c130 => ?_)
                    · replace hF := if_t hF c130
                      refine lv_iconst (v := (-1)) X.x X.b (dk DX12_does_3 1 rfl) (by decide) ?_
                      cases sm hF
                      exact mr_iret X hr hlk hH ⟨rfl, rfl⟩ (dk DX12_does_3 2 rfl)
                    · replace hF := if_f hF c130
                      refine lv_iload_n X.x X.b (dk DX12_does_2 57 rfl) rfl (lv_at hl 0 rfl) ?_
                      refine lv_iconst (v := 1) X.x X.b (dk DX12_does_2 58 rfl) (by decide) ?_
                      refine lv_iadd X.x X.b (dk DX12_does_2 59 rfl) ?_
                      refine lv_goto (tgt := 309) X.x X.b (dk DX12_does_3 0 rfl) (by decide) ?_
                      cases sm hF
                      exact mr_iret X hr hlk hH ⟨rfl, rfl⟩ (dk DX12_does_3 2 rfl)
                  · replace hF := if_t hF c129
                    refine lv_aload_n X.x X.b (dk DX12_does_2 48 rfl) rfl (lv_at hl 0 rfl) ?_
                    obtain ⟨x131, e132, hF⟩ := bd hF
                    refine mr_ci0 hH ⟨rfl, rfl⟩ (mr_runV (As := []) (rest := []) X hH (c_X12_doesAgain hq e132) ((oset_at hq (Nat.le_refl _) ohas_N).trans (congrArg some ocell_N)) OX12.1 kM_X12_438 kI_X12_doesAgain kS_X12_doesAgain kN_X12 kC_X12_doesAgain hd_X12_doesAgain ⟨Nat.le_of_ble_eq_true rfl, Nat.le_of_ble_eq_true rfl⟩ rfl hl.1 (Nat.le_of_ble_eq_true rfl) (dk DX12_does_2 49 rfl) ⟨Nat.zero_le _, Nat.zero_le _⟩) (fun r h1 H locs hp hH => ?_)
                    obtain ⟨hr1, hr2⟩ := hp; rw [hr1]; rw [hr2] at hH; clear hr1 hr2
                    obtain ⟨v134, t133⟩ := x131
                    try dsimp only at hF hH ⊢
                    refine lv_if_eq (tgt := 294) X.x X.b (dk DX12_does_2 50 rfl) (by decide) (fun c135 => ?_) (fun c135 => ?_)
                    · replace hF := if_t hF c135
                      refine lv_iconst (v := 0) X.x X.b (dk DX12_does_2 53 rfl) (by decide) ?_
                      refine lv_istore (lv' := [(7, .int 0), (0, .ref (q 53)), (1, .int a0), (2, .int a1), (3, .long v2), (5, .long v105)]) X.x X.b (dk DX12_does_2 54 rfl) hl (by decide) rfl (fun ls hl => ?_)
                      replace hl : lv_has ls 10 [(2, .int a1), (7, .int 0)] := lv_sub hl [3, 0] rfl
                      refine lv_iload X.x X.b (dk DX12_does_2 55 rfl) (lv_at hl 1 rfl) ?_
                      refine lv_if_eq (tgt := 308) X.x X.b (dk DX12_does_2 56 rfl) (by decide) (fun c136 => ?_) (fun c136 => ?_)
                      · replace hF := if_t hF c136
                        refine lv_iconst (v := (-1)) X.x X.b (dk DX12_does_3 1 rfl) (by decide) ?_
                        cases sm hF
                        exact mr_iret X hr hlk hH ⟨rfl, rfl⟩ (dk DX12_does_3 2 rfl)
                      · replace hF := if_f hF c136
                        refine lv_iload_n X.x X.b (dk DX12_does_2 57 rfl) rfl (lv_at hl 0 rfl) ?_
                        refine lv_iconst (v := 1) X.x X.b (dk DX12_does_2 58 rfl) (by decide) ?_
                        refine lv_iadd X.x X.b (dk DX12_does_2 59 rfl) ?_
                        refine lv_goto (tgt := 309) X.x X.b (dk DX12_does_3 0 rfl) (by decide) ?_
                        cases sm hF
                        exact mr_iret X hr hlk hH ⟨rfl, rfl⟩ (dk DX12_does_3 2 rfl)
                    · replace hF := if_f hF c135
                      refine lv_iconst (v := 1) X.x X.b (dk DX12_does_2 51 rfl) (by decide) ?_
                      refine lv_goto (tgt := 295) X.x X.b (dk DX12_does_2 52 rfl) (by decide) ?_
                      refine lv_istore (lv' := [(7, .int 1), (0, .ref (q 53)), (1, .int a0), (2, .int a1), (3, .long v2), (5, .long v105)]) X.x X.b (dk DX12_does_2 54 rfl) hl (by decide) rfl (fun ls hl => ?_)
                      replace hl : lv_has ls 10 [(2, .int a1), (7, .int 1)] := lv_sub hl [3, 0] rfl
                      refine lv_iload X.x X.b (dk DX12_does_2 55 rfl) (lv_at hl 1 rfl) ?_
                      refine lv_if_eq (tgt := 308) X.x X.b (dk DX12_does_2 56 rfl) (by decide) (fun c137 => ?_) (fun c137 => ?_)
                      · replace hF := if_t hF c137
                        refine lv_iconst (v := (-1)) X.x X.b (dk DX12_does_3 1 rfl) (by decide) ?_
                        cases sm hF
                        exact mr_iret X hr hlk hH ⟨rfl, rfl⟩ (dk DX12_does_3 2 rfl)
                      · replace hF := if_f hF c137
                        refine lv_iload_n X.x X.b (dk DX12_does_2 57 rfl) rfl (lv_at hl 0 rfl) ?_
                        refine lv_iconst (v := 1) X.x X.b (dk DX12_does_2 58 rfl) (by decide) ?_
                        refine lv_iadd X.x X.b (dk DX12_does_2 59 rfl) ?_
                        refine lv_goto (tgt := 309) X.x X.b (dk DX12_does_3 0 rfl) (by decide) ?_
                        cases sm hF
                        exact mr_iret X hr hlk hH ⟨rfl, rfl⟩ (dk DX12_does_3 2 rfl)
          · replace hF := if_t hF c110
            refine lv_aload_n X.x X.b (dk DX12_does_2 31 rfl) rfl (lv_at hl 0 rfl) ?_
            obtain ⟨x138, e139, hF⟩ := bd hF
            refine mr_cv0 hH ⟨rfl, rfl⟩ (mr_runV (As := []) (rest := []) X hH (c_X12_duals hq e139) ((oset_at hq (Nat.le_refl _) ohas_N).trans (congrArg some ocell_N)) OX12.1 kM_X12_426 kI_X12_duals kS_X12_duals kN_X12 kC_X12_duals hd_X12_duals ⟨Nat.le_of_ble_eq_true rfl, Nat.le_of_ble_eq_true rfl⟩ rfl hl.1 (Nat.le_of_ble_eq_true rfl) (dk DX12_does_2 32 rfl) ⟨Nat.zero_le _, Nat.zero_le _⟩) (fun h1 H locs hp hH => ?_)
            rw [hp] at hH; clear hp
            refine lv_lload_n X.x X.b (dk DX12_does_2 33 rfl) rfl (lv_at hl 3 rfl) ?_
            refine lv_ldc2 (v := (-3)) X.x X.b X.ow (X.ts _ kK_X12_443) (dk DX12_does_2 34 rfl) ?_
            refine W.lcmp X.x X.b (dk DX12_does_2 35 rfl) ?_
            refine lv_if_eq (tgt := 290) X.x X.b (dk DX12_does_2 36 rfl) (by decide) (fun c140 => ?_) (fun c140 => ?_)
            · replace hF := if_t hF c140
              refine lv_iconst (v := 1) X.x X.b (dk DX12_does_2 51 rfl) (by decide) ?_
              refine lv_goto (tgt := 295) X.x X.b (dk DX12_does_2 52 rfl) (by decide) ?_
              refine lv_istore (lv' := [(7, .int 1), (0, .ref (q 53)), (1, .int a0), (2, .int a1), (3, .long v2), (5, .long v105)]) X.x X.b (dk DX12_does_2 54 rfl) hl (by decide) rfl (fun ls hl => ?_)
              replace hl : lv_has ls 10 [(2, .int a1), (7, .int 1)] := lv_sub hl [3, 0] rfl
              refine lv_iload X.x X.b (dk DX12_does_2 55 rfl) (lv_at hl 1 rfl) ?_
              refine lv_if_eq (tgt := 308) X.x X.b (dk DX12_does_2 56 rfl) (by decide) (fun c141 => ?_) (fun c141 => ?_)
              · replace hF := if_t hF c141
                refine lv_iconst (v := (-1)) X.x X.b (dk DX12_does_3 1 rfl) (by decide) ?_
                cases sm hF
                exact mr_iret X hr hlk hH ⟨rfl, rfl⟩ (dk DX12_does_3 2 rfl)
              · replace hF := if_f hF c141
                refine lv_iload_n X.x X.b (dk DX12_does_2 57 rfl) rfl (lv_at hl 0 rfl) ?_
                refine lv_iconst (v := 1) X.x X.b (dk DX12_does_2 58 rfl) (by decide) ?_
                refine lv_iadd X.x X.b (dk DX12_does_2 59 rfl) ?_
                refine lv_goto (tgt := 309) X.x X.b (dk DX12_does_3 0 rfl) (by decide) ?_
                cases sm hF
                exact mr_iret X hr hlk hH ⟨rfl, rfl⟩ (dk DX12_does_3 2 rfl)
            · replace hF := if_f hF c140
              refine lv_lload_n X.x X.b (dk DX12_does_2 37 rfl) rfl (lv_at hl 3 rfl) ?_
              refine lv_ldc2 (v := (-5)) X.x X.b X.ow (X.ts _ kK_X12_445) (dk DX12_does_2 38 rfl) ?_
              refine W.lcmp X.x X.b (dk DX12_does_2 39 rfl) ?_
              refine lv_if_ne (tgt := 275) X.x X.b (dk DX12_does_2 40 rfl) (by decide) (fun c142 => ?_) (fun c142 => ?_)
              · replace hF := if_f hF c142
                refine lv_lload_n X.x X.b (dk DX12_does_2 44 rfl) rfl (lv_at hl 3 rfl) ?_
                refine lv_ldc2 (v := (-6)) X.x X.b X.ow (X.ts _ kK_X12_447) (dk DX12_does_2 45 rfl) ?_
                refine W.lcmp X.x X.b (dk DX12_does_2 46 rfl) ?_
                refine lv_if_ne (tgt := 294) X.x X.b (dk DX12_does_2 47 rfl) (by decide) (fun c143 => ?_) (fun c143 => ?_)
                · replace hF := if_f hF c143
                  refine lv_iconst (v := 0) X.x X.b (dk DX12_does_2 53 rfl) (by decide) ?_
                  refine lv_istore (lv' := [(7, .int 0), (0, .ref (q 53)), (1, .int a0), (2, .int a1), (3, .long v2), (5, .long v105)]) X.x X.b (dk DX12_does_2 54 rfl) hl (by decide) rfl (fun ls hl => ?_)
                  replace hl : lv_has ls 10 [(2, .int a1), (7, .int 0)] := lv_sub hl [3, 0] rfl
                  refine lv_iload X.x X.b (dk DX12_does_2 55 rfl) (lv_at hl 1 rfl) ?_
                  refine lv_if_eq (tgt := 308) X.x X.b (dk DX12_does_2 56 rfl) (by decide) (fun c144 => ?_) (fun c144 => ?_)
                  · replace hF := if_t hF c144
                    refine lv_iconst (v := (-1)) X.x X.b (dk DX12_does_3 1 rfl) (by decide) ?_
                    cases sm hF
                    exact mr_iret X hr hlk hH ⟨rfl, rfl⟩ (dk DX12_does_3 2 rfl)
                  · replace hF := if_f hF c144
                    refine lv_iload_n X.x X.b (dk DX12_does_2 57 rfl) rfl (lv_at hl 0 rfl) ?_
                    refine lv_iconst (v := 1) X.x X.b (dk DX12_does_2 58 rfl) (by decide) ?_
                    refine lv_iadd X.x X.b (dk DX12_does_2 59 rfl) ?_
                    refine lv_goto (tgt := 309) X.x X.b (dk DX12_does_3 0 rfl) (by decide) ?_
                    cases sm hF
                    exact mr_iret X hr hlk hH ⟨rfl, rfl⟩ (dk DX12_does_3 2 rfl)
                · replace hF := if_t hF c143
                  refine lv_aload_n X.x X.b (dk DX12_does_2 48 rfl) rfl (lv_at hl 0 rfl) ?_
                  obtain ⟨x145, e146, hF⟩ := bd hF
                  refine mr_ci0 hH ⟨rfl, rfl⟩ (mr_runV (As := []) (rest := []) X hH (c_X12_doesAgain hq e146) ((oset_at hq (Nat.le_refl _) ohas_N).trans (congrArg some ocell_N)) OX12.1 kM_X12_438 kI_X12_doesAgain kS_X12_doesAgain kN_X12 kC_X12_doesAgain hd_X12_doesAgain ⟨Nat.le_of_ble_eq_true rfl, Nat.le_of_ble_eq_true rfl⟩ rfl hl.1 (Nat.le_of_ble_eq_true rfl) (dk DX12_does_2 49 rfl) ⟨Nat.zero_le _, Nat.zero_le _⟩) (fun r h1 H locs hp hH => ?_)
                  obtain ⟨hr1, hr2⟩ := hp; rw [hr1]; rw [hr2] at hH; clear hr1 hr2
                  obtain ⟨v148, t147⟩ := x145
                  try dsimp only at hF hH ⊢
                  refine lv_if_eq (tgt := 294) X.x X.b (dk DX12_does_2 50 rfl) (by decide) (fun c149 => ?_) (fun c149 => ?_)
                  · replace hF := if_t hF c149
                    refine lv_iconst (v := 0) X.x X.b (dk DX12_does_2 53 rfl) (by decide) ?_
                    refine lv_istore (lv' := [(7, .int 0), (0, .ref (q 53)), (1, .int a0), (2, .int a1), (3, .long v2), (5, .long v105)]) X.x X.b (dk DX12_does_2 54 rfl) hl (by decide) rfl (fun ls hl => ?_)
                    replace hl : lv_has ls 10 [(2, .int a1), (7, .int 0)] := lv_sub hl [3, 0] rfl
                    refine lv_iload X.x X.b (dk DX12_does_2 55 rfl) (lv_at hl 1 rfl) ?_
                    refine lv_if_eq (tgt := 308) X.x X.b (dk DX12_does_2 56 rfl) (by decide) (fun c150 => ?_) (fun c150 => ?_)
                    · replace hF := if_t hF c150
                      refine lv_iconst (v := (-1)) X.x X.b (dk DX12_does_3 1 rfl) (by decide) ?_
                      cases sm hF
                      exact mr_iret X hr hlk hH ⟨rfl, rfl⟩ (dk DX12_does_3 2 rfl)
                    · replace hF := if_f hF c150
                      refine lv_iload_n X.x X.b (dk DX12_does_2 57 rfl) rfl (lv_at hl 0 rfl) ?_
                      refine lv_iconst (v := 1) X.x X.b (dk DX12_does_2 58 rfl) (by decide) ?_
                      refine lv_iadd X.x X.b (dk DX12_does_2 59 rfl) ?_
                      refine lv_goto (tgt := 309) X.x X.b (dk DX12_does_3 0 rfl) (by decide) ?_
                      cases sm hF
                      exact mr_iret X hr hlk hH ⟨rfl, rfl⟩ (dk DX12_does_3 2 rfl)
                  · replace hF := if_f hF c149
                    refine lv_iconst (v := 1) X.x X.b (dk DX12_does_2 51 rfl) (by decide) ?_
                    refine lv_goto (tgt := 295) X.x X.b (dk DX12_does_2 52 rfl) (by decide) ?_
                    refine lv_istore (lv' := [(7, .int 1), (0, .ref (q 53)), (1, .int a0), (2, .int a1), (3, .long v2), (5, .long v105)]) X.x X.b (dk DX12_does_2 54 rfl) hl (by decide) rfl (fun ls hl => ?_)
                    replace hl : lv_has ls 10 [(2, .int a1), (7, .int 1)] := lv_sub hl [3, 0] rfl
                    refine lv_iload X.x X.b (dk DX12_does_2 55 rfl) (lv_at hl 1 rfl) ?_
                    refine lv_if_eq (tgt := 308) X.x X.b (dk DX12_does_2 56 rfl) (by decide) (fun c151 => ?_) (fun c151 => ?_)
                    · replace hF := if_t hF c151
                      refine lv_iconst (v := (-1)) X.x X.b (dk DX12_does_3 1 rfl) (by decide) ?_
                      cases sm hF
                      exact mr_iret X hr hlk hH ⟨rfl, rfl⟩ (dk DX12_does_3 2 rfl)
                    · replace hF := if_f hF c151
                      refine lv_iload_n X.x X.b (dk DX12_does_2 57 rfl) rfl (lv_at hl 0 rfl) ?_
                      refine lv_iconst (v := 1) X.x X.b (dk DX12_does_2 58 rfl) (by decide) ?_
                      refine lv_iadd X.x X.b (dk DX12_does_2 59 rfl) ?_
                      refine lv_goto (tgt := 309) X.x X.b (dk DX12_does_3 0 rfl) (by decide) ?_
                      cases sm hF
                      exact mr_iret X hr hlk hH ⟨rfl, rfl⟩ (dk DX12_does_3 2 rfl)
              · replace hF := if_t hF c142
                refine lv_aload_n X.x X.b (dk DX12_does_2 41 rfl) rfl (lv_at hl 0 rfl) ?_
                obtain ⟨x152, e153, hF⟩ := bd hF
                refine mr_ci0 hH ⟨rfl, rfl⟩ (mr_runV (As := []) (rest := []) X hH (c_X12_undoes hq e153) ((oset_at hq (Nat.le_refl _) ohas_N).trans (congrArg some ocell_N)) OX12.1 kM_X12_435 kI_X12_undoes kS_X12_undoes kN_X12 kC_X12_undoes hd_X12_undoes ⟨Nat.le_of_ble_eq_true rfl, Nat.le_of_ble_eq_true rfl⟩ rfl hl.1 (Nat.le_of_ble_eq_true rfl) (dk DX12_does_2 42 rfl) ⟨Nat.zero_le _, Nat.zero_le _⟩) (fun r h1 H locs hp hH => ?_)
                obtain ⟨hr1, hr2⟩ := hp; rw [hr1]; rw [hr2] at hH; clear hr1 hr2
                obtain ⟨v155, t154⟩ := x152
                try dsimp only at hF hH ⊢
                refine lv_if_ne (tgt := 290) X.x X.b (dk DX12_does_2 43 rfl) (by decide) (fun c156 => ?_) (fun c156 => ?_)
                · replace hF := if_f hF c156
                  refine lv_iconst (v := 1) X.x X.b (dk DX12_does_2 51 rfl) (by decide) ?_
                  refine lv_goto (tgt := 295) X.x X.b (dk DX12_does_2 52 rfl) (by decide) ?_
                  refine lv_istore (lv' := [(7, .int 1), (0, .ref (q 53)), (1, .int a0), (2, .int a1), (3, .long v2), (5, .long v105)]) X.x X.b (dk DX12_does_2 54 rfl) hl (by decide) rfl (fun ls hl => ?_)
                  replace hl : lv_has ls 10 [(2, .int a1), (7, .int 1)] := lv_sub hl [3, 0] rfl
                  refine lv_iload X.x X.b (dk DX12_does_2 55 rfl) (lv_at hl 1 rfl) ?_
                  refine lv_if_eq (tgt := 308) X.x X.b (dk DX12_does_2 56 rfl) (by decide) (fun c157 => ?_) (fun c157 => ?_)
                  · replace hF := if_t hF c157
                    refine lv_iconst (v := (-1)) X.x X.b (dk DX12_does_3 1 rfl) (by decide) ?_
                    cases sm hF
                    exact mr_iret X hr hlk hH ⟨rfl, rfl⟩ (dk DX12_does_3 2 rfl)
                  · replace hF := if_f hF c157
                    refine lv_iload_n X.x X.b (dk DX12_does_2 57 rfl) rfl (lv_at hl 0 rfl) ?_
                    refine lv_iconst (v := 1) X.x X.b (dk DX12_does_2 58 rfl) (by decide) ?_
                    refine lv_iadd X.x X.b (dk DX12_does_2 59 rfl) ?_
                    refine lv_goto (tgt := 309) X.x X.b (dk DX12_does_3 0 rfl) (by decide) ?_
                    cases sm hF
                    exact mr_iret X hr hlk hH ⟨rfl, rfl⟩ (dk DX12_does_3 2 rfl)
                · replace hF := if_t hF c156
                  refine lv_lload_n X.x X.b (dk DX12_does_2 44 rfl) rfl (lv_at hl 3 rfl) ?_
                  refine lv_ldc2 (v := (-6)) X.x X.b X.ow (X.ts _ kK_X12_447) (dk DX12_does_2 45 rfl) ?_
                  refine W.lcmp X.x X.b (dk DX12_does_2 46 rfl) ?_
                  refine lv_if_ne (tgt := 294) X.x X.b (dk DX12_does_2 47 rfl) (by decide) (fun c158 => ?_) (fun c158 => ?_)
                  · replace hF := if_f hF c158
                    refine lv_iconst (v := 0) X.x X.b (dk DX12_does_2 53 rfl) (by decide) ?_
                    refine lv_istore (lv' := [(7, .int 0), (0, .ref (q 53)), (1, .int a0), (2, .int a1), (3, .long v2), (5, .long v105)]) X.x X.b (dk DX12_does_2 54 rfl) hl (by decide) rfl (fun ls hl => ?_)
                    replace hl : lv_has ls 10 [(2, .int a1), (7, .int 0)] := lv_sub hl [3, 0] rfl
                    refine lv_iload X.x X.b (dk DX12_does_2 55 rfl) (lv_at hl 1 rfl) ?_
                    refine lv_if_eq (tgt := 308) X.x X.b (dk DX12_does_2 56 rfl) (by decide) (fun c159 => ?_) (fun c159 => ?_)
                    · replace hF := if_t hF c159
                      refine lv_iconst (v := (-1)) X.x X.b (dk DX12_does_3 1 rfl) (by decide) ?_
                      cases sm hF
                      exact mr_iret X hr hlk hH ⟨rfl, rfl⟩ (dk DX12_does_3 2 rfl)
                    · replace hF := if_f hF c159
                      refine lv_iload_n X.x X.b (dk DX12_does_2 57 rfl) rfl (lv_at hl 0 rfl) ?_
                      refine lv_iconst (v := 1) X.x X.b (dk DX12_does_2 58 rfl) (by decide) ?_
                      refine lv_iadd X.x X.b (dk DX12_does_2 59 rfl) ?_
                      refine lv_goto (tgt := 309) X.x X.b (dk DX12_does_3 0 rfl) (by decide) ?_
                      cases sm hF
                      exact mr_iret X hr hlk hH ⟨rfl, rfl⟩ (dk DX12_does_3 2 rfl)
                  · replace hF := if_t hF c158
                    refine lv_aload_n X.x X.b (dk DX12_does_2 48 rfl) rfl (lv_at hl 0 rfl) ?_
                    obtain ⟨x160, e161, hF⟩ := bd hF
                    refine mr_ci0 hH ⟨rfl, rfl⟩ (mr_runV (As := []) (rest := []) X hH (c_X12_doesAgain hq e161) ((oset_at hq (Nat.le_refl _) ohas_N).trans (congrArg some ocell_N)) OX12.1 kM_X12_438 kI_X12_doesAgain kS_X12_doesAgain kN_X12 kC_X12_doesAgain hd_X12_doesAgain ⟨Nat.le_of_ble_eq_true rfl, Nat.le_of_ble_eq_true rfl⟩ rfl hl.1 (Nat.le_of_ble_eq_true rfl) (dk DX12_does_2 49 rfl) ⟨Nat.zero_le _, Nat.zero_le _⟩) (fun r h1 H locs hp hH => ?_)
                    obtain ⟨hr1, hr2⟩ := hp; rw [hr1]; rw [hr2] at hH; clear hr1 hr2
                    obtain ⟨v163, t162⟩ := x160
                    try dsimp only at hF hH ⊢
                    refine lv_if_eq (tgt := 294) X.x X.b (dk DX12_does_2 50 rfl) (by decide) (fun c164 => ?_) (fun c164 => ?_)
                    · replace hF := if_t hF c164
                      refine lv_iconst (v := 0) X.x X.b (dk DX12_does_2 53 rfl) (by decide) ?_
                      refine lv_istore (lv' := [(7, .int 0), (0, .ref (q 53)), (1, .int a0), (2, .int a1), (3, .long v2), (5, .long v105)]) X.x X.b (dk DX12_does_2 54 rfl) hl (by decide) rfl (fun ls hl => ?_)
                      replace hl : lv_has ls 10 [(2, .int a1), (7, .int 0)] := lv_sub hl [3, 0] rfl
                      refine lv_iload X.x X.b (dk DX12_does_2 55 rfl) (lv_at hl 1 rfl) ?_
                      refine lv_if_eq (tgt := 308) X.x X.b (dk DX12_does_2 56 rfl) (by decide) (fun c165 => ?_) (fun c165 => ?_)
                      · replace hF := if_t hF c165
                        refine lv_iconst (v := (-1)) X.x X.b (dk DX12_does_3 1 rfl) (by decide) ?_
                        cases sm hF
                        exact mr_iret X hr hlk hH ⟨rfl, rfl⟩ (dk DX12_does_3 2 rfl)
                      · replace hF := if_f hF c165
                        refine lv_iload_n X.x X.b (dk DX12_does_2 57 rfl) rfl (lv_at hl 0 rfl) ?_
                        refine lv_iconst (v := 1) X.x X.b (dk DX12_does_2 58 rfl) (by decide) ?_
                        refine lv_iadd X.x X.b (dk DX12_does_2 59 rfl) ?_
                        refine lv_goto (tgt := 309) X.x X.b (dk DX12_does_3 0 rfl) (by decide) ?_
                        cases sm hF
                        exact mr_iret X hr hlk hH ⟨rfl, rfl⟩ (dk DX12_does_3 2 rfl)
                    · replace hF := if_f hF c164
                      refine lv_iconst (v := 1) X.x X.b (dk DX12_does_2 51 rfl) (by decide) ?_
                      refine lv_goto (tgt := 295) X.x X.b (dk DX12_does_2 52 rfl) (by decide) ?_
                      refine lv_istore (lv' := [(7, .int 1), (0, .ref (q 53)), (1, .int a0), (2, .int a1), (3, .long v2), (5, .long v105)]) X.x X.b (dk DX12_does_2 54 rfl) hl (by decide) rfl (fun ls hl => ?_)
                      replace hl : lv_has ls 10 [(2, .int a1), (7, .int 1)] := lv_sub hl [3, 0] rfl
                      refine lv_iload X.x X.b (dk DX12_does_2 55 rfl) (lv_at hl 1 rfl) ?_
                      refine lv_if_eq (tgt := 308) X.x X.b (dk DX12_does_2 56 rfl) (by decide) (fun c166 => ?_) (fun c166 => ?_)
                      · replace hF := if_t hF c166
                        refine lv_iconst (v := (-1)) X.x X.b (dk DX12_does_3 1 rfl) (by decide) ?_
                        cases sm hF
                        exact mr_iret X hr hlk hH ⟨rfl, rfl⟩ (dk DX12_does_3 2 rfl)
                      · replace hF := if_f hF c166
                        refine lv_iload_n X.x X.b (dk DX12_does_2 57 rfl) rfl (lv_at hl 0 rfl) ?_
                        refine lv_iconst (v := 1) X.x X.b (dk DX12_does_2 58 rfl) (by decide) ?_
                        refine lv_iadd X.x X.b (dk DX12_does_2 59 rfl) ?_
                        refine lv_goto (tgt := 309) X.x X.b (dk DX12_does_3 0 rfl) (by decide) ?_
                        cases sm hF
                        exact mr_iret X hr hlk hH ⟨rfl, rfl⟩ (dk DX12_does_3 2 rfl)
        · replace hF := if_t hF c109
          refine lv_lload X.x X.b (dk DX12_does_2 8 rfl) (lv_at hl 4 rfl) ?_
          refine lv_lconst (v := 0) X.x X.b (dk DX12_does_2 9 rfl) (by decide) ?_
          refine lv_aload_n X.x X.b (dk DX12_does_2 10 rfl) rfl (lv_at hl 0 rfl) ?_
          refine og_getI OX12 X hq hH 0 (by decide) rfl kF_X12_248 (dk DX12_does_2 11 rfl) ?_
          refine lv_iconst (v := 1) X.x X.b (dk DX12_does_2 12 rfl) (by decide) ?_
          refine lv_isub X.x X.b (dk DX12_does_2 13 rfl) ?_
          refine lv_i2l X.x X.b (dk DX12_does_2 14 rfl) rfl ?_
          obtain ⟨x167, e168, hF⟩ := bd hF
          refine mr_ci0 hH ⟨rfl, rfl⟩ (mr_runS (As := [.long v105, .long 0, .long (((st.1 0) - 1 : Int32).toInt64)]) (rest := []) X hH (c_X12_within e168) kM_X12_171 kT_X12_within kN_X12 kC_X12_within hd_X12_within ⟨Nat.le_of_ble_eq_true rfl, Nat.le_of_ble_eq_true rfl⟩ rfl hl.1 (Nat.le_of_ble_eq_true rfl) (dk DX12_does_2 15 rfl) ⟨Nat.zero_le _, Nat.zero_le _⟩) (fun r h1 H locs hp hH => ?_)
          obtain ⟨hr1, hr2⟩ := hp; rw [hr1]; rw [hr2] at hH; clear hr1 hr2
          refine lv_if_ne (tgt := 229) X.x X.b (dk DX12_does_2 16 rfl) (by decide) (fun c169 => ?_) (fun c169 => ?_)
          · replace hF := if_f hF c169
            refine lv_aload_n X.x X.b (dk DX12_does_2 19 rfl) rfl (lv_at hl 0 rfl) ?_
            refine lv_lload X.x X.b (dk DX12_does_2 20 rfl) (lv_at hl 4 rfl) ?_
            refine lv_l2i X.x X.b (dk DX12_does_2 21 rfl) rfl ?_
            obtain ⟨x170, e171, hF⟩ := bd hF
            refine mr_cv0 hH ⟨rfl, rfl⟩ (mr_runV (As := [.int ((v105 : Int64).toInt32)]) (rest := []) X hH (c_X12_leaves hq e171) ((oset_at hq (Nat.le_refl _) ohas_N).trans (congrArg some ocell_N)) OX12.1 kM_X12_429 kI_X12_leaves kS_X12_leaves kN_X12 kC_X12_leaves hd_X12_leaves ⟨Nat.le_of_ble_eq_true rfl, Nat.le_of_ble_eq_true rfl⟩ rfl hl.1 (Nat.le_of_ble_eq_true rfl) (dk DX12_does_2 22 rfl) ⟨Nat.zero_le _, Nat.zero_le _⟩) (fun h1 H locs hp hH => ?_)
            rw [hp] at hH; clear hp
            refine lv_iload_n X.x X.b (dk DX12_does_2 23 rfl) rfl (lv_at hl 2 rfl) ?_
            refine lv_iconst (v := 2) X.x X.b (dk DX12_does_2 24 rfl) (by decide) ?_
            refine lv_iadd X.x X.b (dk DX12_does_2 25 rfl) ?_
            cases sm hF
            exact mr_iret X hr hlk hH ⟨rfl, rfl⟩ (dk DX12_does_2 26 rfl)
          · replace hF := if_t hF c169
            refine lv_iconst (v := (-1)) X.x X.b (dk DX12_does_2 17 rfl) (by decide) ?_
            cases sm hF
            exact mr_iret X hr hlk hH ⟨rfl, rfl⟩ (dk DX12_does_2 18 rfl)
      · replace hF := if_t hF c108
        refine lv_lload X.x X.b (dk DX12_does_1 44 rfl) (lv_at hl 4 rfl) ?_
        refine lv_lconst (v := 0) X.x X.b (dk DX12_does_1 45 rfl) (by decide) ?_
        refine lv_aload_n X.x X.b (dk DX12_does_1 46 rfl) rfl (lv_at hl 0 rfl) ?_
        refine og_getI OX12 X hq hH 1 (by decide) rfl kF_X12_250 (dk DX12_does_1 47 rfl) ?_
        refine lv_iconst (v := 1) X.x X.b (dk DX12_does_1 48 rfl) (by decide) ?_
        refine lv_isub X.x X.b (dk DX12_does_1 49 rfl) ?_
        refine lv_i2l X.x X.b (dk DX12_does_1 50 rfl) rfl ?_
        obtain ⟨x172, e173, hF⟩ := bd hF
        refine mr_ci0 hH ⟨rfl, rfl⟩ (mr_runS (As := [.long v105, .long 0, .long (((st.1 1) - 1 : Int32).toInt64)]) (rest := []) X hH (c_X12_within e173) kM_X12_171 kT_X12_within kN_X12 kC_X12_within hd_X12_within ⟨Nat.le_of_ble_eq_true rfl, Nat.le_of_ble_eq_true rfl⟩ rfl hl.1 (Nat.le_of_ble_eq_true rfl) (dk DX12_does_1 51 rfl) ⟨Nat.zero_le _, Nat.zero_le _⟩) (fun r h1 H locs hp hH => ?_)
        obtain ⟨hr1, hr2⟩ := hp; rw [hr1]; rw [hr2] at hH; clear hr1 hr2
        refine lv_if_ne (tgt := 191) X.x X.b (dk DX12_does_1 52 rfl) (by decide) (fun c174 => ?_) (fun c174 => ?_)
        · replace hF := if_f hF c174
          refine lv_aload_n X.x X.b (dk DX12_does_1 55 rfl) rfl (lv_at hl 0 rfl) ?_
          refine lv_lload X.x X.b (dk DX12_does_1 56 rfl) (lv_at hl 4 rfl) ?_
          refine lv_l2i X.x X.b (dk DX12_does_1 57 rfl) rfl ?_
          obtain ⟨x175, e176, hF⟩ := bd hF
          refine mr_cl0 hH ⟨rfl, rfl⟩ (mr_runV (As := [.int ((v105 : Int64).toInt32)]) (rest := []) X hH (c_X12_drops hq e176) ((oset_at hq (Nat.le_refl _) ohas_N).trans (congrArg some ocell_N)) OX12.1 kM_X12_423 kI_X12_drops kS_X12_drops kN_X12 kC_X12_drops hd_X12_drops ⟨Nat.le_of_ble_eq_true rfl, Nat.le_of_ble_eq_true rfl⟩ rfl hl.1 (Nat.le_of_ble_eq_true rfl) (dk DX12_does_1 58 rfl) ⟨Nat.zero_le _, Nat.zero_le _⟩) (fun r h1 H locs hp hH => ?_)
          obtain ⟨hr1, hr2⟩ := hp; rw [hr1]; rw [hr2] at hH; clear hr1 hr2
          obtain ⟨v178, t177⟩ := x175
          try dsimp only at hF hH ⊢
          refine lv_pop2_2 X.x X.b (dk DX12_does_1 59 rfl) rfl ?_
          refine lv_iload_n X.x X.b (dk DX12_does_2 0 rfl) rfl (lv_at hl 2 rfl) ?_
          refine lv_iconst (v := 2) X.x X.b (dk DX12_does_2 1 rfl) (by decide) ?_
          refine lv_iadd X.x X.b (dk DX12_does_2 2 rfl) ?_
          cases sm hF
          exact mr_iret X hr hlk hH ⟨rfl, rfl⟩ (dk DX12_does_2 3 rfl)
        · replace hF := if_t hF c174
          refine lv_iconst (v := (-1)) X.x X.b (dk DX12_does_1 53 rfl) (by decide) ?_
          cases sm hF
          exact mr_iret X hr hlk hH ⟨rfl, rfl⟩ (dk DX12_does_1 54 rfl)
    · replace hF := if_t hF c107
      refine lv_lconst (v := 0) X.x X.b (dk DX12_does_0 34 rfl) (by decide) ?_
      refine lv_lstore (lv' := [(7, .long 0), (0, .ref (q 53)), (1, .int a0), (2, .int a1), (3, .long v2), (5, .long v105)]) X.x X.b (dk DX12_does_0 35 rfl) hl (by decide) rfl (fun ls hl => ?_)
      replace hl : lv_has ls 10 [(0, .ref (q 53)), (1, .int a0), (2, .int a1), (7, .long 0)] := lv_sub hl [1, 2, 3, 0] rfl
      refine lv_iload_n X.x X.b (dk DX12_does_0 36 rfl) rfl (lv_at hl 2 rfl) ?_
      refine lv_iconst (v := 1) X.x X.b (dk DX12_does_0 37 rfl) (by decide) ?_
      refine lv_iadd X.x X.b (dk DX12_does_0 38 rfl) ?_
      refine lv_topi (fun v179 e180 => ?_)
      replace hF := bnd_e hF e180
      refine lv_istore (lv' := [(9, .int v179), (0, .ref (q 53)), (1, .int a0), (2, .int a1), (7, .long 0)]) X.x X.b (dk DX12_does_0 39 rfl) hl (by decide) rfl (fun ls hl => ?_)
      replace hl : lv_has ls 10 [(0, .ref (q 53)), (1, .int a0), (7, .long 0), (9, .int v179)] := lv_sub hl [1, 2, 4, 0] rfl
      obtain ⟨x181, e182, hF⟩ := bd hF
      replace hl : lv_has ls 10 [(0, .ref (q 53)), (1, .int a0), (7, .long 0), (9, .int v179)] := lv_sub hl [0, 1, 2, 3] rfl
      obtain ⟨k185, v183, v184⟩ := x181
      try dsimp only at hF
      refine w_X12_does_61 hq X st a0 _ _ e182 _ _ _ hH hl (fun hk H locs ls hH hl => ?_) (fun hk H locs ls hH hl => ?_)
      · try dsimp only at hH hl
        try dsimp only at hk
        subst hk
        replace hF := if_t hF rfl
        refine lv_iconst (v := (-1)) X.x X.b (dk DX12_does_1 10 rfl) (by decide) ?_
        cases sm hF
        exact mr_iret X hr hlk hH ⟨rfl, rfl⟩ (dk DX12_does_1 11 rfl)
      · try dsimp only at hH hl
        try dsimp only at hk
        subst hk
        replace hF := if_f hF (by decide)
        refine lv_lload X.x X.b (dk DX12_does_1 27 rfl) (lv_at hl 1 rfl) ?_
        obtain ⟨x186, e187, hF⟩ := bd hF
        refine mr_ci0 hH ⟨rfl, rfl⟩ (mr_runS (As := [.long v183]) (rest := []) X hH (c_X12_ones e187) kM_X12_283 kT_X12_ones kN_X12 kC_X12_ones hd_X12_ones ⟨Nat.le_of_ble_eq_true rfl, Nat.le_of_ble_eq_true rfl⟩ rfl hl.1 (Nat.le_of_ble_eq_true rfl) (dk DX12_does_1 28 rfl) ⟨Nat.zero_le _, Nat.zero_le _⟩) (fun r h1 H locs hp hH => ?_)
        obtain ⟨hr1, hr2⟩ := hp; rw [hr1]; rw [hr2] at hH; clear hr1 hr2
        refine lv_iconst (v := 2) X.x X.b (dk DX12_does_1 29 rfl) (by decide) ?_
        refine lv_icmp_lt (tgt := 158) X.x X.b (dk DX12_does_1 30 rfl) (by decide) (fun c188 => ?_) (fun c188 => ?_)
        · replace hF := if_t hF c188
          refine lv_iconst (v := (-1)) X.x X.b (dk DX12_does_1 36 rfl) (by decide) ?_
          refine lv_goto (tgt := 164) X.x X.b (dk DX12_does_1 37 rfl) (by decide) ?_
          cases sm hF
          exact mr_iret X hr hlk hH ⟨rfl, rfl⟩ (dk DX12_does_1 39 rfl)
        · replace hF := if_f hF c188
          refine lv_aload_n X.x X.b (dk DX12_does_1 31 rfl) rfl (lv_at hl 0 rfl) ?_
          refine lv_lload X.x X.b (dk DX12_does_1 32 rfl) (lv_at hl 1 rfl) ?_
          obtain ⟨x189, e190, hF⟩ := bd hF
          refine mr_ci0 hH ⟨rfl, rfl⟩ (mr_runV (As := [.long v183]) (rest := []) X hH (c_X12_adds hq e190) ((oset_at hq (Nat.le_refl _) ohas_N).trans (congrArg some ocell_N)) OX12.1 kM_X12_420 kI_X12_adds kS_X12_adds kN_X12 kC_X12_adds hd_X12_adds ⟨Nat.le_of_ble_eq_true rfl, Nat.le_of_ble_eq_true rfl⟩ rfl hl.1 (Nat.le_of_ble_eq_true rfl) (dk DX12_does_1 33 rfl) ⟨Nat.zero_le _, Nat.zero_le _⟩) (fun r h1 H locs hp hH => ?_)
          obtain ⟨hr1, hr2⟩ := hp; rw [hr1]; rw [hr2] at hH; clear hr1 hr2
          obtain ⟨v192, t191⟩ := x189
          try dsimp only at hF hH ⊢
          refine lv_iconst (v := (-1)) X.x X.b (dk DX12_does_1 34 rfl) (by decide) ?_
          refine lv_icmp_ne (tgt := 162) X.x X.b (dk DX12_does_1 35 rfl) (by decide) (fun c193 => ?_) (fun c193 => ?_)
          · replace hF := if_f hF c193
            refine lv_iload X.x X.b (dk DX12_does_1 38 rfl) (lv_at hl 2 rfl) ?_
            cases sm hF
            exact mr_iret X hr hlk hH ⟨rfl, rfl⟩ (dk DX12_does_1 39 rfl)
          · replace hF := if_t hF c193
            refine lv_iconst (v := (-1)) X.x X.b (dk DX12_does_1 36 rfl) (by decide) ?_
            refine lv_goto (tgt := 164) X.x X.b (dk DX12_does_1 37 rfl) (by decide) ?_
            cases sm hF
            exact mr_iret X hr hlk hH ⟨rfl, rfl⟩ (dk DX12_does_1 39 rfl)
