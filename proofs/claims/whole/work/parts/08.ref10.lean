-- X12_add
abbrev rm_X12_add : Room := { frames := 4, cells := 0, slots := 0, locals := 89 }
theorem hd_X12_add : mHd yX12_add 1 := ⟨by decide +kernel, by decide +kernel, by decide +kernel⟩
theorem DX12_add_0 : ∀ t ∈ ([(0, .aload_n 0, 1), (1, .aload_n 0, 1), (2, .lload_n 1, 1), (3, .invokevirtual 275, 3), (6, .ifCond .eq 15, 3), (9, .lload_n 1, 1), (10, .invokestatic 283, 3), (13, .iconst 2, 1), (14, .if_icmp .lt 7, 3), (17, .iconst 0, 1), (18, .goto 4, 3), (21, .iconst 1, 1), (22, .putfield 106, 3), (25, .aload_n 0, 1), (26, .getfield 106, 3), (29, .ifCond .le 7, 3), (32, .iconst 0, 1), (33, .goto 8, 3), (36, .aload_n 0, 1), (37, .lload_n 1, 1), (38, .invokevirtual 420, 3), (41, .ireturn, 1)] : List (Nat × Instr × Nat)), decode cX12_add t.1 = .ok (t.2.1, t.2.2) := by decide +kernel
noncomputable def f_X12_add (st : OS) (a0 : Int64) : Option (Int32 × OS) := (f_X12_isSet st a0).bind (fun x1 => (if x1 = 0 then bnd (oI st 2 1) (fun t5 => (if (t5.1 2) ≤ 0 then (f_X12_adds t5 a0).bind (fun x8 => match x8 with | (v10, t11) => some ((v10, t11))) else some ((0, t5)))) else (f_X12_ones a0).bind (fun x12 => (if x12 < 2 then bnd (oI st 2 1) (fun t16 => (if (t16.1 2) ≤ 0 then (f_X12_adds t16 a0).bind (fun x19 => match x19 with | (v21, t22) => some ((v21, t22))) else some ((0, t16)))) else bnd (oI st 2 0) (fun t23 => (if (t23.1 2) ≤ 0 then (f_X12_adds t23 a0).bind (fun x26 => match x26 with | (v28, t29) => some ((v28, t29))) else some ((0, t23))))))))
set_option maxHeartbeats 4000000 in
set_option maxRecDepth 100000 in
theorem c_X12_add {l : Launch} {G : mG} {h : mM} {q : Nat → Nat} (hq : oinj LX12 q) {st : OS} {a0 : Int64} {x : Int32 × OS} (hF : f_X12_add st a0 = some x) : cQ l G yX12_add cX12_add 3 (some FieldType.int) rm_X12_add [.ref (q 53), .long a0] (oset LX12 G q st h) (mQi G (fun r h1 => r = x.1 ∧ h1 = oset LX12 G q x.2 h)) := by
  refine mp_of (by decide +kernel) (Nat.le_of_ble_eq_true rfl) ?_
  intro p e s m below meth c X hr hlk hH hname ls hl
  dsimp only [f_X12_add] at hF
  replace hl : lv_has ls 3 [(0, .ref (q 53)), (1, .long a0)] := hl
  refine lv_aload_n X.x X.b (dk DX12_add_0 0 rfl) rfl (lv_at hl 0 rfl) ?_
  refine lv_aload_n X.x X.b (dk DX12_add_0 1 rfl) rfl (lv_at hl 0 rfl) ?_
  refine lv_lload_n X.x X.b (dk DX12_add_0 2 rfl) rfl (lv_at hl 1 rfl) ?_
  obtain ⟨x1, e2, hF⟩ := bd hF
  refine mr_ci0 hH ⟨rfl, rfl⟩ (mr_runV (As := [.long a0]) (rest := [.ref (q 53)]) X hH (c_X12_isSet hq e2) ((oset_at hq (Nat.le_refl _) ohas_N).trans (congrArg some ocell_N)) OX12.1 kM_X12_275 kI_X12_isSet kS_X12_isSet kN_X12 kC_X12_isSet hd_X12_isSet ⟨Nat.le_of_ble_eq_true rfl, Nat.le_of_ble_eq_true rfl⟩ rfl hl.1 (Nat.le_of_ble_eq_true rfl) (dk DX12_add_0 3 rfl) ⟨Nat.zero_le _, Nat.zero_le _⟩) (fun r h1 H locs hp hH => ?_)
  obtain ⟨hr1, hr2⟩ := hp; rw [hr1]; rw [hr2] at hH; clear hr1 hr2
  refine lv_if_eq (tgt := 21) X.x X.b (dk DX12_add_0 4 rfl) (by decide) (fun c4 => ?_) (fun c4 => ?_)
  · replace hF := if_t hF c4
    refine lv_iconst (v := 1) X.x X.b (dk DX12_add_0 11 rfl) (by decide) ?_
    refine og_putI OX12 X hq hH 2 (by decide) rfl kF_X12_106 rfl rfl rfl (dk DX12_add_0 12 rfl) (fun H locs hH => ?_)
    obtain ⟨t5, e6⟩ : ∃ y, y = oI st 2 1 := ⟨_, rfl⟩
    rw [← e6] at hH
    replace hF := bnd_e hF e6
    refine lv_aload_n X.x X.b (dk DX12_add_0 13 rfl) rfl (lv_at hl 0 rfl) ?_
    refine og_getI OX12 X hq hH 2 (by decide) rfl kF_X12_106 (dk DX12_add_0 14 rfl) ?_
    refine lv_if_le (tgt := 36) X.x X.b (dk DX12_add_0 15 rfl) (by decide) (fun c7 => ?_) (fun c7 => ?_)
    · replace hF := if_t hF c7
      refine lv_aload_n X.x X.b (dk DX12_add_0 18 rfl) rfl (lv_at hl 0 rfl) ?_
      refine lv_lload_n X.x X.b (dk DX12_add_0 19 rfl) rfl (lv_at hl 1 rfl) ?_
      obtain ⟨x8, e9, hF⟩ := bd hF
      refine mr_ci0 hH ⟨rfl, rfl⟩ (mr_runV (As := [.long a0]) (rest := []) X hH (c_X12_adds hq e9) ((oset_at hq (Nat.le_refl _) ohas_N).trans (congrArg some ocell_N)) OX12.1 kM_X12_420 kI_X12_adds kS_X12_adds kN_X12 kC_X12_adds hd_X12_adds ⟨Nat.le_of_ble_eq_true rfl, Nat.le_of_ble_eq_true rfl⟩ rfl hl.1 (Nat.le_of_ble_eq_true rfl) (dk DX12_add_0 20 rfl) ⟨Nat.zero_le _, Nat.zero_le _⟩) (fun r h1 H locs hp hH => ?_)
      obtain ⟨hr1, hr2⟩ := hp; rw [hr1]; rw [hr2] at hH; clear hr1 hr2
      obtain ⟨v10, t11⟩ := x8
      try dsimp only at hF hH ⊢
      cases sm hF
      exact mr_iret X hr hlk hH ⟨rfl, rfl⟩ (dk DX12_add_0 21 rfl)
    · replace hF := if_f hF c7
      refine lv_iconst (v := 0) X.x X.b (dk DX12_add_0 16 rfl) (by decide) ?_
      refine lv_goto (tgt := 41) X.x X.b (dk DX12_add_0 17 rfl) (by decide) ?_
      cases sm hF
      exact mr_iret X hr hlk hH ⟨rfl, rfl⟩ (dk DX12_add_0 21 rfl)
  · replace hF := if_f hF c4
    refine lv_lload_n X.x X.b (dk DX12_add_0 5 rfl) rfl (lv_at hl 1 rfl) ?_
    obtain ⟨x12, e13, hF⟩ := bd hF
    refine mr_ci0 hH ⟨rfl, rfl⟩ (mr_runS (As := [.long a0]) (rest := [.ref (q 53)]) X hH (c_X12_ones e13) kM_X12_283 kT_X12_ones kN_X12 kC_X12_ones hd_X12_ones ⟨Nat.le_of_ble_eq_true rfl, Nat.le_of_ble_eq_true rfl⟩ rfl hl.1 (Nat.le_of_ble_eq_true rfl) (dk DX12_add_0 6 rfl) ⟨Nat.zero_le _, Nat.zero_le _⟩) (fun r h1 H locs hp hH => ?_)
    obtain ⟨hr1, hr2⟩ := hp; rw [hr1]; rw [hr2] at hH; clear hr1 hr2
    refine lv_iconst (v := 2) X.x X.b (dk DX12_add_0 7 rfl) (by decide) ?_
    refine lv_icmp_lt (tgt := 21) X.x X.b (dk DX12_add_0 8 rfl) (by decide) (fun c15 => ?_) (fun c15 => ?_)
    · replace hF := if_t hF c15
      refine lv_iconst (v := 1) X.x X.b (dk DX12_add_0 11 rfl) (by decide) ?_
      refine og_putI OX12 X hq hH 2 (by decide) rfl kF_X12_106 rfl rfl rfl (dk DX12_add_0 12 rfl) (fun H locs hH => ?_)
      obtain ⟨t16, e17⟩ : ∃ y, y = oI st 2 1 := ⟨_, rfl⟩
      rw [← e17] at hH
      replace hF := bnd_e hF e17
      refine lv_aload_n X.x X.b (dk DX12_add_0 13 rfl) rfl (lv_at hl 0 rfl) ?_
      refine og_getI OX12 X hq hH 2 (by decide) rfl kF_X12_106 (dk DX12_add_0 14 rfl) ?_
      refine lv_if_le (tgt := 36) X.x X.b (dk DX12_add_0 15 rfl) (by decide) (fun c18 => ?_) (fun c18 => ?_)
      · replace hF := if_t hF c18
        refine lv_aload_n X.x X.b (dk DX12_add_0 18 rfl) rfl (lv_at hl 0 rfl) ?_
        refine lv_lload_n X.x X.b (dk DX12_add_0 19 rfl) rfl (lv_at hl 1 rfl) ?_
        obtain ⟨x19, e20, hF⟩ := bd hF
        refine mr_ci0 hH ⟨rfl, rfl⟩ (mr_runV (As := [.long a0]) (rest := []) X hH (c_X12_adds hq e20) ((oset_at hq (Nat.le_refl _) ohas_N).trans (congrArg some ocell_N)) OX12.1 kM_X12_420 kI_X12_adds kS_X12_adds kN_X12 kC_X12_adds hd_X12_adds ⟨Nat.le_of_ble_eq_true rfl, Nat.le_of_ble_eq_true rfl⟩ rfl hl.1 (Nat.le_of_ble_eq_true rfl) (dk DX12_add_0 20 rfl) ⟨Nat.zero_le _, Nat.zero_le _⟩) (fun r h1 H locs hp hH => ?_)
        obtain ⟨hr1, hr2⟩ := hp; rw [hr1]; rw [hr2] at hH; clear hr1 hr2
        obtain ⟨v21, t22⟩ := x19
        try dsimp only at hF hH ⊢
        cases sm hF
        exact mr_iret X hr hlk hH ⟨rfl, rfl⟩ (dk DX12_add_0 21 rfl)
      · replace hF := if_f hF c18
        refine lv_iconst (v := 0) X.x X.b (dk DX12_add_0 16 rfl) (by decide) ?_
        refine lv_goto (tgt := 41) X.x X.b (dk DX12_add_0 17 rfl) (by decide) ?_
        cases sm hF
        exact mr_iret X hr hlk hH ⟨rfl, rfl⟩ (dk DX12_add_0 21 rfl)
    · replace hF := if_f hF c15
      refine lv_iconst (v := 0) X.x X.b (dk DX12_add_0 9 rfl) (by decide) ?_
      refine lv_goto (tgt := 22) X.x X.b (dk DX12_add_0 10 rfl) (by decide) ?_
      refine og_putI OX12 X hq hH 2 (by decide) rfl kF_X12_106 rfl rfl rfl (dk DX12_add_0 12 rfl) (fun H locs hH => ?_)
      obtain ⟨t23, e24⟩ : ∃ y, y = oI st 2 0 := ⟨_, rfl⟩
      rw [← e24] at hH
      replace hF := bnd_e hF e24
      refine lv_aload_n X.x X.b (dk DX12_add_0 13 rfl) rfl (lv_at hl 0 rfl) ?_
      refine og_getI OX12 X hq hH 2 (by decide) rfl kF_X12_106 (dk DX12_add_0 14 rfl) ?_
      refine lv_if_le (tgt := 36) X.x X.b (dk DX12_add_0 15 rfl) (by decide) (fun c25 => ?_) (fun c25 => ?_)
      · replace hF := if_t hF c25
        refine lv_aload_n X.x X.b (dk DX12_add_0 18 rfl) rfl (lv_at hl 0 rfl) ?_
        refine lv_lload_n X.x X.b (dk DX12_add_0 19 rfl) rfl (lv_at hl 1 rfl) ?_
        obtain ⟨x26, e27, hF⟩ := bd hF
        refine mr_ci0 hH ⟨rfl, rfl⟩ (mr_runV (As := [.long a0]) (rest := []) X hH (c_X12_adds hq e27) ((oset_at hq (Nat.le_refl _) ohas_N).trans (congrArg some ocell_N)) OX12.1 kM_X12_420 kI_X12_adds kS_X12_adds kN_X12 kC_X12_adds hd_X12_adds ⟨Nat.le_of_ble_eq_true rfl, Nat.le_of_ble_eq_true rfl⟩ rfl hl.1 (Nat.le_of_ble_eq_true rfl) (dk DX12_add_0 20 rfl) ⟨Nat.zero_le _, Nat.zero_le _⟩) (fun r h1 H locs hp hH => ?_)
        obtain ⟨hr1, hr2⟩ := hp; rw [hr1]; rw [hr2] at hH; clear hr1 hr2
        obtain ⟨v28, t29⟩ := x26
        try dsimp only at hF hH ⊢
        cases sm hF
        exact mr_iret X hr hlk hH ⟨rfl, rfl⟩ (dk DX12_add_0 21 rfl)
      · replace hF := if_f hF c25
        refine lv_iconst (v := 0) X.x X.b (dk DX12_add_0 16 rfl) (by decide) ?_
        refine lv_goto (tgt := 41) X.x X.b (dk DX12_add_0 17 rfl) (by decide) ?_
        cases sm hF
        exact mr_iret X hr hlk hH ⟨rfl, rfl⟩ (dk DX12_add_0 21 rfl)
-- X12_drops
abbrev rm_X12_drops : Room := { frames := 3, cells := 0, slots := 0, locals := 67 }
theorem hd_X12_drops : mHd yX12_drops 1 := ⟨by decide +kernel, by decide +kernel, by decide +kernel⟩
theorem DX12_drops_0 : ∀ t ∈ ([(0, .aload_n 0, 1), (1, .invokevirtual 417, 3), (4, .aload_n 0, 1), (5, .getfield 7, 3), (8, .iload_n 1, 1), (9, .laload, 1), (10, .lstore_n 2, 1), (11, .aload_n 0, 1), (12, .dup, 1), (13, .getfield 250, 3), (16, .iconst 1, 1), (17, .isub, 1), (18, .putfield 250, 3), (21, .iload_n 1, 1), (22, .istore 4, 2), (24, .iload 4, 2), (26, .aload_n 0, 1), (27, .getfield 250, 3), (30, .if_icmp .ge 25, 3), (33, .aload_n 0, 1), (34, .getfield 7, 3), (37, .iload 4, 2), (39, .aload_n 0, 1), (40, .getfield 7, 3), (43, .iload 4, 2), (45, .iconst 1, 1), (46, .iadd, 1), (47, .laload, 1), (48, .lastore, 1), (49, .iinc 4 1, 3), (52, .goto (-28), 3), (55, .lload_n 2, 1), (56, .lreturn, 1)] : List (Nat × Instr × Nat)), decode cX12_drops t.1 = .ok (t.2.1, t.2.2) := by decide +kernel
noncomputable def f_X12_drops_24 (b2 : Int64) : (OS × Int32) → Option ((OS × Int32) ⊕ (OS)) := fun z => match z with | (s_t, b4) => (if (s_t.1 1) ≤ b4 then some (.inr s_t) else if inb (b4 + 1) 64 = true then if inb b4 64 = true then bnd (oB s_t 3 (vp_updL (s_t.2.2.2 3) (b4 : Int32).toNatClampNeg (s_t.2.2.2 3 (b4 + 1 : Int32).toNatClampNeg))) (fun t12 => bnd (b4 + 1 : Int32) (fun v14 => some (.inl ((t12, v14))))) else none else none)
noncomputable def f_X12_drops (st : OS) (a0 : Int32) : Option (Int64 × OS) := (f_X12_acts st).bind (fun x1 => if inb a0 64 = true then bnd (x1.2.2.2 3 (a0 : Int32).toNatClampNeg : Int64) (fun v5 => bnd (oI x1 1 ((x1.1 1) - 1)) (fun t7 => (lpv (f_X12_drops_24 v5) ((t7, a0))).bind (fun x16 => some ((v5, x16))))) else none)
set_option maxHeartbeats 4000000 in
set_option maxRecDepth 100000 in
theorem w_X12_drops_24 {p : Program} {l : Launch} {e : Env} {s : State} {m : MethodId} {args : Array Value} {below : List Frame} {meth : Method} {c : Code} {Q : State → Prop} {G : mG} {h : mM} {q : Nat → Nat} (hq : oinj LX12 q) (X : mX G p m c cX12_drops 5 s args RX12) (b2 : Int64) : ∀ (z : OS × Int32) (r : OS), lpv (f_X12_drops_24 b2) z = some r → ∀ (H : Heap) (locs : List Loc) (ls : Array Slot), mH G (oset LX12 G q z.1 h) s.heap H locs → lv_has ls 5 [(0, .ref (q 53)), (2, .long b2), (4, .int z.2)] → (∀ (H : Heap) (locs : List Loc) (ls : Array Slot), mH G (oset LX12 G q r h) s.heap H locs → lv_has ls 5 [(2, .long b2)] → W p l e rm_X12_drops s m args below meth c H locs 0 0 Q (F0 m 55 ls [])) → W p l e rm_X12_drops s m args below meth c H locs 0 0 Q (F0 m 24 ls []) := by
  refine lpv_rec ?_
  intro z r x hF hx H locs ls hH hl K0
  obtain ⟨s_t, b4⟩ := z
  dsimp only [f_X12_drops_24] at hF
  try dsimp only at hH hl
  refine lv_iload X.x X.b (dk DX12_drops_0 15 rfl) (lv_at hl 2 rfl) ?_
  refine lv_aload_n X.x X.b (dk DX12_drops_0 16 rfl) rfl (lv_at hl 0 rfl) ?_
  refine og_getI OX12 X hq hH 1 (by decide) rfl kF_X12_250 (dk DX12_drops_0 17 rfl) ?_
  refine lv_icmp_ge (tgt := 55) X.x X.b (dk DX12_drops_0 18 rfl) (by decide) (fun c9 => ?_) (fun c9 => ?_)
  · replace hF := if_t hF c9
    have hr9 := lp_r hF hx
    subst hr9
    exact K0 _ _ _ hH (lv_sub hl [1] rfl)
  · replace hF := if_f hF c9
    refine lv_aload_n X.x X.b (dk DX12_drops_0 19 rfl) rfl (lv_at hl 0 rfl) ?_
    refine og_getR (t := 1) OX12 X hq hH 3 (by decide) rfl kF_X12_7 (dk DX12_drops_0 20 rfl) ?_
    refine lv_iload X.x X.b (dk DX12_drops_0 21 rfl) (lv_at hl 2 rfl) ?_
    refine lv_aload_n X.x X.b (dk DX12_drops_0 22 rfl) rfl (lv_at hl 0 rfl) ?_
    refine og_getR (t := 1) OX12 X hq hH 3 (by decide) rfl kF_X12_7 (dk DX12_drops_0 23 rfl) ?_
    refine lv_iload X.x X.b (dk DX12_drops_0 24 rfl) (lv_at hl 2 rfl) ?_
    refine lv_iconst (v := 1) X.x X.b (dk DX12_drops_0 25 rfl) (by decide) ?_
    refine lv_iadd X.x X.b (dk DX12_drops_0 26 rfl) ?_
    obtain ⟨c10, hF⟩ := gd hF
    refine og_lald X hq hH 3 (by decide) rfl (inb_in c10) (dk DX12_drops_0 27 rfl) ?_
    obtain ⟨c11, hF⟩ := gd hF
    refine og_last X hq hH 3 (by decide) rfl (inb_in c11) (dk DX12_drops_0 28 rfl) (fun H locs hH => ?_)
    obtain ⟨t12, e13⟩ : ∃ y, y = oB s_t 3 (vp_updL (s_t.2.2.2 3) (b4 : Int32).toNatClampNeg (s_t.2.2.2 3 (b4 + 1 : Int32).toNatClampNeg)) := ⟨_, rfl⟩
    rw [← e13] at hH
    replace hF := bnd_e hF e13
    obtain ⟨v14, e15⟩ : ∃ y : Int32, y = b4 + 1 := ⟨_, rfl⟩
    replace hF := bnd_e hF e15
    refine lv_iinc (v := v14) (lv' := [(4, .int v14), (0, .ref (q 53)), (2, .long b2)]) X.x X.b (dk DX12_drops_0 29 rfl) hl (k := 2) rfl (by rw [e15]; rfl) (by decide) rfl (fun ls hl => ?_)
    replace hl : lv_has ls 5 [(0, .ref (q 53)), (2, .long b2), (4, .int v14)] := lv_sub hl [1, 2, 0] rfl
    refine lv_goto (tgt := 24) X.x X.b (dk DX12_drops_0 30 rfl) (by decide) ?_
    exact (lp_l hF hx) _ _ _ hH (lv_sub hl [0, 1, 2] rfl) K0
set_option maxHeartbeats 4000000 in
set_option maxRecDepth 100000 in
theorem c_X12_drops {l : Launch} {G : mG} {h : mM} {q : Nat → Nat} (hq : oinj LX12 q) {st : OS} {a0 : Int32} {x : Int64 × OS} (hF : f_X12_drops st a0 = some x) : cQ l G yX12_drops cX12_drops 5 (some FieldType.long) rm_X12_drops [.ref (q 53), .int a0] (oset LX12 G q st h) (mQl G (fun r h1 => r = x.1 ∧ h1 = oset LX12 G q x.2 h)) := by
  refine mp_of (by decide +kernel) (Nat.le_of_ble_eq_true rfl) ?_
  intro p e s m below meth c X hr hlk hH hname ls hl
  dsimp only [f_X12_drops] at hF
  replace hl : lv_has ls 5 [(0, .ref (q 53)), (1, .int a0)] := hl
  refine lv_aload_n X.x X.b (dk DX12_drops_0 0 rfl) rfl (lv_at hl 0 rfl) ?_
  obtain ⟨x1, e2, hF⟩ := bd hF
  refine mr_cv0 hH ⟨rfl, rfl⟩ (mr_runV (As := []) (rest := []) X hH (c_X12_acts hq e2) ((oset_at hq (Nat.le_refl _) ohas_N).trans (congrArg some ocell_N)) OX12.1 kM_X12_417 kI_X12_acts kS_X12_acts kN_X12 kC_X12_acts hd_X12_acts ⟨Nat.le_of_ble_eq_true rfl, Nat.le_of_ble_eq_true rfl⟩ rfl hl.1 (Nat.le_of_ble_eq_true rfl) (dk DX12_drops_0 1 rfl) ⟨Nat.zero_le _, Nat.zero_le _⟩) (fun h1 H locs hp hH => ?_)
  rw [hp] at hH; clear hp
  refine lv_aload_n X.x X.b (dk DX12_drops_0 2 rfl) rfl (lv_at hl 0 rfl) ?_
  refine og_getR (t := 1) OX12 X hq hH 3 (by decide) rfl kF_X12_7 (dk DX12_drops_0 3 rfl) ?_
  refine lv_iload_n X.x X.b (dk DX12_drops_0 4 rfl) rfl (lv_at hl 1 rfl) ?_
  obtain ⟨c4, hF⟩ := gd hF
  refine og_lald X hq hH 3 (by decide) rfl (inb_in c4) (dk DX12_drops_0 5 rfl) ?_
  refine lv_topl (fun v5 e6 => ?_)
  replace hF := bnd_e hF e6
  refine lv_lstore_n (lv' := [(2, .long v5), (0, .ref (q 53)), (1, .int a0)]) X.x X.b (dk DX12_drops_0 6 rfl) rfl hl (by decide) rfl (fun ls hl => ?_)
  replace hl : lv_has ls 5 [(0, .ref (q 53)), (1, .int a0), (2, .long v5)] := lv_sub hl [1, 2, 0] rfl
  refine lv_aload_n X.x X.b (dk DX12_drops_0 7 rfl) rfl (lv_at hl 0 rfl) ?_
  refine lv_dup X.x X.b (dk DX12_drops_0 8 rfl) rfl ?_
  refine og_getI OX12 X hq hH 1 (by decide) rfl kF_X12_250 (dk DX12_drops_0 9 rfl) ?_
  refine lv_iconst (v := 1) X.x X.b (dk DX12_drops_0 10 rfl) (by decide) ?_
  refine lv_isub X.x X.b (dk DX12_drops_0 11 rfl) ?_
  refine og_putI OX12 X hq hH 1 (by decide) rfl kF_X12_250 rfl rfl rfl (dk DX12_drops_0 12 rfl) (fun H locs hH => ?_)
  obtain ⟨t7, e8⟩ : ∃ y, y = oI x1 1 ((x1.1 1) - 1) := ⟨_, rfl⟩
  rw [← e8] at hH
  replace hF := bnd_e hF e8
  refine lv_iload_n X.x X.b (dk DX12_drops_0 13 rfl) rfl (lv_at hl 1 rfl) ?_
  refine lv_istore (lv' := [(4, .int a0), (0, .ref (q 53)), (1, .int a0), (2, .long v5)]) X.x X.b (dk DX12_drops_0 14 rfl) hl (by decide) rfl (fun ls hl => ?_)
  replace hl : lv_has ls 5 [(0, .ref (q 53)), (2, .long v5), (4, .int a0)] := lv_sub hl [1, 3, 0] rfl
  obtain ⟨x16, e17, hF⟩ := bd hF
  replace hl : lv_has ls 5 [(0, .ref (q 53)), (2, .long v5), (4, .int a0)] := lv_sub hl [0, 1, 2] rfl
  refine w_X12_drops_24 hq X v5 _ _ e17 _ _ _ hH hl (fun H locs ls hH hl => ?_)
  refine lv_lload_n X.x X.b (dk DX12_drops_0 31 rfl) rfl (lv_at hl 0 rfl) ?_
  cases sm hF
  exact mr_lret X hr hlk hH ⟨rfl, rfl⟩ (dk DX12_drops_0 32 rfl)
-- X12_drop
abbrev rm_X12_drop : Room := { frames := 4, cells := 0, slots := 0, locals := 91 }
theorem hd_X12_drop : mHd yX12_drop 1 := ⟨by decide +kernel, by decide +kernel, by decide +kernel⟩
theorem DX12_drop_0 : ∀ t ∈ ([(0, .aload_n 0, 1), (1, .iconst 0, 1), (2, .putfield 106, 3), (5, .aload_n 0, 1), (6, .iload_n 1, 1), (7, .invokevirtual 263, 3), (10, .ifCond .eq 11, 3), (13, .aload_n 0, 1), (14, .iload_n 1, 1), (15, .invokevirtual 423, 3), (18, .goto 9, 3), (21, .aload_n 0, 1), (22, .iconst 1, 1), (23, .invokevirtual 236, 3), (26, .i2l, 1), (27, .lreturn, 1)] : List (Nat × Instr × Nat)), decode cX12_drop t.1 = .ok (t.2.1, t.2.2) := by decide +kernel
noncomputable def f_X12_drop (st : OS) (a0 : Int32) : Option (Int64 × OS) := bnd (oI st 2 0) (fun t1 => (f_X12_isLine t1 a0).bind (fun x3 => (if x3 = 0 then (f_X12_fails t1 1).bind (fun x7 => match x7 with | (v9, t10) => some (((v9 : Int32).toInt64, t10))) else (f_X12_drops t1 a0).bind (fun x11 => match x11 with | (v13, t14) => some ((v13, t14))))))
set_option maxHeartbeats 4000000 in
set_option maxRecDepth 100000 in
theorem c_X12_drop {l : Launch} {G : mG} {h : mM} {q : Nat → Nat} (hq : oinj LX12 q) {st : OS} {a0 : Int32} {x : Int64 × OS} (hF : f_X12_drop st a0 = some x) : cQ l G yX12_drop cX12_drop 2 (some FieldType.long) rm_X12_drop [.ref (q 53), .int a0] (oset LX12 G q st h) (mQl G (fun r h1 => r = x.1 ∧ h1 = oset LX12 G q x.2 h)) := by
  refine mp_of (by decide +kernel) (Nat.le_of_ble_eq_true rfl) ?_
  intro p e s m below meth c X hr hlk hH hname ls hl
  dsimp only [f_X12_drop] at hF
  replace hl : lv_has ls 2 [(0, .ref (q 53)), (1, .int a0)] := hl
  refine lv_aload_n X.x X.b (dk DX12_drop_0 0 rfl) rfl (lv_at hl 0 rfl) ?_
  refine lv_iconst (v := 0) X.x X.b (dk DX12_drop_0 1 rfl) (by decide) ?_
  refine og_putI OX12 X hq hH 2 (by decide) rfl kF_X12_106 rfl rfl rfl (dk DX12_drop_0 2 rfl) (fun H locs hH => ?_)
  obtain ⟨t1, e2⟩ : ∃ y, y = oI st 2 0 := ⟨_, rfl⟩
  rw [← e2] at hH
  replace hF := bnd_e hF e2
  refine lv_aload_n X.x X.b (dk DX12_drop_0 3 rfl) rfl (lv_at hl 0 rfl) ?_
  refine lv_iload_n X.x X.b (dk DX12_drop_0 4 rfl) rfl (lv_at hl 1 rfl) ?_
  obtain ⟨x3, e4, hF⟩ := bd hF
  refine mr_ci0 hH ⟨rfl, rfl⟩ (mr_runV (As := [.int a0]) (rest := []) X hH (c_X12_isLine hq e4) ((oset_at hq (Nat.le_refl _) ohas_N).trans (congrArg some ocell_N)) OX12.1 kM_X12_263 kI_X12_isLine kS_X12_isLine kN_X12 kC_X12_isLine hd_X12_isLine ⟨Nat.le_of_ble_eq_true rfl, Nat.le_of_ble_eq_true rfl⟩ rfl hl.1 (Nat.le_of_ble_eq_true rfl) (dk DX12_drop_0 5 rfl) ⟨Nat.zero_le _, Nat.zero_le _⟩) (fun r h1 H locs hp hH => ?_)
  obtain ⟨hr1, hr2⟩ := hp; rw [hr1]; rw [hr2] at hH; clear hr1 hr2
  refine lv_if_eq (tgt := 21) X.x X.b (dk DX12_drop_0 6 rfl) (by decide) (fun c6 => ?_) (fun c6 => ?_)
  · replace hF := if_t hF c6
    refine lv_aload_n X.x X.b (dk DX12_drop_0 11 rfl) rfl (lv_at hl 0 rfl) ?_
    refine lv_iconst (v := 1) X.x X.b (dk DX12_drop_0 12 rfl) (by decide) ?_
    obtain ⟨x7, e8, hF⟩ := bd hF
    refine mr_ci0 hH ⟨rfl, rfl⟩ (mr_runV (As := [.int 1]) (rest := []) X hH (c_X12_fails hq e8) ((oset_at hq (Nat.le_refl _) ohas_N).trans (congrArg some ocell_N)) OX12.1 kM_X12_236 kI_X12_fails kS_X12_fails kN_X12 kC_X12_fails hd_X12_fails ⟨Nat.le_of_ble_eq_true rfl, Nat.le_of_ble_eq_true rfl⟩ rfl hl.1 (Nat.le_of_ble_eq_true rfl) (dk DX12_drop_0 13 rfl) ⟨Nat.zero_le _, Nat.zero_le _⟩) (fun r h1 H locs hp hH => ?_)
    obtain ⟨hr1, hr2⟩ := hp; rw [hr1]; rw [hr2] at hH; clear hr1 hr2
    obtain ⟨v9, t10⟩ := x7
    try dsimp only at hF hH ⊢
    refine lv_i2l X.x X.b (dk DX12_drop_0 14 rfl) rfl ?_
    cases sm hF
    exact mr_lret X hr hlk hH ⟨rfl, rfl⟩ (dk DX12_drop_0 15 rfl)
  · replace hF := if_f hF c6
    refine lv_aload_n X.x X.b (dk DX12_drop_0 7 rfl) rfl (lv_at hl 0 rfl) ?_
    refine lv_iload_n X.x X.b (dk DX12_drop_0 8 rfl) rfl (lv_at hl 1 rfl) ?_
    obtain ⟨x11, e12, hF⟩ := bd hF
    refine mr_cl0 hH ⟨rfl, rfl⟩ (mr_runV (As := [.int a0]) (rest := []) X hH (c_X12_drops hq e12) ((oset_at hq (Nat.le_refl _) ohas_N).trans (congrArg some ocell_N)) OX12.1 kM_X12_423 kI_X12_drops kS_X12_drops kN_X12 kC_X12_drops hd_X12_drops ⟨Nat.le_of_ble_eq_true rfl, Nat.le_of_ble_eq_true rfl⟩ rfl hl.1 (Nat.le_of_ble_eq_true rfl) (dk DX12_drop_0 9 rfl) ⟨Nat.zero_le _, Nat.zero_le _⟩) (fun r h1 H locs hp hH => ?_)
    obtain ⟨hr1, hr2⟩ := hp; rw [hr1]; rw [hr2] at hH; clear hr1 hr2
    obtain ⟨v13, t14⟩ := x11
    try dsimp only at hF hH ⊢
    refine lv_goto (tgt := 27) X.x X.b (dk DX12_drop_0 10 rfl) (by decide) ?_
    cases sm hF
    exact mr_lret X hr hlk hH ⟨rfl, rfl⟩ (dk DX12_drop_0 15 rfl)
-- X12_duals
abbrev rm_X12_duals : Room := { frames := 3, cells := 0, slots := 0, locals := 67 }
theorem hd_X12_duals : mHd yX12_duals 0 := ⟨by decide +kernel, by decide +kernel, by decide +kernel⟩
theorem DX12_duals_0 : ∀ t ∈ ([(0, .aload_n 0, 1), (1, .invokevirtual 417, 3), (4, .iconst 0, 1), (5, .istore_n 1, 1), (6, .iconst 0, 1), (7, .istore_n 2, 1), (8, .iload_n 2, 1), (9, .aload_n 0, 1), (10, .getfield 248, 3), (13, .if_icmp .ge 36, 3), (16, .aload_n 0, 1), (17, .iload_n 2, 1), (18, .invokevirtual 269, 3), (21, .lstore_n 3, 1), (22, .lload_n 3, 1), (23, .invokestatic 283, 3), (26, .iconst 2, 1), (27, .if_icmp .ge 6, 3), (30, .goto 13, 3), (33, .aload_n 0, 1), (34, .getfield 21, 3), (37, .iload_n 1, 1), (38, .lload_n 3, 1), (39, .lastore, 1), (40, .iinc 1 1, 3), (43, .iinc 2 1, 3), (46, .goto (-38), 3), (49, .aload_n 0, 1), (50, .aload_n 0, 1), (51, .getfield 250, 3), (54, .putfield 248, 3), (57, .aload_n 0, 1), (58, .iload_n 1, 1), (59, .putfield 250, 3), (62, .iconst 0, 1), (63, .istore_n 2, 1), (64, .iload_n 2, 1), (65, .iload_n 1, 1), (66, .if_icmp .ge 21, 3), (69, .aload_n 0, 1), (70, .getfield 7, 3), (73, .iload_n 2, 1), (74, .aload_n 0, 1), (75, .getfield 21, 3), (78, .iload_n 2, 1), (79, .laload, 1), (80, .lastore, 1), (81, .iinc 2 1, 3), (84, .goto (-20), 3), (87, .return_, 1)] : List (Nat × Instr × Nat)), decode cX12_duals t.1 = .ok (t.2.1, t.2.2) := by decide +kernel
noncomputable def f_X12_duals_8 : (OS × Int32 × Int32) → Option ((OS × Int32 × Int32) ⊕ (OS × Int32)) := fun z => match z with | (s_t, b1, b2) => (if (s_t.1 0) ≤ b2 then some (.inr ((s_t, b1))) else (f_X12_throughOf s_t b2).bind (fun x5 => (f_X12_ones x5).bind (fun x8 => (if 2 ≤ x8 then if inb b1 64 = true then bnd (oB s_t 17 (vp_updL (s_t.2.2.2 17) (b1 : Int32).toNatClampNeg x5)) (fun t13 => bnd (b1 + 1 : Int32) (fun v15 => bnd (b2 + 1 : Int32) (fun v17 => some (.inl ((t13, v15, v17)))))) else none else bnd (b2 + 1 : Int32) (fun v19 => some (.inl ((s_t, b1, v19))))))))
noncomputable def f_X12_duals_64 (b1 : Int32) : (OS × Int32) → Option ((OS × Int32) ⊕ (OS)) := fun z => match z with | (s_t, b2) => (if b1 ≤ b2 then some (.inr s_t) else if inb b2 64 = true then bnd (oB s_t 3 (vp_updL (s_t.2.2.2 3) (b2 : Int32).toNatClampNeg (s_t.2.2.2 17 (b2 : Int32).toNatClampNeg))) (fun t31 => bnd (b2 + 1 : Int32) (fun v33 => some (.inl ((t31, v33))))) else none)
noncomputable def f_X12_duals (st : OS) : Option (OS) := (f_X12_acts st).bind (fun x1 => (lpv (f_X12_duals_8) ((x1, 0, 0))).bind (fun x21 => match x21 with | (t23, v24) => bnd (oI t23 0 (t23.1 1)) (fun t25 => bnd (oI t25 1 v24) (fun t27 => (lpv (f_X12_duals_64 v24) ((t27, 0))).bind (fun x35 => some x35)))))
set_option maxHeartbeats 4000000 in
set_option maxRecDepth 100000 in
theorem w_X12_duals_8 {p : Program} {l : Launch} {e : Env} {s : State} {m : MethodId} {args : Array Value} {below : List Frame} {meth : Method} {c : Code} {Q : State → Prop} {G : mG} {h : mM} {q : Nat → Nat} (hq : oinj LX12 q) (X : mX G p m c cX12_duals 5 s args RX12) : ∀ (z : OS × Int32 × Int32) (r : OS × Int32), lpv (f_X12_duals_8) z = some r → ∀ (H : Heap) (locs : List Loc) (ls : Array Slot), mH G (oset LX12 G q z.1 h) s.heap H locs → lv_has ls 5 [(0, .ref (q 53)), (1, .int z.2.1), (2, .int z.2.2)] → (∀ (H : Heap) (locs : List Loc) (ls : Array Slot), mH G (oset LX12 G q r.1 h) s.heap H locs → lv_has ls 5 [(0, .ref (q 53)), (1, .int r.2)] → W p l e rm_X12_duals s m args below meth c H locs 0 0 Q (F0 m 49 ls [])) → W p l e rm_X12_duals s m args below meth c H locs 0 0 Q (F0 m 8 ls []) := by
  refine lpv_rec ?_
  intro z r x hF hx H locs ls hH hl K0
  obtain ⟨s_t, b1, b2⟩ := z
  dsimp only [f_X12_duals_8] at hF
  try dsimp only at hH hl
  refine lv_iload_n X.x X.b (dk DX12_duals_0 6 rfl) rfl (lv_at hl 2 rfl) ?_
  refine lv_aload_n X.x X.b (dk DX12_duals_0 7 rfl) rfl (lv_at hl 0 rfl) ?_
  refine og_getI OX12 X hq hH 0 (by decide) rfl kF_X12_248 (dk DX12_duals_0 8 rfl) ?_
  refine lv_icmp_ge (tgt := 49) X.x X.b (dk DX12_duals_0 9 rfl) (by decide) (fun c4 => ?_) (fun c4 => ?_)
  · replace hF := if_t hF c4
    have hr9 := lp_r hF hx
    subst hr9
    exact K0 _ _ _ hH (lv_sub hl [0, 1] rfl)
  · replace hF := if_f hF c4
    refine lv_aload_n X.x X.b (dk DX12_duals_0 10 rfl) rfl (lv_at hl 0 rfl) ?_
    refine lv_iload_n X.x X.b (dk DX12_duals_0 11 rfl) rfl (lv_at hl 2 rfl) ?_
    obtain ⟨x5, e6, hF⟩ := bd hF
    refine mr_cl0 hH ⟨rfl, rfl⟩ (mr_runV (As := [.int b2]) (rest := []) X hH (c_X12_throughOf hq e6) ((oset_at hq (Nat.le_refl _) ohas_N).trans (congrArg some ocell_N)) OX12.1 kM_X12_269 kI_X12_throughOf kS_X12_throughOf kN_X12 kC_X12_throughOf hd_X12_throughOf ⟨Nat.le_of_ble_eq_true rfl, Nat.le_of_ble_eq_true rfl⟩ rfl hl.1 (Nat.le_of_ble_eq_true rfl) (dk DX12_duals_0 12 rfl) ⟨Nat.zero_le _, Nat.zero_le _⟩) (fun r h1 H locs hp hH => ?_)
    obtain ⟨hr1, hr2⟩ := hp; rw [hr1]; rw [hr2] at hH; clear hr1 hr2
    refine lv_lstore_n (lv' := [(3, .long x5), (0, .ref (q 53)), (1, .int b1), (2, .int b2)]) X.x X.b (dk DX12_duals_0 13 rfl) rfl hl (by decide) rfl (fun ls hl => ?_)
    replace hl : lv_has ls 5 [(0, .ref (q 53)), (1, .int b1), (2, .int b2), (3, .long x5)] := lv_sub hl [1, 2, 3, 0] rfl
    refine lv_lload_n X.x X.b (dk DX12_duals_0 14 rfl) rfl (lv_at hl 3 rfl) ?_
    obtain ⟨x8, e9, hF⟩ := bd hF
    refine mr_ci0 hH ⟨rfl, rfl⟩ (mr_runS (As := [.long x5]) (rest := []) X hH (c_X12_ones e9) kM_X12_283 kT_X12_ones kN_X12 kC_X12_ones hd_X12_ones ⟨Nat.le_of_ble_eq_true rfl, Nat.le_of_ble_eq_true rfl⟩ rfl hl.1 (Nat.le_of_ble_eq_true rfl) (dk DX12_duals_0 15 rfl) ⟨Nat.zero_le _, Nat.zero_le _⟩) (fun r h1 H locs hp hH => ?_)
    obtain ⟨hr1, hr2⟩ := hp; rw [hr1]; rw [hr2] at hH; clear hr1 hr2
    refine lv_iconst (v := 2) X.x X.b (dk DX12_duals_0 16 rfl) (by decide) ?_
    refine lv_icmp_ge (tgt := 33) X.x X.b (dk DX12_duals_0 17 rfl) (by decide) (fun c11 => ?_) (fun c11 => ?_)
    · replace hF := if_t hF c11
      refine lv_aload_n X.x X.b (dk DX12_duals_0 19 rfl) rfl (lv_at hl 0 rfl) ?_
      refine og_getR (t := 1) OX12 X hq hH 17 (by decide) rfl kF_X12_21 (dk DX12_duals_0 20 rfl) ?_
      refine lv_iload_n X.x X.b (dk DX12_duals_0 21 rfl) rfl (lv_at hl 1 rfl) ?_
      refine lv_lload_n X.x X.b (dk DX12_duals_0 22 rfl) rfl (lv_at hl 3 rfl) ?_
      obtain ⟨c12, hF⟩ := gd hF
      refine og_last X hq hH 17 (by decide) rfl (inb_in c12) (dk DX12_duals_0 23 rfl) (fun H locs hH => ?_)
      obtain ⟨t13, e14⟩ : ∃ y, y = oB s_t 17 (vp_updL (s_t.2.2.2 17) (b1 : Int32).toNatClampNeg x5) := ⟨_, rfl⟩
      rw [← e14] at hH
      replace hF := bnd_e hF e14
      obtain ⟨v15, e16⟩ : ∃ y : Int32, y = b1 + 1 := ⟨_, rfl⟩
      replace hF := bnd_e hF e16
      refine lv_iinc (v := v15) (lv' := [(1, .int v15), (0, .ref (q 53)), (2, .int b2), (3, .long x5)]) X.x X.b (dk DX12_duals_0 24 rfl) hl (k := 1) rfl (by rw [e16]; rfl) (by decide) rfl (fun ls hl => ?_)
      replace hl : lv_has ls 5 [(0, .ref (q 53)), (1, .int v15), (2, .int b2)] := lv_sub hl [1, 0, 2] rfl
      obtain ⟨v17, e18⟩ : ∃ y : Int32, y = b2 + 1 := ⟨_, rfl⟩
      replace hF := bnd_e hF e18
      refine lv_iinc (v := v17) (lv' := [(2, .int v17), (0, .ref (q 53)), (1, .int v15)]) X.x X.b (dk DX12_duals_0 25 rfl) hl (k := 2) rfl (by rw [e18]; rfl) (by decide) rfl (fun ls hl => ?_)
      replace hl : lv_has ls 5 [(0, .ref (q 53)), (1, .int v15), (2, .int v17)] := lv_sub hl [1, 2, 0] rfl
      refine lv_goto (tgt := 8) X.x X.b (dk DX12_duals_0 26 rfl) (by decide) ?_
      exact (lp_l hF hx) _ _ _ hH (lv_sub hl [0, 1, 2] rfl) K0
    · replace hF := if_f hF c11
      refine lv_goto (tgt := 43) X.x X.b (dk DX12_duals_0 18 rfl) (by decide) ?_
      obtain ⟨v19, e20⟩ : ∃ y : Int32, y = b2 + 1 := ⟨_, rfl⟩
      replace hF := bnd_e hF e20
      refine lv_iinc (v := v19) (lv' := [(2, .int v19), (0, .ref (q 53)), (1, .int b1), (3, .long x5)]) X.x X.b (dk DX12_duals_0 25 rfl) hl (k := 2) rfl (by rw [e20]; rfl) (by decide) rfl (fun ls hl => ?_)
      replace hl : lv_has ls 5 [(0, .ref (q 53)), (1, .int b1), (2, .int v19)] := lv_sub hl [1, 2, 0] rfl
      refine lv_goto (tgt := 8) X.x X.b (dk DX12_duals_0 26 rfl) (by decide) ?_
      exact (lp_l hF hx) _ _ _ hH (lv_sub hl [0, 1, 2] rfl) K0
set_option maxHeartbeats 4000000 in
set_option maxRecDepth 100000 in
theorem w_X12_duals_64 {p : Program} {l : Launch} {e : Env} {s : State} {m : MethodId} {args : Array Value} {below : List Frame} {meth : Method} {c : Code} {Q : State → Prop} {G : mG} {h : mM} {q : Nat → Nat} (hq : oinj LX12 q) (X : mX G p m c cX12_duals 5 s args RX12) (b1 : Int32) : ∀ (z : OS × Int32) (r : OS), lpv (f_X12_duals_64 b1) z = some r → ∀ (H : Heap) (locs : List Loc) (ls : Array Slot), mH G (oset LX12 G q z.1 h) s.heap H locs → lv_has ls 5 [(0, .ref (q 53)), (1, .int b1), (2, .int z.2)] → (∀ (H : Heap) (locs : List Loc) (ls : Array Slot), mH G (oset LX12 G q r h) s.heap H locs → lv_has ls 5 [] → W p l e rm_X12_duals s m args below meth c H locs 0 0 Q (F0 m 87 ls [])) → W p l e rm_X12_duals s m args below meth c H locs 0 0 Q (F0 m 64 ls []) := by
  refine lpv_rec ?_
  intro z r x hF hx H locs ls hH hl K0
  obtain ⟨s_t, b2⟩ := z
  dsimp only [f_X12_duals_64] at hF
  try dsimp only at hH hl
  refine lv_iload_n X.x X.b (dk DX12_duals_0 36 rfl) rfl (lv_at hl 2 rfl) ?_
  refine lv_iload_n X.x X.b (dk DX12_duals_0 37 rfl) rfl (lv_at hl 1 rfl) ?_
  refine lv_icmp_ge (tgt := 87) X.x X.b (dk DX12_duals_0 38 rfl) (by decide) (fun c29 => ?_) (fun c29 => ?_)
  · replace hF := if_t hF c29
    have hr9 := lp_r hF hx
    subst hr9
    exact K0 _ _ _ hH (lv_sub hl [] rfl)
  · replace hF := if_f hF c29
    refine lv_aload_n X.x X.b (dk DX12_duals_0 39 rfl) rfl (lv_at hl 0 rfl) ?_
    refine og_getR (t := 1) OX12 X hq hH 3 (by decide) rfl kF_X12_7 (dk DX12_duals_0 40 rfl) ?_
    refine lv_iload_n X.x X.b (dk DX12_duals_0 41 rfl) rfl (lv_at hl 2 rfl) ?_
    refine lv_aload_n X.x X.b (dk DX12_duals_0 42 rfl) rfl (lv_at hl 0 rfl) ?_
    refine og_getR (t := 1) OX12 X hq hH 17 (by decide) rfl kF_X12_21 (dk DX12_duals_0 43 rfl) ?_
    refine lv_iload_n X.x X.b (dk DX12_duals_0 44 rfl) rfl (lv_at hl 2 rfl) ?_
    obtain ⟨c30, hF⟩ := gd hF
    refine og_lald X hq hH 17 (by decide) rfl (inb_in c30) (dk DX12_duals_0 45 rfl) ?_
    refine og_last X hq hH 3 (by decide) rfl (inb_in c30) (dk DX12_duals_0 46 rfl) (fun H locs hH => ?_)
    obtain ⟨t31, e32⟩ : ∃ y, y = oB s_t 3 (vp_updL (s_t.2.2.2 3) (b2 : Int32).toNatClampNeg (s_t.2.2.2 17 (b2 : Int32).toNatClampNeg)) := ⟨_, rfl⟩
    rw [← e32] at hH
    replace hF := bnd_e hF e32
    obtain ⟨v33, e34⟩ : ∃ y : Int32, y = b2 + 1 := ⟨_, rfl⟩
    replace hF := bnd_e hF e34
    refine lv_iinc (v := v33) (lv' := [(2, .int v33), (0, .ref (q 53)), (1, .int b1)]) X.x X.b (dk DX12_duals_0 47 rfl) hl (k := 2) rfl (by rw [e34]; rfl) (by decide) rfl (fun ls hl => ?_)
    replace hl : lv_has ls 5 [(0, .ref (q 53)), (1, .int b1), (2, .int v33)] := lv_sub hl [1, 2, 0] rfl
    refine lv_goto (tgt := 64) X.x X.b (dk DX12_duals_0 48 rfl) (by decide) ?_
    exact (lp_l hF hx) _ _ _ hH (lv_sub hl [0, 1, 2] rfl) K0
set_option maxHeartbeats 4000000 in
set_option maxRecDepth 100000 in
theorem c_X12_duals {l : Launch} {G : mG} {h : mM} {q : Nat → Nat} (hq : oinj LX12 q) {st : OS} {x : OS} (hF : f_X12_duals st = some x) : cQ l G yX12_duals cX12_duals 5 none rm_X12_duals [.ref (q 53)] (oset LX12 G q st h) (mQv G (fun h1 => h1 = oset LX12 G q x h)) := by
  refine mp_of (by decide +kernel) (Nat.le_of_ble_eq_true rfl) ?_
  intro p e s m below meth c X hr hlk hH hname ls hl
  dsimp only [f_X12_duals] at hF
  replace hl : lv_has ls 5 [(0, .ref (q 53))] := hl
  refine lv_aload_n X.x X.b (dk DX12_duals_0 0 rfl) rfl (lv_at hl 0 rfl) ?_
  obtain ⟨x1, e2, hF⟩ := bd hF
  refine mr_cv0 hH ⟨rfl, rfl⟩ (mr_runV (As := []) (rest := []) X hH (c_X12_acts hq e2) ((oset_at hq (Nat.le_refl _) ohas_N).trans (congrArg some ocell_N)) OX12.1 kM_X12_417 kI_X12_acts kS_X12_acts kN_X12 kC_X12_acts hd_X12_acts ⟨Nat.le_of_ble_eq_true rfl, Nat.le_of_ble_eq_true rfl⟩ rfl hl.1 (Nat.le_of_ble_eq_true rfl) (dk DX12_duals_0 1 rfl) ⟨Nat.zero_le _, Nat.zero_le _⟩) (fun h1 H locs hp hH => ?_)
  rw [hp] at hH; clear hp
  refine lv_iconst (v := 0) X.x X.b (dk DX12_duals_0 2 rfl) (by decide) ?_
  refine lv_istore_n (lv' := [(1, .int 0), (0, .ref (q 53))]) X.x X.b (dk DX12_duals_0 3 rfl) rfl hl (by decide) rfl (fun ls hl => ?_)
  replace hl : lv_has ls 5 [(0, .ref (q 53)), (1, .int 0)] := lv_sub hl [1, 0] rfl
  refine lv_iconst (v := 0) X.x X.b (dk DX12_duals_0 4 rfl) (by decide) ?_
  refine lv_istore_n (lv' := [(2, .int 0), (0, .ref (q 53)), (1, .int 0)]) X.x X.b (dk DX12_duals_0 5 rfl) rfl hl (by decide) rfl (fun ls hl => ?_)
  replace hl : lv_has ls 5 [(0, .ref (q 53)), (1, .int 0), (2, .int 0)] := lv_sub hl [1, 2, 0] rfl
  obtain ⟨x21, e22, hF⟩ := bd hF
  replace hl : lv_has ls 5 [(0, .ref (q 53)), (1, .int 0), (2, .int 0)] := lv_sub hl [0, 1, 2] rfl
  obtain ⟨t23, v24⟩ := x21
  try dsimp only at hF
  refine w_X12_duals_8 hq X _ _ e22 _ _ _ hH hl (fun H locs ls hH hl => ?_)
  try dsimp only at hH hl
  refine lv_aload_n X.x X.b (dk DX12_duals_0 27 rfl) rfl (lv_at hl 0 rfl) ?_
  refine lv_aload_n X.x X.b (dk DX12_duals_0 28 rfl) rfl (lv_at hl 0 rfl) ?_
  refine og_getI OX12 X hq hH 1 (by decide) rfl kF_X12_250 (dk DX12_duals_0 29 rfl) ?_
  refine og_putI OX12 X hq hH 0 (by decide) rfl kF_X12_248 rfl rfl rfl (dk DX12_duals_0 30 rfl) (fun H locs hH => ?_)
  obtain ⟨t25, e26⟩ : ∃ y, y = oI t23 0 (t23.1 1) := ⟨_, rfl⟩
  rw [← e26] at hH
  replace hF := bnd_e hF e26
  refine lv_aload_n X.x X.b (dk DX12_duals_0 31 rfl) rfl (lv_at hl 0 rfl) ?_
  refine lv_iload_n X.x X.b (dk DX12_duals_0 32 rfl) rfl (lv_at hl 1 rfl) ?_
  refine og_putI OX12 X hq hH 1 (by decide) rfl kF_X12_250 rfl rfl rfl (dk DX12_duals_0 33 rfl) (fun H locs hH => ?_)
  obtain ⟨t27, e28⟩ : ∃ y, y = oI t25 1 v24 := ⟨_, rfl⟩
  rw [← e28] at hH
  replace hF := bnd_e hF e28
  refine lv_iconst (v := 0) X.x X.b (dk DX12_duals_0 34 rfl) (by decide) ?_
  refine lv_istore_n (lv' := [(2, .int 0), (0, .ref (q 53)), (1, .int v24)]) X.x X.b (dk DX12_duals_0 35 rfl) rfl hl (by decide) rfl (fun ls hl => ?_)
  replace hl : lv_has ls 5 [(0, .ref (q 53)), (1, .int v24), (2, .int 0)] := lv_sub hl [1, 2, 0] rfl
  obtain ⟨x35, e36, hF⟩ := bd hF
  replace hl : lv_has ls 5 [(0, .ref (q 53)), (1, .int v24), (2, .int 0)] := lv_sub hl [0, 1, 2] rfl
  refine w_X12_duals_64 hq X v24 _ _ e36 _ _ _ hH hl (fun H locs ls hH hl => ?_)
  cases sm hF
  exact mr_vret X hr hlk hH rfl (dk DX12_duals_0 49 rfl)
-- X12_dual
abbrev rm_X12_dual : Room := { frames := 4, cells := 0, slots := 0, locals := 91 }
theorem hd_X12_dual : mHd yX12_dual 0 := ⟨by decide +kernel, by decide +kernel, by decide +kernel⟩
theorem DX12_dual_0 : ∀ t ∈ ([(0, .aload_n 0, 1), (1, .iconst 0, 1), (2, .putfield 106, 3), (5, .aload_n 0, 1), (6, .invokevirtual 426, 3), (9, .aload_n 0, 1), (10, .getfield 248, 3), (13, .ireturn, 1)] : List (Nat × Instr × Nat)), decode cX12_dual t.1 = .ok (t.2.1, t.2.2) := by decide +kernel
noncomputable def f_X12_dual (st : OS) : Option (Int32 × OS) := bnd (oI st 2 0) (fun t1 => (f_X12_duals t1).bind (fun x3 => some ((x3.1 0, x3))))
set_option maxHeartbeats 4000000 in
set_option maxRecDepth 100000 in
theorem c_X12_dual {l : Launch} {G : mG} {h : mM} {q : Nat → Nat} (hq : oinj LX12 q) {st : OS} {x : Int32 × OS} (hF : f_X12_dual st = some x) : cQ l G yX12_dual cX12_dual 1 (some FieldType.int) rm_X12_dual [.ref (q 53)] (oset LX12 G q st h) (mQi G (fun r h1 => r = x.1 ∧ h1 = oset LX12 G q x.2 h)) := by
  refine mp_of (by decide +kernel) (Nat.le_of_ble_eq_true rfl) ?_
  intro p e s m below meth c X hr hlk hH hname ls hl
  dsimp only [f_X12_dual] at hF
  replace hl : lv_has ls 1 [(0, .ref (q 53))] := hl
  refine lv_aload_n X.x X.b (dk DX12_dual_0 0 rfl) rfl (lv_at hl 0 rfl) ?_
  refine lv_iconst (v := 0) X.x X.b (dk DX12_dual_0 1 rfl) (by decide) ?_
  refine og_putI OX12 X hq hH 2 (by decide) rfl kF_X12_106 rfl rfl rfl (dk DX12_dual_0 2 rfl) (fun H locs hH => ?_)
  obtain ⟨t1, e2⟩ : ∃ y, y = oI st 2 0 := ⟨_, rfl⟩
  rw [← e2] at hH
  replace hF := bnd_e hF e2
  refine lv_aload_n X.x X.b (dk DX12_dual_0 3 rfl) rfl (lv_at hl 0 rfl) ?_
  obtain ⟨x3, e4, hF⟩ := bd hF
  refine mr_cv0 hH ⟨rfl, rfl⟩ (mr_runV (As := []) (rest := []) X hH (c_X12_duals hq e4) ((oset_at hq (Nat.le_refl _) ohas_N).trans (congrArg some ocell_N)) OX12.1 kM_X12_426 kI_X12_duals kS_X12_duals kN_X12 kC_X12_duals hd_X12_duals ⟨Nat.le_of_ble_eq_true rfl, Nat.le_of_ble_eq_true rfl⟩ rfl hl.1 (Nat.le_of_ble_eq_true rfl) (dk DX12_dual_0 4 rfl) ⟨Nat.zero_le _, Nat.zero_le _⟩) (fun h1 H locs hp hH => ?_)
  rw [hp] at hH; clear hp
  refine lv_aload_n X.x X.b (dk DX12_dual_0 5 rfl) rfl (lv_at hl 0 rfl) ?_
  refine og_getI OX12 X hq hH 0 (by decide) rfl kF_X12_248 (dk DX12_dual_0 6 rfl) ?_
  cases sm hF
  exact mr_iret X hr hlk hH ⟨rfl, rfl⟩ (dk DX12_dual_0 7 rfl)
-- X12_leaves
abbrev rm_X12_leaves : Room := { frames := 3, cells := 0, slots := 0, locals := 67 }
theorem hd_X12_leaves : mHd yX12_leaves 1 := ⟨by decide +kernel, by decide +kernel, by decide +kernel⟩
theorem DX12_leaves_0 : ∀ t ∈ ([(0, .aload_n 0, 1), (1, .invokevirtual 417, 3), (4, .aload_n 0, 1), (5, .invokevirtual 272, 3), (8, .aload_n 0, 1), (9, .invokevirtual 259, 3), (12, .aload_n 0, 1), (13, .getfield 30, 3), (16, .iload_n 1, 1), (17, .laload, 1), (18, .ldc2_w 109, 3), (21, .lxor, 1), (22, .land, 1), (23, .iload_n 1, 1), (24, .invokestatic 111, 3), (27, .ldc2_w 109, 3), (30, .lxor, 1), (31, .land, 1), (32, .lstore_n 2, 1), (33, .iconst 0, 1), (34, .istore 4, 2), (36, .iconst 0, 1), (37, .istore 5, 2), (39, .iload 5, 2), (41, .aload_n 0, 1), (42, .getfield 250, 3), (45, .if_icmp .ge 108, 3), (48, .aload_n 0, 1), (49, .getfield 7, 3), (52, .iload 5, 2), (54, .laload, 1), (55, .lload_n 2, 1), (56, .land, 1), (57, .invokestatic 283, 3), (60, .iconst 2, 1), (61, .if_icmp .ge 6, 3), (64, .goto 83, 3), (67, .lconst 0, 1), (68, .lstore 6, 2), (70, .iconst 0, 1), (71, .istore 8, 2), (73, .iconst 0, 1), (74, .istore 9, 2), (76, .iload 9, 2), (78, .aload_n 0, 1), (79, .getfield 248, 3), (82, .if_icmp .ge 53, 3), (85, .lload_n 2, 1), (86, .iload 9, 2), (88, .invokestatic 232, 3), (91, .ifCond .ne 6, 3), (94, .goto 35, 3), (97, .lload 6, 2), (99, .aload_n 0, 1), (100, .getfield 7, 3), (103, .iload 5, 2), (105, .laload, 1), (106, .iload 9, 2), (108, .invokestatic 232, 3), (111, .ifCond .eq 11, 3)] : List (Nat × Instr × Nat)), decode cX12_leaves t.1 = .ok (t.2.1, t.2.2) := by decide +kernel
theorem DX12_leaves_1 : ∀ t ∈ ([(114, .iload 8, 2), (116, .invokestatic 111, 3), (119, .goto 4, 3), (122, .lconst 0, 1), (123, .lor, 1), (124, .lstore 6, 2), (126, .iinc 8 1, 3), (129, .iinc 9 1, 3), (132, .goto (-56), 3), (135, .aload_n 0, 1), (136, .getfield 21, 3), (139, .iload 4, 2), (141, .lload 6, 2), (143, .lastore, 1), (144, .iinc 4 1, 3), (147, .iinc 5 1, 3), (150, .goto (-111), 3), (153, .aload_n 0, 1), (154, .lload_n 2, 1), (155, .invokestatic 283, 3), (158, .putfield 248, 3), (161, .aload_n 0, 1), (162, .iload 4, 2), (164, .putfield 250, 3), (167, .iconst 0, 1), (168, .istore 5, 2), (170, .iload 5, 2), (172, .iload 4, 2), (174, .if_icmp .ge 23, 3), (177, .aload_n 0, 1), (178, .getfield 7, 3), (181, .iload 5, 2), (183, .aload_n 0, 1), (184, .getfield 21, 3), (187, .iload 5, 2), (189, .laload, 1), (190, .lastore, 1), (191, .iinc 5 1, 3), (194, .goto (-24), 3), (197, .return_, 1)] : List (Nat × Instr × Nat)), decode cX12_leaves t.1 = .ok (t.2.1, t.2.2) := by decide +kernel
noncomputable def f_X12_leaves_76 (s_t : OS) (b2 : Int64) (b4 : Int32) (b5 : Int32) : (Int64 × Int32 × Int32) → Option ((Int64 × Int32 × Int32) ⊕ (Int64)) := fun z => match z with | (b6, b8, b9) => (if (s_t.1 0) ≤ b9 then some (.inr b6) else (f_X12_has b2 b9).bind (fun x23 => (if x23 = 0 then bnd (b9 + 1 : Int32) (fun v47 => some (.inl ((b6, b8, v47)))) else if inb b5 64 = true then (f_X12_has (s_t.2.2.2 3 (b5 : Int32).toNatClampNeg) b9).bind (fun x28 => (if x28 = 0 then bnd (b6 ||| 0 : Int64) (fun v32 => bnd (b8 + 1 : Int32) (fun v34 => bnd (b9 + 1 : Int32) (fun v36 => some (.inl ((v32, v34, v36)))))) else (f_X12_bit b8).bind (fun x38 => bnd (b6 ||| x38 : Int64) (fun v41 => bnd (b8 + 1 : Int32) (fun v43 => bnd (b9 + 1 : Int32) (fun v45 => some (.inl ((v41, v43, v45))))))))) else none)))
noncomputable def f_X12_leaves_39 (b2 : Int64) : (OS × Int32 × Int32) → Option ((OS × Int32 × Int32) ⊕ (OS × Int32)) := fun z => match z with | (s_t, b4, b5) => (if (s_t.1 1) ≤ b5 then some (.inr ((s_t, b4))) else if inb b5 64 = true then (f_X12_ones ((s_t.2.2.2 3 (b5 : Int32).toNatClampNeg) &&& b2)).bind (fun x18 => (if 2 ≤ x18 then (lpv (f_X12_leaves_76 s_t b2 b4 b5) ((0, 0, 0))).bind (fun x49 => if inb b4 64 = true then bnd (oB s_t 17 (vp_updL (s_t.2.2.2 17) (b4 : Int32).toNatClampNeg x49)) (fun t53 => bnd (b4 + 1 : Int32) (fun v55 => bnd (b5 + 1 : Int32) (fun v57 => some (.inl ((t53, v55, v57)))))) else none) else bnd (b5 + 1 : Int32) (fun v59 => some (.inl ((s_t, b4, v59)))))) else none)
noncomputable def f_X12_leaves_170 (b4 : Int32) : (OS × Int32) → Option ((OS × Int32) ⊕ (OS)) := fun z => match z with | (s_t, b5) => (if b4 ≤ b5 then some (.inr s_t) else if inb b5 64 = true then bnd (oB s_t 3 (vp_updL (s_t.2.2.2 3) (b5 : Int32).toNatClampNeg (s_t.2.2.2 17 (b5 : Int32).toNatClampNeg))) (fun t74 => bnd (b5 + 1 : Int32) (fun v76 => some (.inl ((t74, v76))))) else none)
noncomputable def f_X12_leaves (st : OS) (a0 : Int32) : Option (OS) := (f_X12_acts st).bind (fun x1 => (f_X12_layNears x1).bind (fun x4 => (f_X12_all x4).bind (fun x7 => if inb a0 64 = true then (f_X12_bit a0).bind (fun x11 => bnd ((x7 &&& ((x4.2.2.2 20 (a0 : Int32).toNatClampNeg) ^^^ ((-1)))) &&& (x11 ^^^ ((-1))) : Int64) (fun v14 => (lpv (f_X12_leaves_39 v14) ((x4, 0, 0))).bind (fun x61 => match x61 with | (t63, v64) => (f_X12_ones v14).bind (fun x65 => bnd (oI t63 0 x65) (fun t68 => bnd (oI t68 1 v64) (fun t70 => (lpv (f_X12_leaves_170 v64) ((t70, 0))).bind (fun x78 => some x78))))))) else none)))
set_option maxHeartbeats 4000000 in
set_option maxRecDepth 100000 in
theorem w_X12_leaves_76 {p : Program} {l : Launch} {e : Env} {s : State} {m : MethodId} {args : Array Value} {below : List Frame} {meth : Method} {c : Code} {Q : State → Prop} {G : mG} {h : mM} {q : Nat → Nat} (hq : oinj LX12 q) (X : mX G p m c cX12_leaves 10 s args RX12) (s_t : OS) (b2 : Int64) (b4 : Int32) (b5 : Int32) : ∀ (z : Int64 × Int32 × Int32) (r : Int64), lpv (f_X12_leaves_76 s_t b2 b4 b5) z = some r → ∀ (H : Heap) (locs : List Loc) (ls : Array Slot), mH G (oset LX12 G q s_t h) s.heap H locs → lv_has ls 10 [(0, .ref (q 53)), (2, .long b2), (4, .int b4), (5, .int b5), (6, .long z.1), (8, .int z.2.1), (9, .int z.2.2)] → (∀ (H : Heap) (locs : List Loc) (ls : Array Slot), mH G (oset LX12 G q s_t h) s.heap H locs → lv_has ls 10 [(0, .ref (q 53)), (2, .long b2), (4, .int b4), (5, .int b5), (6, .long r)] → W p l e rm_X12_leaves s m args below meth c H locs 0 0 Q (F0 m 135 ls [])) → W p l e rm_X12_leaves s m args below meth c H locs 0 0 Q (F0 m 76 ls []) := by
  refine lpv_rec ?_
  intro z r x hF hx H locs ls hH hl K0
  obtain ⟨b6, b8, b9⟩ := z
  dsimp only [f_X12_leaves_76] at hF
  try dsimp only at hH hl
  refine lv_iload X.x X.b (dk DX12_leaves_0 43 rfl) (lv_at hl 6 rfl) ?_
  refine lv_aload_n X.x X.b (dk DX12_leaves_0 44 rfl) rfl (lv_at hl 0 rfl) ?_
  refine og_getI OX12 X hq hH 0 (by decide) rfl kF_X12_248 (dk DX12_leaves_0 45 rfl) ?_
  refine lv_icmp_ge (tgt := 135) X.x X.b (dk DX12_leaves_0 46 rfl) (by decide) (fun c22 => ?_) (fun c22 => ?_)
  · replace hF := if_t hF c22
    have hr9 := lp_r hF hx
    subst hr9
    exact K0 _ _ _ hH (lv_sub hl [0, 1, 2, 3, 4] rfl)
  · replace hF := if_f hF c22
    refine lv_lload_n X.x X.b (dk DX12_leaves_0 47 rfl) rfl (lv_at hl 1 rfl) ?_
    refine lv_iload X.x X.b (dk DX12_leaves_0 48 rfl) (lv_at hl 6 rfl) ?_
    obtain ⟨x23, e24, hF⟩ := bd hF
    refine mr_ci0 hH ⟨rfl, rfl⟩ (mr_runS (As := [.long b2, .int b9]) (rest := []) X hH (c_X12_has e24) kM_X12_232 kT_X12_has kN_X12 kC_X12_has hd_X12_has ⟨Nat.le_of_ble_eq_true rfl, Nat.le_of_ble_eq_true rfl⟩ rfl hl.1 (Nat.le_of_ble_eq_true rfl) (dk DX12_leaves_0 49 rfl) ⟨Nat.zero_le _, Nat.zero_le _⟩) (fun r h1 H locs hp hH => ?_)
    obtain ⟨hr1, hr2⟩ := hp; rw [hr1]; rw [hr2] at hH; clear hr1 hr2
    refine lv_if_ne (tgt := 97) X.x X.b (dk DX12_leaves_0 50 rfl) (by decide) (fun c26 => ?_) (fun c26 => ?_)
    · replace hF := if_f hF c26
      refine lv_lload X.x X.b (dk DX12_leaves_0 52 rfl) (lv_at hl 4 rfl) ?_
      refine lv_aload_n X.x X.b (dk DX12_leaves_0 53 rfl) rfl (lv_at hl 0 rfl) ?_
      refine og_getR (t := 1) OX12 X hq hH 3 (by decide) rfl kF_X12_7 (dk DX12_leaves_0 54 rfl) ?_
      refine lv_iload X.x X.b (dk DX12_leaves_0 55 rfl) (lv_at hl 3 rfl) ?_
      obtain ⟨c27, hF⟩ := gd hF
      refine og_lald X hq hH 3 (by decide) rfl (inb_in c27) (dk DX12_leaves_0 56 rfl) ?_
      refine lv_iload X.x X.b (dk DX12_leaves_0 57 rfl) (lv_at hl 6 rfl) ?_
      obtain ⟨x28, e29, hF⟩ := bd hF
      refine mr_ci0 hH ⟨rfl, rfl⟩ (mr_runS (As := [.long (s_t.2.2.2 3 (b5 : Int32).toNatClampNeg), .int b9]) (rest := [.long b6]) X hH (c_X12_has e29) kM_X12_232 kT_X12_has kN_X12 kC_X12_has hd_X12_has ⟨Nat.le_of_ble_eq_true rfl, Nat.le_of_ble_eq_true rfl⟩ rfl hl.1 (Nat.le_of_ble_eq_true rfl) (dk DX12_leaves_0 58 rfl) ⟨Nat.zero_le _, Nat.zero_le _⟩) (fun r h1 H locs hp hH => ?_)
      obtain ⟨hr1, hr2⟩ := hp; rw [hr1]; rw [hr2] at hH; clear hr1 hr2
      refine lv_if_eq (tgt := 122) X.x X.b (dk DX12_leaves_0 59 rfl) (by decide) (fun c31 => ?_) (fun c31 => ?_)
      · replace hF := if_t hF c31
        refine lv_lconst (v := 0) X.x X.b (dk DX12_leaves_1 3 rfl) (by decide) ?_
        refine lv_lor X.x X.b (dk DX12_leaves_1 4 rfl) ?_
        refine lv_topl (fun v32 e33 => ?_)
        replace hF := bnd_e hF e33
        refine lv_lstore (lv' := [(6, .long v32), (0, .ref (q 53)), (2, .long b2), (4, .int b4), (5, .int b5), (8, .int b8), (9, .int b9)]) X.x X.b (dk DX12_leaves_1 5 rfl) hl (by decide) rfl (fun ls hl => ?_)
        replace hl : lv_has ls 10 [(0, .ref (q 53)), (2, .long b2), (4, .int b4), (5, .int b5), (6, .long v32), (8, .int b8), (9, .int b9)] := lv_sub hl [1, 2, 3, 4, 0, 5, 6] rfl
        obtain ⟨v34, e35⟩ : ∃ y : Int32, y = b8 + 1 := ⟨_, rfl⟩
        replace hF := bnd_e hF e35
        refine lv_iinc (v := v34) (lv' := [(8, .int v34), (0, .ref (q 53)), (2, .long b2), (4, .int b4), (5, .int b5), (6, .long v32), (9, .int b9)]) X.x X.b (dk DX12_leaves_1 6 rfl) hl (k := 5) rfl (by rw [e35]; rfl) (by decide) rfl (fun ls hl => ?_)
        replace hl : lv_has ls 10 [(0, .ref (q 53)), (2, .long b2), (4, .int b4), (5, .int b5), (6, .long v32), (8, .int v34), (9, .int b9)] := lv_sub hl [1, 2, 3, 4, 5, 0, 6] rfl
        obtain ⟨v36, e37⟩ : ∃ y : Int32, y = b9 + 1 := ⟨_, rfl⟩
        replace hF := bnd_e hF e37
        refine lv_iinc (v := v36) (lv' := [(9, .int v36), (0, .ref (q 53)), (2, .long b2), (4, .int b4), (5, .int b5), (6, .long v32), (8, .int v34)]) X.x X.b (dk DX12_leaves_1 7 rfl) hl (k := 6) rfl (by rw [e37]; rfl) (by decide) rfl (fun ls hl => ?_)
        replace hl : lv_has ls 10 [(0, .ref (q 53)), (2, .long b2), (4, .int b4), (5, .int b5), (6, .long v32), (8, .int v34), (9, .int v36)] := lv_sub hl [1, 2, 3, 4, 5, 6, 0] rfl
        refine lv_goto (tgt := 76) X.x X.b (dk DX12_leaves_1 8 rfl) (by decide) ?_
        exact (lp_l hF hx) _ _ _ hH (lv_sub hl [0, 1, 2, 3, 4, 5, 6] rfl) K0
      · replace hF := if_f hF c31
        refine lv_iload X.x X.b (dk DX12_leaves_1 0 rfl) (lv_at hl 5 rfl) ?_
        obtain ⟨x38, e39, hF⟩ := bd hF
        refine mr_cl0 hH ⟨rfl, rfl⟩ (mr_runS (As := [.int b8]) (rest := [.long b6]) X hH (c_X12_bit e39) kM_X12_111 kT_X12_bit kN_X12 kC_X12_bit hd_X12_bit ⟨Nat.le_of_ble_eq_true rfl, Nat.le_of_ble_eq_true rfl⟩ rfl hl.1 (Nat.le_of_ble_eq_true rfl) (dk DX12_leaves_1 1 rfl) ⟨Nat.zero_le _, Nat.zero_le _⟩) (fun r h1 H locs hp hH => ?_)
        obtain ⟨hr1, hr2⟩ := hp; rw [hr1]; rw [hr2] at hH; clear hr1 hr2
        refine lv_goto (tgt := 123) X.x X.b (dk DX12_leaves_1 2 rfl) (by decide) ?_
        refine lv_lor X.x X.b (dk DX12_leaves_1 4 rfl) ?_
        refine lv_topl (fun v41 e42 => ?_)
        replace hF := bnd_e hF e42
        refine lv_lstore (lv' := [(6, .long v41), (0, .ref (q 53)), (2, .long b2), (4, .int b4), (5, .int b5), (8, .int b8), (9, .int b9)]) X.x X.b (dk DX12_leaves_1 5 rfl) hl (by decide) rfl (fun ls hl => ?_)
        replace hl : lv_has ls 10 [(0, .ref (q 53)), (2, .long b2), (4, .int b4), (5, .int b5), (6, .long v41), (8, .int b8), (9, .int b9)] := lv_sub hl [1, 2, 3, 4, 0, 5, 6] rfl
        obtain ⟨v43, e44⟩ : ∃ y : Int32, y = b8 + 1 := ⟨_, rfl⟩
        replace hF := bnd_e hF e44
        refine lv_iinc (v := v43) (lv' := [(8, .int v43), (0, .ref (q 53)), (2, .long b2), (4, .int b4), (5, .int b5), (6, .long v41), (9, .int b9)]) X.x X.b (dk DX12_leaves_1 6 rfl) hl (k := 5) rfl (by rw [e44]; rfl) (by decide) rfl (fun ls hl => ?_)
        replace hl : lv_has ls 10 [(0, .ref (q 53)), (2, .long b2), (4, .int b4), (5, .int b5), (6, .long v41), (8, .int v43), (9, .int b9)] := lv_sub hl [1, 2, 3, 4, 5, 0, 6] rfl
        obtain ⟨v45, e46⟩ : ∃ y : Int32, y = b9 + 1 := ⟨_, rfl⟩
        replace hF := bnd_e hF e46
        refine lv_iinc (v := v45) (lv' := [(9, .int v45), (0, .ref (q 53)), (2, .long b2), (4, .int b4), (5, .int b5), (6, .long v41), (8, .int v43)]) X.x X.b (dk DX12_leaves_1 7 rfl) hl (k := 6) rfl (by rw [e46]; rfl) (by decide) rfl (fun ls hl => ?_)
        replace hl : lv_has ls 10 [(0, .ref (q 53)), (2, .long b2), (4, .int b4), (5, .int b5), (6, .long v41), (8, .int v43), (9, .int v45)] := lv_sub hl [1, 2, 3, 4, 5, 6, 0] rfl
        refine lv_goto (tgt := 76) X.x X.b (dk DX12_leaves_1 8 rfl) (by decide) ?_
        exact (lp_l hF hx) _ _ _ hH (lv_sub hl [0, 1, 2, 3, 4, 5, 6] rfl) K0
    · replace hF := if_t hF c26
      refine lv_goto (tgt := 129) X.x X.b (dk DX12_leaves_0 51 rfl) (by decide) ?_
      obtain ⟨v47, e48⟩ : ∃ y : Int32, y = b9 + 1 := ⟨_, rfl⟩
      replace hF := bnd_e hF e48
      refine lv_iinc (v := v47) (lv' := [(9, .int v47), (0, .ref (q 53)), (2, .long b2), (4, .int b4), (5, .int b5), (6, .long b6), (8, .int b8)]) X.x X.b (dk DX12_leaves_1 7 rfl) hl (k := 6) rfl (by rw [e48]; rfl) (by decide) rfl (fun ls hl => ?_)
      replace hl : lv_has ls 10 [(0, .ref (q 53)), (2, .long b2), (4, .int b4), (5, .int b5), (6, .long b6), (8, .int b8), (9, .int v47)] := lv_sub hl [1, 2, 3, 4, 5, 6, 0] rfl
      refine lv_goto (tgt := 76) X.x X.b (dk DX12_leaves_1 8 rfl) (by decide) ?_
      exact (lp_l hF hx) _ _ _ hH (lv_sub hl [0, 1, 2, 3, 4, 5, 6] rfl) K0
set_option maxHeartbeats 4000000 in
set_option maxRecDepth 100000 in
theorem w_X12_leaves_39 {p : Program} {l : Launch} {e : Env} {s : State} {m : MethodId} {args : Array Value} {below : List Frame} {meth : Method} {c : Code} {Q : State → Prop} {G : mG} {h : mM} {q : Nat → Nat} (hq : oinj LX12 q) (X : mX G p m c cX12_leaves 10 s args RX12) (b2 : Int64) : ∀ (z : OS × Int32 × Int32) (r : OS × Int32), lpv (f_X12_leaves_39 b2) z = some r → ∀ (H : Heap) (locs : List Loc) (ls : Array Slot), mH G (oset LX12 G q z.1 h) s.heap H locs → lv_has ls 10 [(0, .ref (q 53)), (2, .long b2), (4, .int z.2.1), (5, .int z.2.2)] → (∀ (H : Heap) (locs : List Loc) (ls : Array Slot), mH G (oset LX12 G q r.1 h) s.heap H locs → lv_has ls 10 [(0, .ref (q 53)), (2, .long b2), (4, .int r.2)] → W p l e rm_X12_leaves s m args below meth c H locs 0 0 Q (F0 m 153 ls [])) → W p l e rm_X12_leaves s m args below meth c H locs 0 0 Q (F0 m 39 ls []) := by
  refine lpv_rec ?_
  intro z r x hF hx H locs ls hH hl K0
  obtain ⟨s_t, b4, b5⟩ := z
  dsimp only [f_X12_leaves_39] at hF
  try dsimp only at hH hl
  refine lv_iload X.x X.b (dk DX12_leaves_0 23 rfl) (lv_at hl 3 rfl) ?_
  refine lv_aload_n X.x X.b (dk DX12_leaves_0 24 rfl) rfl (lv_at hl 0 rfl) ?_
  refine og_getI OX12 X hq hH 1 (by decide) rfl kF_X12_250 (dk DX12_leaves_0 25 rfl) ?_
  refine lv_icmp_ge (tgt := 153) X.x X.b (dk DX12_leaves_0 26 rfl) (by decide) (fun c16 => ?_) (fun c16 => ?_)
  · replace hF := if_t hF c16
    have hr9 := lp_r hF hx
    subst hr9
    exact K0 _ _ _ hH (lv_sub hl [0, 1, 2] rfl)
  · replace hF := if_f hF c16
    refine lv_aload_n X.x X.b (dk DX12_leaves_0 27 rfl) rfl (lv_at hl 0 rfl) ?_
    refine og_getR (t := 1) OX12 X hq hH 3 (by decide) rfl kF_X12_7 (dk DX12_leaves_0 28 rfl) ?_
    refine lv_iload X.x X.b (dk DX12_leaves_0 29 rfl) (lv_at hl 3 rfl) ?_
    obtain ⟨c17, hF⟩ := gd hF
    refine og_lald X hq hH 3 (by decide) rfl (inb_in c17) (dk DX12_leaves_0 30 rfl) ?_
    refine lv_lload_n X.x X.b (dk DX12_leaves_0 31 rfl) rfl (lv_at hl 1 rfl) ?_
    refine lv_land X.x X.b (dk DX12_leaves_0 32 rfl) ?_
    obtain ⟨x18, e19, hF⟩ := bd hF
    refine mr_ci0 hH ⟨rfl, rfl⟩ (mr_runS (As := [.long ((s_t.2.2.2 3 (b5 : Int32).toNatClampNeg) &&& b2)]) (rest := []) X hH (c_X12_ones e19) kM_X12_283 kT_X12_ones kN_X12 kC_X12_ones hd_X12_ones ⟨Nat.le_of_ble_eq_true rfl, Nat.le_of_ble_eq_true rfl⟩ rfl hl.1 (Nat.le_of_ble_eq_true rfl) (dk DX12_leaves_0 33 rfl) ⟨Nat.zero_le _, Nat.zero_le _⟩) (fun r h1 H locs hp hH => ?_)
    obtain ⟨hr1, hr2⟩ := hp; rw [hr1]; rw [hr2] at hH; clear hr1 hr2
    refine lv_iconst (v := 2) X.x X.b (dk DX12_leaves_0 34 rfl) (by decide) ?_
    refine lv_icmp_ge (tgt := 67) X.x X.b (dk DX12_leaves_0 35 rfl) (by decide) (fun c21 => ?_) (fun c21 => ?_)
    · replace hF := if_t hF c21
      refine lv_lconst (v := 0) X.x X.b (dk DX12_leaves_0 37 rfl) (by decide) ?_
      refine lv_lstore (lv' := [(6, .long 0), (0, .ref (q 53)), (2, .long b2), (4, .int b4), (5, .int b5)]) X.x X.b (dk DX12_leaves_0 38 rfl) hl (by decide) rfl (fun ls hl => ?_)
      replace hl : lv_has ls 10 [(0, .ref (q 53)), (2, .long b2), (4, .int b4), (5, .int b5), (6, .long 0)] := lv_sub hl [1, 2, 3, 4, 0] rfl
      refine lv_iconst (v := 0) X.x X.b (dk DX12_leaves_0 39 rfl) (by decide) ?_
      refine lv_istore (lv' := [(8, .int 0), (0, .ref (q 53)), (2, .long b2), (4, .int b4), (5, .int b5), (6, .long 0)]) X.x X.b (dk DX12_leaves_0 40 rfl) hl (by decide) rfl (fun ls hl => ?_)
      replace hl : lv_has ls 10 [(0, .ref (q 53)), (2, .long b2), (4, .int b4), (5, .int b5), (6, .long 0), (8, .int 0)] := lv_sub hl [1, 2, 3, 4, 5, 0] rfl
      refine lv_iconst (v := 0) X.x X.b (dk DX12_leaves_0 41 rfl) (by decide) ?_
      refine lv_istore (lv' := [(9, .int 0), (0, .ref (q 53)), (2, .long b2), (4, .int b4), (5, .int b5), (6, .long 0), (8, .int 0)]) X.x X.b (dk DX12_leaves_0 42 rfl) hl (by decide) rfl (fun ls hl => ?_)
      replace hl : lv_has ls 10 [(0, .ref (q 53)), (2, .long b2), (4, .int b4), (5, .int b5), (6, .long 0), (8, .int 0), (9, .int 0)] := lv_sub hl [1, 2, 3, 4, 5, 6, 0] rfl
      obtain ⟨x49, e50, hF⟩ := bd hF
      replace hl : lv_has ls 10 [(0, .ref (q 53)), (2, .long b2), (4, .int b4), (5, .int b5), (6, .long 0), (8, .int 0), (9, .int 0)] := lv_sub hl [0, 1, 2, 3, 4, 5, 6] rfl
      refine w_X12_leaves_76 hq X s_t b2 b4 b5 _ _ e50 _ _ _ hH hl (fun H locs ls hH hl => ?_)
      refine lv_aload_n X.x X.b (dk DX12_leaves_1 9 rfl) rfl (lv_at hl 0 rfl) ?_
      refine og_getR (t := 1) OX12 X hq hH 17 (by decide) rfl kF_X12_21 (dk DX12_leaves_1 10 rfl) ?_
      refine lv_iload X.x X.b (dk DX12_leaves_1 11 rfl) (lv_at hl 2 rfl) ?_
      refine lv_lload X.x X.b (dk DX12_leaves_1 12 rfl) (lv_at hl 4 rfl) ?_
      obtain ⟨c52, hF⟩ := gd hF
      refine og_last X hq hH 17 (by decide) rfl (inb_in c52) (dk DX12_leaves_1 13 rfl) (fun H locs hH => ?_)
      obtain ⟨t53, e54⟩ : ∃ y, y = oB s_t 17 (vp_updL (s_t.2.2.2 17) (b4 : Int32).toNatClampNeg x49) := ⟨_, rfl⟩
      rw [← e54] at hH
      replace hF := bnd_e hF e54
      obtain ⟨v55, e56⟩ : ∃ y : Int32, y = b4 + 1 := ⟨_, rfl⟩
      replace hF := bnd_e hF e56
      refine lv_iinc (v := v55) (lv' := [(4, .int v55), (0, .ref (q 53)), (2, .long b2), (5, .int b5), (6, .long x49)]) X.x X.b (dk DX12_leaves_1 14 rfl) hl (k := 2) rfl (by rw [e56]; rfl) (by decide) rfl (fun ls hl => ?_)
      replace hl : lv_has ls 10 [(0, .ref (q 53)), (2, .long b2), (4, .int v55), (5, .int b5)] := lv_sub hl [1, 2, 0, 3] rfl
      obtain ⟨v57, e58⟩ : ∃ y : Int32, y = b5 + 1 := ⟨_, rfl⟩
      replace hF := bnd_e hF e58
      refine lv_iinc (v := v57) (lv' := [(5, .int v57), (0, .ref (q 53)), (2, .long b2), (4, .int v55)]) X.x X.b (dk DX12_leaves_1 15 rfl) hl (k := 3) rfl (by rw [e58]; rfl) (by decide) rfl (fun ls hl => ?_)
      replace hl : lv_has ls 10 [(0, .ref (q 53)), (2, .long b2), (4, .int v55), (5, .int v57)] := lv_sub hl [1, 2, 3, 0] rfl
      refine lv_goto (tgt := 39) X.x X.b (dk DX12_leaves_1 16 rfl) (by decide) ?_
      exact (lp_l hF hx) _ _ _ hH (lv_sub hl [0, 1, 2, 3] rfl) K0
    · replace hF := if_f hF c21
      refine lv_goto (tgt := 147) X.x X.b (dk DX12_leaves_0 36 rfl) (by decide) ?_
      obtain ⟨v59, e60⟩ : ∃ y : Int32, y = b5 + 1 := ⟨_, rfl⟩
      replace hF := bnd_e hF e60
      refine lv_iinc (v := v59) (lv' := [(5, .int v59), (0, .ref (q 53)), (2, .long b2), (4, .int b4)]) X.x X.b (dk DX12_leaves_1 15 rfl) hl (k := 3) rfl (by rw [e60]; rfl) (by decide) rfl (fun ls hl => ?_)
      replace hl : lv_has ls 10 [(0, .ref (q 53)), (2, .long b2), (4, .int b4), (5, .int v59)] := lv_sub hl [1, 2, 3, 0] rfl
      refine lv_goto (tgt := 39) X.x X.b (dk DX12_leaves_1 16 rfl) (by decide) ?_
      exact (lp_l hF hx) _ _ _ hH (lv_sub hl [0, 1, 2, 3] rfl) K0
set_option maxHeartbeats 4000000 in
set_option maxRecDepth 100000 in
theorem w_X12_leaves_170 {p : Program} {l : Launch} {e : Env} {s : State} {m : MethodId} {args : Array Value} {below : List Frame} {meth : Method} {c : Code} {Q : State → Prop} {G : mG} {h : mM} {q : Nat → Nat} (hq : oinj LX12 q) (X : mX G p m c cX12_leaves 10 s args RX12) (b4 : Int32) : ∀ (z : OS × Int32) (r : OS), lpv (f_X12_leaves_170 b4) z = some r → ∀ (H : Heap) (locs : List Loc) (ls : Array Slot), mH G (oset LX12 G q z.1 h) s.heap H locs → lv_has ls 10 [(0, .ref (q 53)), (4, .int b4), (5, .int z.2)] → (∀ (H : Heap) (locs : List Loc) (ls : Array Slot), mH G (oset LX12 G q r h) s.heap H locs → lv_has ls 10 [] → W p l e rm_X12_leaves s m args below meth c H locs 0 0 Q (F0 m 197 ls [])) → W p l e rm_X12_leaves s m args below meth c H locs 0 0 Q (F0 m 170 ls []) := by
  refine lpv_rec ?_
  intro z r x hF hx H locs ls hH hl K0
  obtain ⟨s_t, b5⟩ := z
  dsimp only [f_X12_leaves_170] at hF
  try dsimp only at hH hl
  refine lv_iload X.x X.b (dk DX12_leaves_1 26 rfl) (lv_at hl 2 rfl) ?_
  refine lv_iload X.x X.b (dk DX12_leaves_1 27 rfl) (lv_at hl 1 rfl) ?_
  refine lv_icmp_ge (tgt := 197) X.x X.b (dk DX12_leaves_1 28 rfl) (by decide) (fun c72 => ?_) (fun c72 => ?_)
  · replace hF := if_t hF c72
    have hr9 := lp_r hF hx
    subst hr9
    exact K0 _ _ _ hH (lv_sub hl [] rfl)
  · replace hF := if_f hF c72
    refine lv_aload_n X.x X.b (dk DX12_leaves_1 29 rfl) rfl (lv_at hl 0 rfl) ?_
    refine og_getR (t := 1) OX12 X hq hH 3 (by decide) rfl kF_X12_7 (dk DX12_leaves_1 30 rfl) ?_
    refine lv_iload X.x X.b (dk DX12_leaves_1 31 rfl) (lv_at hl 2 rfl) ?_
    refine lv_aload_n X.x X.b (dk DX12_leaves_1 32 rfl) rfl (lv_at hl 0 rfl) ?_
    refine og_getR (t := 1) OX12 X hq hH 17 (by decide) rfl kF_X12_21 (dk DX12_leaves_1 33 rfl) ?_
    refine lv_iload X.x X.b (dk DX12_leaves_1 34 rfl) (lv_at hl 2 rfl) ?_
    obtain ⟨c73, hF⟩ := gd hF
    refine og_lald X hq hH 17 (by decide) rfl (inb_in c73) (dk DX12_leaves_1 35 rfl) ?_
    refine og_last X hq hH 3 (by decide) rfl (inb_in c73) (dk DX12_leaves_1 36 rfl) (fun H locs hH => ?_)
    obtain ⟨t74, e75⟩ : ∃ y, y = oB s_t 3 (vp_updL (s_t.2.2.2 3) (b5 : Int32).toNatClampNeg (s_t.2.2.2 17 (b5 : Int32).toNatClampNeg)) := ⟨_, rfl⟩
    rw [← e75] at hH
    replace hF := bnd_e hF e75
    obtain ⟨v76, e77⟩ : ∃ y : Int32, y = b5 + 1 := ⟨_, rfl⟩
    replace hF := bnd_e hF e77
    refine lv_iinc (v := v76) (lv' := [(5, .int v76), (0, .ref (q 53)), (4, .int b4)]) X.x X.b (dk DX12_leaves_1 37 rfl) hl (k := 2) rfl (by rw [e77]; rfl) (by decide) rfl (fun ls hl => ?_)
    replace hl : lv_has ls 10 [(0, .ref (q 53)), (4, .int b4), (5, .int v76)] := lv_sub hl [1, 2, 0] rfl
    refine lv_goto (tgt := 170) X.x X.b (dk DX12_leaves_1 38 rfl) (by decide) ?_
    exact (lp_l hF hx) _ _ _ hH (lv_sub hl [0, 1, 2] rfl) K0
set_option maxHeartbeats 4000000 in
set_option maxRecDepth 100000 in
theorem c_X12_leaves {l : Launch} {G : mG} {h : mM} {q : Nat → Nat} (hq : oinj LX12 q) {st : OS} {a0 : Int32} {x : OS} (hF : f_X12_leaves st a0 = some x) : cQ l G yX12_leaves cX12_leaves 10 none rm_X12_leaves [.ref (q 53), .int a0] (oset LX12 G q st h) (mQv G (fun h1 => h1 = oset LX12 G q x h)) := by
  refine mp_of (by decide +kernel) (Nat.le_of_ble_eq_true rfl) ?_
  intro p e s m below meth c X hr hlk hH hname ls hl
  dsimp only [f_X12_leaves] at hF
  replace hl : lv_has ls 10 [(0, .ref (q 53)), (1, .int a0)] := hl
  refine lv_aload_n X.x X.b (dk DX12_leaves_0 0 rfl) rfl (lv_at hl 0 rfl) ?_
  obtain ⟨x1, e2, hF⟩ := bd hF
  refine mr_cv0 hH ⟨rfl, rfl⟩ (mr_runV (As := []) (rest := []) X hH (c_X12_acts hq e2) ((oset_at hq (Nat.le_refl _) ohas_N).trans (congrArg some ocell_N)) OX12.1 kM_X12_417 kI_X12_acts kS_X12_acts kN_X12 kC_X12_acts hd_X12_acts ⟨Nat.le_of_ble_eq_true rfl, Nat.le_of_ble_eq_true rfl⟩ rfl hl.1 (Nat.le_of_ble_eq_true rfl) (dk DX12_leaves_0 1 rfl) ⟨Nat.zero_le _, Nat.zero_le _⟩) (fun h1 H locs hp hH => ?_)
  rw [hp] at hH; clear hp
  refine lv_aload_n X.x X.b (dk DX12_leaves_0 2 rfl) rfl (lv_at hl 0 rfl) ?_
  obtain ⟨x4, e5, hF⟩ := bd hF
  refine mr_cv0 hH ⟨rfl, rfl⟩ (mr_runV (As := []) (rest := []) X hH (c_X12_layNears hq e5) ((oset_at hq (Nat.le_refl _) ohas_N).trans (congrArg some ocell_N)) OX12.1 kM_X12_272 kI_X12_layNears kS_X12_layNears kN_X12 kC_X12_layNears hd_X12_layNears ⟨Nat.le_of_ble_eq_true rfl, Nat.le_of_ble_eq_true rfl⟩ rfl hl.1 (Nat.le_of_ble_eq_true rfl) (dk DX12_leaves_0 3 rfl) ⟨Nat.zero_le _, Nat.zero_le _⟩) (fun h1 H locs hp hH => ?_)
  rw [hp] at hH; clear hp
  refine lv_aload_n X.x X.b (dk DX12_leaves_0 4 rfl) rfl (lv_at hl 0 rfl) ?_
  obtain ⟨x7, e8, hF⟩ := bd hF
  refine mr_cl0 hH ⟨rfl, rfl⟩ (mr_runV (As := []) (rest := []) X hH (c_X12_all hq e8) ((oset_at hq (Nat.le_refl _) ohas_N).trans (congrArg some ocell_N)) OX12.1 kM_X12_259 kI_X12_all kS_X12_all kN_X12 kC_X12_all hd_X12_all ⟨Nat.le_of_ble_eq_true rfl, Nat.le_of_ble_eq_true rfl⟩ rfl hl.1 (Nat.le_of_ble_eq_true rfl) (dk DX12_leaves_0 5 rfl) ⟨Nat.zero_le _, Nat.zero_le _⟩) (fun r h1 H locs hp hH => ?_)
  obtain ⟨hr1, hr2⟩ := hp; rw [hr1]; rw [hr2] at hH; clear hr1 hr2
  refine lv_aload_n X.x X.b (dk DX12_leaves_0 6 rfl) rfl (lv_at hl 0 rfl) ?_
  refine og_getR (t := 1) OX12 X hq hH 20 (by decide) rfl kF_X12_30 (dk DX12_leaves_0 7 rfl) ?_
  refine lv_iload_n X.x X.b (dk DX12_leaves_0 8 rfl) rfl (lv_at hl 1 rfl) ?_
  obtain ⟨c10, hF⟩ := gd hF
  refine og_lald X hq hH 20 (by decide) rfl (inb_in c10) (dk DX12_leaves_0 9 rfl) ?_
  refine lv_ldc2 (v := (-1)) X.x X.b X.ow (X.ts _ kK_X12_109) (dk DX12_leaves_0 10 rfl) ?_
  refine lv_lxor X.x X.b (dk DX12_leaves_0 11 rfl) ?_
  refine lv_land X.x X.b (dk DX12_leaves_0 12 rfl) ?_
  refine lv_iload_n X.x X.b (dk DX12_leaves_0 13 rfl) rfl (lv_at hl 1 rfl) ?_
  obtain ⟨x11, e12, hF⟩ := bd hF
  refine mr_cl0 hH ⟨rfl, rfl⟩ (mr_runS (As := [.int a0]) (rest := [.long (x7 &&& ((x4.2.2.2 20 (a0 : Int32).toNatClampNeg) ^^^ ((-1))))]) X hH (c_X12_bit e12) kM_X12_111 kT_X12_bit kN_X12 kC_X12_bit hd_X12_bit ⟨Nat.le_of_ble_eq_true rfl, Nat.le_of_ble_eq_true rfl⟩ rfl hl.1 (Nat.le_of_ble_eq_true rfl) (dk DX12_leaves_0 14 rfl) ⟨Nat.zero_le _, Nat.zero_le _⟩) (fun r h1 H locs hp hH => ?_)
  obtain ⟨hr1, hr2⟩ := hp; rw [hr1]; rw [hr2] at hH; clear hr1 hr2
  refine lv_ldc2 (v := (-1)) X.x X.b X.ow (X.ts _ kK_X12_109) (dk DX12_leaves_0 15 rfl) ?_
  refine lv_lxor X.x X.b (dk DX12_leaves_0 16 rfl) ?_
  refine lv_land X.x X.b (dk DX12_leaves_0 17 rfl) ?_
  refine lv_topl (fun v14 e15 => ?_)
  replace hF := bnd_e hF e15
  refine lv_lstore_n (lv' := [(2, .long v14), (0, .ref (q 53)), (1, .int a0)]) X.x X.b (dk DX12_leaves_0 18 rfl) rfl hl (by decide) rfl (fun ls hl => ?_)
  replace hl : lv_has ls 10 [(0, .ref (q 53)), (2, .long v14)] := lv_sub hl [1, 0] rfl
  refine lv_iconst (v := 0) X.x X.b (dk DX12_leaves_0 19 rfl) (by decide) ?_
  refine lv_istore (lv' := [(4, .int 0), (0, .ref (q 53)), (2, .long v14)]) X.x X.b (dk DX12_leaves_0 20 rfl) hl (by decide) rfl (fun ls hl => ?_)
  replace hl : lv_has ls 10 [(0, .ref (q 53)), (2, .long v14), (4, .int 0)] := lv_sub hl [1, 2, 0] rfl
  refine lv_iconst (v := 0) X.x X.b (dk DX12_leaves_0 21 rfl) (by decide) ?_
  refine lv_istore (lv' := [(5, .int 0), (0, .ref (q 53)), (2, .long v14), (4, .int 0)]) X.x X.b (dk DX12_leaves_0 22 rfl) hl (by decide) rfl (fun ls hl => ?_)
  replace hl : lv_has ls 10 [(0, .ref (q 53)), (2, .long v14), (4, .int 0), (5, .int 0)] := lv_sub hl [1, 2, 3, 0] rfl
  obtain ⟨x61, e62, hF⟩ := bd hF
  replace hl : lv_has ls 10 [(0, .ref (q 53)), (2, .long v14), (4, .int 0), (5, .int 0)] := lv_sub hl [0, 1, 2, 3] rfl
  obtain ⟨t63, v64⟩ := x61
  try dsimp only at hF
  refine w_X12_leaves_39 hq X v14 _ _ e62 _ _ _ hH hl (fun H locs ls hH hl => ?_)
  try dsimp only at hH hl
  refine lv_aload_n X.x X.b (dk DX12_leaves_1 17 rfl) rfl (lv_at hl 0 rfl) ?_
  refine lv_lload_n X.x X.b (dk DX12_leaves_1 18 rfl) rfl (lv_at hl 1 rfl) ?_
  obtain ⟨x65, e66, hF⟩ := bd hF
  refine mr_ci0 hH ⟨rfl, rfl⟩ (mr_runS (As := [.long v14]) (rest := [.ref (q 53)]) X hH (c_X12_ones e66) kM_X12_283 kT_X12_ones kN_X12 kC_X12_ones hd_X12_ones ⟨Nat.le_of_ble_eq_true rfl, Nat.le_of_ble_eq_true rfl⟩ rfl hl.1 (Nat.le_of_ble_eq_true rfl) (dk DX12_leaves_1 19 rfl) ⟨Nat.zero_le _, Nat.zero_le _⟩) (fun r h1 H locs hp hH => ?_)
  obtain ⟨hr1, hr2⟩ := hp; rw [hr1]; rw [hr2] at hH; clear hr1 hr2
  refine og_putI OX12 X hq hH 0 (by decide) rfl kF_X12_248 rfl rfl rfl (dk DX12_leaves_1 20 rfl) (fun H locs hH => ?_)
  obtain ⟨t68, e69⟩ : ∃ y, y = oI t63 0 x65 := ⟨_, rfl⟩
  rw [← e69] at hH
  replace hF := bnd_e hF e69
  refine lv_aload_n X.x X.b (dk DX12_leaves_1 21 rfl) rfl (lv_at hl 0 rfl) ?_
  refine lv_iload X.x X.b (dk DX12_leaves_1 22 rfl) (lv_at hl 2 rfl) ?_
  refine og_putI OX12 X hq hH 1 (by decide) rfl kF_X12_250 rfl rfl rfl (dk DX12_leaves_1 23 rfl) (fun H locs hH => ?_)
  obtain ⟨t70, e71⟩ : ∃ y, y = oI t68 1 v64 := ⟨_, rfl⟩
  rw [← e71] at hH
  replace hF := bnd_e hF e71
  refine lv_iconst (v := 0) X.x X.b (dk DX12_leaves_1 24 rfl) (by decide) ?_
  refine lv_istore (lv' := [(5, .int 0), (0, .ref (q 53)), (2, .long v14), (4, .int v64)]) X.x X.b (dk DX12_leaves_1 25 rfl) hl (by decide) rfl (fun ls hl => ?_)
  replace hl : lv_has ls 10 [(0, .ref (q 53)), (4, .int v64), (5, .int 0)] := lv_sub hl [1, 3, 0] rfl
  obtain ⟨x78, e79, hF⟩ := bd hF
  replace hl : lv_has ls 10 [(0, .ref (q 53)), (4, .int v64), (5, .int 0)] := lv_sub hl [0, 1, 2] rfl
  refine w_X12_leaves_170 hq X v64 _ _ e79 _ _ _ hH hl (fun H locs ls hH hl => ?_)
  cases sm hF
  exact mr_vret X hr hlk hH rfl (dk DX12_leaves_1 39 rfl)
-- X12_left
abbrev rm_X12_left : Room := { frames := 4, cells := 0, slots := 0, locals := 96 }
theorem hd_X12_left : mHd yX12_left 1 := ⟨by decide +kernel, by decide +kernel, by decide +kernel⟩
theorem DX12_left_0 : ∀ t ∈ ([(0, .aload_n 0, 1), (1, .iconst 0, 1), (2, .putfield 106, 3), (5, .aload_n 0, 1), (6, .iload_n 1, 1), (7, .invokevirtual 266, 3), (10, .ifCond .ne 9, 3), (13, .aload_n 0, 1), (14, .iconst 1, 1), (15, .invokevirtual 236, 3), (18, .ireturn, 1), (19, .aload_n 0, 1), (20, .iload_n 1, 1), (21, .invokevirtual 429, 3), (24, .aload_n 0, 1), (25, .getfield 248, 3), (28, .ireturn, 1)] : List (Nat × Instr × Nat)), decode cX12_left t.1 = .ok (t.2.1, t.2.2) := by decide +kernel
noncomputable def f_X12_left (st : OS) (a0 : Int32) : Option (Int32 × OS) := bnd (oI st 2 0) (fun t1 => (f_X12_isPoint t1 a0).bind (fun x3 => (if x3 = 0 then (f_X12_fails t1 1).bind (fun x10 => match x10 with | (v12, t13) => some ((v12, t13))) else (f_X12_leaves t1 a0).bind (fun x7 => some ((x7.1 0, x7))))))
set_option maxHeartbeats 4000000 in
set_option maxRecDepth 100000 in
theorem c_X12_left {l : Launch} {G : mG} {h : mM} {q : Nat → Nat} (hq : oinj LX12 q) {st : OS} {a0 : Int32} {x : Int32 × OS} (hF : f_X12_left st a0 = some x) : cQ l G yX12_left cX12_left 2 (some FieldType.int) rm_X12_left [.ref (q 53), .int a0] (oset LX12 G q st h) (mQi G (fun r h1 => r = x.1 ∧ h1 = oset LX12 G q x.2 h)) := by
  refine mp_of (by decide +kernel) (Nat.le_of_ble_eq_true rfl) ?_
  intro p e s m below meth c X hr hlk hH hname ls hl
  dsimp only [f_X12_left] at hF
  replace hl : lv_has ls 2 [(0, .ref (q 53)), (1, .int a0)] := hl
  refine lv_aload_n X.x X.b (dk DX12_left_0 0 rfl) rfl (lv_at hl 0 rfl) ?_
  refine lv_iconst (v := 0) X.x X.b (dk DX12_left_0 1 rfl) (by decide) ?_
  refine og_putI OX12 X hq hH 2 (by decide) rfl kF_X12_106 rfl rfl rfl (dk DX12_left_0 2 rfl) (fun H locs hH => ?_)
  obtain ⟨t1, e2⟩ : ∃ y, y = oI st 2 0 := ⟨_, rfl⟩
  rw [← e2] at hH
  replace hF := bnd_e hF e2
  refine lv_aload_n X.x X.b (dk DX12_left_0 3 rfl) rfl (lv_at hl 0 rfl) ?_
  refine lv_iload_n X.x X.b (dk DX12_left_0 4 rfl) rfl (lv_at hl 1 rfl) ?_
  obtain ⟨x3, e4, hF⟩ := bd hF
  refine mr_ci0 hH ⟨rfl, rfl⟩ (mr_runV (As := [.int a0]) (rest := []) X hH (c_X12_isPoint hq e4) ((oset_at hq (Nat.le_refl _) ohas_N).trans (congrArg some ocell_N)) OX12.1 kM_X12_266 kI_X12_isPoint kS_X12_isPoint kN_X12 kC_X12_isPoint hd_X12_isPoint ⟨Nat.le_of_ble_eq_true rfl, Nat.le_of_ble_eq_true rfl⟩ rfl hl.1 (Nat.le_of_ble_eq_true rfl) (dk DX12_left_0 5 rfl) ⟨Nat.zero_le _, Nat.zero_le _⟩) (fun r h1 H locs hp hH => ?_)
  obtain ⟨hr1, hr2⟩ := hp; rw [hr1]; rw [hr2] at hH; clear hr1 hr2
  refine lv_if_ne (tgt := 19) X.x X.b (dk DX12_left_0 6 rfl) (by decide) (fun c6 => ?_) (fun c6 => ?_)
  · replace hF := if_f hF c6
    refine lv_aload_n X.x X.b (dk DX12_left_0 11 rfl) rfl (lv_at hl 0 rfl) ?_
    refine lv_iload_n X.x X.b (dk DX12_left_0 12 rfl) rfl (lv_at hl 1 rfl) ?_
    obtain ⟨x7, e8, hF⟩ := bd hF
    refine mr_cv0 hH ⟨rfl, rfl⟩ (mr_runV (As := [.int a0]) (rest := []) X hH (c_X12_leaves hq e8) ((oset_at hq (Nat.le_refl _) ohas_N).trans (congrArg some ocell_N)) OX12.1 kM_X12_429 kI_X12_leaves kS_X12_leaves kN_X12 kC_X12_leaves hd_X12_leaves ⟨Nat.le_of_ble_eq_true rfl, Nat.le_of_ble_eq_true rfl⟩ rfl hl.1 (Nat.le_of_ble_eq_true rfl) (dk DX12_left_0 13 rfl) ⟨Nat.zero_le _, Nat.zero_le _⟩) (fun h1 H locs hp hH => ?_)
    rw [hp] at hH; clear hp
    refine lv_aload_n X.x X.b (dk DX12_left_0 14 rfl) rfl (lv_at hl 0 rfl) ?_
    refine og_getI OX12 X hq hH 0 (by decide) rfl kF_X12_248 (dk DX12_left_0 15 rfl) ?_
    cases sm hF
    exact mr_iret X hr hlk hH ⟨rfl, rfl⟩ (dk DX12_left_0 16 rfl)
  · replace hF := if_t hF c6
    refine lv_aload_n X.x X.b (dk DX12_left_0 7 rfl) rfl (lv_at hl 0 rfl) ?_
    refine lv_iconst (v := 1) X.x X.b (dk DX12_left_0 8 rfl) (by decide) ?_
    obtain ⟨x10, e11, hF⟩ := bd hF
    refine mr_ci0 hH ⟨rfl, rfl⟩ (mr_runV (As := [.int 1]) (rest := []) X hH (c_X12_fails hq e11) ((oset_at hq (Nat.le_refl _) ohas_N).trans (congrArg some ocell_N)) OX12.1 kM_X12_236 kI_X12_fails kS_X12_fails kN_X12 kC_X12_fails hd_X12_fails ⟨Nat.le_of_ble_eq_true rfl, Nat.le_of_ble_eq_true rfl⟩ rfl hl.1 (Nat.le_of_ble_eq_true rfl) (dk DX12_left_0 9 rfl) ⟨Nat.zero_le _, Nat.zero_le _⟩) (fun r h1 H locs hp hH => ?_)
    obtain ⟨hr1, hr2⟩ := hp; rw [hr1]; rw [hr2] at hH; clear hr1 hr2
    obtain ⟨v12, t13⟩ := x10
    try dsimp only at hF hH ⊢
    cases sm hF
    exact mr_iret X hr hlk hH ⟨rfl, rfl⟩ (dk DX12_left_0 10 rfl)
-- X12_undoes
abbrev rm_X12_undoes : Room := { frames := 1, cells := 0, slots := 0, locals := 25 }
theorem hd_X12_undoes : mHd yX12_undoes 0 := ⟨by decide +kernel, by decide +kernel, by decide +kernel⟩
theorem DX12_undoes_0 : ∀ t ∈ ([(0, .aload_n 0, 1), (1, .getfield 253, 3), (4, .ifCond .ne 5, 3), (7, .iconst 0, 1), (8, .ireturn, 1), (9, .aload_n 0, 1), (10, .aload_n 0, 1), (11, .getfield 69, 3), (14, .aload_n 0, 1), (15, .getfield 78, 3), (18, .aload_n 0, 1), (19, .getfield 81, 3), (22, .aload_n 0, 1), (23, .getfield 256, 3), (26, .invokevirtual 410, 3), (29, .aload_n 0, 1), (30, .dup, 1), (31, .getfield 256, 3), (34, .iconst 1, 1), (35, .iadd, 1), (36, .putfield 256, 3), (39, .aload_n 0, 1), (40, .dup, 1), (41, .getfield 253, 3), (44, .iconst 1, 1), (45, .isub, 1), (46, .putfield 253, 3), (49, .aload_n 0, 1), (50, .aload_n 0, 1), (51, .getfield 66, 3), (54, .aload_n 0, 1), (55, .getfield 72, 3), (58, .aload_n 0, 1), (59, .getfield 75, 3), (62, .aload_n 0, 1), (63, .getfield 253, 3), (66, .invokevirtual 432, 3), (69, .iconst 1, 1), (70, .ireturn, 1)] : List (Nat × Instr × Nat)), decode cX12_undoes t.1 = .ok (t.2.1, t.2.2) := by decide +kernel
noncomputable def f_X12_undoes (st : OS) : Option (Int32 × OS) := (if (st.1 44) = 0 then some ((0, st)) else (f_X12_keeps st 39 1280 42 20 43 20 (st.1 45)).bind (fun x2 => bnd (oI x2 45 ((x2.1 45) + 1)) (fun t5 => bnd (oI t5 44 ((t5.1 44) - 1)) (fun t7 => (f_X12_takes t7 38 1280 40 20 41 20 (t7.1 44)).bind (fun x9 => some ((1, x9)))))))
set_option maxHeartbeats 4000000 in
set_option maxRecDepth 100000 in
theorem c_X12_undoes {l : Launch} {G : mG} {h : mM} {q : Nat → Nat} (hq : oinj LX12 q) {st : OS} {x : Int32 × OS} (hF : f_X12_undoes st = some x) : cQ l G yX12_undoes cX12_undoes 1 (some FieldType.boolean) rm_X12_undoes [.ref (q 53)] (oset LX12 G q st h) (mQi G (fun r h1 => r = x.1 ∧ h1 = oset LX12 G q x.2 h)) := by
  refine mp_of (by decide +kernel) (Nat.le_of_ble_eq_true rfl) ?_
  intro p e s m below meth c X hr hlk hH hname ls hl
  dsimp only [f_X12_undoes] at hF
  replace hl : lv_has ls 1 [(0, .ref (q 53))] := hl
  refine lv_aload_n X.x X.b (dk DX12_undoes_0 0 rfl) rfl (lv_at hl 0 rfl) ?_
  refine og_getI OX12 X hq hH 44 (by decide) rfl kF_X12_253 (dk DX12_undoes_0 1 rfl) ?_
  refine lv_if_ne (tgt := 9) X.x X.b (dk DX12_undoes_0 2 rfl) (by decide) (fun c1 => ?_) (fun c1 => ?_)
  · replace hF := if_f hF c1
    refine lv_aload_n X.x X.b (dk DX12_undoes_0 5 rfl) rfl (lv_at hl 0 rfl) ?_
    refine lv_aload_n X.x X.b (dk DX12_undoes_0 6 rfl) rfl (lv_at hl 0 rfl) ?_
    refine og_getR (t := 1) OX12 X hq hH 39 (by decide) rfl kF_X12_69 (dk DX12_undoes_0 7 rfl) ?_
    refine lv_aload_n X.x X.b (dk DX12_undoes_0 8 rfl) rfl (lv_at hl 0 rfl) ?_
    refine og_getR (t := 0) OX12 X hq hH 42 (by decide) rfl kF_X12_78 (dk DX12_undoes_0 9 rfl) ?_
    refine lv_aload_n X.x X.b (dk DX12_undoes_0 10 rfl) rfl (lv_at hl 0 rfl) ?_
    refine og_getR (t := 0) OX12 X hq hH 43 (by decide) rfl kF_X12_81 (dk DX12_undoes_0 11 rfl) ?_
    refine lv_aload_n X.x X.b (dk DX12_undoes_0 12 rfl) rfl (lv_at hl 0 rfl) ?_
    refine og_getI OX12 X hq hH 45 (by decide) rfl kF_X12_256 (dk DX12_undoes_0 13 rfl) ?_
    obtain ⟨x2, e3, hF⟩ := bd hF
    refine mr_cv0 hH ⟨rfl, rfl⟩ (mr_runV (As := [.ref (q 39), .ref (q 42), .ref (q 43), .int (st.1 45)]) (rest := []) X hH (c_X12_keeps hq (by decide) rfl (by decide) rfl (by decide) rfl e3) ((oset_at hq (Nat.le_refl _) ohas_N).trans (congrArg some ocell_N)) OX12.1 kM_X12_410 kI_X12_keeps kS_X12_keeps kN_X12 kC_X12_keeps hd_X12_keeps ⟨Nat.le_of_ble_eq_true rfl, Nat.le_of_ble_eq_true rfl⟩ rfl hl.1 (Nat.le_of_ble_eq_true rfl) (dk DX12_undoes_0 14 rfl) ⟨Nat.zero_le _, Nat.zero_le _⟩) (fun h1 H locs hp hH => ?_)
    rw [hp] at hH; clear hp
    refine lv_aload_n X.x X.b (dk DX12_undoes_0 15 rfl) rfl (lv_at hl 0 rfl) ?_
    refine lv_dup X.x X.b (dk DX12_undoes_0 16 rfl) rfl ?_
    refine og_getI OX12 X hq hH 45 (by decide) rfl kF_X12_256 (dk DX12_undoes_0 17 rfl) ?_
    refine lv_iconst (v := 1) X.x X.b (dk DX12_undoes_0 18 rfl) (by decide) ?_
    refine lv_iadd X.x X.b (dk DX12_undoes_0 19 rfl) ?_
    refine og_putI OX12 X hq hH 45 (by decide) rfl kF_X12_256 rfl rfl rfl (dk DX12_undoes_0 20 rfl) (fun H locs hH => ?_)
    obtain ⟨t5, e6⟩ : ∃ y, y = oI x2 45 ((x2.1 45) + 1) := ⟨_, rfl⟩
    rw [← e6] at hH
    replace hF := bnd_e hF e6
    refine lv_aload_n X.x X.b (dk DX12_undoes_0 21 rfl) rfl (lv_at hl 0 rfl) ?_
    refine lv_dup X.x X.b (dk DX12_undoes_0 22 rfl) rfl ?_
    refine og_getI OX12 X hq hH 44 (by decide) rfl kF_X12_253 (dk DX12_undoes_0 23 rfl) ?_
    refine lv_iconst (v := 1) X.x X.b (dk DX12_undoes_0 24 rfl) (by decide) ?_
    refine lv_isub X.x X.b (dk DX12_undoes_0 25 rfl) ?_
    refine og_putI OX12 X hq hH 44 (by decide) rfl kF_X12_253 rfl rfl rfl (dk DX12_undoes_0 26 rfl) (fun H locs hH => ?_)
    obtain ⟨t7, e8⟩ : ∃ y, y = oI t5 44 ((t5.1 44) - 1) := ⟨_, rfl⟩
    rw [← e8] at hH
    replace hF := bnd_e hF e8
    refine lv_aload_n X.x X.b (dk DX12_undoes_0 27 rfl) rfl (lv_at hl 0 rfl) ?_
    refine lv_aload_n X.x X.b (dk DX12_undoes_0 28 rfl) rfl (lv_at hl 0 rfl) ?_
    refine og_getR (t := 1) OX12 X hq hH 38 (by decide) rfl kF_X12_66 (dk DX12_undoes_0 29 rfl) ?_
    refine lv_aload_n X.x X.b (dk DX12_undoes_0 30 rfl) rfl (lv_at hl 0 rfl) ?_
    refine og_getR (t := 0) OX12 X hq hH 40 (by decide) rfl kF_X12_72 (dk DX12_undoes_0 31 rfl) ?_
    refine lv_aload_n X.x X.b (dk DX12_undoes_0 32 rfl) rfl (lv_at hl 0 rfl) ?_
    refine og_getR (t := 0) OX12 X hq hH 41 (by decide) rfl kF_X12_75 (dk DX12_undoes_0 33 rfl) ?_
    refine lv_aload_n X.x X.b (dk DX12_undoes_0 34 rfl) rfl (lv_at hl 0 rfl) ?_
    refine og_getI OX12 X hq hH 44 (by decide) rfl kF_X12_253 (dk DX12_undoes_0 35 rfl) ?_
    obtain ⟨x9, e10, hF⟩ := bd hF
    refine mr_cv0 hH ⟨rfl, rfl⟩ (mr_runV (As := [.ref (q 38), .ref (q 40), .ref (q 41), .int (t7.1 44)]) (rest := []) X hH (c_X12_takes hq (by decide) rfl (by decide) rfl (by decide) rfl e10) ((oset_at hq (Nat.le_refl _) ohas_N).trans (congrArg some ocell_N)) OX12.1 kM_X12_432 kI_X12_takes kS_X12_takes kN_X12 kC_X12_takes hd_X12_takes ⟨Nat.le_of_ble_eq_true rfl, Nat.le_of_ble_eq_true rfl⟩ rfl hl.1 (Nat.le_of_ble_eq_true rfl) (dk DX12_undoes_0 36 rfl) ⟨Nat.zero_le _, Nat.zero_le _⟩) (fun h1 H locs hp hH => ?_)
    rw [hp] at hH; clear hp
    refine lv_iconst (v := 1) X.x X.b (dk DX12_undoes_0 37 rfl) (by decide) ?_
    cases sm hF
    exact mr_zret X hr hlk hH rfl ⟨rfl, rfl⟩ (dk DX12_undoes_0 38 rfl)
  · replace hF := if_t hF c1
    refine lv_iconst (v := 0) X.x X.b (dk DX12_undoes_0 3 rfl) (by decide) ?_
    cases sm hF
    exact mr_zret X hr hlk hH rfl ⟨rfl, rfl⟩ (dk DX12_undoes_0 4 rfl)
-- X12_doesAgain
abbrev rm_X12_doesAgain : Room := { frames := 2, cells := 0, slots := 0, locals := 47 }
theorem hd_X12_doesAgain : mHd yX12_doesAgain 0 := ⟨by decide +kernel, by decide +kernel, by decide +kernel⟩
theorem DX12_doesAgain_0 : ∀ t ∈ ([(0, .aload_n 0, 1), (1, .getfield 256, 3), (4, .ifCond .ne 5, 3), (7, .iconst 0, 1), (8, .ireturn, 1), (9, .aload_n 0, 1), (10, .invokevirtual 414, 3), (13, .aload_n 0, 1), (14, .dup, 1), (15, .getfield 256, 3), (18, .iconst 1, 1), (19, .isub, 1), (20, .putfield 256, 3), (23, .aload_n 0, 1), (24, .aload_n 0, 1), (25, .getfield 69, 3), (28, .aload_n 0, 1), (29, .getfield 78, 3), (32, .aload_n 0, 1), (33, .getfield 81, 3), (36, .aload_n 0, 1), (37, .getfield 256, 3), (40, .invokevirtual 432, 3), (43, .iconst 1, 1), (44, .ireturn, 1)] : List (Nat × Instr × Nat)), decode cX12_doesAgain t.1 = .ok (t.2.1, t.2.2) := by decide +kernel
noncomputable def f_X12_doesAgain (st : OS) : Option (Int32 × OS) := (if (st.1 45) = 0 then some ((0, st)) else (f_X12_notes st).bind (fun x2 => bnd (oI x2 45 ((x2.1 45) - 1)) (fun t5 => (f_X12_takes t5 39 1280 42 20 43 20 (t5.1 45)).bind (fun x7 => some ((1, x7))))))
set_option maxHeartbeats 4000000 in
set_option maxRecDepth 100000 in
theorem c_X12_doesAgain {l : Launch} {G : mG} {h : mM} {q : Nat → Nat} (hq : oinj LX12 q) {st : OS} {x : Int32 × OS} (hF : f_X12_doesAgain st = some x) : cQ l G yX12_doesAgain cX12_doesAgain 1 (some FieldType.boolean) rm_X12_doesAgain [.ref (q 53)] (oset LX12 G q st h) (mQi G (fun r h1 => r = x.1 ∧ h1 = oset LX12 G q x.2 h)) := by
  refine mp_of (by decide +kernel) (Nat.le_of_ble_eq_true rfl) ?_
  intro p e s m below meth c X hr hlk hH hname ls hl
  dsimp only [f_X12_doesAgain] at hF
  replace hl : lv_has ls 1 [(0, .ref (q 53))] := hl
  refine lv_aload_n X.x X.b (dk DX12_doesAgain_0 0 rfl) rfl (lv_at hl 0 rfl) ?_
  refine og_getI OX12 X hq hH 45 (by decide) rfl kF_X12_256 (dk DX12_doesAgain_0 1 rfl) ?_
  refine lv_if_ne (tgt := 9) X.x X.b (dk DX12_doesAgain_0 2 rfl) (by decide) (fun c1 => ?_) (fun c1 => ?_)
  · replace hF := if_f hF c1
    refine lv_aload_n X.x X.b (dk DX12_doesAgain_0 5 rfl) rfl (lv_at hl 0 rfl) ?_
    obtain ⟨x2, e3, hF⟩ := bd hF
    refine mr_cv0 hH ⟨rfl, rfl⟩ (mr_runV (As := []) (rest := []) X hH (c_X12_notes hq e3) ((oset_at hq (Nat.le_refl _) ohas_N).trans (congrArg some ocell_N)) OX12.1 kM_X12_414 kI_X12_notes kS_X12_notes kN_X12 kC_X12_notes hd_X12_notes ⟨Nat.le_of_ble_eq_true rfl, Nat.le_of_ble_eq_true rfl⟩ rfl hl.1 (Nat.le_of_ble_eq_true rfl) (dk DX12_doesAgain_0 6 rfl) ⟨Nat.zero_le _, Nat.zero_le _⟩) (fun h1 H locs hp hH => ?_)
    rw [hp] at hH; clear hp
    refine lv_aload_n X.x X.b (dk DX12_doesAgain_0 7 rfl) rfl (lv_at hl 0 rfl) ?_
    refine lv_dup X.x X.b (dk DX12_doesAgain_0 8 rfl) rfl ?_
    refine og_getI OX12 X hq hH 45 (by decide) rfl kF_X12_256 (dk DX12_doesAgain_0 9 rfl) ?_
    refine lv_iconst (v := 1) X.x X.b (dk DX12_doesAgain_0 10 rfl) (by decide) ?_
    refine lv_isub X.x X.b (dk DX12_doesAgain_0 11 rfl) ?_
    refine og_putI OX12 X hq hH 45 (by decide) rfl kF_X12_256 rfl rfl rfl (dk DX12_doesAgain_0 12 rfl) (fun H locs hH => ?_)
    obtain ⟨t5, e6⟩ : ∃ y, y = oI x2 45 ((x2.1 45) - 1) := ⟨_, rfl⟩
    rw [← e6] at hH
    replace hF := bnd_e hF e6
    refine lv_aload_n X.x X.b (dk DX12_doesAgain_0 13 rfl) rfl (lv_at hl 0 rfl) ?_
    refine lv_aload_n X.x X.b (dk DX12_doesAgain_0 14 rfl) rfl (lv_at hl 0 rfl) ?_
    refine og_getR (t := 1) OX12 X hq hH 39 (by decide) rfl kF_X12_69 (dk DX12_doesAgain_0 15 rfl) ?_
    refine lv_aload_n X.x X.b (dk DX12_doesAgain_0 16 rfl) rfl (lv_at hl 0 rfl) ?_
    refine og_getR (t := 0) OX12 X hq hH 42 (by decide) rfl kF_X12_78 (dk DX12_doesAgain_0 17 rfl) ?_
    refine lv_aload_n X.x X.b (dk DX12_doesAgain_0 18 rfl) rfl (lv_at hl 0 rfl) ?_
    refine og_getR (t := 0) OX12 X hq hH 43 (by decide) rfl kF_X12_81 (dk DX12_doesAgain_0 19 rfl) ?_
    refine lv_aload_n X.x X.b (dk DX12_doesAgain_0 20 rfl) rfl (lv_at hl 0 rfl) ?_
    refine og_getI OX12 X hq hH 45 (by decide) rfl kF_X12_256 (dk DX12_doesAgain_0 21 rfl) ?_
    obtain ⟨x7, e8, hF⟩ := bd hF
    refine mr_cv0 hH ⟨rfl, rfl⟩ (mr_runV (As := [.ref (q 39), .ref (q 42), .ref (q 43), .int (t5.1 45)]) (rest := []) X hH (c_X12_takes hq (by decide) rfl (by decide) rfl (by decide) rfl e8) ((oset_at hq (Nat.le_refl _) ohas_N).trans (congrArg some ocell_N)) OX12.1 kM_X12_432 kI_X12_takes kS_X12_takes kN_X12 kC_X12_takes hd_X12_takes ⟨Nat.le_of_ble_eq_true rfl, Nat.le_of_ble_eq_true rfl⟩ rfl hl.1 (Nat.le_of_ble_eq_true rfl) (dk DX12_doesAgain_0 22 rfl) ⟨Nat.zero_le _, Nat.zero_le _⟩) (fun h1 H locs hp hH => ?_)
    rw [hp] at hH; clear hp
    refine lv_iconst (v := 1) X.x X.b (dk DX12_doesAgain_0 23 rfl) (by decide) ?_
    cases sm hF
    exact mr_zret X hr hlk hH rfl ⟨rfl, rfl⟩ (dk DX12_doesAgain_0 24 rfl)
  · replace hF := if_t hF c1
    refine lv_iconst (v := 0) X.x X.b (dk DX12_doesAgain_0 3 rfl) (by decide) ?_
    cases sm hF
    exact mr_zret X hr hlk hH rfl ⟨rfl, rfl⟩ (dk DX12_doesAgain_0 4 rfl)
-- X12_undo
abbrev rm_X12_undo : Room := { frames := 2, cells := 0, slots := 0, locals := 45 }
theorem hd_X12_undo : mHd yX12_undo 0 := ⟨by decide +kernel, by decide +kernel, by decide +kernel⟩
theorem DX12_undo_0 : ∀ t ∈ ([(0, .aload_n 0, 1), (1, .iconst 0, 1), (2, .putfield 106, 3), (5, .aload_n 0, 1), (6, .invokevirtual 435, 3), (9, .ireturn, 1)] : List (Nat × Instr × Nat)), decode cX12_undo t.1 = .ok (t.2.1, t.2.2) := by decide +kernel
noncomputable def f_X12_undo (st : OS) : Option (Int32 × OS) := bnd (oI st 2 0) (fun t1 => (f_X12_undoes t1).bind (fun x3 => match x3 with | (v5, t6) => if isb v5 = true then some ((v5, t6)) else none))
set_option maxHeartbeats 4000000 in
set_option maxRecDepth 100000 in
theorem c_X12_undo {l : Launch} {G : mG} {h : mM} {q : Nat → Nat} (hq : oinj LX12 q) {st : OS} {x : Int32 × OS} (hF : f_X12_undo st = some x) : cQ l G yX12_undo cX12_undo 1 (some FieldType.boolean) rm_X12_undo [.ref (q 53)] (oset LX12 G q st h) (mQi G (fun r h1 => r = x.1 ∧ h1 = oset LX12 G q x.2 h)) := by
  refine mp_of (by decide +kernel) (Nat.le_of_ble_eq_true rfl) ?_
  intro p e s m below meth c X hr hlk hH hname ls hl
  dsimp only [f_X12_undo] at hF
  replace hl : lv_has ls 1 [(0, .ref (q 53))] := hl
  refine lv_aload_n X.x X.b (dk DX12_undo_0 0 rfl) rfl (lv_at hl 0 rfl) ?_
  refine lv_iconst (v := 0) X.x X.b (dk DX12_undo_0 1 rfl) (by decide) ?_
  refine og_putI OX12 X hq hH 2 (by decide) rfl kF_X12_106 rfl rfl rfl (dk DX12_undo_0 2 rfl) (fun H locs hH => ?_)
  obtain ⟨t1, e2⟩ : ∃ y, y = oI st 2 0 := ⟨_, rfl⟩
  rw [← e2] at hH
  replace hF := bnd_e hF e2
  refine lv_aload_n X.x X.b (dk DX12_undo_0 3 rfl) rfl (lv_at hl 0 rfl) ?_
  obtain ⟨x3, e4, hF⟩ := bd hF
  refine mr_ci0 hH ⟨rfl, rfl⟩ (mr_runV (As := []) (rest := []) X hH (c_X12_undoes hq e4) ((oset_at hq (Nat.le_refl _) ohas_N).trans (congrArg some ocell_N)) OX12.1 kM_X12_435 kI_X12_undoes kS_X12_undoes kN_X12 kC_X12_undoes hd_X12_undoes ⟨Nat.le_of_ble_eq_true rfl, Nat.le_of_ble_eq_true rfl⟩ rfl hl.1 (Nat.le_of_ble_eq_true rfl) (dk DX12_undo_0 4 rfl) ⟨Nat.zero_le _, Nat.zero_le _⟩) (fun r h1 H locs hp hH => ?_)
  obtain ⟨hr1, hr2⟩ := hp; rw [hr1]; rw [hr2] at hH; clear hr1 hr2
  obtain ⟨v5, t6⟩ := x3
  try dsimp only at hF hH ⊢
  obtain ⟨c7, hF⟩ := gd hF
  cases sm hF
  exact mr_zret X hr hlk hH (isb_nar c7) ⟨rfl, rfl⟩ (dk DX12_undo_0 5 rfl)
-- X12_again
abbrev rm_X12_again : Room := { frames := 3, cells := 0, slots := 0, locals := 67 }
theorem hd_X12_again : mHd yX12_again 0 := ⟨by decide +kernel, by decide +kernel, by decide +kernel⟩
theorem DX12_again_0 : ∀ t ∈ ([(0, .aload_n 0, 1), (1, .iconst 0, 1), (2, .putfield 106, 3), (5, .aload_n 0, 1), (6, .invokevirtual 438, 3), (9, .ireturn, 1)] : List (Nat × Instr × Nat)), decode cX12_again t.1 = .ok (t.2.1, t.2.2) := by decide +kernel
noncomputable def f_X12_again (st : OS) : Option (Int32 × OS) := bnd (oI st 2 0) (fun t1 => (f_X12_doesAgain t1).bind (fun x3 => match x3 with | (v5, t6) => if isb v5 = true then some ((v5, t6)) else none))
set_option maxHeartbeats 4000000 in
set_option maxRecDepth 100000 in
theorem c_X12_again {l : Launch} {G : mG} {h : mM} {q : Nat → Nat} (hq : oinj LX12 q) {st : OS} {x : Int32 × OS} (hF : f_X12_again st = some x) : cQ l G yX12_again cX12_again 1 (some FieldType.boolean) rm_X12_again [.ref (q 53)] (oset LX12 G q st h) (mQi G (fun r h1 => r = x.1 ∧ h1 = oset LX12 G q x.2 h)) := by
  refine mp_of (by decide +kernel) (Nat.le_of_ble_eq_true rfl) ?_
  intro p e s m below meth c X hr hlk hH hname ls hl
  dsimp only [f_X12_again] at hF
  replace hl : lv_has ls 1 [(0, .ref (q 53))] := hl
  refine lv_aload_n X.x X.b (dk DX12_again_0 0 rfl) rfl (lv_at hl 0 rfl) ?_
  refine lv_iconst (v := 0) X.x X.b (dk DX12_again_0 1 rfl) (by decide) ?_
  refine og_putI OX12 X hq hH 2 (by decide) rfl kF_X12_106 rfl rfl rfl (dk DX12_again_0 2 rfl) (fun H locs hH => ?_)
  obtain ⟨t1, e2⟩ : ∃ y, y = oI st 2 0 := ⟨_, rfl⟩
  rw [← e2] at hH
  replace hF := bnd_e hF e2
  refine lv_aload_n X.x X.b (dk DX12_again_0 3 rfl) rfl (lv_at hl 0 rfl) ?_
  obtain ⟨x3, e4, hF⟩ := bd hF
  refine mr_ci0 hH ⟨rfl, rfl⟩ (mr_runV (As := []) (rest := []) X hH (c_X12_doesAgain hq e4) ((oset_at hq (Nat.le_refl _) ohas_N).trans (congrArg some ocell_N)) OX12.1 kM_X12_438 kI_X12_doesAgain kS_X12_doesAgain kN_X12 kC_X12_doesAgain hd_X12_doesAgain ⟨Nat.le_of_ble_eq_true rfl, Nat.le_of_ble_eq_true rfl⟩ rfl hl.1 (Nat.le_of_ble_eq_true rfl) (dk DX12_again_0 4 rfl) ⟨Nat.zero_le _, Nat.zero_le _⟩) (fun r h1 H locs hp hH => ?_)
  obtain ⟨hr1, hr2⟩ := hp; rw [hr1]; rw [hr2] at hH; clear hr1 hr2
  obtain ⟨v5, t6⟩ := x3
  try dsimp only at hF hH ⊢
  obtain ⟨c7, hF⟩ := gd hF
  cases sm hF
  exact mr_zret X hr hlk hH (isb_nar c7) ⟨rfl, rfl⟩ (dk DX12_again_0 5 rfl)
-- X12_does
abbrev rm_X12_does : Room := { frames := 4, cells := 0, slots := 0, locals := 96 }
theorem hd_X12_does : mHd yX12_does 2 := ⟨by decide +kernel, by decide +kernel, by decide +kernel⟩
theorem DX12_does_0 : ∀ t ∈ ([(0, .aload_n 0, 1), (1, .getfield 90, 3), (4, .bipush 40, 2), (6, .iload_n 1, 1), (7, .imul, 1), (8, .iload_n 2, 1), (9, .iadd, 1), (10, .laload, 1), (11, .lstore_n 3, 1), (12, .iload_n 2, 1), (13, .iconst 1, 1), (14, .iadd, 1), (15, .aload_n 0, 1), (16, .getfield 87, 3), (19, .iload_n 1, 1), (20, .iaload, 1), (21, .if_icmp .ge 19, 3), (24, .aload_n 0, 1), (25, .getfield 90, 3), (28, .bipush 40, 2), (30, .iload_n 1, 1), (31, .imul, 1), (32, .iload_n 2, 1), (33, .iadd, 1), (34, .iconst 1, 1), (35, .iadd, 1), (36, .laload, 1), (37, .goto 6, 3), (40, .ldc2_w 109, 3), (43, .lstore 5, 2), (45, .lload_n 3, 1), (46, .ldc2_w 109, 3), (49, .lcmp, 1), (50, .ifCond .ne 115, 3), (53, .lconst 0, 1), (54, .lstore 7, 2), (56, .iload_n 2, 1), (57, .iconst 1, 1), (58, .iadd, 1), (59, .istore 9, 2), (61, .iload 9, 2), (63, .aload_n 0, 1), (64, .getfield 87, 3), (67, .iload_n 1, 1), (68, .iaload, 1), (69, .if_icmp .ge 70, 3), (72, .aload_n 0, 1), (73, .getfield 90, 3), (76, .bipush 40, 2), (78, .iload_n 1, 1), (79, .imul, 1), (80, .iload 9, 2), (82, .iadd, 1), (83, .laload, 1), (84, .lconst 0, 1), (85, .lcmp, 1), (86, .ifCond .lt 53, 3), (89, .aload_n 0, 1), (90, .getfield 90, 3), (93, .bipush 40, 2)] : List (Nat × Instr × Nat)), decode cX12_does t.1 = .ok (t.2.1, t.2.2) := by decide +kernel
theorem DX12_does_1 : ∀ t ∈ ([(95, .iload_n 1, 1), (96, .imul, 1), (97, .iload 9, 2), (99, .iadd, 1), (100, .laload, 1), (101, .aload_n 0, 1), (102, .getfield 248, 3), (105, .i2l, 1), (106, .lcmp, 1), (107, .ifCond .lt 5, 3), (110, .iconst (-1), 1), (111, .ireturn, 1), (112, .lload 7, 2), (114, .aload_n 0, 1), (115, .getfield 90, 3), (118, .bipush 40, 2), (120, .iload_n 1, 1), (121, .imul, 1), (122, .iload 9, 2), (124, .iadd, 1), (125, .laload, 1), (126, .l2i, 1), (127, .invokestatic 111, 3), (130, .lor, 1), (131, .lstore 7, 2), (133, .iinc 9 1, 3), (136, .goto (-75), 3), (139, .lload 7, 2), (141, .invokestatic 283, 3), (144, .iconst 2, 1), (145, .if_icmp .lt 13, 3), (148, .aload_n 0, 1), (149, .lload 7, 2), (151, .invokevirtual 420, 3), (154, .iconst (-1), 1), (155, .if_icmp .ne 7, 3), (158, .iconst (-1), 1), (159, .goto 5, 3), (162, .iload 9, 2), (164, .ireturn, 1), (165, .lload_n 3, 1), (166, .ldc2_w 332, 3), (169, .lcmp, 1), (170, .ifCond .ne 33, 3), (173, .lload 5, 2), (175, .lconst 0, 1), (176, .aload_n 0, 1), (177, .getfield 250, 3), (180, .iconst 1, 1), (181, .isub, 1), (182, .i2l, 1), (183, .invokestatic 171, 3), (186, .ifCond .ne 5, 3), (189, .iconst (-1), 1), (190, .ireturn, 1), (191, .aload_n 0, 1), (192, .lload 5, 2), (194, .l2i, 1), (195, .invokevirtual 423, 3), (198, .pop2, 1)] : List (Nat × Instr × Nat)), decode cX12_does t.1 = .ok (t.2.1, t.2.2) := by decide +kernel
theorem DX12_does_2 : ∀ t ∈ ([(199, .iload_n 2, 1), (200, .iconst 2, 1), (201, .iadd, 1), (202, .ireturn, 1), (203, .lload_n 3, 1), (204, .ldc2_w 441, 3), (207, .lcmp, 1), (208, .ifCond .ne 32, 3), (211, .lload 5, 2), (213, .lconst 0, 1), (214, .aload_n 0, 1), (215, .getfield 248, 3), (218, .iconst 1, 1), (219, .isub, 1), (220, .i2l, 1), (221, .invokestatic 171, 3), (224, .ifCond .ne 5, 3), (227, .iconst (-1), 1), (228, .ireturn, 1), (229, .aload_n 0, 1), (230, .lload 5, 2), (232, .l2i, 1), (233, .invokevirtual 429, 3), (236, .iload_n 2, 1), (237, .iconst 2, 1), (238, .iadd, 1), (239, .ireturn, 1), (240, .lload_n 3, 1), (241, .ldc2_w 443, 3), (244, .lcmp, 1), (245, .ifCond .ne 7, 3), (248, .aload_n 0, 1), (249, .invokevirtual 426, 3), (252, .lload_n 3, 1), (253, .ldc2_w 443, 3), (256, .lcmp, 1), (257, .ifCond .eq 33, 3), (260, .lload_n 3, 1), (261, .ldc2_w 445, 3), (264, .lcmp, 1), (265, .ifCond .ne 10, 3), (268, .aload_n 0, 1), (269, .invokevirtual 435, 3), (272, .ifCond .ne 18, 3), (275, .lload_n 3, 1), (276, .ldc2_w 447, 3), (279, .lcmp, 1), (280, .ifCond .ne 14, 3), (283, .aload_n 0, 1), (284, .invokevirtual 438, 3), (287, .ifCond .eq 7, 3), (290, .iconst 1, 1), (291, .goto 4, 3), (294, .iconst 0, 1), (295, .istore 7, 2), (297, .iload 7, 2), (299, .ifCond .eq 9, 3), (302, .iload_n 2, 1), (303, .iconst 1, 1), (304, .iadd, 1)] : List (Nat × Instr × Nat)), decode cX12_does t.1 = .ok (t.2.1, t.2.2) := by decide +kernel
theorem DX12_does_3 : ∀ t ∈ ([(305, .goto 4, 3), (308, .iconst (-1), 1), (309, .ireturn, 1)] : List (Nat × Instr × Nat)), decode cX12_does t.1 = .ok (t.2.1, t.2.2) := by decide +kernel
noncomputable def f_X12_does_61 (s_t : OS) (b1 : Int32) : (Int64 × Int32) → Option ((Int64 × Int32) ⊕ (Nat × Int64 × Int32)) := fun z => match z with | (b7, b9) => if inb b1 4 = true then (if (s_t.2.2.1 47 (b1 : Int32).toNatClampNeg) ≤ b9 then some (.inr ((1, b7, b9))) else if inb (((40 : Int32) * b1) + b9) 160 = true then (if (lg_cmp (s_t.2.2.2 48 (((40 : Int32) * b1) + b9 : Int32).toNatClampNeg) 0) < 0 then some (.inr ((1, b7, b9))) else (if (lg_cmp (s_t.2.2.2 48 (((40 : Int32) * b1) + b9 : Int32).toNatClampNeg) ((s_t.1 0 : Int32).toInt64)) < 0 then (f_X12_bit ((s_t.2.2.2 48 (((40 : Int32) * b1) + b9 : Int32).toNatClampNeg : Int64).toInt32)).bind (fun x89 => bnd (b7 ||| x89 : Int64) (fun v92 => bnd (b9 + 1 : Int32) (fun v94 => some (.inl ((v92, v94)))))) else some (.inr ((0, b7, b9))))) else none) else none
noncomputable def f_X12_does (st : OS) (a0 : Int32) (a1 : Int32) : Option (Int32 × OS) := if inb (((40 : Int32) * a0) + a1) 160 = true then bnd (st.2.2.2 48 (((40 : Int32) * a0) + a1 : Int32).toNatClampNeg : Int64) (fun v2 => if inb a0 4 = true then (if (st.2.2.1 47 (a0 : Int32).toNatClampNeg) ≤ (a1 + 1) then (if (lg_cmp v2 ((-1))) = 0 then bnd (a1 + 1 : Int32) (fun v82 => (lpv (f_X12_does_61 st a0) ((0, v82))).bind (fun x96 => match x96 with | (k100, v98, v99) => (if k100 = 0 then some (((-1), st)) else (f_X12_ones v98).bind (fun x101 => (if x101 < 2 then some (((-1), st)) else (f_X12_adds st v98).bind (fun x105 => match x105 with | (v107, t108) => (if v107 = ((-1)) then some (((-1), t108)) else some ((v99, t108))))))))) else (if (lg_cmp v2 ((-2))) = 0 then (f_X12_within ((-1)) 0 (((st.1 1) - 1 : Int32).toInt64)).bind (fun x74 => (if x74 = 0 then some (((-1), st)) else (f_X12_drops st (((-1) : Int64).toInt32)).bind (fun x78 => match x78 with | (v80, t81) => some ((a1 + 2, t81))))) else (if (lg_cmp v2 ((-4))) = 0 then (f_X12_within ((-1)) 0 (((st.1 0) - 1 : Int32).toInt64)).bind (fun x67 => (if x67 = 0 then some (((-1), st)) else (f_X12_leaves st (((-1) : Int64).toInt32)).bind (fun x71 => some ((a1 + 2, x71))))) else (if (lg_cmp v2 ((-3))) = 0 then (f_X12_duals st).bind (fun x37 => (if (lg_cmp v2 ((-3))) = 0 then (if (1 : Int32) = 0 then some (((-1), x37)) else some ((a1 + 1, x37))) else (if (lg_cmp v2 ((-5))) = 0 then (f_X12_undoes x37).bind (fun x52 => match x52 with | (v54, t55) => (if v54 = 0 then (if (lg_cmp v2 ((-6))) = 0 then (f_X12_doesAgain t55).bind (fun x60 => match x60 with | (v62, t63) => (if v62 = 0 then (if (0 : Int32) = 0 then some (((-1), t63)) else some ((a1 + 1, t63))) else (if (1 : Int32) = 0 then some (((-1), t63)) else some ((a1 + 1, t63))))) else (if (0 : Int32) = 0 then some (((-1), t55)) else some ((a1 + 1, t55)))) else (if (1 : Int32) = 0 then some (((-1), t55)) else some ((a1 + 1, t55))))) else (if (lg_cmp v2 ((-6))) = 0 then (f_X12_doesAgain x37).bind (fun x45 => match x45 with | (v47, t48) => (if v47 = 0 then (if (0 : Int32) = 0 then some (((-1), t48)) else some ((a1 + 1, t48))) else (if (1 : Int32) = 0 then some (((-1), t48)) else some ((a1 + 1, t48))))) else (if (0 : Int32) = 0 then some (((-1), x37)) else some ((a1 + 1, x37))))))) else (if (lg_cmp v2 ((-3))) = 0 then (if (1 : Int32) = 0 then some (((-1), st)) else some ((a1 + 1, st))) else (if (lg_cmp v2 ((-5))) = 0 then (f_X12_undoes st).bind (fun x22 => match x22 with | (v24, t25) => (if v24 = 0 then (if (lg_cmp v2 ((-6))) = 0 then (f_X12_doesAgain t25).bind (fun x30 => match x30 with | (v32, t33) => (if v32 = 0 then (if (0 : Int32) = 0 then some (((-1), t33)) else some ((a1 + 1, t33))) else (if (1 : Int32) = 0 then some (((-1), t33)) else some ((a1 + 1, t33))))) else (if (0 : Int32) = 0 then some (((-1), t25)) else some ((a1 + 1, t25)))) else (if (1 : Int32) = 0 then some (((-1), t25)) else some ((a1 + 1, t25))))) else (if (lg_cmp v2 ((-6))) = 0 then (f_X12_doesAgain st).bind (fun x15 => match x15 with | (v17, t18) => (if v17 = 0 then (if (0 : Int32) = 0 then some (((-1), t18)) else some ((a1 + 1, t18))) else (if (1 : Int32) = 0 then some (((-1), t18)) else some ((a1 + 1, t18))))) else (if (0 : Int32) = 0 then some (((-1), st)) else some ((a1 + 1, st)))))))))) else if inb ((((40 : Int32) * a0) + a1) + 1) 160 = true then bnd (st.2.2.2 48 ((((40 : Int32) * a0) + a1) + 1 : Int32).toNatClampNeg : Int64) (fun v111 => (if (lg_cmp v2 ((-1))) = 0 then bnd (a1 + 1 : Int32) (fun v189 => (lpv (f_X12_does_61 st a0) ((0, v189))).bind (fun x191 => match x191 with | (k195, v193, v194) => (if k195 = 0 then some (((-1), st)) else (f_X12_ones v193).bind (fun x196 => (if x196 < 2 then some (((-1), st)) else (f_X12_adds st v193).bind (fun x200 => match x200 with | (v202, t203) => (if v202 = ((-1)) then some (((-1), t203)) else some ((v194, t203))))))))) else (if (lg_cmp v2 ((-2))) = 0 then (f_X12_within v111 0 (((st.1 1) - 1 : Int32).toInt64)).bind (fun x181 => (if x181 = 0 then some (((-1), st)) else (f_X12_drops st ((v111 : Int64).toInt32)).bind (fun x185 => match x185 with | (v187, t188) => some ((a1 + 2, t188))))) else (if (lg_cmp v2 ((-4))) = 0 then (f_X12_within v111 0 (((st.1 0) - 1 : Int32).toInt64)).bind (fun x174 => (if x174 = 0 then some (((-1), st)) else (f_X12_leaves st ((v111 : Int64).toInt32)).bind (fun x178 => some ((a1 + 2, x178))))) else (if (lg_cmp v2 ((-3))) = 0 then (f_X12_duals st).bind (fun x144 => (if (lg_cmp v2 ((-3))) = 0 then (if (1 : Int32) = 0 then some (((-1), x144)) else some ((a1 + 1, x144))) else (if (lg_cmp v2 ((-5))) = 0 then (f_X12_undoes x144).bind (fun x159 => match x159 with | (v161, t162) => (if v161 = 0 then (if (lg_cmp v2 ((-6))) = 0 then (f_X12_doesAgain t162).bind (fun x167 => match x167 with | (v169, t170) => (if v169 = 0 then (if (0 : Int32) = 0 then some (((-1), t170)) else some ((a1 + 1, t170))) else (if (1 : Int32) = 0 then some (((-1), t170)) else some ((a1 + 1, t170))))) else (if (0 : Int32) = 0 then some (((-1), t162)) else some ((a1 + 1, t162)))) else (if (1 : Int32) = 0 then some (((-1), t162)) else some ((a1 + 1, t162))))) else (if (lg_cmp v2 ((-6))) = 0 then (f_X12_doesAgain x144).bind (fun x152 => match x152 with | (v154, t155) => (if v154 = 0 then (if (0 : Int32) = 0 then some (((-1), t155)) else some ((a1 + 1, t155))) else (if (1 : Int32) = 0 then some (((-1), t155)) else some ((a1 + 1, t155))))) else (if (0 : Int32) = 0 then some (((-1), x144)) else some ((a1 + 1, x144))))))) else (if (lg_cmp v2 ((-3))) = 0 then (if (1 : Int32) = 0 then some (((-1), st)) else some ((a1 + 1, st))) else (if (lg_cmp v2 ((-5))) = 0 then (f_X12_undoes st).bind (fun x129 => match x129 with | (v131, t132) => (if v131 = 0 then (if (lg_cmp v2 ((-6))) = 0 then (f_X12_doesAgain t132).bind (fun x137 => match x137 with | (v139, t140) => (if v139 = 0 then (if (0 : Int32) = 0 then some (((-1), t140)) else some ((a1 + 1, t140))) else (if (1 : Int32) = 0 then some (((-1), t140)) else some ((a1 + 1, t140))))) else (if (0 : Int32) = 0 then some (((-1), t132)) else some ((a1 + 1, t132)))) else (if (1 : Int32) = 0 then some (((-1), t132)) else some ((a1 + 1, t132))))) else (if (lg_cmp v2 ((-6))) = 0 then (f_X12_doesAgain st).bind (fun x122 => match x122 with | (v124, t125) => (if v124 = 0 then (if (0 : Int32) = 0 then some (((-1), t125)) else some ((a1 + 1, t125))) else (if (1 : Int32) = 0 then some (((-1), t125)) else some ((a1 + 1, t125))))) else (if (0 : Int32) = 0 then some (((-1), st)) else some ((a1 + 1, st))))))))))) else none) else none) else none
set_option maxHeartbeats 4000000 in
set_option maxRecDepth 100000 in
theorem w_X12_does_61 {p : Program} {l : Launch} {e : Env} {s : State} {m : MethodId} {args : Array Value} {below : List Frame} {meth : Method} {c : Code} {Q : State → Prop} {G : mG} {h : mM} {q : Nat → Nat} (hq : oinj LX12 q) (X : mX G p m c cX12_does 10 s args RX12) (s_t : OS) (b1 : Int32) : ∀ (z : Int64 × Int32) (r : Nat × Int64 × Int32), lpv (f_X12_does_61 s_t b1) z = some r → ∀ (H : Heap) (locs : List Loc) (ls : Array Slot), mH G (oset LX12 G q s_t h) s.heap H locs → lv_has ls 10 [(0, .ref (q 53)), (1, .int b1), (7, .long z.1), (9, .int z.2)] → (r.1 = 0 → ∀ (H : Heap) (locs : List Loc) (ls : Array Slot), mH G (oset LX12 G q s_t h) s.heap H locs → lv_has ls 10 [] → W p l e rm_X12_does s m args below meth c H locs 0 0 Q (F0 m 110 ls [])) → (r.1 = 1 → ∀ (H : Heap) (locs : List Loc) (ls : Array Slot), mH G (oset LX12 G q s_t h) s.heap H locs → lv_has ls 10 [(0, .ref (q 53)), (7, .long r.2.1), (9, .int r.2.2)] → W p l e rm_X12_does s m args below meth c H locs 0 0 Q (F0 m 139 ls [])) → W p l e rm_X12_does s m args below meth c H locs 0 0 Q (F0 m 61 ls []) := by
  refine lpv_rec ?_
  intro z r x hF hx H locs ls hH hl K0 K1
  obtain ⟨b7, b9⟩ := z
  dsimp only [f_X12_does_61] at hF
  try dsimp only at hH hl
  refine lv_iload X.x X.b (dk DX12_does_0 40 rfl) (lv_at hl 3 rfl) ?_
  refine lv_aload_n X.x X.b (dk DX12_does_0 41 rfl) rfl (lv_at hl 0 rfl) ?_
  refine og_getR (t := 0) OX12 X hq hH 47 (by decide) rfl kF_X12_87 (dk DX12_does_0 42 rfl) ?_
  refine lv_iload_n X.x X.b (dk DX12_does_0 43 rfl) rfl (lv_at hl 1 rfl) ?_
  obtain ⟨c84, hF⟩ := gd hF
  refine og_iald X hq hH 47 (by decide) rfl (inb_in c84) (dk DX12_does_0 44 rfl) ?_
  refine lv_icmp_ge (tgt := 139) X.x X.b (dk DX12_does_0 45 rfl) (by decide) (fun c85 => ?_) (fun c85 => ?_)
  · replace hF := if_t hF c85
    have hr9 := lp_r hF hx
    subst hr9
    exact K1 rfl _ _ _ hH (lv_sub hl [0, 2, 3] rfl)
  · replace hF := if_f hF c85
    refine lv_aload_n X.x X.b (dk DX12_does_0 46 rfl) rfl (lv_at hl 0 rfl) ?_
    refine og_getR (t := 1) OX12 X hq hH 48 (by decide) rfl kF_X12_90 (dk DX12_does_0 47 rfl) ?_
    refine lv_bipush (v := 40) X.x X.b (dk DX12_does_0 48 rfl) (by decide) ?_
    refine lv_iload_n X.x X.b (dk DX12_does_0 49 rfl) rfl (lv_at hl 1 rfl) ?_
    refine lv_imul X.x X.b (dk DX12_does_0 50 rfl) ?_
    refine lv_iload X.x X.b (dk DX12_does_0 51 rfl) (lv_at hl 3 rfl) ?_
    refine lv_iadd X.x X.b (dk DX12_does_0 52 rfl) ?_
    obtain ⟨c86, hF⟩ := gd hF
    refine og_lald X hq hH 48 (by decide) rfl (inb_in c86) (dk DX12_does_0 53 rfl) ?_
    refine lv_lconst (v := 0) X.x X.b (dk DX12_does_0 54 rfl) (by decide) ?_
    refine W.lcmp X.x X.b (dk DX12_does_0 55 rfl) ?_
    refine lv_if_lt (tgt := 139) X.x X.b (dk DX12_does_0 56 rfl) (by decide) (fun c87 => ?_) (fun c87 => ?_)
    · replace hF := if_t hF c87
      have hr9 := lp_r hF hx
      subst hr9
      exact K1 rfl _ _ _ hH (lv_sub hl [0, 2, 3] rfl)
    · replace hF := if_f hF c87
      refine lv_aload_n X.x X.b (dk DX12_does_0 57 rfl) rfl (lv_at hl 0 rfl) ?_
      refine og_getR (t := 1) OX12 X hq hH 48 (by decide) rfl kF_X12_90 (dk DX12_does_0 58 rfl) ?_
      refine lv_bipush (v := 40) X.x X.b (dk DX12_does_0 59 rfl) (by decide) ?_
      refine lv_iload_n X.x X.b (dk DX12_does_1 0 rfl) rfl (lv_at hl 1 rfl) ?_
      refine lv_imul X.x X.b (dk DX12_does_1 1 rfl) ?_
      refine lv_iload X.x X.b (dk DX12_does_1 2 rfl) (lv_at hl 3 rfl) ?_
      refine lv_iadd X.x X.b (dk DX12_does_1 3 rfl) ?_
      refine og_lald X hq hH 48 (by decide) rfl (inb_in c86) (dk DX12_does_1 4 rfl) ?_
      refine lv_aload_n X.x X.b (dk DX12_does_1 5 rfl) rfl (lv_at hl 0 rfl) ?_
      refine og_getI OX12 X hq hH 0 (by decide) rfl kF_X12_248 (dk DX12_does_1 6 rfl) ?_
      refine lv_i2l X.x X.b (dk DX12_does_1 7 rfl) rfl ?_
      refine W.lcmp X.x X.b (dk DX12_does_1 8 rfl) ?_
      refine lv_if_lt (tgt := 112) X.x X.b (dk DX12_does_1 9 rfl) (by decide) (fun c88 => ?_) (fun c88 => ?_)
      · replace hF := if_t hF c88
        refine lv_lload X.x X.b (dk DX12_does_1 12 rfl) (lv_at hl 2 rfl) ?_
        refine lv_aload_n X.x X.b (dk DX12_does_1 13 rfl) rfl (lv_at hl 0 rfl) ?_
        refine og_getR (t := 1) OX12 X hq hH 48 (by decide) rfl kF_X12_90 (dk DX12_does_1 14 rfl) ?_
        refine lv_bipush (v := 40) X.x X.b (dk DX12_does_1 15 rfl) (by decide) ?_
        refine lv_iload_n X.x X.b (dk DX12_does_1 16 rfl) rfl (lv_at hl 1 rfl) ?_
        refine lv_imul X.x X.b (dk DX12_does_1 17 rfl) ?_
        refine lv_iload X.x X.b (dk DX12_does_1 18 rfl) (lv_at hl 3 rfl) ?_
        refine lv_iadd X.x X.b (dk DX12_does_1 19 rfl) ?_
        refine og_lald X hq hH 48 (by decide) rfl (inb_in c86) (dk DX12_does_1 20 rfl) ?_
        refine lv_l2i X.x X.b (dk DX12_does_1 21 rfl) rfl ?_
        obtain ⟨x89, e90, hF⟩ := bd hF
        refine mr_cl0 hH ⟨rfl, rfl⟩ (mr_runS (As := [.int ((s_t.2.2.2 48 (((40 : Int32) * b1) + b9 : Int32).toNatClampNeg : Int64).toInt32)]) (rest := [.long b7]) X hH (c_X12_bit e90) kM_X12_111 kT_X12_bit kN_X12 kC_X12_bit hd_X12_bit ⟨Nat.le_of_ble_eq_true rfl, Nat.le_of_ble_eq_true rfl⟩ rfl hl.1 (Nat.le_of_ble_eq_true rfl) (dk DX12_does_1 22 rfl) ⟨Nat.zero_le _, Nat.zero_le _⟩) (fun r h1 H locs hp hH => ?_)
        obtain ⟨hr1, hr2⟩ := hp; rw [hr1]; rw [hr2] at hH; clear hr1 hr2
        refine lv_lor X.x X.b (dk DX12_does_1 23 rfl) ?_
        refine lv_topl (fun v92 e93 => ?_)
        replace hF := bnd_e hF e93
        refine lv_lstore (lv' := [(7, .long v92), (0, .ref (q 53)), (1, .int b1), (9, .int b9)]) X.x X.b (dk DX12_does_1 24 rfl) hl (by decide) rfl (fun ls hl => ?_)
        replace hl : lv_has ls 10 [(0, .ref (q 53)), (1, .int b1), (7, .long v92), (9, .int b9)] := lv_sub hl [1, 2, 0, 3] rfl
        obtain ⟨v94, e95⟩ : ∃ y : Int32, y = b9 + 1 := ⟨_, rfl⟩
        replace hF := bnd_e hF e95
        refine lv_iinc (v := v94) (lv' := [(9, .int v94), (0, .ref (q 53)), (1, .int b1), (7, .long v92)]) X.x X.b (dk DX12_does_1 25 rfl) hl (k := 3) rfl (by rw [e95]; rfl) (by decide) rfl (fun ls hl => ?_)
        replace hl : lv_has ls 10 [(0, .ref (q 53)), (1, .int b1), (7, .long v92), (9, .int v94)] := lv_sub hl [1, 2, 3, 0] rfl
        refine lv_goto (tgt := 61) X.x X.b (dk DX12_does_1 26 rfl) (by decide) ?_
        exact (lp_l hF hx) _ _ _ hH (lv_sub hl [0, 1, 2, 3] rfl) K0 K1
      · replace hF := if_f hF c88
        have hr9 := lp_r hF hx
        subst hr9
        exact K0 rfl _ _ _ hH (lv_sub hl [] rfl)
set_option maxHeartbeats 4000000 in
set_option maxRecDepth 100000 in
theorem c_X12_does {l : Launch} {G : mG} {h : mM} {q : Nat → Nat} (hq : oinj LX12 q) {st : OS} {a0 : Int32} {a1 : Int32} {x : Int32 × OS} (hF : f_X12_does st a0 a1 = some x) : cQ l G yX12_does cX12_does 10 (some FieldType.int) rm_X12_does [.ref (q 53), .int a0, .int a1] (oset LX12 G q st h) (mQi G (fun r h1 => r = x.1 ∧ h1 = oset LX12 G q x.2 h)) := by
  refine mp_of (by decide +kernel) (Nat.le_of_ble_eq_true rfl) ?_
  intro p e s m below meth c X hr hlk hH hname ls hl
  dsimp only [f_X12_does] at hF
  replace hl : lv_has ls 10 [(0, .ref (q 53)), (1, .int a0), (2, .int a1)] := hl
  refine lv_aload_n X.x X.b (dk DX12_does_0 0 rfl) rfl (lv_at hl 0 rfl) ?_
  refine og_getR (t := 1) OX12 X hq hH 48 (by decide) rfl kF_X12_90 (dk DX12_does_0 1 rfl) ?_
  refine lv_bipush (v := 40) X.x X.b (dk DX12_does_0 2 rfl) (by decide) ?_
  refine lv_iload_n X.x X.b (dk DX12_does_0 3 rfl) rfl (lv_at hl 1 rfl) ?_
  refine lv_imul X.x X.b (dk DX12_does_0 4 rfl) ?_
  refine lv_iload_n X.x X.b (dk DX12_does_0 5 rfl) rfl (lv_at hl 2 rfl) ?_
  refine lv_iadd X.x X.b (dk DX12_does_0 6 rfl) ?_
  obtain ⟨c1, hF⟩ := gd hF
  refine og_lald X hq hH 48 (by decide) rfl (inb_in c1) (dk DX12_does_0 7 rfl) ?_
  refine lv_topl (fun v2 e3 => ?_)
  replace hF := bnd_e hF e3
  refine lv_lstore_n (lv' := [(3, .long v2), (0, .ref (q 53)), (1, .int a0), (2, .int a1)]) X.x X.b (dk DX12_does_0 8 rfl) rfl hl (by decide) rfl (fun ls hl => ?_)
  replace hl : lv_has ls 10 [(0, .ref (q 53)), (1, .int a0), (2, .int a1), (3, .long v2)] := lv_sub hl [1, 2, 3, 0] rfl
  refine lv_iload_n X.x X.b (dk DX12_does_0 9 rfl) rfl (lv_at hl 2 rfl) ?_
  refine lv_iconst (v := 1) X.x X.b (dk DX12_does_0 10 rfl) (by decide) ?_
  refine lv_iadd X.x X.b (dk DX12_does_0 11 rfl) ?_
  refine lv_aload_n X.x X.b (dk DX12_does_0 12 rfl) rfl (lv_at hl 0 rfl) ?_
  refine og_getR (t := 0) OX12 X hq hH 47 (by decide) rfl kF_X12_87 (dk DX12_does_0 13 rfl) ?_
  refine lv_iload_n X.x X.b (dk DX12_does_0 14 rfl) rfl (lv_at hl 1 rfl) ?_
  obtain ⟨c4, hF⟩ := gd hF
  refine og_iald X hq hH 47 (by decide) rfl (inb_in c4) (dk DX12_does_0 15 rfl) ?_
  refine lv_icmp_ge (tgt := 40) X.x X.b (dk DX12_does_0 16 rfl) (by decide) (fun c5 => ?_) (fun c5 => ?_)
  · replace hF := if_t hF c5
    refine lv_ldc2 (v := (-1)) X.x X.b X.ow (X.ts _ kK_X12_109) (dk DX12_does_0 28 rfl) ?_
    refine lv_lstore (lv' := [(5, .long ((-1))), (0, .ref (q 53)), (1, .int a0), (2, .int a1), (3, .long v2)]) X.x X.b (dk DX12_does_0 29 rfl) hl (by decide) rfl (fun ls hl => ?_)
    replace hl : lv_has ls 10 [(0, .ref (q 53)), (1, .int a0), (2, .int a1), (3, .long v2), (5, .long ((-1)))] := lv_sub hl [1, 2, 3, 4, 0] rfl
    refine lv_lload_n X.x X.b (dk DX12_does_0 30 rfl) rfl (lv_at hl 3 rfl) ?_
    refine lv_ldc2 (v := (-1)) X.x X.b X.ow (X.ts _ kK_X12_109) (dk DX12_does_0 31 rfl) ?_
    refine W.lcmp X.x X.b (dk DX12_does_0 32 rfl) ?_
    refine lv_if_ne (tgt := 165) X.x X.b (dk DX12_does_0 33 rfl) (by decide) (fun c6 => ?_) (fun c6 => ?_)
    · replace hF := if_f hF c6
      refine lv_lload_n X.x X.b (dk DX12_does_1 40 rfl) rfl (lv_at hl 3 rfl) ?_
      refine lv_ldc2 (v := (-2)) X.x X.b X.ow (X.ts _ kK_X12_332) (dk DX12_does_1 41 rfl) ?_
      refine W.lcmp X.x X.b (dk DX12_does_1 42 rfl) ?_
      refine lv_if_ne (tgt := 203) X.x X.b (dk DX12_does_1 43 rfl) (by decide) (fun c7 => ?_) (fun c7 => ?_)
      · replace hF := if_f hF c7
        refine lv_lload_n X.x X.b (dk DX12_does_2 4 rfl) rfl (lv_at hl 3 rfl) ?_
        refine lv_ldc2 (v := (-4)) X.x X.b X.ow (X.ts _ kK_X12_441) (dk DX12_does_2 5 rfl) ?_
        refine W.lcmp X.x X.b (dk DX12_does_2 6 rfl) ?_
        refine lv_if_ne (tgt := 240) X.x X.b (dk DX12_does_2 7 rfl) (by decide) (fun c8 => ?_) (fun c8 => ?_)
        · replace hF := if_f hF c8
          refine lv_lload_n X.x X.b (dk DX12_does_2 27 rfl) rfl (lv_at hl 3 rfl) ?_
          refine lv_ldc2 (v := (-3)) X.x X.b X.ow (X.ts _ kK_X12_443) (dk DX12_does_2 28 rfl) ?_
          refine W.lcmp X.x X.b (dk DX12_does_2 29 rfl) ?_
          refine lv_if_ne (tgt := 252) X.x X.b (dk DX12_does_2 30 rfl) (by decide) (fun c9 => ?_) (fun c9 => ?_)
          · replace hF := if_f hF c9
            refine lv_lload_n X.x X.b (dk DX12_does_2 33 rfl) rfl (lv_at hl 3 rfl) ?_
            refine lv_ldc2 (v := (-3)) X.x X.b X.ow (X.ts _ kK_X12_443) (dk DX12_does_2 34 rfl) ?_
            refine W.lcmp X.x X.b (dk DX12_does_2 35 rfl) ?_
            refine lv_if_eq (tgt := 290) X.x X.b (dk DX12_does_2 36 rfl) (by decide) (fun c10 => ?_) (fun c10 => ?_)
            · replace hF := if_t hF c10
              refine lv_iconst (v := 1) X.x X.b (dk DX12_does_2 51 rfl) (by decide) ?_
              refine lv_goto (tgt := 295) X.x X.b (dk DX12_does_2 52 rfl) (by decide) ?_
              refine lv_istore (lv' := [(7, .int 1), (0, .ref (q 53)), (1, .int a0), (2, .int a1), (3, .long v2), (5, .long ((-1)))]) X.x X.b (dk DX12_does_2 54 rfl) hl (by decide) rfl (fun ls hl => ?_)
              replace hl : lv_has ls 10 [(2, .int a1), (7, .int 1)] := lv_sub hl [3, 0] rfl
              refine lv_iload X.x X.b (dk DX12_does_2 55 rfl) (lv_at hl 1 rfl) ?_
              refine lv_if_eq (tgt := 308) X.x X.b (dk DX12_does_2 56 rfl) (by decide) (fun c11 => ?_) (fun c11 => ?_)
              · replace hF := if_t hF c11
                refine lv_iconst (v := (-1)) X.x X.b (dk DX12_does_3 1 rfl) (by decide) ?_
                cases sm hF
                exact mr_iret X hr hlk hH ⟨rfl, rfl⟩ (dk DX12_does_3 2 rfl)
              · replace hF := if_f hF c11
                refine lv_iload_n X.x X.b (dk DX12_does_2 57 rfl) rfl (lv_at hl 0 rfl) ?_
                refine lv_iconst (v := 1) X.x X.b (dk DX12_does_2 58 rfl) (by decide) ?_
                refine lv_iadd X.x X.b (dk DX12_does_2 59 rfl) ?_
                refine lv_goto (tgt := 309) X.x X.b (dk DX12_does_3 0 rfl) (by decide) ?_
                cases sm hF
                exact mr_iret X hr hlk hH ⟨rfl, rfl⟩ (dk DX12_does_3 2 rfl)
            · replace hF := if_f hF c10
              refine lv_lload_n X.x X.b (dk DX12_does_2 37 rfl) rfl (lv_at hl 3 rfl) ?_
              refine lv_ldc2 (v := (-5)) X.x X.b X.ow (X.ts _ kK_X12_445) (dk DX12_does_2 38 rfl) ?_
              refine W.lcmp X.x X.b (dk DX12_does_2 39 rfl) ?_
              refine lv_if_ne (tgt := 275) X.x X.b (dk DX12_does_2 40 rfl) (by decide) (fun c12 => ?_) (fun c12 => ?_)
              · replace hF := if_f hF c12
                refine lv_lload_n X.x X.b (dk DX12_does_2 44 rfl) rfl (lv_at hl 3 rfl) ?_
                refine lv_ldc2 (v := (-6)) X.x X.b X.ow (X.ts _ kK_X12_447) (dk DX12_does_2 45 rfl) ?_
                refine W.lcmp X.x X.b (dk DX12_does_2 46 rfl) ?_
                refine lv_if_ne (tgt := 294) X.x X.b (dk DX12_does_2 47 rfl) (by decide) (fun c13 => ?_) (fun c13 => ?_)
                · replace hF := if_f hF c13
                  refine lv_iconst (v := 0) X.x X.b (dk DX12_does_2 53 rfl) (by decide) ?_
                  refine lv_istore (lv' := [(7, .int 0), (0, .ref (q 53)), (1, .int a0), (2, .int a1), (3, .long v2), (5, .long ((-1)))]) X.x X.b (dk DX12_does_2 54 rfl) hl (by decide) rfl (fun ls hl => ?_)
                  replace hl : lv_has ls 10 [(2, .int a1), (7, .int 0)] := lv_sub hl [3, 0] rfl
                  refine lv_iload X.x X.b (dk DX12_does_2 55 rfl) (lv_at hl 1 rfl) ?_
                  refine lv_if_eq (tgt := 308) X.x X.b (dk DX12_does_2 56 rfl) (by decide) (fun c14 => ?_) (fun c14 => ?_)
                  · replace hF := if_t hF c14
                    refine lv_iconst (v := (-1)) X.x X.b (dk DX12_does_3 1 rfl) (by decide) ?_
                    cases sm hF
                    exact mr_iret X hr hlk hH ⟨rfl, rfl⟩ (dk DX12_does_3 2 rfl)
                  · replace hF := if_f hF c14
                    refine lv_iload_n X.x X.b (dk DX12_does_2 57 rfl) rfl (lv_at hl 0 rfl) ?_
                    refine lv_iconst (v := 1) X.x X.b (dk DX12_does_2 58 rfl) (by decide) ?_
                    refine lv_iadd X.x X.b (dk DX12_does_2 59 rfl) ?_
                    refine lv_goto (tgt := 309) X.x X.b (dk DX12_does_3 0 rfl) (by decide) ?_
                    cases sm hF
                    exact mr_iret X hr hlk hH ⟨rfl, rfl⟩ (dk DX12_does_3 2 rfl)
                · replace hF := if_t hF c13
                  refine lv_aload_n X.x X.b (dk DX12_does_2 48 rfl) rfl (lv_at hl 0 rfl) ?_
                  obtain ⟨x15, e16, hF⟩ := bd hF
                  refine mr_ci0 hH ⟨rfl, rfl⟩ (mr_runV (As := []) (rest := []) X hH (c_X12_doesAgain hq e16) ((oset_at hq (Nat.le_refl _) ohas_N).trans (congrArg some ocell_N)) OX12.1 kM_X12_438 kI_X12_doesAgain kS_X12_doesAgain kN_X12 kC_X12_doesAgain hd_X12_doesAgain ⟨Nat.le_of_ble_eq_true rfl, Nat.le_of_ble_eq_true rfl⟩ rfl hl.1 (Nat.le_of_ble_eq_true rfl) (dk DX12_does_2 49 rfl) ⟨Nat.zero_le _, Nat.zero_le _⟩) (fun r h1 H locs hp hH => ?_)
                  obtain ⟨hr1, hr2⟩ := hp; rw [hr1]; rw [hr2] at hH; clear hr1 hr2
                  obtain ⟨v17, t18⟩ := x15
                  try dsimp only at hF hH ⊢
                  refine lv_if_eq (tgt := 294) X.x X.b (dk DX12_does_2 50 rfl) (by decide) (fun c19 => ?_) (fun c19 => ?_)
                  · replace hF := if_t hF c19
                    refine lv_iconst (v := 0) X.x X.b (dk DX12_does_2 53 rfl) (by decide) ?_
                    refine lv_istore (lv' := [(7, .int 0), (0, .ref (q 53)), (1, .int a0), (2, .int a1), (3, .long v2), (5, .long ((-1)))]) X.x X.b (dk DX12_does_2 54 rfl) hl (by decide) rfl (fun ls hl => ?_)
                    replace hl : lv_has ls 10 [(2, .int a1), (7, .int 0)] := lv_sub hl [3, 0] rfl
                    refine lv_iload X.x X.b (dk DX12_does_2 55 rfl) (lv_at hl 1 rfl) ?_
                    refine lv_if_eq (tgt := 308) X.x X.b (dk DX12_does_2 56 rfl) (by decide) (fun c20 => ?_) (fun c20 => ?_)
                    · replace hF := if_t hF c20
                      refine lv_iconst (v := (-1)) X.x X.b (dk DX12_does_3 1 rfl) (by decide) ?_
                      cases sm hF
                      exact mr_iret X hr hlk hH ⟨rfl, rfl⟩ (dk DX12_does_3 2 rfl)
                    · replace hF := if_f hF c20
                      refine lv_iload_n X.x X.b (dk DX12_does_2 57 rfl) rfl (lv_at hl 0 rfl) ?_
                      refine lv_iconst (v := 1) X.x X.b (dk DX12_does_2 58 rfl) (by decide) ?_
                      refine lv_iadd X.x X.b (dk DX12_does_2 59 rfl) ?_
                      refine lv_goto (tgt := 309) X.x X.b (dk DX12_does_3 0 rfl) (by decide) ?_
                      cases sm hF
                      exact mr_iret X hr hlk hH ⟨rfl, rfl⟩ (dk DX12_does_3 2 rfl)
                  · replace hF := if_f hF c19
                    refine lv_iconst (v := 1) X.x X.b (dk DX12_does_2 51 rfl) (by decide) ?_
                    refine lv_goto (tgt := 295) X.x X.b (dk DX12_does_2 52 rfl) (by decide) ?_
                    refine lv_istore (lv' := [(7, .int 1), (0, .ref (q 53)), (1, .int a0), (2, .int a1), (3, .long v2), (5, .long ((-1)))]) X.x X.b (dk DX12_does_2 54 rfl) hl (by decide) rfl (fun ls hl => ?_)
                    replace hl : lv_has ls 10 [(2, .int a1), (7, .int 1)] := lv_sub hl [3, 0] rfl
                    refine lv_iload X.x X.b (dk DX12_does_2 55 rfl) (lv_at hl 1 rfl) ?_
                    refine lv_if_eq (tgt := 308) X.x X.b (dk DX12_does_2 56 rfl) (by decide) (fun c21 => ?_) (fun c21 => ?_)
                    · replace hF := if_t hF c21
                      refine lv_iconst (v := (-1)) X.x X.b (dk DX12_does_3 1 rfl) (by decide) ?_
                      cases sm hF
                      exact mr_iret X hr hlk hH ⟨rfl, rfl⟩ (dk DX12_does_3 2 rfl)
                    · replace hF := if_f hF c21
                      refine lv_iload_n X.x X.b (dk DX12_does_2 57 rfl) rfl (lv_at hl 0 rfl) ?_
                      refine lv_iconst (v := 1) X.x X.b (dk DX12_does_2 58 rfl) (by decide) ?_
                      refine lv_iadd X.x X.b (dk DX12_does_2 59 rfl) ?_
                      refine lv_goto (tgt := 309) X.x X.b (dk DX12_does_3 0 rfl) (by decide) ?_
                      cases sm hF
                      exact mr_iret X hr hlk hH ⟨rfl, rfl⟩ (dk DX12_does_3 2 rfl)
              · replace hF := if_t hF c12
                refine lv_aload_n X.x X.b (dk DX12_does_2 41 rfl) rfl (lv_at hl 0 rfl) ?_
                obtain ⟨x22, e23, hF⟩ := bd hF
                refine mr_ci0 hH ⟨rfl, rfl⟩ (mr_runV (As := []) (rest := []) X hH (c_X12_undoes hq e23) ((oset_at hq (Nat.le_refl _) ohas_N).trans (congrArg some ocell_N)) OX12.1 kM_X12_435 kI_X12_undoes kS_X12_undoes kN_X12 kC_X12_undoes hd_X12_undoes ⟨Nat.le_of_ble_eq_true rfl, Nat.le_of_ble_eq_true rfl⟩ rfl hl.1 (Nat.le_of_ble_eq_true rfl) (dk DX12_does_2 42 rfl) ⟨Nat.zero_le _, Nat.zero_le _⟩) (fun r h1 H locs hp hH => ?_)
                obtain ⟨hr1, hr2⟩ := hp; rw [hr1]; rw [hr2] at hH; clear hr1 hr2
                obtain ⟨v24, t25⟩ := x22
                try dsimp only at hF hH ⊢
                refine lv_if_ne (tgt := 290) X.x X.b (dk DX12_does_2 43 rfl) (by decide) (fun c26 => ?_) (fun c26 => ?_)
                · replace hF := if_f hF c26
                  refine lv_iconst (v := 1) X.x X.b (dk DX12_does_2 51 rfl) (by decide) ?_
                  refine lv_goto (tgt := 295) X.x X.b (dk DX12_does_2 52 rfl) (by decide) ?_
                  refine lv_istore (lv' := [(7, .int 1), (0, .ref (q 53)), (1, .int a0), (2, .int a1), (3, .long v2), (5, .long ((-1)))]) X.x X.b (dk DX12_does_2 54 rfl) hl (by decide) rfl (fun ls hl => ?_)
                  replace hl : lv_has ls 10 [(2, .int a1), (7, .int 1)] := lv_sub hl [3, 0] rfl
                  refine lv_iload X.x X.b (dk DX12_does_2 55 rfl) (lv_at hl 1 rfl) ?_
                  refine lv_if_eq (tgt := 308) X.x X.b (dk DX12_does_2 56 rfl) (by decide) (fun c27 => ?_) (fun c27 => ?_)
                  · replace hF := if_t hF c27
                    refine lv_iconst (v := (-1)) X.x X.b (dk DX12_does_3 1 rfl) (by decide) ?_
                    cases sm hF
                    exact mr_iret X hr hlk hH ⟨rfl, rfl⟩ (dk DX12_does_3 2 rfl)
                  · replace hF := if_f hF c27
                    refine lv_iload_n X.x X.b (dk DX12_does_2 57 rfl) rfl (lv_at hl 0 rfl) ?_
                    refine lv_iconst (v := 1) X.x X.b (dk DX12_does_2 58 rfl) (by decide) ?_
                    refine lv_iadd X.x X.b (dk DX12_does_2 59 rfl) ?_
                    refine lv_goto (tgt := 309) X.x X.b (dk DX12_does_3 0 rfl) (by decide) ?_
                    cases sm hF
                    exact mr_iret X hr hlk hH ⟨rfl, rfl⟩ (dk DX12_does_3 2 rfl)
                · replace hF := if_t hF c26
                  refine lv_lload_n X.x X.b (dk DX12_does_2 44 rfl) rfl (lv_at hl 3 rfl) ?_
                  refine lv_ldc2 (v := (-6)) X.x X.b X.ow (X.ts _ kK_X12_447) (dk DX12_does_2 45 rfl) ?_
                  refine W.lcmp X.x X.b (dk DX12_does_2 46 rfl) ?_
                  refine lv_if_ne (tgt := 294) X.x X.b (dk DX12_does_2 47 rfl) (by decide) (fun c28 => ?_) (fun c28 => ?_)
                  · replace hF := if_f hF c28
                    refine lv_iconst (v := 0) X.x X.b (dk DX12_does_2 53 rfl) (by decide) ?_
                    refine lv_istore (lv' := [(7, .int 0), (0, .ref (q 53)), (1, .int a0), (2, .int a1), (3, .long v2), (5, .long ((-1)))]) X.x X.b (dk DX12_does_2 54 rfl) hl (by decide) rfl (fun ls hl => ?_)
                    replace hl : lv_has ls 10 [(2, .int a1), (7, .int 0)] := lv_sub hl [3, 0] rfl
                    refine lv_iload X.x X.b (dk DX12_does_2 55 rfl) (lv_at hl 1 rfl) ?_
                    refine lv_if_eq (tgt := 308) X.x X.b (dk DX12_does_2 56 rfl) (by decide) (fun c29 => ?_) (fun c29 => ?_)
                    · replace hF := if_t hF c29
                      refine lv_iconst (v := (-1)) X.x X.b (dk DX12_does_3 1 rfl) (by decide) ?_
                      cases sm hF
                      exact mr_iret X hr hlk hH ⟨rfl, rfl⟩ (dk DX12_does_3 2 rfl)
                    · replace hF := if_f hF c29
                      refine lv_iload_n X.x X.b (dk DX12_does_2 57 rfl) rfl (lv_at hl 0 rfl) ?_
                      refine lv_iconst (v := 1) X.x X.b (dk DX12_does_2 58 rfl) (by decide) ?_
                      refine lv_iadd X.x X.b (dk DX12_does_2 59 rfl) ?_
                      refine lv_goto (tgt := 309) X.x X.b (dk DX12_does_3 0 rfl) (by decide) ?_
                      cases sm hF
                      exact mr_iret X hr hlk hH ⟨rfl, rfl⟩ (dk DX12_does_3 2 rfl)
                  · replace hF := if_t hF c28
                    refine lv_aload_n X.x X.b (dk DX12_does_2 48 rfl) rfl (lv_at hl 0 rfl) ?_
                    obtain ⟨x30, e31, hF⟩ := bd hF
                    refine mr_ci0 hH ⟨rfl, rfl⟩ (mr_runV (As := []) (rest := []) X hH (c_X12_doesAgain hq e31) ((oset_at hq (Nat.le_refl _) ohas_N).trans (congrArg some ocell_N)) OX12.1 kM_X12_438 kI_X12_doesAgain kS_X12_doesAgain kN_X12 kC_X12_doesAgain hd_X12_doesAgain ⟨Nat.le_of_ble_eq_true rfl, Nat.le_of_ble_eq_true rfl⟩ rfl hl.1 (Nat.le_of_ble_eq_true rfl) (dk DX12_does_2 49 rfl) ⟨Nat.zero_le _, Nat.zero_le _⟩) (fun r h1 H locs hp hH => ?_)
                    obtain ⟨hr1, hr2⟩ := hp; rw [hr1]; rw [hr2] at hH; clear hr1 hr2
                    obtain ⟨v32, t33⟩ := x30
                    try dsimp only at hF hH ⊢
                    refine lv_if_eq (tgt := 294) X.x X.b (dk DX12_does_2 50 rfl) (by decide) (fun c34 => ?_) (fun c34 => ?_)
                    · replace hF := if_t hF c34
                      refine lv_iconst (v := 0) X.x X.b (dk DX12_does_2 53 rfl) (by decide) ?_
                      refine lv_istore (lv' := [(7, .int 0), (0, .ref (q 53)), (1, .int a0), (2, .int a1), (3, .long v2), (5, .long ((-1)))]) X.x X.b (dk DX12_does_2 54 rfl) hl (by decide) rfl (fun ls hl => ?_)
                      replace hl : lv_has ls 10 [(2, .int a1), (7, .int 0)] := lv_sub hl [3, 0] rfl
                      refine lv_iload X.x X.b (dk DX12_does_2 55 rfl) (lv_at hl 1 rfl) ?_
                      refine lv_if_eq (tgt := 308) X.x X.b (dk DX12_does_2 56 rfl) (by decide) (fun c35 => ?_) (fun c35 => ?_)
                      · replace hF := if_t hF c35
                        refine lv_iconst (v := (-1)) X.x X.b (dk DX12_does_3 1 rfl) (by decide) ?_
                        cases sm hF
                        exact mr_iret X hr hlk hH ⟨rfl, rfl⟩ (dk DX12_does_3 2 rfl)
                      · replace hF := if_f hF c35
                        refine lv_iload_n X.x X.b (dk DX12_does_2 57 rfl) rfl (lv_at hl 0 rfl) ?_
                        refine lv_iconst (v := 1) X.x X.b (dk DX12_does_2 58 rfl) (by decide) ?_
                        refine lv_iadd X.x X.b (dk DX12_does_2 59 rfl) ?_
                        refine lv_goto (tgt := 309) X.x X.b (dk DX12_does_3 0 rfl) (by decide) ?_
                        cases sm hF
                        exact mr_iret X hr hlk hH ⟨rfl, rfl⟩ (dk DX12_does_3 2 rfl)
                    · replace hF := if_f hF c34
                      refine lv_iconst (v := 1) X.x X.b (dk DX12_does_2 51 rfl) (by decide) ?_
                      refine lv_goto (tgt := 295) X.x X.b (dk DX12_does_2 52 rfl) (by decide) ?_
                      refine lv_istore (lv' := [(7, .int 1), (0, .ref (q 53)), (1, .int a0), (2, .int a1), (3, .long v2), (5, .long ((-1)))]) X.x X.b (dk DX12_does_2 54 rfl) hl (by decide) rfl (fun ls hl => ?_)
                      replace hl : lv_has ls 10 [(2, .int a1), (7, .int 1)] := lv_sub hl [3, 0] rfl
                      refine lv_iload X.x X.b (dk DX12_does_2 55 rfl) (lv_at hl 1 rfl) ?_
                      refine lv_if_eq (tgt := 308) X.x X.b (dk DX12_does_2 56 rfl) (by decide) (fun c36 => ?_) (fun c36 => ?_)
                      · replace hF := if_t hF c36
                        refine lv_iconst (v := (-1)) X.x X.b (dk DX12_does_3 1 rfl) (by decide) ?_
                        cases sm hF
                        exact mr_iret X hr hlk hH ⟨rfl, rfl⟩ (dk DX12_does_3 2 rfl)
                      · replace hF := if_f hF c36
                        refine lv_iload_n X.x X.b (dk DX12_does_2 57 rfl) rfl (lv_at hl 0 rfl) ?_
                        refine lv_iconst (v := 1) X.x X.b (dk DX12_does_2 58 rfl) (by decide) ?_
                        refine lv_iadd X.x X.b (dk DX12_does_2 59 rfl) ?_
                        refine lv_goto (tgt := 309) X.x X.b (dk DX12_does_3 0 rfl) (by decide) ?_
                        cases sm hF
                        exact mr_iret X hr hlk hH ⟨rfl, rfl⟩ (dk DX12_does_3 2 rfl)
          · replace hF := if_t hF c9
            refine lv_aload_n X.x X.b (dk DX12_does_2 31 rfl) rfl (lv_at hl 0 rfl) ?_
            obtain ⟨x37, e38, hF⟩ := bd hF
            refine mr_cv0 hH ⟨rfl, rfl⟩ (mr_runV (As := []) (rest := []) X hH (c_X12_duals hq e38) ((oset_at hq (Nat.le_refl _) ohas_N).trans (congrArg some ocell_N)) OX12.1 kM_X12_426 kI_X12_duals kS_X12_duals kN_X12 kC_X12_duals hd_X12_duals ⟨Nat.le_of_ble_eq_true rfl, Nat.le_of_ble_eq_true rfl⟩ rfl hl.1 (Nat.le_of_ble_eq_true rfl) (dk DX12_does_2 32 rfl) ⟨Nat.zero_le _, Nat.zero_le _⟩) (fun h1 H locs hp hH => ?_)
            rw [hp] at hH; clear hp
            refine lv_lload_n X.x X.b (dk DX12_does_2 33 rfl) rfl (lv_at hl 3 rfl) ?_
            refine lv_ldc2 (v := (-3)) X.x X.b X.ow (X.ts _ kK_X12_443) (dk DX12_does_2 34 rfl) ?_
            refine W.lcmp X.x X.b (dk DX12_does_2 35 rfl) ?_
            refine lv_if_eq (tgt := 290) X.x X.b (dk DX12_does_2 36 rfl) (by decide) (fun c40 => ?_) (fun c40 => ?_)
            · replace hF := if_t hF c40
              refine lv_iconst (v := 1) X.x X.b (dk DX12_does_2 51 rfl) (by decide) ?_
              refine lv_goto (tgt := 295) X.x X.b (dk DX12_does_2 52 rfl) (by decide) ?_
              refine lv_istore (lv' := [(7, .int 1), (0, .ref (q 53)), (1, .int a0), (2, .int a1), (3, .long v2), (5, .long ((-1)))]) X.x X.b (dk DX12_does_2 54 rfl) hl (by decide) rfl (fun ls hl => ?_)
              replace hl : lv_has ls 10 [(2, .int a1), (7, .int 1)] := lv_sub hl [3, 0] rfl
              refine lv_iload X.x X.b (dk DX12_does_2 55 rfl) (lv_at hl 1 rfl) ?_
              refine lv_if_eq (tgt := 308) X.x X.b (dk DX12_does_2 56 rfl) (by decide) (fun c41 => ?_) (fun c41 => ?_)
              · replace hF := if_t hF c41
                refine lv_iconst (v := (-1)) X.x X.b (dk DX12_does_3 1 rfl) (by decide) ?_
                cases sm hF
                exact mr_iret X hr hlk hH ⟨rfl, rfl⟩ (dk DX12_does_3 2 rfl)
              · replace hF := if_f hF c41
                refine lv_iload_n X.x X.b (dk DX12_does_2 57 rfl) rfl (lv_at hl 0 rfl) ?_
                refine lv_iconst (v := 1) X.x X.b (dk DX12_does_2 58 rfl) (by decide) ?_
                refine lv_iadd X.x X.b (dk DX12_does_2 59 rfl) ?_
                refine lv_goto (tgt := 309) X.x X.b (dk DX12_does_3 0 rfl) (by decide) ?_
                cases sm hF
                exact mr_iret X hr hlk hH ⟨rfl, rfl⟩ (dk DX12_does_3 2 rfl)
            · replace hF := if_f hF c40
              refine lv_lload_n X.x X.b (dk DX12_does_2 37 rfl) rfl (lv_at hl 3 rfl) ?_
              refine lv_ldc2 (v := (-5)) X.x X.b X.ow (X.ts _ kK_X12_445) (dk DX12_does_2 38 rfl) ?_
              refine W.lcmp X.x X.b (dk DX12_does_2 39 rfl) ?_
              refine lv_if_ne (tgt := 275) X.x X.b (dk DX12_does_2 40 rfl) (by decide) (fun c42 => ?_) (fun c42 => ?_)
              · replace hF := if_f hF c42
                refine lv_lload_n X.x X.b (dk DX12_does_2 44 rfl) rfl (lv_at hl 3 rfl) ?_
                refine lv_ldc2 (v := (-6)) X.x X.b X.ow (X.ts _ kK_X12_447) (dk DX12_does_2 45 rfl) ?_
                refine W.lcmp X.x X.b (dk DX12_does_2 46 rfl) ?_
                refine lv_if_ne (tgt := 294) X.x X.b (dk DX12_does_2 47 rfl) (by decide) (fun c43 => ?_) (fun c43 => ?_)
                · replace hF := if_f hF c43
                  refine lv_iconst (v := 0) X.x X.b (dk DX12_does_2 53 rfl) (by decide) ?_
                  refine lv_istore (lv' := [(7, .int 0), (0, .ref (q 53)), (1, .int a0), (2, .int a1), (3, .long v2), (5, .long ((-1)))]) X.x X.b (dk DX12_does_2 54 rfl) hl (by decide) rfl (fun ls hl => ?_)
                  replace hl : lv_has ls 10 [(2, .int a1), (7, .int 0)] := lv_sub hl [3, 0] rfl
                  refine lv_iload X.x X.b (dk DX12_does_2 55 rfl) (lv_at hl 1 rfl) ?_
                  refine lv_if_eq (tgt := 308) X.x X.b (dk DX12_does_2 56 rfl) (by decide) (fun c44 => ?_) (fun c44 => ?_)
                  · replace hF := if_t hF c44
                    refine lv_iconst (v := (-1)) X.x X.b (dk DX12_does_3 1 rfl) (by decide) ?_
                    cases sm hF
                    exact mr_iret X hr hlk hH ⟨rfl, rfl⟩ (dk DX12_does_3 2 rfl)
                  · replace hF := if_f hF c44
                    refine lv_iload_n X.x X.b (dk DX12_does_2 57 rfl) rfl (lv_at hl 0 rfl) ?_
                    refine lv_iconst (v := 1) X.x X.b (dk DX12_does_2 58 rfl) (by decide) ?_
                    refine lv_iadd X.x X.b (dk DX12_does_2 59 rfl) ?_
                    refine lv_goto (tgt := 309) X.x X.b (dk DX12_does_3 0 rfl) (by decide) ?_
                    cases sm hF
                    exact mr_iret X hr hlk hH ⟨rfl, rfl⟩ (dk DX12_does_3 2 rfl)
                · replace hF := if_t hF c43
                  refine lv_aload_n X.x X.b (dk DX12_does_2 48 rfl) rfl (lv_at hl 0 rfl) ?_
                  obtain ⟨x45, e46, hF⟩ := bd hF
                  refine mr_ci0 hH ⟨rfl, rfl⟩ (mr_runV (As := []) (rest := []) X hH (c_X12_doesAgain hq e46) ((oset_at hq (Nat.le_refl _) ohas_N).trans (congrArg some ocell_N)) OX12.1 kM_X12_438 kI_X12_doesAgain kS_X12_doesAgain kN_X12 kC_X12_doesAgain hd_X12_doesAgain ⟨Nat.le_of_ble_eq_true rfl, Nat.le_of_ble_eq_true rfl⟩ rfl hl.1 (Nat.le_of_ble_eq_true rfl) (dk DX12_does_2 49 rfl) ⟨Nat.zero_le _, Nat.zero_le _⟩) (fun r h1 H locs hp hH => ?_)
                  obtain ⟨hr1, hr2⟩ := hp; rw [hr1]; rw [hr2] at hH; clear hr1 hr2
                  obtain ⟨v47, t48⟩ := x45
                  try dsimp only at hF hH ⊢
                  refine lv_if_eq (tgt := 294) X.x X.b (dk DX12_does_2 50 rfl) (by decide) (fun c49 => ?_) (fun c49 => ?_)
                  · replace hF := if_t hF c49
                    refine lv_iconst (v := 0) X.x X.b (dk DX12_does_2 53 rfl) (by decide) ?_
                    refine lv_istore (lv' := [(7, .int 0), (0, .ref (q 53)), (1, .int a0), (2, .int a1), (3, .long v2), (5, .long ((-1)))]) X.x X.b (dk DX12_does_2 54 rfl) hl (by decide) rfl (fun ls hl => ?_)
                    replace hl : lv_has ls 10 [(2, .int a1), (7, .int 0)] := lv_sub hl [3, 0] rfl
                    refine lv_iload X.x X.b (dk DX12_does_2 55 rfl) (lv_at hl 1 rfl) ?_
                    refine lv_if_eq (tgt := 308) X.x X.b (dk DX12_does_2 56 rfl) (by decide) (fun c50 => ?_) (fun c50 => ?_)
                    · replace hF := if_t hF c50
                      refine lv_iconst (v := (-1)) X.x X.b (dk DX12_does_3 1 rfl) (by decide) ?_
                      cases sm hF
                      exact mr_iret X hr hlk hH ⟨rfl, rfl⟩ (dk DX12_does_3 2 rfl)
                    · replace hF := if_f hF c50
                      refine lv_iload_n X.x X.b (dk DX12_does_2 57 rfl) rfl (lv_at hl 0 rfl) ?_
                      refine lv_iconst (v := 1) X.x X.b (dk DX12_does_2 58 rfl) (by decide) ?_
                      refine lv_iadd X.x X.b (dk DX12_does_2 59 rfl) ?_
                      refine lv_goto (tgt := 309) X.x X.b (dk DX12_does_3 0 rfl) (by decide) ?_
                      cases sm hF
                      exact mr_iret X hr hlk hH ⟨rfl, rfl⟩ (dk DX12_does_3 2 rfl)
                  · replace hF := if_f hF c49
                    refine lv_iconst (v := 1) X.x X.b (dk DX12_does_2 51 rfl) (by decide) ?_
                    refine lv_goto (tgt := 295) X.x X.b (dk DX12_does_2 52 rfl) (by decide) ?_
                    refine lv_istore (lv' := [(7, .int 1), (0, .ref (q 53)), (1, .int a0), (2, .int a1), (3, .long v2), (5, .long ((-1)))]) X.x X.b (dk DX12_does_2 54 rfl) hl (by decide) rfl (fun ls hl => ?_)
                    replace hl : lv_has ls 10 [(2, .int a1), (7, .int 1)] := lv_sub hl [3, 0] rfl
                    refine lv_iload X.x X.b (dk DX12_does_2 55 rfl) (lv_at hl 1 rfl) ?_
                    refine lv_if_eq (tgt := 308) X.x X.b (dk DX12_does_2 56 rfl) (by decide) (fun c51 => ?_) (fun c51 => ?_)
                    · replace hF := if_t hF c51
                      refine lv_iconst (v := (-1)) X.x X.b (dk DX12_does_3 1 rfl) (by decide) ?_
                      cases sm hF
                      exact mr_iret X hr hlk hH ⟨rfl, rfl⟩ (dk DX12_does_3 2 rfl)
                    · replace hF := if_f hF c51
                      refine lv_iload_n X.x X.b (dk DX12_does_2 57 rfl) rfl (lv_at hl 0 rfl) ?_
                      refine lv_iconst (v := 1) X.x X.b (dk DX12_does_2 58 rfl) (by decide) ?_
                      refine lv_iadd X.x X.b (dk DX12_does_2 59 rfl) ?_
                      refine lv_goto (tgt := 309) X.x X.b (dk DX12_does_3 0 rfl) (by decide) ?_
                      cases sm hF
                      exact mr_iret X hr hlk hH ⟨rfl, rfl⟩ (dk DX12_does_3 2 rfl)
              · replace hF := if_t hF c42
                refine lv_aload_n X.x X.b (dk DX12_does_2 41 rfl) rfl (lv_at hl 0 rfl) ?_
                obtain ⟨x52, e53, hF⟩ := bd hF
                refine mr_ci0 hH ⟨rfl, rfl⟩ (mr_runV (As := []) (rest := []) X hH (c_X12_undoes hq e53) ((oset_at hq (Nat.le_refl _) ohas_N).trans (congrArg some ocell_N)) OX12.1 kM_X12_435 kI_X12_undoes kS_X12_undoes kN_X12 kC_X12_undoes hd_X12_undoes ⟨Nat.le_of_ble_eq_true rfl, Nat.le_of_ble_eq_true rfl⟩ rfl hl.1 (Nat.le_of_ble_eq_true rfl) (dk DX12_does_2 42 rfl) ⟨Nat.zero_le _, Nat.zero_le _⟩) (fun r h1 H locs hp hH => ?_)
                obtain ⟨hr1, hr2⟩ := hp; rw [hr1]; rw [hr2] at hH; clear hr1 hr2
                obtain ⟨v54, t55⟩ := x52
                try dsimp only at hF hH ⊢
                refine lv_if_ne (tgt := 290) X.x X.b (dk DX12_does_2 43 rfl) (by decide) (fun c56 => ?_) (fun c56 => ?_)
                · replace hF := if_f hF c56
                  refine lv_iconst (v := 1) X.x X.b (dk DX12_does_2 51 rfl) (by decide) ?_
                  refine lv_goto (tgt := 295) X.x X.b (dk DX12_does_2 52 rfl) (by decide) ?_
                  refine lv_istore (lv' := [(7, .int 1), (0, .ref (q 53)), (1, .int a0), (2, .int a1), (3, .long v2), (5, .long ((-1)))]) X.x X.b (dk DX12_does_2 54 rfl) hl (by decide) rfl (fun ls hl => ?_)
                  replace hl : lv_has ls 10 [(2, .int a1), (7, .int 1)] := lv_sub hl [3, 0] rfl
                  refine lv_iload X.x X.b (dk DX12_does_2 55 rfl) (lv_at hl 1 rfl) ?_
                  refine lv_if_eq (tgt := 308) X.x X.b (dk DX12_does_2 56 rfl) (by decide) (fun c57 => ?_) (fun c57 => ?_)
                  · replace hF := if_t hF c57
                    refine lv_iconst (v := (-1)) X.x X.b (dk DX12_does_3 1 rfl) (by decide) ?_
                    cases sm hF
                    exact mr_iret X hr hlk hH ⟨rfl, rfl⟩ (dk DX12_does_3 2 rfl)
                  · replace hF := if_f hF c57
                    refine lv_iload_n X.x X.b (dk DX12_does_2 57 rfl) rfl (lv_at hl 0 rfl) ?_
                    refine lv_iconst (v := 1) X.x X.b (dk DX12_does_2 58 rfl) (by decide) ?_
                    refine lv_iadd X.x X.b (dk DX12_does_2 59 rfl) ?_
                    refine lv_goto (tgt := 309) X.x X.b (dk DX12_does_3 0 rfl) (by decide) ?_
                    cases sm hF
                    exact mr_iret X hr hlk hH ⟨rfl, rfl⟩ (dk DX12_does_3 2 rfl)
                · replace hF := if_t hF c56
                  refine lv_lload_n X.x X.b (dk DX12_does_2 44 rfl) rfl (lv_at hl 3 rfl) ?_
                  refine lv_ldc2 (v := (-6)) X.x X.b X.ow (X.ts _ kK_X12_447) (dk DX12_does_2 45 rfl) ?_
                  refine W.lcmp X.x X.b (dk DX12_does_2 46 rfl) ?_
                  refine lv_if_ne (tgt := 294) X.x X.b (dk DX12_does_2 47 rfl) (by decide) (fun c58 => ?_) (fun c58 => ?_)
                  · replace hF := if_f hF c58
                    refine lv_iconst (v := 0) X.x X.b (dk DX12_does_2 53 rfl) (by decide) ?_
                    refine lv_istore (lv' := [(7, .int 0), (0, .ref (q 53)), (1, .int a0), (2, .int a1), (3, .long v2), (5, .long ((-1)))]) X.x X.b (dk DX12_does_2 54 rfl) hl (by decide) rfl (fun ls hl => ?_)
                    replace hl : lv_has ls 10 [(2, .int a1), (7, .int 0)] := lv_sub hl [3, 0] rfl
                    refine lv_iload X.x X.b (dk DX12_does_2 55 rfl) (lv_at hl 1 rfl) ?_
                    refine lv_if_eq (tgt := 308) X.x X.b (dk DX12_does_2 56 rfl) (by decide) (fun c59 => ?_) (fun c59 => ?_)
                    · replace hF := if_t hF c59
                      refine lv_iconst (v := (-1)) X.x X.b (dk DX12_does_3 1 rfl) (by decide) ?_
                      cases sm hF
                      exact mr_iret X hr hlk hH ⟨rfl, rfl⟩ (dk DX12_does_3 2 rfl)
                    · replace hF := if_f hF c59
                      refine lv_iload_n X.x X.b (dk DX12_does_2 57 rfl) rfl (lv_at hl 0 rfl) ?_
                      refine lv_iconst (v := 1) X.x X.b (dk DX12_does_2 58 rfl) (by decide) ?_
                      refine lv_iadd X.x X.b (dk DX12_does_2 59 rfl) ?_
                      refine lv_goto (tgt := 309) X.x X.b (dk DX12_does_3 0 rfl) (by decide) ?_
                      cases sm hF
                      exact mr_iret X hr hlk hH ⟨rfl, rfl⟩ (dk DX12_does_3 2 rfl)
                  · replace hF := if_t hF c58
                    refine lv_aload_n X.x X.b (dk DX12_does_2 48 rfl) rfl (lv_at hl 0 rfl) ?_
                    obtain ⟨x60, e61, hF⟩ := bd hF
                    refine mr_ci0 hH ⟨rfl, rfl⟩ (mr_runV (As := []) (rest := []) X hH (c_X12_doesAgain hq e61) ((oset_at hq (Nat.le_refl _) ohas_N).trans (congrArg some ocell_N)) OX12.1 kM_X12_438 kI_X12_doesAgain kS_X12_doesAgain kN_X12 kC_X12_doesAgain hd_X12_doesAgain ⟨Nat.le_of_ble_eq_true rfl, Nat.le_of_ble_eq_true rfl⟩ rfl hl.1 (Nat.le_of_ble_eq_true rfl) (dk DX12_does_2 49 rfl) ⟨Nat.zero_le _, Nat.zero_le _⟩) (fun r h1 H locs hp hH => ?_)
                    obtain ⟨hr1, hr2⟩ := hp; rw [hr1]; rw [hr2] at hH; clear hr1 hr2
                    obtain ⟨v62, t63⟩ := x60
                    try dsimp only at hF hH ⊢
                    refine lv_if_eq (tgt := 294) X.x X.b (dk DX12_does_2 50 rfl) (by decide) (fun c64 => ?_) (fun c64 => ?_)
                    · replace hF := if_t hF c64
                      refine lv_iconst (v := 0) X.x X.b (dk DX12_does_2 53 rfl) (by decide) ?_
                      refine lv_istore (lv' := [(7, .int 0), (0, .ref (q 53)), (1, .int a0), (2, .int a1), (3, .long v2), (5, .long ((-1)))]) X.x X.b (dk DX12_does_2 54 rfl) hl (by decide) rfl (fun ls hl => ?_)
                      replace hl : lv_has ls 10 [(2, .int a1), (7, .int 0)] := lv_sub hl [3, 0] rfl
                      refine lv_iload X.x X.b (dk DX12_does_2 55 rfl) (lv_at hl 1 rfl) ?_
                      refine lv_if_eq (tgt := 308) X.x X.b (dk DX12_does_2 56 rfl) (by decide) (fun c65 => ?_) (fun c65 => ?_)
                      · replace hF := if_t hF c65
                        refine lv_iconst (v := (-1)) X.x X.b (dk DX12_does_3 1 rfl) (by decide) ?_
                        cases sm hF
                        exact mr_iret X hr hlk hH ⟨rfl, rfl⟩ (dk DX12_does_3 2 rfl)
                      · replace hF := if_f hF c65
                        refine lv_iload_n X.x X.b (dk DX12_does_2 57 rfl) rfl (lv_at hl 0 rfl) ?_
                        refine lv_iconst (v := 1) X.x X.b (dk DX12_does_2 58 rfl) (by decide) ?_
                        refine lv_iadd X.x X.b (dk DX12_does_2 59 rfl) ?_
                        refine lv_goto (tgt := 309) X.x X.b (dk DX12_does_3 0 rfl) (by decide) ?_
                        cases sm hF
                        exact mr_iret X hr hlk hH ⟨rfl, rfl⟩ (dk DX12_does_3 2 rfl)
                    · replace hF := if_f hF c64
                      refine lv_iconst (v := 1) X.x X.b (dk DX12_does_2 51 rfl) (by decide) ?_
                      refine lv_goto (tgt := 295) X.x X.b (dk DX12_does_2 52 rfl) (by decide) ?_
                      refine lv_istore (lv' := [(7, .int 1), (0, .ref (q 53)), (1, .int a0), (2, .int a1), (3, .long v2), (5, .long ((-1)))]) X.x X.b (dk DX12_does_2 54 rfl) hl (by decide) rfl (fun ls hl => ?_)
                      replace hl : lv_has ls 10 [(2, .int a1), (7, .int 1)] := lv_sub hl [3, 0] rfl
                      refine lv_iload X.x X.b (dk DX12_does_2 55 rfl) (lv_at hl 1 rfl) ?_
                      refine lv_if_eq (tgt := 308) X.x X.b (dk DX12_does_2 56 rfl) (by decide) (fun c66 => ?_) (fun c66 => ?_)
                      · replace hF := if_t hF c66
                        refine lv_iconst (v := (-1)) X.x X.b (dk DX12_does_3 1 rfl) (by decide) ?_
                        cases sm hF
                        exact mr_iret X hr hlk hH ⟨rfl, rfl⟩ (dk DX12_does_3 2 rfl)
                      · replace hF := if_f hF c66
                        refine lv_iload_n X.x X.b (dk DX12_does_2 57 rfl) rfl (lv_at hl 0 rfl) ?_
                        refine lv_iconst (v := 1) X.x X.b (dk DX12_does_2 58 rfl) (by decide) ?_
                        refine lv_iadd X.x X.b (dk DX12_does_2 59 rfl) ?_
                        refine lv_goto (tgt := 309) X.x X.b (dk DX12_does_3 0 rfl) (by decide) ?_
                        cases sm hF
                        exact mr_iret X hr hlk hH ⟨rfl, rfl⟩ (dk DX12_does_3 2 rfl)
        · replace hF := if_t hF c8
          refine lv_lload X.x X.b (dk DX12_does_2 8 rfl) (lv_at hl 4 rfl) ?_
          refine lv_lconst (v := 0) X.x X.b (dk DX12_does_2 9 rfl) (by decide) ?_
          refine lv_aload_n X.x X.b (dk DX12_does_2 10 rfl) rfl (lv_at hl 0 rfl) ?_
          refine og_getI OX12 X hq hH 0 (by decide) rfl kF_X12_248 (dk DX12_does_2 11 rfl) ?_
          refine lv_iconst (v := 1) X.x X.b (dk DX12_does_2 12 rfl) (by decide) ?_
          refine lv_isub X.x X.b (dk DX12_does_2 13 rfl) ?_
          refine lv_i2l X.x X.b (dk DX12_does_2 14 rfl) rfl ?_
          obtain ⟨x67, e68, hF⟩ := bd hF
          refine mr_ci0 hH ⟨rfl, rfl⟩ (mr_runS (As := [.long ((-1)), .long 0, .long (((st.1 0) - 1 : Int32).toInt64)]) (rest := []) X hH (c_X12_within e68) kM_X12_171 kT_X12_within kN_X12 kC_X12_within hd_X12_within ⟨Nat.le_of_ble_eq_true rfl, Nat.le_of_ble_eq_true rfl⟩ rfl hl.1 (Nat.le_of_ble_eq_true rfl) (dk DX12_does_2 15 rfl) ⟨Nat.zero_le _, Nat.zero_le _⟩) (fun r h1 H locs hp hH => ?_)
          obtain ⟨hr1, hr2⟩ := hp; rw [hr1]; rw [hr2] at hH; clear hr1 hr2
          refine lv_if_ne (tgt := 229) X.x X.b (dk DX12_does_2 16 rfl) (by decide) (fun c70 => ?_) (fun c70 => ?_)
          · replace hF := if_f hF c70
            refine lv_aload_n X.x X.b (dk DX12_does_2 19 rfl) rfl (lv_at hl 0 rfl) ?_
            refine lv_lload X.x X.b (dk DX12_does_2 20 rfl) (lv_at hl 4 rfl) ?_
            refine lv_l2i X.x X.b (dk DX12_does_2 21 rfl) rfl ?_
            obtain ⟨x71, e72, hF⟩ := bd hF
            refine mr_cv0 hH ⟨rfl, rfl⟩ (mr_runV (As := [.int (((-1) : Int64).toInt32)]) (rest := []) X hH (c_X12_leaves hq e72) ((oset_at hq (Nat.le_refl _) ohas_N).trans (congrArg some ocell_N)) OX12.1 kM_X12_429 kI_X12_leaves kS_X12_leaves kN_X12 kC_X12_leaves hd_X12_leaves ⟨Nat.le_of_ble_eq_true rfl, Nat.le_of_ble_eq_true rfl⟩ rfl hl.1 (Nat.le_of_ble_eq_true rfl) (dk DX12_does_2 22 rfl) ⟨Nat.zero_le _, Nat.zero_le _⟩) (fun h1 H locs hp hH => ?_)
            rw [hp] at hH; clear hp
            refine lv_iload_n X.x X.b (dk DX12_does_2 23 rfl) rfl (lv_at hl 2 rfl) ?_
            refine lv_iconst (v := 2) X.x X.b (dk DX12_does_2 24 rfl) (by decide) ?_
            refine lv_iadd X.x X.b (dk DX12_does_2 25 rfl) ?_
            cases sm hF
            exact mr_iret X hr hlk hH ⟨rfl, rfl⟩ (dk DX12_does_2 26 rfl)
          · replace hF := if_t hF c70
            refine lv_iconst (v := (-1)) X.x X.b (dk DX12_does_2 17 rfl) (by decide) ?_
            cases sm hF
            exact mr_iret X hr hlk hH ⟨rfl, rfl⟩ (dk DX12_does_2 18 rfl)
      · replace hF := if_t hF c7
        refine lv_lload X.x X.b (dk DX12_does_1 44 rfl) (lv_at hl 4 rfl) ?_
        refine lv_lconst (v := 0) X.x X.b (dk DX12_does_1 45 rfl) (by decide) ?_
        refine lv_aload_n X.x X.b (dk DX12_does_1 46 rfl) rfl (lv_at hl 0 rfl) ?_
        refine og_getI OX12 X hq hH 1 (by decide) rfl kF_X12_250 (dk DX12_does_1 47 rfl) ?_
        refine lv_iconst (v := 1) X.x X.b (dk DX12_does_1 48 rfl) (by decide) ?_
        refine lv_isub X.x X.b (dk DX12_does_1 49 rfl) ?_
        refine lv_i2l X.x X.b (dk DX12_does_1 50 rfl) rfl ?_
        obtain ⟨x74, e75, hF⟩ := bd hF
        refine mr_ci0 hH ⟨rfl, rfl⟩ (mr_runS (As := [.long ((-1)), .long 0, .long (((st.1 1) - 1 : Int32).toInt64)]) (rest := []) X hH (c_X12_within e75) kM_X12_171 kT_X12_within kN_X12 kC_X12_within hd_X12_within ⟨Nat.le_of_ble_eq_true rfl, Nat.le_of_ble_eq_true rfl⟩ rfl hl.1 (Nat.le_of_ble_eq_true rfl) (dk DX12_does_1 51 rfl) ⟨Nat.zero_le _, Nat.zero_le _⟩) (fun r h1 H locs hp hH => ?_)
        obtain ⟨hr1, hr2⟩ := hp; rw [hr1]; rw [hr2] at hH; clear hr1 hr2
        refine lv_if_ne (tgt := 191) X.x X.b (dk DX12_does_1 52 rfl) (by decide) (fun c77 => ?_) (fun c77 => ?_)
        · replace hF := if_f hF c77
          refine lv_aload_n X.x X.b (dk DX12_does_1 55 rfl) rfl (lv_at hl 0 rfl) ?_
          refine lv_lload X.x X.b (dk DX12_does_1 56 rfl) (lv_at hl 4 rfl) ?_
          refine lv_l2i X.x X.b (dk DX12_does_1 57 rfl) rfl ?_
          obtain ⟨x78, e79, hF⟩ := bd hF
          refine mr_cl0 hH ⟨rfl, rfl⟩ (mr_runV (As := [.int (((-1) : Int64).toInt32)]) (rest := []) X hH (c_X12_drops hq e79) ((oset_at hq (Nat.le_refl _) ohas_N).trans (congrArg some ocell_N)) OX12.1 kM_X12_423 kI_X12_drops kS_X12_drops kN_X12 kC_X12_drops hd_X12_drops ⟨Nat.le_of_ble_eq_true rfl, Nat.le_of_ble_eq_true rfl⟩ rfl hl.1 (Nat.le_of_ble_eq_true rfl) (dk DX12_does_1 58 rfl) ⟨Nat.zero_le _, Nat.zero_le _⟩) (fun r h1 H locs hp hH => ?_)
          obtain ⟨hr1, hr2⟩ := hp; rw [hr1]; rw [hr2] at hH; clear hr1 hr2
          obtain ⟨v80, t81⟩ := x78
          try dsimp only at hF hH ⊢
          refine lv_pop2_2 X.x X.b (dk DX12_does_1 59 rfl) rfl ?_
          refine lv_iload_n X.x X.b (dk DX12_does_2 0 rfl) rfl (lv_at hl 2 rfl) ?_
          refine lv_iconst (v := 2) X.x X.b (dk DX12_does_2 1 rfl) (by decide) ?_
          refine lv_iadd X.x X.b (dk DX12_does_2 2 rfl) ?_
          cases sm hF
          exact mr_iret X hr hlk hH ⟨rfl, rfl⟩ (dk DX12_does_2 3 rfl)
        · replace hF := if_t hF c77
          refine lv_iconst (v := (-1)) X.x X.b (dk DX12_does_1 53 rfl) (by decide) ?_
          cases sm hF
          exact mr_iret X hr hlk hH ⟨rfl, rfl⟩ (dk DX12_does_1 54 rfl)
    · replace hF := if_t hF c6
      refine lv_lconst (v := 0) X.x X.b (dk DX12_does_0 34 rfl) (by decide) ?_
      refine lv_lstore (lv' := [(7, .long 0), (0, .ref (q 53)), (1, .int a0), (2, .int a1), (3, .long v2), (5, .long ((-1)))]) X.x X.b (dk DX12_does_0 35 rfl) hl (by decide) rfl (fun ls hl => ?_)
      replace hl : lv_has ls 10 [(0, .ref (q 53)), (1, .int a0), (2, .int a1), (7, .long 0)] := lv_sub hl [1, 2, 3, 0] rfl
      refine lv_iload_n X.x X.b (dk DX12_does_0 36 rfl) rfl (lv_at hl 2 rfl) ?_
      refine lv_iconst (v := 1) X.x X.b (dk DX12_does_0 37 rfl) (by decide) ?_
      refine lv_iadd X.x X.b (dk DX12_does_0 38 rfl) ?_
      refine lv_topi (fun v82 e83 => ?_)
      replace hF := bnd_e hF e83
      refine lv_istore (lv' := [(9, .int v82), (0, .ref (q 53)), (1, .int a0), (2, .int a1), (7, .long 0)]) X.x X.b (dk DX12_does_0 39 rfl) hl (by decide) rfl (fun ls hl => ?_)
      replace hl : lv_has ls 10 [(0, .ref (q 53)), (1, .int a0), (7, .long 0), (9, .int v82)] := lv_sub hl [1, 2, 4, 0] rfl
      obtain ⟨x96, e97, hF⟩ := bd hF
      replace hl : lv_has ls 10 [(0, .ref (q 53)), (1, .int a0), (7, .long 0), (9, .int v82)] := lv_sub hl [0, 1, 2, 3] rfl
      obtain ⟨k100, v98, v99⟩ := x96
      try dsimp only at hF
      refine w_X12_does_61 hq X st a0 _ _ e97 _ _ _ hH hl (fun hk H locs ls hH hl => ?_) (fun hk H locs ls hH hl => ?_)
      · try dsimp only at hH hl
        try dsimp only at hk
        subst hk
        replace hF := if_t hF rfl
        refine lv_iconst (v := (-1)) X.x X.b (dk DX12_does_1 10 rfl) (by decide) ?_
        cases sm hF
        exact mr_iret X hr hlk hH ⟨rfl, rfl⟩ (dk DX12_does_1 11 rfl)
      · try dsimp only at hH hl
        try dsimp only at hk
        subst hk
        replace hF := if_f hF (by decide)
        refine lv_lload X.x X.b (dk DX12_does_1 27 rfl) (lv_at hl 1 rfl) ?_
        obtain ⟨x101, e102, hF⟩ := bd hF
        refine mr_ci0 hH ⟨rfl, rfl⟩ (mr_runS (As := [.long v98]) (rest := []) X hH (c_X12_ones e102) kM_X12_283 kT_X12_ones kN_X12 kC_X12_ones hd_X12_ones ⟨Nat.le_of_ble_eq_true rfl, Nat.le_of_ble_eq_true rfl⟩ rfl hl.1 (Nat.le_of_ble_eq_true rfl) (dk DX12_does_1 28 rfl) ⟨Nat.zero_le _, Nat.zero_le _⟩) (fun r h1 H locs hp hH => ?_)
        obtain ⟨hr1, hr2⟩ := hp; rw [hr1]; rw [hr2] at hH; clear hr1 hr2
        refine lv_iconst (v := 2) X.x X.b (dk DX12_does_1 29 rfl) (by decide) ?_
        refine lv_icmp_lt (tgt := 158) X.x X.b (dk DX12_does_1 30 rfl) (by decide) (fun c104 => ?_) (fun c104 => ?_)
        · replace hF := if_t hF c104
          refine lv_iconst (v := (-1)) X.x X.b (dk DX12_does_1 36 rfl) (by decide) ?_
          refine lv_goto (tgt := 164) X.x X.b (dk DX12_does_1 37 rfl) (by decide) ?_
          cases sm hF
          exact mr_iret X hr hlk hH ⟨rfl, rfl⟩ (dk DX12_does_1 39 rfl)
        · replace hF := if_f hF c104
          refine lv_aload_n X.x X.b (dk DX12_does_1 31 rfl) rfl (lv_at hl 0 rfl) ?_
          refine lv_lload X.x X.b (dk DX12_does_1 32 rfl) (lv_at hl 1 rfl) ?_
          obtain ⟨x105, e106, hF⟩ := bd hF
          refine mr_ci0 hH ⟨rfl, rfl⟩ (mr_runV (As := [.long v98]) (rest := []) X hH (c_X12_adds hq e106) ((oset_at hq (Nat.le_refl _) ohas_N).trans (congrArg some ocell_N)) OX12.1 kM_X12_420 kI_X12_adds kS_X12_adds kN_X12 kC_X12_adds hd_X12_adds ⟨Nat.le_of_ble_eq_true rfl, Nat.le_of_ble_eq_true rfl⟩ rfl hl.1 (Nat.le_of_ble_eq_true rfl) (dk DX12_does_1 33 rfl) ⟨Nat.zero_le _, Nat.zero_le _⟩) (fun r h1 H locs hp hH => ?_)
          obtain ⟨hr1, hr2⟩ := hp; rw [hr1]; rw [hr2] at hH; clear hr1 hr2
          obtain ⟨v107, t108⟩ := x105
          try dsimp only at hF hH ⊢
          refine lv_iconst (v := (-1)) X.x X.b (dk DX12_does_1 34 rfl) (by decide) ?_
          refine lv_icmp_ne (tgt := 162) X.x X.b (dk DX12_does_1 35 rfl) (by decide) (fun c109 => ?_) (fun c109 => ?_)
          · replace hF := if_f hF c109
            refine lv_iload X.x X.b (dk DX12_does_1 38 rfl) (lv_at hl 2 rfl) ?_
            cases sm hF
            exact mr_iret X hr hlk hH ⟨rfl, rfl⟩ (dk DX12_does_1 39 rfl)
          · replace hF := if_t hF c109
            refine lv_iconst (v := (-1)) X.x X.b (dk DX12_does_1 36 rfl) (by decide) ?_
            refine lv_goto (tgt := 164) X.x X.b (dk DX12_does_1 37 rfl) (by decide) ?_
            cases sm hF
            exact mr_iret X hr hlk hH ⟨rfl, rfl⟩ (dk DX12_does_1 39 rfl)
  · replace hF := if_f hF c5
    refine lv_aload_n X.x X.b (dk DX12_does_0 17 rfl) rfl (lv_at hl 0 rfl) ?_
    refine og_getR (t := 1) OX12 X hq hH 48 (by decide) rfl kF_X12_90 (dk DX12_does_0 18 rfl) ?_
    refine lv_bipush (v := 40) X.x X.b (dk DX12_does_0 19 rfl) (by decide) ?_
    refine lv_iload_n X.x X.b (dk DX12_does_0 20 rfl) rfl (lv_at hl 1 rfl) ?_
    refine lv_imul X.x X.b (dk DX12_does_0 21 rfl) ?_
    refine lv_iload_n X.x X.b (dk DX12_does_0 22 rfl) rfl (lv_at hl 2 rfl) ?_
    refine lv_iadd X.x X.b (dk DX12_does_0 23 rfl) ?_
    refine lv_iconst (v := 1) X.x X.b (dk DX12_does_0 24 rfl) (by decide) ?_
    refine lv_iadd X.x X.b (dk DX12_does_0 25 rfl) ?_
    obtain ⟨c110, hF⟩ := gd hF
    refine og_lald X hq hH 48 (by decide) rfl (inb_in c110) (dk DX12_does_0 26 rfl) ?_
    refine lv_goto (tgt := 43) X.x X.b (dk DX12_does_0 27 rfl) (by decide) ?_
    refine lv_topl (fun v111 e112 => ?_)
    replace hF := bnd_e hF e112
    refine lv_lstore (lv' := [(5, .long v111), (0, .ref (q 53)), (1, .int a0), (2, .int a1), (3, .long v2)]) X.x X.b (dk DX12_does_0 29 rfl) hl (by decide) rfl (fun ls hl => ?_)
    replace hl : lv_has ls 10 [(0, .ref (q 53)), (1, .int a0), (2, .int a1), (3, .long v2), (5, .long v111)] := lv_sub hl [1, 2, 3, 4, 0] rfl
    refine lv_lload_n X.x X.b (dk DX12_does_0 30 rfl) rfl (lv_at hl 3 rfl) ?_
    refine lv_ldc2 (v := (-1)) X.x X.b X.ow (X.ts _ kK_X12_109) (dk DX12_does_0 31 rfl) ?_
    refine W.lcmp X.x X.b (dk DX12_does_0 32 rfl) ?_
    refine lv_if_ne (tgt := 165) X.x X.b (dk DX12_does_0 33 rfl) (by decide) (fun c113 => ?_) (fun c113 => ?_)
    · replace hF := if_f hF c113
      refine lv_lload_n X.x X.b (dk DX12_does_1 40 rfl) rfl (lv_at hl 3 rfl) ?_
      refine lv_ldc2 (v := (-2)) X.x X.b X.ow (X.ts _ kK_X12_332) (dk DX12_does_1 41 rfl) ?_
      refine W.lcmp X.x X.b (dk DX12_does_1 42 rfl) ?_
      refine lv_if_ne (tgt := 203) X.x X.b (dk DX12_does_1 43 rfl) (by decide) (fun c114 => ?_) (fun c114 => ?_)
      · replace hF := if_f hF c114
        refine lv_lload_n X.x X.b (dk DX12_does_2 4 rfl) rfl (lv_at hl 3 rfl) ?_
        refine lv_ldc2 (v := (-4)) X.x X.b X.ow (X.ts _ kK_X12_441) (dk DX12_does_2 5 rfl) ?_
        refine W.lcmp X.x X.b (dk DX12_does_2 6 rfl) ?_
        refine lv_if_ne (tgt := 240) X.x X.b (dk DX12_does_2 7 rfl) (by decide) (fun c115 => ?_) (fun c115 => ?_)
        · replace hF := if_f hF c115
          refine lv_lload_n X.x X.b (dk DX12_does_2 27 rfl) rfl (lv_at hl 3 rfl) ?_
          refine lv_ldc2 (v := (-3)) X.x X.b X.ow (X.ts _ kK_X12_443) (dk DX12_does_2 28 rfl) ?_
          refine W.lcmp X.x X.b (dk DX12_does_2 29 rfl) ?_
          refine lv_if_ne (tgt := 252) X.x X.b (dk DX12_does_2 30 rfl) (by decide) (fun c116 => ?_) (fun c116 => ?_)
          · replace hF := if_f hF c116
            refine lv_lload_n X.x X.b (dk DX12_does_2 33 rfl) rfl (lv_at hl 3 rfl) ?_
            refine lv_ldc2 (v := (-3)) X.x X.b X.ow (X.ts _ kK_X12_443) (dk DX12_does_2 34 rfl) ?_
            refine W.lcmp X.x X.b (dk DX12_does_2 35 rfl) ?_
            refine lv_if_eq (tgt := 290) X.x X.b (dk DX12_does_2 36 rfl) (by decide) (fun c117 => ?_) (fun c117 => ?_)
            · replace hF := if_t hF c117
              refine lv_iconst (v := 1) X.x X.b (dk DX12_does_2 51 rfl) (by decide) ?_
              refine lv_goto (tgt := 295) X.x X.b (dk DX12_does_2 52 rfl) (by decide) ?_
              refine lv_istore (lv' := [(7, .int 1), (0, .ref (q 53)), (1, .int a0), (2, .int a1), (3, .long v2), (5, .long v111)]) X.x X.b (dk DX12_does_2 54 rfl) hl (by decide) rfl (fun ls hl => ?_)
              replace hl : lv_has ls 10 [(2, .int a1), (7, .int 1)] := lv_sub hl [3, 0] rfl
              refine lv_iload X.x X.b (dk DX12_does_2 55 rfl) (lv_at hl 1 rfl) ?_
              refine lv_if_eq (tgt := 308) X.x X.b (dk DX12_does_2 56 rfl) (by decide) (fun c118 => ?_) (fun c118 => ?_)
              · replace hF := if_t hF c118
                refine lv_iconst (v := (-1)) X.x X.b (dk DX12_does_3 1 rfl) (by decide) ?_
                cases sm hF
                exact mr_iret X hr hlk hH ⟨rfl, rfl⟩ (dk DX12_does_3 2 rfl)
              · replace hF := if_f hF c118
                refine lv_iload_n X.x X.b (dk DX12_does_2 57 rfl) rfl (lv_at hl 0 rfl) ?_
                refine lv_iconst (v := 1) X.x X.b (dk DX12_does_2 58 rfl) (by decide) ?_
                refine lv_iadd X.x X.b (dk DX12_does_2 59 rfl) ?_
                refine lv_goto (tgt := 309) X.x X.b (dk DX12_does_3 0 rfl) (by decide) ?_
                cases sm hF
                exact mr_iret X hr hlk hH ⟨rfl, rfl⟩ (dk DX12_does_3 2 rfl)
            · replace hF := if_f hF c117
              refine lv_lload_n X.x X.b (dk DX12_does_2 37 rfl) rfl (lv_at hl 3 rfl) ?_
              refine lv_ldc2 (v := (-5)) X.x X.b X.ow (X.ts _ kK_X12_445) (dk DX12_does_2 38 rfl) ?_
              refine W.lcmp X.x X.b (dk DX12_does_2 39 rfl) ?_
              refine lv_if_ne (tgt := 275) X.x X.b (dk DX12_does_2 40 rfl) (by decide) (fun c119 => ?_) (fun c119 => ?_)
              · replace hF := if_f hF c119
                refine lv_lload_n X.x X.b (dk DX12_does_2 44 rfl) rfl (lv_at hl 3 rfl) ?_
                refine lv_ldc2 (v := (-6)) X.x X.b X.ow (X.ts _ kK_X12_447) (dk DX12_does_2 45 rfl) ?_
                refine W.lcmp X.x X.b (dk DX12_does_2 46 rfl) ?_
                refine lv_if_ne (tgt := 294) X.x X.b (dk DX12_does_2 47 rfl) (by decide) (fun c120 => ?_) (fun c120 => ?_)
                · replace hF := if_f hF c120
                  refine lv_iconst (v := 0) X.x X.b (dk DX12_does_2 53 rfl) (by decide) ?_
                  refine lv_istore (lv' := [(7, .int 0), (0, .ref (q 53)), (1, .int a0), (2, .int a1), (3, .long v2), (5, .long v111)]) X.x X.b (dk DX12_does_2 54 rfl) hl (by decide) rfl (fun ls hl => ?_)
                  replace hl : lv_has ls 10 [(2, .int a1), (7, .int 0)] := lv_sub hl [3, 0] rfl
                  refine lv_iload X.x X.b (dk DX12_does_2 55 rfl) (lv_at hl 1 rfl) ?_
                  refine lv_if_eq (tgt := 308) X.x X.b (dk DX12_does_2 56 rfl) (by decide) (fun c121 => ?_) (fun c121 => ?_)
                  · replace hF := if_t hF c121
                    refine lv_iconst (v := (-1)) X.x X.b (dk DX12_does_3 1 rfl) (by decide) ?_
                    cases sm hF
                    exact mr_iret X hr hlk hH ⟨rfl, rfl⟩ (dk DX12_does_3 2 rfl)
                  · replace hF := if_f hF c121
                    refine lv_iload_n X.x X.b (dk DX12_does_2 57 rfl) rfl (lv_at hl 0 rfl) ?_
                    refine lv_iconst (v := 1) X.x X.b (dk DX12_does_2 58 rfl) (by decide) ?_
                    refine lv_iadd X.x X.b (dk DX12_does_2 59 rfl) ?_
                    refine lv_goto (tgt := 309) X.x X.b (dk DX12_does_3 0 rfl) (by decide) ?_
                    cases sm hF
                    exact mr_iret X hr hlk hH ⟨rfl, rfl⟩ (dk DX12_does_3 2 rfl)
                · replace hF := if_t hF c120
                  refine lv_aload_n X.x X.b (dk DX12_does_2 48 rfl) rfl (lv_at hl 0 rfl) ?_
                  obtain ⟨x122, e123, hF⟩ := bd hF
                  refine mr_ci0 hH ⟨rfl, rfl⟩ (mr_runV (As := []) (rest := []) X hH (c_X12_doesAgain hq e123) ((oset_at hq (Nat.le_refl _) ohas_N).trans (congrArg some ocell_N)) OX12.1 kM_X12_438 kI_X12_doesAgain kS_X12_doesAgain kN_X12 kC_X12_doesAgain hd_X12_doesAgain ⟨Nat.le_of_ble_eq_true rfl, Nat.le_of_ble_eq_true rfl⟩ rfl hl.1 (Nat.le_of_ble_eq_true rfl) (dk DX12_does_2 49 rfl) ⟨Nat.zero_le _, Nat.zero_le _⟩) (fun r h1 H locs hp hH => ?_)
                  obtain ⟨hr1, hr2⟩ := hp; rw [hr1]; rw [hr2] at hH; clear hr1 hr2
                  obtain ⟨v124, t125⟩ := x122
                  try dsimp only at hF hH ⊢
                  refine lv_if_eq (tgt := 294) X.x X.b (dk DX12_does_2 50 rfl) (by decide) (fun c126 => ?_) (fun c126 => ?_)
                  · replace hF := if_t hF c126
                    refine lv_iconst (v := 0) X.x X.b (dk DX12_does_2 53 rfl) (by decide) ?_
                    refine lv_istore (lv' := [(7, .int 0), (0, .ref (q 53)), (1, .int a0), (2, .int a1), (3, .long v2), (5, .long v111)]) X.x X.b (dk DX12_does_2 54 rfl) hl (by decide) rfl (fun ls hl => ?_)
                    replace hl : lv_has ls 10 [(2, .int a1), (7, .int 0)] := lv_sub hl [3, 0] rfl
                    refine lv_iload X.x X.b (dk DX12_does_2 55 rfl) (lv_at hl 1 rfl) ?_
                    refine lv_if_eq (tgt := 308) X.x X.b (dk DX12_does_2 56 rfl) (by decide) (fun c127 => ?_) (fun c127 => ?_)
                    · replace hF := if_t hF c127
                      refine lv_iconst (v := (-1)) X.x X.b (dk DX12_does_3 1 rfl) (by decide) ?_
                      cases sm hF
                      exact mr_iret X hr hlk hH ⟨rfl, rfl⟩ (dk DX12_does_3 2 rfl)
                    · replace hF := if_f hF c127
                      refine lv_iload_n X.x X.b (dk DX12_does_2 57 rfl) rfl (lv_at hl 0 rfl) ?_
                      refine lv_iconst (v := 1) X.x X.b (dk DX12_does_2 58 rfl) (by decide) ?_
                      refine lv_iadd X.x X.b (dk DX12_does_2 59 rfl) ?_
                      refine lv_goto (tgt := 309) X.x X.b (dk DX12_does_3 0 rfl) (by decide) ?_
                      cases sm hF
                      exact mr_iret X hr hlk hH ⟨rfl, rfl⟩ (dk DX12_does_3 2 rfl)
                  · replace hF := if_f hF c126
                    refine lv_iconst (v := 1) X.x X.b (dk DX12_does_2 51 rfl) (by decide) ?_
                    refine lv_goto (tgt := 295) X.x X.b (dk DX12_does_2 52 rfl) (by decide) ?_
                    refine lv_istore (lv' := [(7, .int 1), (0, .ref (q 53)), (1, .int a0), (2, .int a1), (3, .long v2), (5, .long v111)]) X.x X.b (dk DX12_does_2 54 rfl) hl (by decide) rfl (fun ls hl => ?_)
                    replace hl : lv_has ls 10 [(2, .int a1), (7, .int 1)] := lv_sub hl [3, 0] rfl
                    refine lv_iload X.x X.b (dk DX12_does_2 55 rfl) (lv_at hl 1 rfl) ?_
                    refine lv_if_eq (tgt := 308) X.x X.b (dk DX12_does_2 56 rfl) (by decide) (fun c128 => ?_) (fun c128 => ?_)
                    · replace hF := if_t hF c128
                      refine lv_iconst (v := (-1)) X.x X.b (dk DX12_does_3 1 rfl) (by decide) ?_
                      cases sm hF
                      exact mr_iret X hr hlk hH ⟨rfl, rfl⟩ (dk DX12_does_3 2 rfl)
                    · replace hF := if_f hF c128
                      refine lv_iload_n X.x X.b (dk DX12_does_2 57 rfl) rfl (lv_at hl 0 rfl) ?_
                      refine lv_iconst (v := 1) X.x X.b (dk DX12_does_2 58 rfl) (by decide) ?_
                      refine lv_iadd X.x X.b (dk DX12_does_2 59 rfl) ?_
                      refine lv_goto (tgt := 309) X.x X.b (dk DX12_does_3 0 rfl) (by decide) ?_
                      cases sm hF
                      exact mr_iret X hr hlk hH ⟨rfl, rfl⟩ (dk DX12_does_3 2 rfl)
              · replace hF := if_t hF c119
                refine lv_aload_n X.x X.b (dk DX12_does_2 41 rfl) rfl (lv_at hl 0 rfl) ?_
                obtain ⟨x129, e130, hF⟩ := bd hF
                refine mr_ci0 hH ⟨rfl, rfl⟩ (mr_runV (As := []) (rest := []) X hH (c_X12_undoes hq e130) ((oset_at hq (Nat.le_refl _) ohas_N).trans (congrArg some ocell_N)) OX12.1 kM_X12_435 kI_X12_undoes kS_X12_undoes kN_X12 kC_X12_undoes hd_X12_undoes ⟨Nat.le_of_ble_eq_true rfl, Nat.le_of_ble_eq_true rfl⟩ rfl hl.1 (Nat.le_of_ble_eq_true rfl) (dk DX12_does_2 42 rfl) ⟨Nat.zero_le _, Nat.zero_le _⟩) (fun r h1 H locs hp hH => ?_)
                obtain ⟨hr1, hr2⟩ := hp; rw [hr1]; rw [hr2] at hH; clear hr1 hr2
                obtain ⟨v131, t132⟩ := x129
                try dsimp only at hF hH ⊢
                refine lv_if_ne (tgt := 290) X.x X.b (dk DX12_does_2 43 rfl) (by decide) (fun c133 => ?_) (fun c133 => ?_)
                · replace hF := if_f hF c133
                  refine lv_iconst (v := 1) X.x X.b (dk DX12_does_2 51 rfl) (by decide) ?_
                  refine lv_goto (tgt := 295) X.x X.b (dk DX12_does_2 52 rfl) (by decide) ?_
                  refine lv_istore (lv' := [(7, .int 1), (0, .ref (q 53)), (1, .int a0), (2, .int a1), (3, .long v2), (5, .long v111)]) X.x X.b (dk DX12_does_2 54 rfl) hl (by decide) rfl (fun ls hl => ?_)
                  replace hl : lv_has ls 10 [(2, .int a1), (7, .int 1)] := lv_sub hl [3, 0] rfl
                  refine lv_iload X.x X.b (dk DX12_does_2 55 rfl) (lv_at hl 1 rfl) ?_
                  refine lv_if_eq (tgt := 308) X.x X.b (dk DX12_does_2 56 rfl) (by decide) (fun c134 => ?_) (fun c134 => ?_)
                  · replace hF := if_t hF c134
                    refine lv_iconst (v := (-1)) X.x X.b (dk DX12_does_3 1 rfl) (by decide) ?_
                    cases sm hF
                    exact mr_iret X hr hlk hH ⟨rfl, rfl⟩ (dk DX12_does_3 2 rfl)
                  · replace hF := if_f hF c134
                    refine lv_iload_n X.x X.b (dk DX12_does_2 57 rfl) rfl (lv_at hl 0 rfl) ?_
                    refine lv_iconst (v := 1) X.x X.b (dk DX12_does_2 58 rfl) (by decide) ?_
                    refine lv_iadd X.x X.b (dk DX12_does_2 59 rfl) ?_
                    refine lv_goto (tgt := 309) X.x X.b (dk DX12_does_3 0 rfl) (by decide) ?_
                    cases sm hF
                    exact mr_iret X hr hlk hH ⟨rfl, rfl⟩ (dk DX12_does_3 2 rfl)
                · replace hF := if_t hF c133
                  refine lv_lload_n X.x X.b (dk DX12_does_2 44 rfl) rfl (lv_at hl 3 rfl) ?_
                  refine lv_ldc2 (v := (-6)) X.x X.b X.ow (X.ts _ kK_X12_447) (dk DX12_does_2 45 rfl) ?_
                  refine W.lcmp X.x X.b (dk DX12_does_2 46 rfl) ?_
                  refine lv_if_ne (tgt := 294) X.x X.b (dk DX12_does_2 47 rfl) (by decide) (fun c135 => ?_) (fun c135 => ?_)
                  · replace hF := if_f hF c135
                    refine lv_iconst (v := 0) X.x X.b (dk DX12_does_2 53 rfl) (by decide) ?_
                    refine lv_istore (lv' := [(7, .int 0), (0, .ref (q 53)), (1, .int a0), (2, .int a1), (3, .long v2), (5, .long v111)]) X.x X.b (dk DX12_does_2 54 rfl) hl (by decide) rfl (fun ls hl => ?_)
                    replace hl : lv_has ls 10 [(2, .int a1), (7, .int 0)] := lv_sub hl [3, 0] rfl
                    refine lv_iload X.x X.b (dk DX12_does_2 55 rfl) (lv_at hl 1 rfl) ?_
                    refine lv_if_eq (tgt := 308) X.x X.b (dk DX12_does_2 56 rfl) (by decide) (fun c136 => ?_) (fun c136 => ?_)
                    · replace hF := if_t hF c136
                      refine lv_iconst (v := (-1)) X.x X.b (dk DX12_does_3 1 rfl) (by decide) ?_
                      cases sm hF
                      exact mr_iret X hr hlk hH ⟨rfl, rfl⟩ (dk DX12_does_3 2 rfl)
                    · replace hF := if_f hF c136
                      refine lv_iload_n X.x X.b (dk DX12_does_2 57 rfl) rfl (lv_at hl 0 rfl) ?_
                      refine lv_iconst (v := 1) X.x X.b (dk DX12_does_2 58 rfl) (by decide) ?_
                      refine lv_iadd X.x X.b (dk DX12_does_2 59 rfl) ?_
                      refine lv_goto (tgt := 309) X.x X.b (dk DX12_does_3 0 rfl) (by decide) ?_
                      cases sm hF
                      exact mr_iret X hr hlk hH ⟨rfl, rfl⟩ (dk DX12_does_3 2 rfl)
                  · replace hF := if_t hF c135
                    refine lv_aload_n X.x X.b (dk DX12_does_2 48 rfl) rfl (lv_at hl 0 rfl) ?_
                    obtain ⟨x137, e138, hF⟩ := bd hF
                    refine mr_ci0 hH ⟨rfl, rfl⟩ (mr_runV (As := []) (rest := []) X hH (c_X12_doesAgain hq e138) ((oset_at hq (Nat.le_refl _) ohas_N).trans (congrArg some ocell_N)) OX12.1 kM_X12_438 kI_X12_doesAgain kS_X12_doesAgain kN_X12 kC_X12_doesAgain hd_X12_doesAgain ⟨Nat.le_of_ble_eq_true rfl, Nat.le_of_ble_eq_true rfl⟩ rfl hl.1 (Nat.le_of_ble_eq_true rfl) (dk DX12_does_2 49 rfl) ⟨Nat.zero_le _, Nat.zero_le _⟩) (fun r h1 H locs hp hH => ?_)
                    obtain ⟨hr1, hr2⟩ := hp; rw [hr1]; rw [hr2] at hH; clear hr1 hr2
                    obtain ⟨v139, t140⟩ := x137
                    try dsimp only at hF hH ⊢
                    refine lv_if_eq (tgt := 294) X.x X.b (dk DX12_does_2 50 rfl) (by decide) (fun c141 => ?_) (fun c141 => ?_)
                    · replace hF := if_t hF c141
                      refine lv_iconst (v := 0) X.x X.b (dk DX12_does_2 53 rfl) (by decide) ?_
                      refine lv_istore (lv' := [(7, .int 0), (0, .ref (q 53)), (1, .int a0), (2, .int a1), (3, .long v2), (5, .long v111)]) X.x X.b (dk DX12_does_2 54 rfl) hl (by decide) rfl (fun ls hl => ?_)
                      replace hl : lv_has ls 10 [(2, .int a1), (7, .int 0)] := lv_sub hl [3, 0] rfl
                      refine lv_iload X.x X.b (dk DX12_does_2 55 rfl) (lv_at hl 1 rfl) ?_
                      refine lv_if_eq (tgt := 308) X.x X.b (dk DX12_does_2 56 rfl) (by decide) (fun c142 => ?_) (fun c142 => ?_)
                      · replace hF := if_t hF c142
                        refine lv_iconst (v := (-1)) X.x X.b (dk DX12_does_3 1 rfl) (by decide) ?_
                        cases sm hF
                        exact mr_iret X hr hlk hH ⟨rfl, rfl⟩ (dk DX12_does_3 2 rfl)
                      · replace hF := if_f hF c142
                        refine lv_iload_n X.x X.b (dk DX12_does_2 57 rfl) rfl (lv_at hl 0 rfl) ?_
                        refine lv_iconst (v := 1) X.x X.b (dk DX12_does_2 58 rfl) (by decide) ?_
                        refine lv_iadd X.x X.b (dk DX12_does_2 59 rfl) ?_
                        refine lv_goto (tgt := 309) X.x X.b (dk DX12_does_3 0 rfl) (by decide) ?_
                        cases sm hF
                        exact mr_iret X hr hlk hH ⟨rfl, rfl⟩ (dk DX12_does_3 2 rfl)
                    · replace hF := if_f hF c141
                      refine lv_iconst (v := 1) X.x X.b (dk DX12_does_2 51 rfl) (by decide) ?_
                      refine lv_goto (tgt := 295) X.x X.b (dk DX12_does_2 52 rfl) (by decide) ?_
                      refine lv_istore (lv' := [(7, .int 1), (0, .ref (q 53)), (1, .int a0), (2, .int a1), (3, .long v2), (5, .long v111)]) X.x X.b (dk DX12_does_2 54 rfl) hl (by decide) rfl (fun ls hl => ?_)
                      replace hl : lv_has ls 10 [(2, .int a1), (7, .int 1)] := lv_sub hl [3, 0] rfl
                      refine lv_iload X.x X.b (dk DX12_does_2 55 rfl) (lv_at hl 1 rfl) ?_
                      refine lv_if_eq (tgt := 308) X.x X.b (dk DX12_does_2 56 rfl) (by decide) (fun c143 => ?_) (fun c143 => ?_)
                      · replace hF := if_t hF c143
                        refine lv_iconst (v := (-1)) X.x X.b (dk DX12_does_3 1 rfl) (by decide) ?_
                        cases sm hF
                        exact mr_iret X hr hlk hH ⟨rfl, rfl⟩ (dk DX12_does_3 2 rfl)
                      · replace hF := if_f hF c143
                        refine lv_iload_n X.x X.b (dk DX12_does_2 57 rfl) rfl (lv_at hl 0 rfl) ?_
                        refine lv_iconst (v := 1) X.x X.b (dk DX12_does_2 58 rfl) (by decide) ?_
                        refine lv_iadd X.x X.b (dk DX12_does_2 59 rfl) ?_
                        refine lv_goto (tgt := 309) X.x X.b (dk DX12_does_3 0 rfl) (by decide) ?_
                        cases sm hF
                        exact mr_iret X hr hlk hH ⟨rfl, rfl⟩ (dk DX12_does_3 2 rfl)
          · replace hF := if_t hF c116
            refine lv_aload_n X.x X.b (dk DX12_does_2 31 rfl) rfl (lv_at hl 0 rfl) ?_
            obtain ⟨x144, e145, hF⟩ := bd hF
            refine mr_cv0 hH ⟨rfl, rfl⟩ (mr_runV (As := []) (rest := []) X hH (c_X12_duals hq e145) ((oset_at hq (Nat.le_refl _) ohas_N).trans (congrArg some ocell_N)) OX12.1 kM_X12_426 kI_X12_duals kS_X12_duals kN_X12 kC_X12_duals hd_X12_duals ⟨Nat.le_of_ble_eq_true rfl, Nat.le_of_ble_eq_true rfl⟩ rfl hl.1 (Nat.le_of_ble_eq_true rfl) (dk DX12_does_2 32 rfl) ⟨Nat.zero_le _, Nat.zero_le _⟩) (fun h1 H locs hp hH => ?_)
            rw [hp] at hH; clear hp
            refine lv_lload_n X.x X.b (dk DX12_does_2 33 rfl) rfl (lv_at hl 3 rfl) ?_
            refine lv_ldc2 (v := (-3)) X.x X.b X.ow (X.ts _ kK_X12_443) (dk DX12_does_2 34 rfl) ?_
            refine W.lcmp X.x X.b (dk DX12_does_2 35 rfl) ?_
            refine lv_if_eq (tgt := 290) X.x X.b (dk DX12_does_2 36 rfl) (by decide) (fun c147 => ?_) (fun c147 => ?_)
            · replace hF := if_t hF c147
              refine lv_iconst (v := 1) X.x X.b (dk DX12_does_2 51 rfl) (by decide) ?_
              refine lv_goto (tgt := 295) X.x X.b (dk DX12_does_2 52 rfl) (by decide) ?_
              refine lv_istore (lv' := [(7, .int 1), (0, .ref (q 53)), (1, .int a0), (2, .int a1), (3, .long v2), (5, .long v111)]) X.x X.b (dk DX12_does_2 54 rfl) hl (by decide) rfl (fun ls hl => ?_)
              replace hl : lv_has ls 10 [(2, .int a1), (7, .int 1)] := lv_sub hl [3, 0] rfl
              refine lv_iload X.x X.b (dk DX12_does_2 55 rfl) (lv_at hl 1 rfl) ?_
              refine lv_if_eq (tgt := 308) X.x X.b (dk DX12_does_2 56 rfl) (by decide) (fun c148 => ?_) (fun c148 => ?_)
              · replace hF := if_t hF c148
                refine lv_iconst (v := (-1)) X.x X.b (dk DX12_does_3 1 rfl) (by decide) ?_
                cases sm hF
                exact mr_iret X hr hlk hH ⟨rfl, rfl⟩ (dk DX12_does_3 2 rfl)
              · replace hF := if_f hF c148
                refine lv_iload_n X.x X.b (dk DX12_does_2 57 rfl) rfl (lv_at hl 0 rfl) ?_
                refine lv_iconst (v := 1) X.x X.b (dk DX12_does_2 58 rfl) (by decide) ?_
                refine lv_iadd X.x X.b (dk DX12_does_2 59 rfl) ?_
                refine lv_goto (tgt := 309) X.x X.b (dk DX12_does_3 0 rfl) (by decide) ?_
                cases sm hF
                exact mr_iret X hr hlk hH ⟨rfl, rfl⟩ (dk DX12_does_3 2 rfl)
            · replace hF := if_f hF c147
              refine lv_lload_n X.x X.b (dk DX12_does_2 37 rfl) rfl (lv_at hl 3 rfl) ?_
              refine lv_ldc2 (v := (-5)) X.x X.b X.ow (X.ts _ kK_X12_445) (dk DX12_does_2 38 rfl) ?_
              refine W.lcmp X.x X.b (dk DX12_does_2 39 rfl) ?_
              refine lv_if_ne (tgt := 275) X.x X.b (dk DX12_does_2 40 rfl) (by decide) (fun c149 => ?_) (fun c149 => ?_)
              · replace hF := if_f hF c149
                refine lv_lload_n X.x X.b (dk DX12_does_2 44 rfl) rfl (lv_at hl 3 rfl) ?_
                refine lv_ldc2 (v := (-6)) X.x X.b X.ow (X.ts _ kK_X12_447) (dk DX12_does_2 45 rfl) ?_
                refine W.lcmp X.x X.b (dk DX12_does_2 46 rfl) ?_
                refine lv_if_ne (tgt := 294) X.x X.b (dk DX12_does_2 47 rfl) (by decide) (fun c150 => ?_) (fun c150 => ?_)
                · replace hF := if_f hF c150
                  refine lv_iconst (v := 0) X.x X.b (dk DX12_does_2 53 rfl) (by decide) ?_
                  refine lv_istore (lv' := [(7, .int 0), (0, .ref (q 53)), (1, .int a0), (2, .int a1), (3, .long v2), (5, .long v111)]) X.x X.b (dk DX12_does_2 54 rfl) hl (by decide) rfl (fun ls hl => ?_)
                  replace hl : lv_has ls 10 [(2, .int a1), (7, .int 0)] := lv_sub hl [3, 0] rfl
                  refine lv_iload X.x X.b (dk DX12_does_2 55 rfl) (lv_at hl 1 rfl) ?_
                  refine lv_if_eq (tgt := 308) X.x X.b (dk DX12_does_2 56 rfl) (by decide) (fun c151 => ?_) (fun c151 => ?_)
                  · replace hF := if_t hF c151
                    refine lv_iconst (v := (-1)) X.x X.b (dk DX12_does_3 1 rfl) (by decide) ?_
                    cases sm hF
                    exact mr_iret X hr hlk hH ⟨rfl, rfl⟩ (dk DX12_does_3 2 rfl)
                  · replace hF := if_f hF c151
                    refine lv_iload_n X.x X.b (dk DX12_does_2 57 rfl) rfl (lv_at hl 0 rfl) ?_
                    refine lv_iconst (v := 1) X.x X.b (dk DX12_does_2 58 rfl) (by decide) ?_
                    refine lv_iadd X.x X.b (dk DX12_does_2 59 rfl) ?_
                    refine lv_goto (tgt := 309) X.x X.b (dk DX12_does_3 0 rfl) (by decide) ?_
                    cases sm hF
                    exact mr_iret X hr hlk hH ⟨rfl, rfl⟩ (dk DX12_does_3 2 rfl)
                · replace hF := if_t hF c150
                  refine lv_aload_n X.x X.b (dk DX12_does_2 48 rfl) rfl (lv_at hl 0 rfl) ?_
                  obtain ⟨x152, e153, hF⟩ := bd hF
                  refine mr_ci0 hH ⟨rfl, rfl⟩ (mr_runV (As := []) (rest := []) X hH (c_X12_doesAgain hq e153) ((oset_at hq (Nat.le_refl _) ohas_N).trans (congrArg some ocell_N)) OX12.1 kM_X12_438 kI_X12_doesAgain kS_X12_doesAgain kN_X12 kC_X12_doesAgain hd_X12_doesAgain ⟨Nat.le_of_ble_eq_true rfl, Nat.le_of_ble_eq_true rfl⟩ rfl hl.1 (Nat.le_of_ble_eq_true rfl) (dk DX12_does_2 49 rfl) ⟨Nat.zero_le _, Nat.zero_le _⟩) (fun r h1 H locs hp hH => ?_)
                  obtain ⟨hr1, hr2⟩ := hp; rw [hr1]; rw [hr2] at hH; clear hr1 hr2
                  obtain ⟨v154, t155⟩ := x152
                  try dsimp only at hF hH ⊢
                  refine lv_if_eq (tgt := 294) X.x X.b (dk DX12_does_2 50 rfl) (by decide) (fun c156 => ?_) (fun c156 => ?_)
                  · replace hF := if_t hF c156
                    refine lv_iconst (v := 0) X.x X.b (dk DX12_does_2 53 rfl) (by decide) ?_
                    refine lv_istore (lv' := [(7, .int 0), (0, .ref (q 53)), (1, .int a0), (2, .int a1), (3, .long v2), (5, .long v111)]) X.x X.b (dk DX12_does_2 54 rfl) hl (by decide) rfl (fun ls hl => ?_)
                    replace hl : lv_has ls 10 [(2, .int a1), (7, .int 0)] := lv_sub hl [3, 0] rfl
                    refine lv_iload X.x X.b (dk DX12_does_2 55 rfl) (lv_at hl 1 rfl) ?_
                    refine lv_if_eq (tgt := 308) X.x X.b (dk DX12_does_2 56 rfl) (by decide) (fun c157 => ?_) (fun c157 => ?_)
                    · replace hF := if_t hF c157
                      refine lv_iconst (v := (-1)) X.x X.b (dk DX12_does_3 1 rfl) (by decide) ?_
                      cases sm hF
                      exact mr_iret X hr hlk hH ⟨rfl, rfl⟩ (dk DX12_does_3 2 rfl)
                    · replace hF := if_f hF c157
                      refine lv_iload_n X.x X.b (dk DX12_does_2 57 rfl) rfl (lv_at hl 0 rfl) ?_
                      refine lv_iconst (v := 1) X.x X.b (dk DX12_does_2 58 rfl) (by decide) ?_
                      refine lv_iadd X.x X.b (dk DX12_does_2 59 rfl) ?_
                      refine lv_goto (tgt := 309) X.x X.b (dk DX12_does_3 0 rfl) (by decide) ?_
                      cases sm hF
                      exact mr_iret X hr hlk hH ⟨rfl, rfl⟩ (dk DX12_does_3 2 rfl)
                  · replace hF := if_f hF c156
                    refine lv_iconst (v := 1) X.x X.b (dk DX12_does_2 51 rfl) (by decide) ?_
                    refine lv_goto (tgt := 295) X.x X.b (dk DX12_does_2 52 rfl) (by decide) ?_
                    refine lv_istore (lv' := [(7, .int 1), (0, .ref (q 53)), (1, .int a0), (2, .int a1), (3, .long v2), (5, .long v111)]) X.x X.b (dk DX12_does_2 54 rfl) hl (by decide) rfl (fun ls hl => ?_)
                    replace hl : lv_has ls 10 [(2, .int a1), (7, .int 1)] := lv_sub hl [3, 0] rfl
                    refine lv_iload X.x X.b (dk DX12_does_2 55 rfl) (lv_at hl 1 rfl) ?_
                    refine lv_if_eq (tgt := 308) X.x X.b (dk DX12_does_2 56 rfl) (by decide) (fun c158 => ?_) (fun c158 => ?_)
                    · replace hF := if_t hF c158
                      refine lv_iconst (v := (-1)) X.x X.b (dk DX12_does_3 1 rfl) (by decide) ?_
                      cases sm hF
                      exact mr_iret X hr hlk hH ⟨rfl, rfl⟩ (dk DX12_does_3 2 rfl)
                    · replace hF := if_f hF c158
                      refine lv_iload_n X.x X.b (dk DX12_does_2 57 rfl) rfl (lv_at hl 0 rfl) ?_
                      refine lv_iconst (v := 1) X.x X.b (dk DX12_does_2 58 rfl) (by decide) ?_
                      refine lv_iadd X.x X.b (dk DX12_does_2 59 rfl) ?_
                      refine lv_goto (tgt := 309) X.x X.b (dk DX12_does_3 0 rfl) (by decide) ?_
                      cases sm hF
                      exact mr_iret X hr hlk hH ⟨rfl, rfl⟩ (dk DX12_does_3 2 rfl)
              · replace hF := if_t hF c149
                refine lv_aload_n X.x X.b (dk DX12_does_2 41 rfl) rfl (lv_at hl 0 rfl) ?_
                obtain ⟨x159, e160, hF⟩ := bd hF
                refine mr_ci0 hH ⟨rfl, rfl⟩ (mr_runV (As := []) (rest := []) X hH (c_X12_undoes hq e160) ((oset_at hq (Nat.le_refl _) ohas_N).trans (congrArg some ocell_N)) OX12.1 kM_X12_435 kI_X12_undoes kS_X12_undoes kN_X12 kC_X12_undoes hd_X12_undoes ⟨Nat.le_of_ble_eq_true rfl, Nat.le_of_ble_eq_true rfl⟩ rfl hl.1 (Nat.le_of_ble_eq_true rfl) (dk DX12_does_2 42 rfl) ⟨Nat.zero_le _, Nat.zero_le _⟩) (fun r h1 H locs hp hH => ?_)
                obtain ⟨hr1, hr2⟩ := hp; rw [hr1]; rw [hr2] at hH; clear hr1 hr2
                obtain ⟨v161, t162⟩ := x159
                try dsimp only at hF hH ⊢
                refine lv_if_ne (tgt := 290) X.x X.b (dk DX12_does_2 43 rfl) (by decide) (fun c163 => ?_) (fun c163 => ?_)
                · replace hF := if_f hF c163
                  refine lv_iconst (v := 1) X.x X.b (dk DX12_does_2 51 rfl) (by decide) ?_
                  refine lv_goto (tgt := 295) X.x X.b (dk DX12_does_2 52 rfl) (by decide) ?_
                  refine lv_istore (lv' := [(7, .int 1), (0, .ref (q 53)), (1, .int a0), (2, .int a1), (3, .long v2), (5, .long v111)]) X.x X.b (dk DX12_does_2 54 rfl) hl (by decide) rfl (fun ls hl => ?_)
                  replace hl : lv_has ls 10 [(2, .int a1), (7, .int 1)] := lv_sub hl [3, 0] rfl
                  refine lv_iload X.x X.b (dk DX12_does_2 55 rfl) (lv_at hl 1 rfl) ?_
                  refine lv_if_eq (tgt := 308) X.x X.b (dk DX12_does_2 56 rfl) (by decide) (fun c164 => ?_) (fun c164 => ?_)
                  · replace hF := if_t hF c164
                    refine lv_iconst (v := (-1)) X.x X.b (dk DX12_does_3 1 rfl) (by decide) ?_
                    cases sm hF
                    exact mr_iret X hr hlk hH ⟨rfl, rfl⟩ (dk DX12_does_3 2 rfl)
                  · replace hF := if_f hF c164
                    refine lv_iload_n X.x X.b (dk DX12_does_2 57 rfl) rfl (lv_at hl 0 rfl) ?_
                    refine lv_iconst (v := 1) X.x X.b (dk DX12_does_2 58 rfl) (by decide) ?_
                    refine lv_iadd X.x X.b (dk DX12_does_2 59 rfl) ?_
                    refine lv_goto (tgt := 309) X.x X.b (dk DX12_does_3 0 rfl) (by decide) ?_
                    cases sm hF
                    exact mr_iret X hr hlk hH ⟨rfl, rfl⟩ (dk DX12_does_3 2 rfl)
                · replace hF := if_t hF c163
                  refine lv_lload_n X.x X.b (dk DX12_does_2 44 rfl) rfl (lv_at hl 3 rfl) ?_
                  refine lv_ldc2 (v := (-6)) X.x X.b X.ow (X.ts _ kK_X12_447) (dk DX12_does_2 45 rfl) ?_
                  refine W.lcmp X.x X.b (dk DX12_does_2 46 rfl) ?_
                  refine lv_if_ne (tgt := 294) X.x X.b (dk DX12_does_2 47 rfl) (by decide) (fun c165 => ?_) (fun c165 => ?_)
                  · replace hF := if_f hF c165
                    refine lv_iconst (v := 0) X.x X.b (dk DX12_does_2 53 rfl) (by decide) ?_
                    refine lv_istore (lv' := [(7, .int 0), (0, .ref (q 53)), (1, .int a0), (2, .int a1), (3, .long v2), (5, .long v111)]) X.x X.b (dk DX12_does_2 54 rfl) hl (by decide) rfl (fun ls hl => ?_)
                    replace hl : lv_has ls 10 [(2, .int a1), (7, .int 0)] := lv_sub hl [3, 0] rfl
                    refine lv_iload X.x X.b (dk DX12_does_2 55 rfl) (lv_at hl 1 rfl) ?_
                    refine lv_if_eq (tgt := 308) X.x X.b (dk DX12_does_2 56 rfl) (by decide) (fun c166 => ?_) (fun c166 => ?_)
                    · replace hF := if_t hF c166
                      refine lv_iconst (v := (-1)) X.x X.b (dk DX12_does_3 1 rfl) (by decide) ?_
                      cases sm hF
                      exact mr_iret X hr hlk hH ⟨rfl, rfl⟩ (dk DX12_does_3 2 rfl)
                    · replace hF := if_f hF c166
                      refine lv_iload_n X.x X.b (dk DX12_does_2 57 rfl) rfl (lv_at hl 0 rfl) ?_
                      refine lv_iconst (v := 1) X.x X.b (dk DX12_does_2 58 rfl) (by decide) ?_
                      refine lv_iadd X.x X.b (dk DX12_does_2 59 rfl) ?_
                      refine lv_goto (tgt := 309) X.x X.b (dk DX12_does_3 0 rfl) (by decide) ?_
                      cases sm hF
                      exact mr_iret X hr hlk hH ⟨rfl, rfl⟩ (dk DX12_does_3 2 rfl)
                  · replace hF := if_t hF c165
                    refine lv_aload_n X.x X.b (dk DX12_does_2 48 rfl) rfl (lv_at hl 0 rfl) ?_
                    obtain ⟨x167, e168, hF⟩ := bd hF
                    refine mr_ci0 hH ⟨rfl, rfl⟩ (mr_runV (As := []) (rest := []) X hH (c_X12_doesAgain hq e168) ((oset_at hq (Nat.le_refl _) ohas_N).trans (congrArg some ocell_N)) OX12.1 kM_X12_438 kI_X12_doesAgain kS_X12_doesAgain kN_X12 kC_X12_doesAgain hd_X12_doesAgain ⟨Nat.le_of_ble_eq_true rfl, Nat.le_of_ble_eq_true rfl⟩ rfl hl.1 (Nat.le_of_ble_eq_true rfl) (dk DX12_does_2 49 rfl) ⟨Nat.zero_le _, Nat.zero_le _⟩) (fun r h1 H locs hp hH => ?_)
                    obtain ⟨hr1, hr2⟩ := hp; rw [hr1]; rw [hr2] at hH; clear hr1 hr2
                    obtain ⟨v169, t170⟩ := x167
                    try dsimp only at hF hH ⊢
                    refine lv_if_eq (tgt := 294) X.x X.b (dk DX12_does_2 50 rfl) (by decide) (fun c171 => ?_) (fun c171 => ?_)
                    · replace hF := if_t hF c171
                      refine lv_iconst (v := 0) X.x X.b (dk DX12_does_2 53 rfl) (by decide) ?_
                      refine lv_istore (lv' := [(7, .int 0), (0, .ref (q 53)), (1, .int a0), (2, .int a1), (3, .long v2), (5, .long v111)]) X.x X.b (dk DX12_does_2 54 rfl) hl (by decide) rfl (fun ls hl => ?_)
                      replace hl : lv_has ls 10 [(2, .int a1), (7, .int 0)] := lv_sub hl [3, 0] rfl
                      refine lv_iload X.x X.b (dk DX12_does_2 55 rfl) (lv_at hl 1 rfl) ?_
                      refine lv_if_eq (tgt := 308) X.x X.b (dk DX12_does_2 56 rfl) (by decide) (fun c172 => ?_) (fun c172 => ?_)
                      · replace hF := if_t hF c172
                        refine lv_iconst (v := (-1)) X.x X.b (dk DX12_does_3 1 rfl) (by decide) ?_
                        cases sm hF
                        exact mr_iret X hr hlk hH ⟨rfl, rfl⟩ (dk DX12_does_3 2 rfl)
                      · replace hF := if_f hF c172
                        refine lv_iload_n X.x X.b (dk DX12_does_2 57 rfl) rfl (lv_at hl 0 rfl) ?_
                        refine lv_iconst (v := 1) X.x X.b (dk DX12_does_2 58 rfl) (by decide) ?_
                        refine lv_iadd X.x X.b (dk DX12_does_2 59 rfl) ?_
                        refine lv_goto (tgt := 309) X.x X.b (dk DX12_does_3 0 rfl) (by decide) ?_
                        cases sm hF
                        exact mr_iret X hr hlk hH ⟨rfl, rfl⟩ (dk DX12_does_3 2 rfl)
                    · replace hF := if_f hF c171
                      refine lv_iconst (v := 1) X.x X.b (dk DX12_does_2 51 rfl) (by decide) ?_
                      refine lv_goto (tgt := 295) X.x X.b (dk DX12_does_2 52 rfl) (by decide) ?_
                      refine lv_istore (lv' := [(7, .int 1), (0, .ref (q 53)), (1, .int a0), (2, .int a1), (3, .long v2), (5, .long v111)]) X.x X.b (dk DX12_does_2 54 rfl) hl (by decide) rfl (fun ls hl => ?_)
                      replace hl : lv_has ls 10 [(2, .int a1), (7, .int 1)] := lv_sub hl [3, 0] rfl
                      refine lv_iload X.x X.b (dk DX12_does_2 55 rfl) (lv_at hl 1 rfl) ?_
                      refine lv_if_eq (tgt := 308) X.x X.b (dk DX12_does_2 56 rfl) (by decide) (fun c173 => ?_) (fun c173 => ?_)
                      · replace hF := if_t hF c173
                        refine lv_iconst (v := (-1)) X.x X.b (dk DX12_does_3 1 rfl) (by decide) ?_
                        cases sm hF
                        exact mr_iret X hr hlk hH ⟨rfl, rfl⟩ (dk DX12_does_3 2 rfl)
                      · replace hF := if_f hF c173
                        refine lv_iload_n X.x X.b (dk DX12_does_2 57 rfl) rfl (lv_at hl 0 rfl) ?_
                        refine lv_iconst (v := 1) X.x X.b (dk DX12_does_2 58 rfl) (by decide) ?_
                        refine lv_iadd X.x X.b (dk DX12_does_2 59 rfl) ?_
                        refine lv_goto (tgt := 309) X.x X.b (dk DX12_does_3 0 rfl) (by decide) ?_
                        cases sm hF
                        exact mr_iret X hr hlk hH ⟨rfl, rfl⟩ (dk DX12_does_3 2 rfl)
        · replace hF := if_t hF c115
          refine lv_lload X.x X.b (dk DX12_does_2 8 rfl) (lv_at hl 4 rfl) ?_
          refine lv_lconst (v := 0) X.x X.b (dk DX12_does_2 9 rfl) (by decide) ?_
          refine lv_aload_n X.x X.b (dk DX12_does_2 10 rfl) rfl (lv_at hl 0 rfl) ?_
          refine og_getI OX12 X hq hH 0 (by decide) rfl kF_X12_248 (dk DX12_does_2 11 rfl) ?_
          refine lv_iconst (v := 1) X.x X.b (dk DX12_does_2 12 rfl) (by decide) ?_
          refine lv_isub X.x X.b (dk DX12_does_2 13 rfl) ?_
          refine lv_i2l X.x X.b (dk DX12_does_2 14 rfl) rfl ?_
          obtain ⟨x174, e175, hF⟩ := bd hF
          refine mr_ci0 hH ⟨rfl, rfl⟩ (mr_runS (As := [.long v111, .long 0, .long (((st.1 0) - 1 : Int32).toInt64)]) (rest := []) X hH (c_X12_within e175) kM_X12_171 kT_X12_within kN_X12 kC_X12_within hd_X12_within ⟨Nat.le_of_ble_eq_true rfl, Nat.le_of_ble_eq_true rfl⟩ rfl hl.1 (Nat.le_of_ble_eq_true rfl) (dk DX12_does_2 15 rfl) ⟨Nat.zero_le _, Nat.zero_le _⟩) (fun r h1 H locs hp hH => ?_)
          obtain ⟨hr1, hr2⟩ := hp; rw [hr1]; rw [hr2] at hH; clear hr1 hr2
          refine lv_if_ne (tgt := 229) X.x X.b (dk DX12_does_2 16 rfl) (by decide) (fun c177 => ?_) (fun c177 => ?_)
          · replace hF := if_f hF c177
            refine lv_aload_n X.x X.b (dk DX12_does_2 19 rfl) rfl (lv_at hl 0 rfl) ?_
            refine lv_lload X.x X.b (dk DX12_does_2 20 rfl) (lv_at hl 4 rfl) ?_
            refine lv_l2i X.x X.b (dk DX12_does_2 21 rfl) rfl ?_
            obtain ⟨x178, e179, hF⟩ := bd hF
            refine mr_cv0 hH ⟨rfl, rfl⟩ (mr_runV (As := [.int ((v111 : Int64).toInt32)]) (rest := []) X hH (c_X12_leaves hq e179) ((oset_at hq (Nat.le_refl _) ohas_N).trans (congrArg some ocell_N)) OX12.1 kM_X12_429 kI_X12_leaves kS_X12_leaves kN_X12 kC_X12_leaves hd_X12_leaves ⟨Nat.le_of_ble_eq_true rfl, Nat.le_of_ble_eq_true rfl⟩ rfl hl.1 (Nat.le_of_ble_eq_true rfl) (dk DX12_does_2 22 rfl) ⟨Nat.zero_le _, Nat.zero_le _⟩) (fun h1 H locs hp hH => ?_)
            rw [hp] at hH; clear hp
            refine lv_iload_n X.x X.b (dk DX12_does_2 23 rfl) rfl (lv_at hl 2 rfl) ?_
            refine lv_iconst (v := 2) X.x X.b (dk DX12_does_2 24 rfl) (by decide) ?_
            refine lv_iadd X.x X.b (dk DX12_does_2 25 rfl) ?_
            cases sm hF
            exact mr_iret X hr hlk hH ⟨rfl, rfl⟩ (dk DX12_does_2 26 rfl)
          · replace hF := if_t hF c177
            refine lv_iconst (v := (-1)) X.x X.b (dk DX12_does_2 17 rfl) (by decide) ?_
            cases sm hF
            exact mr_iret X hr hlk hH ⟨rfl, rfl⟩ (dk DX12_does_2 18 rfl)
      · replace hF := if_t hF c114
        refine lv_lload X.x X.b (dk DX12_does_1 44 rfl) (lv_at hl 4 rfl) ?_
        refine lv_lconst (v := 0) X.x X.b (dk DX12_does_1 45 rfl) (by decide) ?_
        refine lv_aload_n X.x X.b (dk DX12_does_1 46 rfl) rfl (lv_at hl 0 rfl) ?_
        refine og_getI OX12 X hq hH 1 (by decide) rfl kF_X12_250 (dk DX12_does_1 47 rfl) ?_
        refine lv_iconst (v := 1) X.x X.b (dk DX12_does_1 48 rfl) (by decide) ?_
        refine lv_isub X.x X.b (dk DX12_does_1 49 rfl) ?_
        refine lv_i2l X.x X.b (dk DX12_does_1 50 rfl) rfl ?_
        obtain ⟨x181, e182, hF⟩ := bd hF
        refine mr_ci0 hH ⟨rfl, rfl⟩ (mr_runS (As := [.long v111, .long 0, .long (((st.1 1) - 1 : Int32).toInt64)]) (rest := []) X hH (c_X12_within e182) kM_X12_171 kT_X12_within kN_X12 kC_X12_within hd_X12_within ⟨Nat.le_of_ble_eq_true rfl, Nat.le_of_ble_eq_true rfl⟩ rfl hl.1 (Nat.le_of_ble_eq_true rfl) (dk DX12_does_1 51 rfl) ⟨Nat.zero_le _, Nat.zero_le _⟩) (fun r h1 H locs hp hH => ?_)
        obtain ⟨hr1, hr2⟩ := hp; rw [hr1]; rw [hr2] at hH; clear hr1 hr2
        refine lv_if_ne (tgt := 191) X.x X.b (dk DX12_does_1 52 rfl) (by decide) (fun c184 => ?_) (fun c184 => ?_)
        · replace hF := if_f hF c184
          refine lv_aload_n X.x X.b (dk DX12_does_1 55 rfl) rfl (lv_at hl 0 rfl) ?_
          refine lv_lload X.x X.b (dk DX12_does_1 56 rfl) (lv_at hl 4 rfl) ?_
          refine lv_l2i X.x X.b (dk DX12_does_1 57 rfl) rfl ?_
          obtain ⟨x185, e186, hF⟩ := bd hF
          refine mr_cl0 hH ⟨rfl, rfl⟩ (mr_runV (As := [.int ((v111 : Int64).toInt32)]) (rest := []) X hH (c_X12_drops hq e186) ((oset_at hq (Nat.le_refl _) ohas_N).trans (congrArg some ocell_N)) OX12.1 kM_X12_423 kI_X12_drops kS_X12_drops kN_X12 kC_X12_drops hd_X12_drops ⟨Nat.le_of_ble_eq_true rfl, Nat.le_of_ble_eq_true rfl⟩ rfl hl.1 (Nat.le_of_ble_eq_true rfl) (dk DX12_does_1 58 rfl) ⟨Nat.zero_le _, Nat.zero_le _⟩) (fun r h1 H locs hp hH => ?_)
          obtain ⟨hr1, hr2⟩ := hp; rw [hr1]; rw [hr2] at hH; clear hr1 hr2
          obtain ⟨v187, t188⟩ := x185
          try dsimp only at hF hH ⊢
          refine lv_pop2_2 X.x X.b (dk DX12_does_1 59 rfl) rfl ?_
          refine lv_iload_n X.x X.b (dk DX12_does_2 0 rfl) rfl (lv_at hl 2 rfl) ?_
          refine lv_iconst (v := 2) X.x X.b (dk DX12_does_2 1 rfl) (by decide) ?_
          refine lv_iadd X.x X.b (dk DX12_does_2 2 rfl) ?_
          cases sm hF
          exact mr_iret X hr hlk hH ⟨rfl, rfl⟩ (dk DX12_does_2 3 rfl)
        · replace hF := if_t hF c184
          refine lv_iconst (v := (-1)) X.x X.b (dk DX12_does_1 53 rfl) (by decide) ?_
          cases sm hF
          exact mr_iret X hr hlk hH ⟨rfl, rfl⟩ (dk DX12_does_1 54 rfl)
    · replace hF := if_t hF c113
      refine lv_lconst (v := 0) X.x X.b (dk DX12_does_0 34 rfl) (by decide) ?_
      refine lv_lstore (lv' := [(7, .long 0), (0, .ref (q 53)), (1, .int a0), (2, .int a1), (3, .long v2), (5, .long v111)]) X.x X.b (dk DX12_does_0 35 rfl) hl (by decide) rfl (fun ls hl => ?_)
      replace hl : lv_has ls 10 [(0, .ref (q 53)), (1, .int a0), (2, .int a1), (7, .long 0)] := lv_sub hl [1, 2, 3, 0] rfl
      refine lv_iload_n X.x X.b (dk DX12_does_0 36 rfl) rfl (lv_at hl 2 rfl) ?_
      refine lv_iconst (v := 1) X.x X.b (dk DX12_does_0 37 rfl) (by decide) ?_
      refine lv_iadd X.x X.b (dk DX12_does_0 38 rfl) ?_
      refine lv_topi (fun v189 e190 => ?_)
      replace hF := bnd_e hF e190
      refine lv_istore (lv' := [(9, .int v189), (0, .ref (q 53)), (1, .int a0), (2, .int a1), (7, .long 0)]) X.x X.b (dk DX12_does_0 39 rfl) hl (by decide) rfl (fun ls hl => ?_)
      replace hl : lv_has ls 10 [(0, .ref (q 53)), (1, .int a0), (7, .long 0), (9, .int v189)] := lv_sub hl [1, 2, 4, 0] rfl
      obtain ⟨x191, e192, hF⟩ := bd hF
      replace hl : lv_has ls 10 [(0, .ref (q 53)), (1, .int a0), (7, .long 0), (9, .int v189)] := lv_sub hl [0, 1, 2, 3] rfl
      obtain ⟨k195, v193, v194⟩ := x191
      try dsimp only at hF
      refine w_X12_does_61 hq X st a0 _ _ e192 _ _ _ hH hl (fun hk H locs ls hH hl => ?_) (fun hk H locs ls hH hl => ?_)
      · try dsimp only at hH hl
        try dsimp only at hk
        subst hk
        replace hF := if_t hF rfl
        refine lv_iconst (v := (-1)) X.x X.b (dk DX12_does_1 10 rfl) (by decide) ?_
        cases sm hF
        exact mr_iret X hr hlk hH ⟨rfl, rfl⟩ (dk DX12_does_1 11 rfl)
      · try dsimp only at hH hl
        try dsimp only at hk
        subst hk
        replace hF := if_f hF (by decide)
        refine lv_lload X.x X.b (dk DX12_does_1 27 rfl) (lv_at hl 1 rfl) ?_
        obtain ⟨x196, e197, hF⟩ := bd hF
        refine mr_ci0 hH ⟨rfl, rfl⟩ (mr_runS (As := [.long v193]) (rest := []) X hH (c_X12_ones e197) kM_X12_283 kT_X12_ones kN_X12 kC_X12_ones hd_X12_ones ⟨Nat.le_of_ble_eq_true rfl, Nat.le_of_ble_eq_true rfl⟩ rfl hl.1 (Nat.le_of_ble_eq_true rfl) (dk DX12_does_1 28 rfl) ⟨Nat.zero_le _, Nat.zero_le _⟩) (fun r h1 H locs hp hH => ?_)
        obtain ⟨hr1, hr2⟩ := hp; rw [hr1]; rw [hr2] at hH; clear hr1 hr2
        refine lv_iconst (v := 2) X.x X.b (dk DX12_does_1 29 rfl) (by decide) ?_
        refine lv_icmp_lt (tgt := 158) X.x X.b (dk DX12_does_1 30 rfl) (by decide) (fun c199 => ?_) (fun c199 => ?_)
        · replace hF := if_t hF c199
          refine lv_iconst (v := (-1)) X.x X.b (dk DX12_does_1 36 rfl) (by decide) ?_
          refine lv_goto (tgt := 164) X.x X.b (dk DX12_does_1 37 rfl) (by decide) ?_
          cases sm hF
          exact mr_iret X hr hlk hH ⟨rfl, rfl⟩ (dk DX12_does_1 39 rfl)
        · replace hF := if_f hF c199
          refine lv_aload_n X.x X.b (dk DX12_does_1 31 rfl) rfl (lv_at hl 0 rfl) ?_
          refine lv_lload X.x X.b (dk DX12_does_1 32 rfl) (lv_at hl 1 rfl) ?_
          obtain ⟨x200, e201, hF⟩ := bd hF
          refine mr_ci0 hH ⟨rfl, rfl⟩ (mr_runV (As := [.long v193]) (rest := []) X hH (c_X12_adds hq e201) ((oset_at hq (Nat.le_refl _) ohas_N).trans (congrArg some ocell_N)) OX12.1 kM_X12_420 kI_X12_adds kS_X12_adds kN_X12 kC_X12_adds hd_X12_adds ⟨Nat.le_of_ble_eq_true rfl, Nat.le_of_ble_eq_true rfl⟩ rfl hl.1 (Nat.le_of_ble_eq_true rfl) (dk DX12_does_1 33 rfl) ⟨Nat.zero_le _, Nat.zero_le _⟩) (fun r h1 H locs hp hH => ?_)
          obtain ⟨hr1, hr2⟩ := hp; rw [hr1]; rw [hr2] at hH; clear hr1 hr2
          obtain ⟨v202, t203⟩ := x200
          try dsimp only at hF hH ⊢
          refine lv_iconst (v := (-1)) X.x X.b (dk DX12_does_1 34 rfl) (by decide) ?_
          refine lv_icmp_ne (tgt := 162) X.x X.b (dk DX12_does_1 35 rfl) (by decide) (fun c204 => ?_) (fun c204 => ?_)
          · replace hF := if_f hF c204
            refine lv_iload X.x X.b (dk DX12_does_1 38 rfl) (lv_at hl 2 rfl) ?_
            cases sm hF
            exact mr_iret X hr hlk hH ⟨rfl, rfl⟩ (dk DX12_does_1 39 rfl)
          · replace hF := if_t hF c204
            refine lv_iconst (v := (-1)) X.x X.b (dk DX12_does_1 36 rfl) (by decide) ?_
            refine lv_goto (tgt := 164) X.x X.b (dk DX12_does_1 37 rfl) (by decide) ?_
            cases sm hF
            exact mr_iret X hr hlk hH ⟨rfl, rfl⟩ (dk DX12_does_1 39 rfl)
